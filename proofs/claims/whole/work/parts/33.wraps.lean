set_option maxHeartbeats 4000000 in
set_option maxRecDepth 100000 in
theorem n_L_corner (l : Launch) (g : G9) (a_t a_land a_plan a_rings a_rows a_turns a_rings_0 a_rings_1 a_rings_2 a_rings_3 a_turns_known a_rings_0_corners a_rings_1_corners a_rings_2_corners a_rings_3_corners a_rings_0_corners_firsts a_rings_0_corners_seconds a_rings_1_corners_firsts a_rings_1_corners_seconds a_rings_2_corners_firsts a_rings_2_corners_seconds a_rings_3_corners_firsts a_rings_3_corners_seconds a_ways a_planner a_slants a_reaper a_land_kinds a_land_nears a_land_depths a_plan_numbers a_rows_strips a_rows_alongs a_rows_numbers a_rows_sorted a_rows_spare a_rows_tally a_rows_squares a_rows_starts a_rows_ends a_turns_lengths a_out : Nat) (c_land_laid c_land_head c_land_fieldCount c_land_innerCount c_plan_there c_plan_size c_rows_there c_rows_size : Int32) (c_turns_known : Ar) (c_rings_0_corners_size c_rings_1_corners_size c_rings_2_corners_size c_rings_3_corners_size : Int32) (c_rings_0_corners_firsts c_rings_0_corners_seconds c_rings_1_corners_firsts c_rings_1_corners_seconds c_rings_2_corners_firsts c_rings_2_corners_seconds c_rings_3_corners_firsts c_rings_3_corners_seconds : Ar) (c_out : Nat → Int64) (v1 v2 v3 r0 o_land_laid o_land_head o_land_fieldCount o_land_innerCount o_plan_there o_plan_size o_rows_there o_rows_size : Int32) (o_turns_known : Ar) (o_rings_0_corners_size o_rings_1_corners_size o_rings_2_corners_size o_rings_3_corners_size : Int32) (o_rings_0_corners_firsts o_rings_0_corners_seconds o_rings_1_corners_firsts o_rings_1_corners_seconds o_rings_2_corners_firsts o_rings_2_corners_seconds o_rings_3_corners_firsts o_rings_3_corners_seconds : Ar) (hr : X9_corner c_land_laid c_land_head c_land_fieldCount c_land_innerCount c_plan_there c_plan_size c_rows_there c_rows_size c_turns_known c_rings_0_corners_size c_rings_1_corners_size c_rings_2_corners_size c_rings_3_corners_size c_rings_0_corners_firsts c_rings_0_corners_seconds c_rings_1_corners_firsts c_rings_1_corners_seconds c_rings_2_corners_firsts c_rings_2_corners_seconds c_rings_3_corners_firsts c_rings_3_corners_seconds v1 v2 v3 = some (.inr (r0, o_land_laid, o_land_head, o_land_fieldCount, o_land_innerCount, o_plan_there, o_plan_size, o_rows_there, o_rows_size, o_turns_known, o_rings_0_corners_size, o_rings_1_corners_size, o_rings_2_corners_size, o_rings_3_corners_size, o_rings_0_corners_firsts, o_rings_0_corners_seconds, o_rings_1_corners_firsts, o_rings_1_corners_seconds, o_rings_2_corners_firsts, o_rings_2_corners_seconds, o_rings_3_corners_firsts, o_rings_3_corners_seconds))) : CtW l g yL_corner cL_corner 6 [(0, 12, 15, 13), (0, 12, 19, 15), (0, 12, 23, 17)] 8 134 [.ref a_t, .int v1, .int v2, .int v3, .ref a_out] ((w_X9_corner g a_t a_land a_plan a_rings a_rows a_turns a_rings_0 a_rings_1 a_rings_2 a_rings_3 a_turns_known a_rings_0_corners a_rings_1_corners a_rings_2_corners a_rings_3_corners a_rings_0_corners_firsts a_rings_0_corners_seconds a_rings_1_corners_firsts a_rings_1_corners_seconds a_rings_2_corners_firsts a_rings_2_corners_seconds a_rings_3_corners_firsts a_rings_3_corners_seconds a_ways a_planner a_slants a_reaper a_land_kinds a_land_nears a_land_depths a_plan_numbers a_rows_strips a_rows_alongs a_rows_numbers a_rows_sorted a_rows_spare a_rows_tally a_rows_squares a_rows_starts a_rows_ends a_turns_lengths c_land_laid c_land_head c_land_fieldCount c_land_innerCount c_plan_there c_plan_size c_rows_there c_rows_size c_turns_known c_rings_0_corners_size c_rings_1_corners_size c_rings_2_corners_size c_rings_3_corners_size c_rings_0_corners_firsts c_rings_0_corners_seconds c_rings_1_corners_firsts c_rings_1_corners_seconds c_rings_2_corners_firsts c_rings_2_corners_seconds c_rings_3_corners_firsts c_rings_3_corners_seconds) ++ [la g a_out 1 c_out]) 0 ((w_X9_corner g a_t a_land a_plan a_rings a_rows a_turns a_rings_0 a_rings_1 a_rings_2 a_rings_3 a_turns_known a_rings_0_corners a_rings_1_corners a_rings_2_corners a_rings_3_corners a_rings_0_corners_firsts a_rings_0_corners_seconds a_rings_1_corners_firsts a_rings_1_corners_seconds a_rings_2_corners_firsts a_rings_2_corners_seconds a_rings_3_corners_firsts a_rings_3_corners_seconds a_ways a_planner a_slants a_reaper a_land_kinds a_land_nears a_land_depths a_plan_numbers a_rows_strips a_rows_alongs a_rows_numbers a_rows_sorted a_rows_spare a_rows_tally a_rows_squares a_rows_starts a_rows_ends a_turns_lengths o_land_laid o_land_head o_land_fieldCount o_land_innerCount o_plan_there o_plan_size o_rows_there o_rows_size o_turns_known o_rings_0_corners_size o_rings_1_corners_size o_rings_2_corners_size o_rings_3_corners_size o_rings_0_corners_firsts o_rings_0_corners_seconds o_rings_1_corners_firsts o_rings_1_corners_seconds o_rings_2_corners_firsts o_rings_2_corners_seconds o_rings_3_corners_firsts o_rings_3_corners_seconds) ++ [la g a_out 1 (vp_updL c_out 0 (Int32.toInt64 r0))]) := by
  refine startW (by decide) (Nat.le_of_ble_eq_true rfl) ?_
  intro p e s m below meth c A Q ls args M hW hl htab ret
  have hx := M.1
  have hb := M.2.1
  have hown := M.2.2.2.1
  have hu := M.2.2.2.2.1
  have hl : lv_has ls 6 [(0, .ref a_t), (1, .int v1), (2, .int v2), (3, .int v3), (4, .ref a_out)] := hl
  obtain ⟨H, eH⟩ : ∃ z, z = s.heap := ⟨_, rfl⟩
  obtain ⟨locs, eL⟩ : ∃ z, z = ([] : List Loc) := ⟨_, rfl⟩
  rw [← eL] at hW ⊢
  suffices hS9 : WD g s A ((w_X9_corner g a_t a_land a_plan a_rings a_rows a_turns a_rings_0 a_rings_1 a_rings_2 a_rings_3 a_turns_known a_rings_0_corners a_rings_1_corners a_rings_2_corners a_rings_3_corners a_rings_0_corners_firsts a_rings_0_corners_seconds a_rings_1_corners_firsts a_rings_1_corners_seconds a_rings_2_corners_firsts a_rings_2_corners_seconds a_rings_3_corners_firsts a_rings_3_corners_seconds a_ways a_planner a_slants a_reaper a_land_kinds a_land_nears a_land_depths a_plan_numbers a_rows_strips a_rows_alongs a_rows_numbers a_rows_sorted a_rows_spare a_rows_tally a_rows_squares a_rows_starts a_rows_ends a_turns_lengths c_land_laid c_land_head c_land_fieldCount c_land_innerCount c_plan_there c_plan_size c_rows_there c_rows_size c_turns_known c_rings_0_corners_size c_rings_1_corners_size c_rings_2_corners_size c_rings_3_corners_size c_rings_0_corners_firsts c_rings_0_corners_seconds c_rings_1_corners_firsts c_rings_1_corners_seconds c_rings_2_corners_firsts c_rings_2_corners_seconds c_rings_3_corners_firsts c_rings_3_corners_seconds) ++ [la g a_out 1 c_out]) H locs → W p l e (rm9x 8 134) s m args below meth c H locs 0 0 Q (F0 m 0 ls []) by
    rw [← eH] at hW ⊢
    exact hS9 hW
  clear hW eH eL
  intro hW
  refine lv_aload (pc := 0) hx hb (dd dL_corner 0 rfl) (lv_at hl 4 rfl) ?_
  refine lv_iconst (pc := 2) (v := 0) hx hb (dd dL_corner 1 rfl) (by decide) ?_
  refine lv_aload_n (pc := 3) hx hb (dd dL_corner 2 rfl) rfl (lv_at hl 0 rfl) ?_
  refine lv_iload_n (pc := 4) hx hb (dd dL_corner 3 rfl) rfl (lv_at hl 1 rfl) ?_
  refine lv_iload_n (pc := 5) hx hb (dd dL_corner 4 rfl) rfl (lv_at hl 2 rfl) ?_
  refine lv_iload_n (pc := 6) hx hb (dd dL_corner 5 rfl) rfl (lv_at hl 3 rfl) ?_
  refine callVI (pc := 7) (na := 3) (As := [.int v1, .int v2, .int v3]) (rest := [.int 0, .ref a_out]) (ws2 := ((w_X9_corner g a_t a_land a_plan a_rings a_rows a_turns a_rings_0 a_rings_1 a_rings_2 a_rings_3 a_turns_known a_rings_0_corners a_rings_1_corners a_rings_2_corners a_rings_3_corners a_rings_0_corners_firsts a_rings_0_corners_seconds a_rings_1_corners_firsts a_rings_1_corners_seconds a_rings_2_corners_firsts a_rings_2_corners_seconds a_rings_3_corners_firsts a_rings_3_corners_seconds a_ways a_planner a_slants a_reaper a_land_kinds a_land_nears a_land_depths a_plan_numbers a_rows_strips a_rows_alongs a_rows_numbers a_rows_sorted a_rows_spare a_rows_tally a_rows_squares a_rows_starts a_rows_ends a_turns_lengths o_land_laid o_land_head o_land_fieldCount o_land_innerCount o_plan_there o_plan_size o_rows_there o_rows_size o_turns_known o_rings_0_corners_size o_rings_1_corners_size o_rings_2_corners_size o_rings_3_corners_size o_rings_0_corners_firsts o_rings_0_corners_seconds o_rings_1_corners_firsts o_rings_1_corners_seconds o_rings_2_corners_firsts o_rings_2_corners_seconds o_rings_3_corners_firsts o_rings_3_corners_seconds) ++ [la g a_out 1 c_out])) M hl.1 hW (t_X9_corner l g a_t a_land a_plan a_rings a_rows a_turns a_rings_0 a_rings_1 a_rings_2 a_rings_3 a_turns_known a_rings_0_corners a_rings_1_corners a_rings_2_corners a_rings_3_corners a_rings_0_corners_firsts a_rings_0_corners_seconds a_rings_1_corners_firsts a_rings_1_corners_seconds a_rings_2_corners_firsts a_rings_2_corners_seconds a_rings_3_corners_firsts a_rings_3_corners_seconds a_ways a_planner a_slants a_reaper a_land_kinds a_land_nears a_land_depths a_plan_numbers a_rows_strips a_rows_alongs a_rows_numbers a_rows_sorted a_rows_spare a_rows_tally a_rows_squares a_rows_starts a_rows_ends a_turns_lengths c_land_laid c_land_head c_land_fieldCount c_land_innerCount c_plan_there c_plan_size c_rows_there c_rows_size c_turns_known c_rings_0_corners_size c_rings_1_corners_size c_rings_2_corners_size c_rings_3_corners_size c_rings_0_corners_firsts c_rings_0_corners_seconds c_rings_1_corners_firsts c_rings_1_corners_seconds c_rings_2_corners_firsts c_rings_2_corners_seconds c_rings_3_corners_firsts c_rings_3_corners_seconds v1 v2 v3 r0 o_land_laid o_land_head o_land_fieldCount o_land_innerCount o_plan_there o_plan_size o_rows_there o_rows_size o_turns_known o_rings_0_corners_size o_rings_1_corners_size o_rings_2_corners_size o_rings_3_corners_size o_rings_0_corners_firsts o_rings_0_corners_seconds o_rings_1_corners_firsts o_rings_1_corners_seconds o_rings_2_corners_firsts o_rings_2_corners_seconds o_rings_3_corners_firsts o_rings_3_corners_seconds hr) rfl [0, 1, 2, 3, 4, 5, 6, 7, 8, 9, 10, 11, 12, 13, 14, 15, 16, 17, 18, 19, 20, 21, 22] [23] [1, 2, 3, 4, 5, 6, 7, 8, 9, 10, 11, 12, 13, 14, 15, 16, 17, 18, 19, 20, 21, 22, 23, 0] rfl rfl rfl rfl rfl rfl rfl 0 9 rfl rfl rfl (uw2 123 rfl rfl) (uw2 120 rfl rfl) (uw2 121 rfl rfl) (uw2 122 rfl rfl) (uw1 1 rfl rfl) ⟨by decide, by decide, by decide⟩ rfl ⟨by decide, by decide⟩ (Nat.le_of_ble_eq_true rfl) ⟨Nat.zero_le _, Nat.zero_le _⟩ (dd dL_corner 6 rfl) (fun H locs hW => ?_)
  refine lv_i2l (pc := 10) hx hb (dd dL_corner 7 rfl) rfl ?_
  refine rLast (pc := 11) M hW 23 rfl (by decide) rfl (ws' := ((w_X9_corner g a_t a_land a_plan a_rings a_rows a_turns a_rings_0 a_rings_1 a_rings_2 a_rings_3 a_turns_known a_rings_0_corners a_rings_1_corners a_rings_2_corners a_rings_3_corners a_rings_0_corners_firsts a_rings_0_corners_seconds a_rings_1_corners_firsts a_rings_1_corners_seconds a_rings_2_corners_firsts a_rings_2_corners_seconds a_rings_3_corners_firsts a_rings_3_corners_seconds a_ways a_planner a_slants a_reaper a_land_kinds a_land_nears a_land_depths a_plan_numbers a_rows_strips a_rows_alongs a_rows_numbers a_rows_sorted a_rows_spare a_rows_tally a_rows_squares a_rows_starts a_rows_ends a_turns_lengths o_land_laid o_land_head o_land_fieldCount o_land_innerCount o_plan_there o_plan_size o_rows_there o_rows_size o_turns_known o_rings_0_corners_size o_rings_1_corners_size o_rings_2_corners_size o_rings_3_corners_size o_rings_0_corners_firsts o_rings_0_corners_seconds o_rings_1_corners_firsts o_rings_1_corners_seconds o_rings_2_corners_firsts o_rings_2_corners_seconds o_rings_3_corners_firsts o_rings_3_corners_seconds) ++ [la g a_out 1 (vp_updL c_out 0 (Int32.toInt64 r0))])) rfl (dd dL_corner 8 rfl) (fun H locs hW => ?_)
  refine lv_goto (pc := 12) (tgt := 27) hx hb (dd dL_corner 9 rfl) (by decide) ?_
  refine lv_iconst (pc := 27) (v := 0) hx hb (dd dL_corner 19 rfl) (by decide) ?_
  refine W.widen (k := 1) (n := 6) (by decide) (by decide) ?_
  exact ret _ _ _ 28 hW (dd dL_corner 20 rfl)
set_option maxHeartbeats 4000000 in
set_option maxRecDepth 100000 in
theorem x_L_corner_1 (l : Launch) (hl9 : l.stackTraces = false) (g : G9) (a_t a_land a_plan a_rings a_rows a_turns a_rings_0 a_rings_1 a_rings_2 a_rings_3 a_turns_known a_rings_0_corners a_rings_1_corners a_rings_2_corners a_rings_3_corners a_rings_0_corners_firsts a_rings_0_corners_seconds a_rings_1_corners_firsts a_rings_1_corners_seconds a_rings_2_corners_firsts a_rings_2_corners_seconds a_rings_3_corners_firsts a_rings_3_corners_seconds a_ways a_planner a_slants a_reaper a_land_kinds a_land_nears a_land_depths a_plan_numbers a_rows_strips a_rows_alongs a_rows_numbers a_rows_sorted a_rows_spare a_rows_tally a_rows_squares a_rows_starts a_rows_ends a_turns_lengths a_out : Nat) (c_land_laid c_land_head c_land_fieldCount c_land_innerCount c_plan_there c_plan_size c_rows_there c_rows_size : Int32) (c_turns_known : Ar) (c_rings_0_corners_size c_rings_1_corners_size c_rings_2_corners_size c_rings_3_corners_size : Int32) (c_rings_0_corners_firsts c_rings_0_corners_seconds c_rings_1_corners_firsts c_rings_1_corners_seconds c_rings_2_corners_firsts c_rings_2_corners_seconds c_rings_3_corners_firsts c_rings_3_corners_seconds : Ar) (c_out : Nat → Int64) (v1 v2 v3 : Int32) (hr : X9_corner c_land_laid c_land_head c_land_fieldCount c_land_innerCount c_plan_there c_plan_size c_rows_there c_rows_size c_turns_known c_rings_0_corners_size c_rings_1_corners_size c_rings_2_corners_size c_rings_3_corners_size c_rings_0_corners_firsts c_rings_0_corners_seconds c_rings_1_corners_firsts c_rings_1_corners_seconds c_rings_2_corners_firsts c_rings_2_corners_seconds c_rings_3_corners_firsts c_rings_3_corners_seconds v1 v2 v3 = some (.inl 1)) : CtW l g yL_corner cL_corner 6 [(0, 12, 15, 13), (0, 12, 19, 15), (0, 12, 23, 17)] 8 134 [.ref a_t, .int v1, .int v2, .int v3, .ref a_out] ((w_X9_corner g a_t a_land a_plan a_rings a_rows a_turns a_rings_0 a_rings_1 a_rings_2 a_rings_3 a_turns_known a_rings_0_corners a_rings_1_corners a_rings_2_corners a_rings_3_corners a_rings_0_corners_firsts a_rings_0_corners_seconds a_rings_1_corners_firsts a_rings_1_corners_seconds a_rings_2_corners_firsts a_rings_2_corners_seconds a_rings_3_corners_firsts a_rings_3_corners_seconds a_ways a_planner a_slants a_reaper a_land_kinds a_land_nears a_land_depths a_plan_numbers a_rows_strips a_rows_alongs a_rows_numbers a_rows_sorted a_rows_spare a_rows_tally a_rows_squares a_rows_starts a_rows_ends a_turns_lengths c_land_laid c_land_head c_land_fieldCount c_land_innerCount c_plan_there c_plan_size c_rows_there c_rows_size c_turns_known c_rings_0_corners_size c_rings_1_corners_size c_rings_2_corners_size c_rings_3_corners_size c_rings_0_corners_firsts c_rings_0_corners_seconds c_rings_1_corners_firsts c_rings_1_corners_seconds c_rings_2_corners_firsts c_rings_2_corners_seconds c_rings_3_corners_firsts c_rings_3_corners_seconds) ++ [la g a_out 1 c_out]) 1 ((w_X9_corner g a_t a_land a_plan a_rings a_rows a_turns a_rings_0 a_rings_1 a_rings_2 a_rings_3 a_turns_known a_rings_0_corners a_rings_1_corners a_rings_2_corners a_rings_3_corners a_rings_0_corners_firsts a_rings_0_corners_seconds a_rings_1_corners_firsts a_rings_1_corners_seconds a_rings_2_corners_firsts a_rings_2_corners_seconds a_rings_3_corners_firsts a_rings_3_corners_seconds a_ways a_planner a_slants a_reaper a_land_kinds a_land_nears a_land_depths a_plan_numbers a_rows_strips a_rows_alongs a_rows_numbers a_rows_sorted a_rows_spare a_rows_tally a_rows_squares a_rows_starts a_rows_ends a_turns_lengths c_land_laid c_land_head c_land_fieldCount c_land_innerCount c_plan_there c_plan_size c_rows_there c_rows_size c_turns_known c_rings_0_corners_size c_rings_1_corners_size c_rings_2_corners_size c_rings_3_corners_size c_rings_0_corners_firsts c_rings_0_corners_seconds c_rings_1_corners_firsts c_rings_1_corners_seconds c_rings_2_corners_firsts c_rings_2_corners_seconds c_rings_3_corners_firsts c_rings_3_corners_seconds) ++ [la g a_out 1 c_out]) := by
  refine startW (by decide) (Nat.le_of_ble_eq_true rfl) ?_
  intro p e s m below meth c A Q ls args M hW hl htab ret
  have hx := M.1
  have hb := M.2.1
  have hown := M.2.2.2.1
  have hu := M.2.2.2.2.1
  have hl : lv_has ls 6 [(0, .ref a_t), (1, .int v1), (2, .int v2), (3, .int v3), (4, .ref a_out)] := hl
  obtain ⟨H, eH⟩ : ∃ z, z = s.heap := ⟨_, rfl⟩
  obtain ⟨locs, eL⟩ : ∃ z, z = ([] : List Loc) := ⟨_, rfl⟩
  rw [← eL] at hW ⊢
  suffices hS9 : WD g s A ((w_X9_corner g a_t a_land a_plan a_rings a_rows a_turns a_rings_0 a_rings_1 a_rings_2 a_rings_3 a_turns_known a_rings_0_corners a_rings_1_corners a_rings_2_corners a_rings_3_corners a_rings_0_corners_firsts a_rings_0_corners_seconds a_rings_1_corners_firsts a_rings_1_corners_seconds a_rings_2_corners_firsts a_rings_2_corners_seconds a_rings_3_corners_firsts a_rings_3_corners_seconds a_ways a_planner a_slants a_reaper a_land_kinds a_land_nears a_land_depths a_plan_numbers a_rows_strips a_rows_alongs a_rows_numbers a_rows_sorted a_rows_spare a_rows_tally a_rows_squares a_rows_starts a_rows_ends a_turns_lengths c_land_laid c_land_head c_land_fieldCount c_land_innerCount c_plan_there c_plan_size c_rows_there c_rows_size c_turns_known c_rings_0_corners_size c_rings_1_corners_size c_rings_2_corners_size c_rings_3_corners_size c_rings_0_corners_firsts c_rings_0_corners_seconds c_rings_1_corners_firsts c_rings_1_corners_seconds c_rings_2_corners_firsts c_rings_2_corners_seconds c_rings_3_corners_firsts c_rings_3_corners_seconds) ++ [la g a_out 1 c_out]) H locs → W p l e (rm9x 8 134) s m args below meth c H locs 0 0 Q (F0 m 0 ls []) by
    rw [← eH] at hW ⊢
    exact hS9 hW
  clear hW eH eL
  intro hW
  refine lv_aload (pc := 0) hx hb (dd dL_corner 0 rfl) (lv_at hl 4 rfl) ?_
  refine lv_iconst (pc := 2) (v := 0) hx hb (dd dL_corner 1 rfl) (by decide) ?_
  refine lv_aload_n (pc := 3) hx hb (dd dL_corner 2 rfl) rfl (lv_at hl 0 rfl) ?_
  refine lv_iload_n (pc := 4) hx hb (dd dL_corner 3 rfl) rfl (lv_at hl 1 rfl) ?_
  refine lv_iload_n (pc := 5) hx hb (dd dL_corner 4 rfl) rfl (lv_at hl 2 rfl) ?_
  refine lv_iload_n (pc := 6) hx hb (dd dL_corner 5 rfl) rfl (lv_at hl 3 rfl) ?_
  have ex := M.2.2.2.2.2.2.2.2.2.2.2.2.2
  refine callXc (pc := 7) (na := 3) (As := [.int v1, .int v2, .int v3]) (rest := [.int 0, .ref a_out]) (Or.inr rfl) M hl.1 hW (x_X9_corner l hl9 g a_t a_land a_plan a_rings a_rows a_turns a_rings_0 a_rings_1 a_rings_2 a_rings_3 a_turns_known a_rings_0_corners a_rings_1_corners a_rings_2_corners a_rings_3_corners a_rings_0_corners_firsts a_rings_0_corners_seconds a_rings_1_corners_firsts a_rings_1_corners_seconds a_rings_2_corners_firsts a_rings_2_corners_seconds a_rings_3_corners_firsts a_rings_3_corners_seconds a_ways a_planner a_slants a_reaper a_land_kinds a_land_nears a_land_depths a_plan_numbers a_rows_strips a_rows_alongs a_rows_numbers a_rows_sorted a_rows_spare a_rows_tally a_rows_squares a_rows_starts a_rows_ends a_turns_lengths c_land_laid c_land_head c_land_fieldCount c_land_innerCount c_plan_there c_plan_size c_rows_there c_rows_size c_turns_known c_rings_0_corners_size c_rings_1_corners_size c_rings_2_corners_size c_rings_3_corners_size c_rings_0_corners_firsts c_rings_0_corners_seconds c_rings_1_corners_firsts c_rings_1_corners_seconds c_rings_2_corners_firsts c_rings_2_corners_seconds c_rings_3_corners_firsts c_rings_3_corners_seconds v1 v2 v3 1 hr) rfl [0, 1, 2, 3, 4, 5, 6, 7, 8, 9, 10, 11, 12, 13, 14, 15, 16, 17, 18, 19, 20, 21, 22] [23] [1, 2, 3, 4, 5, 6, 7, 8, 9, 10, 11, 12, 13, 14, 15, 16, 17, 18, 19, 20, 21, 22, 23, 0] rfl rfl rfl rfl rfl rfl rfl 0 9 rfl rfl rfl (uw2 123 rfl rfl) (uw2 120 rfl rfl) (uw2 121 rfl rfl) (uw2 122 rfl rfl) (uw1 1 rfl rfl) ⟨by decide, by decide, by decide⟩ rfl ⟨by decide, by decide⟩ (Nat.le_of_ble_eq_true rfl) ⟨by decide, by decide⟩ (dd dL_corner 6 rfl) (fun q ce H locs hW hce hcv hcl => ?_)
  refine vx_catch (own := RL) (name := "java/lang/IndexOutOfBoundsException") hown [] ⟨0, 12, 15, 13⟩ [⟨0, 12, 19, 15⟩, ⟨0, 12, 23, 17⟩] (htab.trans rfl) (fun z hz => nomatch hz) (by decide) (by decide) (hu _ (uw2 117 rfl rfl)) (va_Nw.use rfl (ex.2.2.2.1 _ (by decide))) hce hcv hcl ?_
  refine lv_astore (pc := 15) (lv' := [(5, .ref q), (0, .ref a_t), (1, .int v1), (2, .int v2), (3, .int v3), (4, .ref a_out)]) hx hb (dd dL_corner 10 rfl) hl (by decide) rfl (fun ls hl => ?_)
  refine lv_iconst (pc := 17) (v := 1) hx hb (dd dL_corner 11 rfl) (by decide) ?_
  exact ret _ _ _ 18 hW (dd dL_corner 12 rfl)
set_option maxHeartbeats 4000000 in
set_option maxRecDepth 100000 in
theorem x_L_corner_2 (l : Launch) (hl9 : l.stackTraces = false) (g : G9) (a_t a_land a_plan a_rings a_rows a_turns a_rings_0 a_rings_1 a_rings_2 a_rings_3 a_turns_known a_rings_0_corners a_rings_1_corners a_rings_2_corners a_rings_3_corners a_rings_0_corners_firsts a_rings_0_corners_seconds a_rings_1_corners_firsts a_rings_1_corners_seconds a_rings_2_corners_firsts a_rings_2_corners_seconds a_rings_3_corners_firsts a_rings_3_corners_seconds a_ways a_planner a_slants a_reaper a_land_kinds a_land_nears a_land_depths a_plan_numbers a_rows_strips a_rows_alongs a_rows_numbers a_rows_sorted a_rows_spare a_rows_tally a_rows_squares a_rows_starts a_rows_ends a_turns_lengths a_out : Nat) (c_land_laid c_land_head c_land_fieldCount c_land_innerCount c_plan_there c_plan_size c_rows_there c_rows_size : Int32) (c_turns_known : Ar) (c_rings_0_corners_size c_rings_1_corners_size c_rings_2_corners_size c_rings_3_corners_size : Int32) (c_rings_0_corners_firsts c_rings_0_corners_seconds c_rings_1_corners_firsts c_rings_1_corners_seconds c_rings_2_corners_firsts c_rings_2_corners_seconds c_rings_3_corners_firsts c_rings_3_corners_seconds : Ar) (c_out : Nat → Int64) (v1 v2 v3 : Int32) (hr : X9_corner c_land_laid c_land_head c_land_fieldCount c_land_innerCount c_plan_there c_plan_size c_rows_there c_rows_size c_turns_known c_rings_0_corners_size c_rings_1_corners_size c_rings_2_corners_size c_rings_3_corners_size c_rings_0_corners_firsts c_rings_0_corners_seconds c_rings_1_corners_firsts c_rings_1_corners_seconds c_rings_2_corners_firsts c_rings_2_corners_seconds c_rings_3_corners_firsts c_rings_3_corners_seconds v1 v2 v3 = some (.inl 2)) : CtW l g yL_corner cL_corner 6 [(0, 12, 15, 13), (0, 12, 19, 15), (0, 12, 23, 17)] 8 134 [.ref a_t, .int v1, .int v2, .int v3, .ref a_out] ((w_X9_corner g a_t a_land a_plan a_rings a_rows a_turns a_rings_0 a_rings_1 a_rings_2 a_rings_3 a_turns_known a_rings_0_corners a_rings_1_corners a_rings_2_corners a_rings_3_corners a_rings_0_corners_firsts a_rings_0_corners_seconds a_rings_1_corners_firsts a_rings_1_corners_seconds a_rings_2_corners_firsts a_rings_2_corners_seconds a_rings_3_corners_firsts a_rings_3_corners_seconds a_ways a_planner a_slants a_reaper a_land_kinds a_land_nears a_land_depths a_plan_numbers a_rows_strips a_rows_alongs a_rows_numbers a_rows_sorted a_rows_spare a_rows_tally a_rows_squares a_rows_starts a_rows_ends a_turns_lengths c_land_laid c_land_head c_land_fieldCount c_land_innerCount c_plan_there c_plan_size c_rows_there c_rows_size c_turns_known c_rings_0_corners_size c_rings_1_corners_size c_rings_2_corners_size c_rings_3_corners_size c_rings_0_corners_firsts c_rings_0_corners_seconds c_rings_1_corners_firsts c_rings_1_corners_seconds c_rings_2_corners_firsts c_rings_2_corners_seconds c_rings_3_corners_firsts c_rings_3_corners_seconds) ++ [la g a_out 1 c_out]) 2 ((w_X9_corner g a_t a_land a_plan a_rings a_rows a_turns a_rings_0 a_rings_1 a_rings_2 a_rings_3 a_turns_known a_rings_0_corners a_rings_1_corners a_rings_2_corners a_rings_3_corners a_rings_0_corners_firsts a_rings_0_corners_seconds a_rings_1_corners_firsts a_rings_1_corners_seconds a_rings_2_corners_firsts a_rings_2_corners_seconds a_rings_3_corners_firsts a_rings_3_corners_seconds a_ways a_planner a_slants a_reaper a_land_kinds a_land_nears a_land_depths a_plan_numbers a_rows_strips a_rows_alongs a_rows_numbers a_rows_sorted a_rows_spare a_rows_tally a_rows_squares a_rows_starts a_rows_ends a_turns_lengths c_land_laid c_land_head c_land_fieldCount c_land_innerCount c_plan_there c_plan_size c_rows_there c_rows_size c_turns_known c_rings_0_corners_size c_rings_1_corners_size c_rings_2_corners_size c_rings_3_corners_size c_rings_0_corners_firsts c_rings_0_corners_seconds c_rings_1_corners_firsts c_rings_1_corners_seconds c_rings_2_corners_firsts c_rings_2_corners_seconds c_rings_3_corners_firsts c_rings_3_corners_seconds) ++ [la g a_out 1 c_out]) := by
  refine startW (by decide) (Nat.le_of_ble_eq_true rfl) ?_
  intro p e s m below meth c A Q ls args M hW hl htab ret
  have hx := M.1
  have hb := M.2.1
  have hown := M.2.2.2.1
  have hu := M.2.2.2.2.1
  have hl : lv_has ls 6 [(0, .ref a_t), (1, .int v1), (2, .int v2), (3, .int v3), (4, .ref a_out)] := hl
  obtain ⟨H, eH⟩ : ∃ z, z = s.heap := ⟨_, rfl⟩
  obtain ⟨locs, eL⟩ : ∃ z, z = ([] : List Loc) := ⟨_, rfl⟩
  rw [← eL] at hW ⊢
  suffices hS9 : WD g s A ((w_X9_corner g a_t a_land a_plan a_rings a_rows a_turns a_rings_0 a_rings_1 a_rings_2 a_rings_3 a_turns_known a_rings_0_corners a_rings_1_corners a_rings_2_corners a_rings_3_corners a_rings_0_corners_firsts a_rings_0_corners_seconds a_rings_1_corners_firsts a_rings_1_corners_seconds a_rings_2_corners_firsts a_rings_2_corners_seconds a_rings_3_corners_firsts a_rings_3_corners_seconds a_ways a_planner a_slants a_reaper a_land_kinds a_land_nears a_land_depths a_plan_numbers a_rows_strips a_rows_alongs a_rows_numbers a_rows_sorted a_rows_spare a_rows_tally a_rows_squares a_rows_starts a_rows_ends a_turns_lengths c_land_laid c_land_head c_land_fieldCount c_land_innerCount c_plan_there c_plan_size c_rows_there c_rows_size c_turns_known c_rings_0_corners_size c_rings_1_corners_size c_rings_2_corners_size c_rings_3_corners_size c_rings_0_corners_firsts c_rings_0_corners_seconds c_rings_1_corners_firsts c_rings_1_corners_seconds c_rings_2_corners_firsts c_rings_2_corners_seconds c_rings_3_corners_firsts c_rings_3_corners_seconds) ++ [la g a_out 1 c_out]) H locs → W p l e (rm9x 8 134) s m args below meth c H locs 0 0 Q (F0 m 0 ls []) by
    rw [← eH] at hW ⊢
    exact hS9 hW
  clear hW eH eL
  intro hW
  refine lv_aload (pc := 0) hx hb (dd dL_corner 0 rfl) (lv_at hl 4 rfl) ?_
  refine lv_iconst (pc := 2) (v := 0) hx hb (dd dL_corner 1 rfl) (by decide) ?_
  refine lv_aload_n (pc := 3) hx hb (dd dL_corner 2 rfl) rfl (lv_at hl 0 rfl) ?_
  refine lv_iload_n (pc := 4) hx hb (dd dL_corner 3 rfl) rfl (lv_at hl 1 rfl) ?_
  refine lv_iload_n (pc := 5) hx hb (dd dL_corner 4 rfl) rfl (lv_at hl 2 rfl) ?_
  refine lv_iload_n (pc := 6) hx hb (dd dL_corner 5 rfl) rfl (lv_at hl 3 rfl) ?_
  have ex := M.2.2.2.2.2.2.2.2.2.2.2.2.2
  refine callXc (pc := 7) (na := 3) (As := [.int v1, .int v2, .int v3]) (rest := [.int 0, .ref a_out]) (Or.inr rfl) M hl.1 hW (x_X9_corner l hl9 g a_t a_land a_plan a_rings a_rows a_turns a_rings_0 a_rings_1 a_rings_2 a_rings_3 a_turns_known a_rings_0_corners a_rings_1_corners a_rings_2_corners a_rings_3_corners a_rings_0_corners_firsts a_rings_0_corners_seconds a_rings_1_corners_firsts a_rings_1_corners_seconds a_rings_2_corners_firsts a_rings_2_corners_seconds a_rings_3_corners_firsts a_rings_3_corners_seconds a_ways a_planner a_slants a_reaper a_land_kinds a_land_nears a_land_depths a_plan_numbers a_rows_strips a_rows_alongs a_rows_numbers a_rows_sorted a_rows_spare a_rows_tally a_rows_squares a_rows_starts a_rows_ends a_turns_lengths c_land_laid c_land_head c_land_fieldCount c_land_innerCount c_plan_there c_plan_size c_rows_there c_rows_size c_turns_known c_rings_0_corners_size c_rings_1_corners_size c_rings_2_corners_size c_rings_3_corners_size c_rings_0_corners_firsts c_rings_0_corners_seconds c_rings_1_corners_firsts c_rings_1_corners_seconds c_rings_2_corners_firsts c_rings_2_corners_seconds c_rings_3_corners_firsts c_rings_3_corners_seconds v1 v2 v3 2 hr) rfl [0, 1, 2, 3, 4, 5, 6, 7, 8, 9, 10, 11, 12, 13, 14, 15, 16, 17, 18, 19, 20, 21, 22] [23] [1, 2, 3, 4, 5, 6, 7, 8, 9, 10, 11, 12, 13, 14, 15, 16, 17, 18, 19, 20, 21, 22, 23, 0] rfl rfl rfl rfl rfl rfl rfl 0 9 rfl rfl rfl (uw2 123 rfl rfl) (uw2 120 rfl rfl) (uw2 121 rfl rfl) (uw2 122 rfl rfl) (uw1 1 rfl rfl) ⟨by decide, by decide, by decide⟩ rfl ⟨by decide, by decide⟩ (Nat.le_of_ble_eq_true rfl) ⟨by decide, by decide⟩ (dd dL_corner 6 rfl) (fun q ce H locs hW hce hcv hcl => ?_)
  refine vx_catch (own := RL) (name := "java/lang/IllegalArgumentException") hown [⟨0, 12, 15, 13⟩] ⟨0, 12, 19, 15⟩ [⟨0, 12, 23, 17⟩] (htab.trans rfl) (fun z hz => by
      simp only [List.mem_cons, List.not_mem_nil, or_false] at hz
      rcases hz with rfl
      · exact Or.inr ⟨by decide, "java/lang/IndexOutOfBoundsException", hu _ (uw2 117 rfl rfl), ex.2.2.2.2.1 _ (by decide) _ (by decide) (by decide)⟩) (by decide) (by decide) (hu _ (uw2 118 rfl rfl)) (va_Nw.use rfl (ex.2.2.2.1 _ (by decide))) hce hcv hcl ?_
  refine lv_astore (pc := 19) (lv' := [(5, .ref q), (0, .ref a_t), (1, .int v1), (2, .int v2), (3, .int v3), (4, .ref a_out)]) hx hb (dd dL_corner 13 rfl) hl (by decide) rfl (fun ls hl => ?_)
  refine lv_iconst (pc := 21) (v := 2) hx hb (dd dL_corner 14 rfl) (by decide) ?_
  exact ret _ _ _ 22 hW (dd dL_corner 15 rfl)
set_option maxHeartbeats 4000000 in
set_option maxRecDepth 100000 in
theorem x_L_corner_3 (l : Launch) (hl9 : l.stackTraces = false) (g : G9) (a_t a_land a_plan a_rings a_rows a_turns a_rings_0 a_rings_1 a_rings_2 a_rings_3 a_turns_known a_rings_0_corners a_rings_1_corners a_rings_2_corners a_rings_3_corners a_rings_0_corners_firsts a_rings_0_corners_seconds a_rings_1_corners_firsts a_rings_1_corners_seconds a_rings_2_corners_firsts a_rings_2_corners_seconds a_rings_3_corners_firsts a_rings_3_corners_seconds a_ways a_planner a_slants a_reaper a_land_kinds a_land_nears a_land_depths a_plan_numbers a_rows_strips a_rows_alongs a_rows_numbers a_rows_sorted a_rows_spare a_rows_tally a_rows_squares a_rows_starts a_rows_ends a_turns_lengths a_out : Nat) (c_land_laid c_land_head c_land_fieldCount c_land_innerCount c_plan_there c_plan_size c_rows_there c_rows_size : Int32) (c_turns_known : Ar) (c_rings_0_corners_size c_rings_1_corners_size c_rings_2_corners_size c_rings_3_corners_size : Int32) (c_rings_0_corners_firsts c_rings_0_corners_seconds c_rings_1_corners_firsts c_rings_1_corners_seconds c_rings_2_corners_firsts c_rings_2_corners_seconds c_rings_3_corners_firsts c_rings_3_corners_seconds : Ar) (c_out : Nat → Int64) (v1 v2 v3 : Int32) (hr : X9_corner c_land_laid c_land_head c_land_fieldCount c_land_innerCount c_plan_there c_plan_size c_rows_there c_rows_size c_turns_known c_rings_0_corners_size c_rings_1_corners_size c_rings_2_corners_size c_rings_3_corners_size c_rings_0_corners_firsts c_rings_0_corners_seconds c_rings_1_corners_firsts c_rings_1_corners_seconds c_rings_2_corners_firsts c_rings_2_corners_seconds c_rings_3_corners_firsts c_rings_3_corners_seconds v1 v2 v3 = some (.inl 3)) : CtW l g yL_corner cL_corner 6 [(0, 12, 15, 13), (0, 12, 19, 15), (0, 12, 23, 17)] 8 134 [.ref a_t, .int v1, .int v2, .int v3, .ref a_out] ((w_X9_corner g a_t a_land a_plan a_rings a_rows a_turns a_rings_0 a_rings_1 a_rings_2 a_rings_3 a_turns_known a_rings_0_corners a_rings_1_corners a_rings_2_corners a_rings_3_corners a_rings_0_corners_firsts a_rings_0_corners_seconds a_rings_1_corners_firsts a_rings_1_corners_seconds a_rings_2_corners_firsts a_rings_2_corners_seconds a_rings_3_corners_firsts a_rings_3_corners_seconds a_ways a_planner a_slants a_reaper a_land_kinds a_land_nears a_land_depths a_plan_numbers a_rows_strips a_rows_alongs a_rows_numbers a_rows_sorted a_rows_spare a_rows_tally a_rows_squares a_rows_starts a_rows_ends a_turns_lengths c_land_laid c_land_head c_land_fieldCount c_land_innerCount c_plan_there c_plan_size c_rows_there c_rows_size c_turns_known c_rings_0_corners_size c_rings_1_corners_size c_rings_2_corners_size c_rings_3_corners_size c_rings_0_corners_firsts c_rings_0_corners_seconds c_rings_1_corners_firsts c_rings_1_corners_seconds c_rings_2_corners_firsts c_rings_2_corners_seconds c_rings_3_corners_firsts c_rings_3_corners_seconds) ++ [la g a_out 1 c_out]) 3 ((w_X9_corner g a_t a_land a_plan a_rings a_rows a_turns a_rings_0 a_rings_1 a_rings_2 a_rings_3 a_turns_known a_rings_0_corners a_rings_1_corners a_rings_2_corners a_rings_3_corners a_rings_0_corners_firsts a_rings_0_corners_seconds a_rings_1_corners_firsts a_rings_1_corners_seconds a_rings_2_corners_firsts a_rings_2_corners_seconds a_rings_3_corners_firsts a_rings_3_corners_seconds a_ways a_planner a_slants a_reaper a_land_kinds a_land_nears a_land_depths a_plan_numbers a_rows_strips a_rows_alongs a_rows_numbers a_rows_sorted a_rows_spare a_rows_tally a_rows_squares a_rows_starts a_rows_ends a_turns_lengths c_land_laid c_land_head c_land_fieldCount c_land_innerCount c_plan_there c_plan_size c_rows_there c_rows_size c_turns_known c_rings_0_corners_size c_rings_1_corners_size c_rings_2_corners_size c_rings_3_corners_size c_rings_0_corners_firsts c_rings_0_corners_seconds c_rings_1_corners_firsts c_rings_1_corners_seconds c_rings_2_corners_firsts c_rings_2_corners_seconds c_rings_3_corners_firsts c_rings_3_corners_seconds) ++ [la g a_out 1 c_out]) := by
  refine startW (by decide) (Nat.le_of_ble_eq_true rfl) ?_
  intro p e s m below meth c A Q ls args M hW hl htab ret
  have hx := M.1
  have hb := M.2.1
  have hown := M.2.2.2.1
  have hu := M.2.2.2.2.1
  have hl : lv_has ls 6 [(0, .ref a_t), (1, .int v1), (2, .int v2), (3, .int v3), (4, .ref a_out)] := hl
  obtain ⟨H, eH⟩ : ∃ z, z = s.heap := ⟨_, rfl⟩
  obtain ⟨locs, eL⟩ : ∃ z, z = ([] : List Loc) := ⟨_, rfl⟩
  rw [← eL] at hW ⊢
  suffices hS9 : WD g s A ((w_X9_corner g a_t a_land a_plan a_rings a_rows a_turns a_rings_0 a_rings_1 a_rings_2 a_rings_3 a_turns_known a_rings_0_corners a_rings_1_corners a_rings_2_corners a_rings_3_corners a_rings_0_corners_firsts a_rings_0_corners_seconds a_rings_1_corners_firsts a_rings_1_corners_seconds a_rings_2_corners_firsts a_rings_2_corners_seconds a_rings_3_corners_firsts a_rings_3_corners_seconds a_ways a_planner a_slants a_reaper a_land_kinds a_land_nears a_land_depths a_plan_numbers a_rows_strips a_rows_alongs a_rows_numbers a_rows_sorted a_rows_spare a_rows_tally a_rows_squares a_rows_starts a_rows_ends a_turns_lengths c_land_laid c_land_head c_land_fieldCount c_land_innerCount c_plan_there c_plan_size c_rows_there c_rows_size c_turns_known c_rings_0_corners_size c_rings_1_corners_size c_rings_2_corners_size c_rings_3_corners_size c_rings_0_corners_firsts c_rings_0_corners_seconds c_rings_1_corners_firsts c_rings_1_corners_seconds c_rings_2_corners_firsts c_rings_2_corners_seconds c_rings_3_corners_firsts c_rings_3_corners_seconds) ++ [la g a_out 1 c_out]) H locs → W p l e (rm9x 8 134) s m args below meth c H locs 0 0 Q (F0 m 0 ls []) by
    rw [← eH] at hW ⊢
    exact hS9 hW
  clear hW eH eL
  intro hW
  refine lv_aload (pc := 0) hx hb (dd dL_corner 0 rfl) (lv_at hl 4 rfl) ?_
  refine lv_iconst (pc := 2) (v := 0) hx hb (dd dL_corner 1 rfl) (by decide) ?_
  refine lv_aload_n (pc := 3) hx hb (dd dL_corner 2 rfl) rfl (lv_at hl 0 rfl) ?_
  refine lv_iload_n (pc := 4) hx hb (dd dL_corner 3 rfl) rfl (lv_at hl 1 rfl) ?_
  refine lv_iload_n (pc := 5) hx hb (dd dL_corner 4 rfl) rfl (lv_at hl 2 rfl) ?_
  refine lv_iload_n (pc := 6) hx hb (dd dL_corner 5 rfl) rfl (lv_at hl 3 rfl) ?_
  have ex := M.2.2.2.2.2.2.2.2.2.2.2.2.2
  refine callXc (pc := 7) (na := 3) (As := [.int v1, .int v2, .int v3]) (rest := [.int 0, .ref a_out]) (Or.inr rfl) M hl.1 hW (x_X9_corner l hl9 g a_t a_land a_plan a_rings a_rows a_turns a_rings_0 a_rings_1 a_rings_2 a_rings_3 a_turns_known a_rings_0_corners a_rings_1_corners a_rings_2_corners a_rings_3_corners a_rings_0_corners_firsts a_rings_0_corners_seconds a_rings_1_corners_firsts a_rings_1_corners_seconds a_rings_2_corners_firsts a_rings_2_corners_seconds a_rings_3_corners_firsts a_rings_3_corners_seconds a_ways a_planner a_slants a_reaper a_land_kinds a_land_nears a_land_depths a_plan_numbers a_rows_strips a_rows_alongs a_rows_numbers a_rows_sorted a_rows_spare a_rows_tally a_rows_squares a_rows_starts a_rows_ends a_turns_lengths c_land_laid c_land_head c_land_fieldCount c_land_innerCount c_plan_there c_plan_size c_rows_there c_rows_size c_turns_known c_rings_0_corners_size c_rings_1_corners_size c_rings_2_corners_size c_rings_3_corners_size c_rings_0_corners_firsts c_rings_0_corners_seconds c_rings_1_corners_firsts c_rings_1_corners_seconds c_rings_2_corners_firsts c_rings_2_corners_seconds c_rings_3_corners_firsts c_rings_3_corners_seconds v1 v2 v3 3 hr) rfl [0, 1, 2, 3, 4, 5, 6, 7, 8, 9, 10, 11, 12, 13, 14, 15, 16, 17, 18, 19, 20, 21, 22] [23] [1, 2, 3, 4, 5, 6, 7, 8, 9, 10, 11, 12, 13, 14, 15, 16, 17, 18, 19, 20, 21, 22, 23, 0] rfl rfl rfl rfl rfl rfl rfl 0 9 rfl rfl rfl (uw2 123 rfl rfl) (uw2 120 rfl rfl) (uw2 121 rfl rfl) (uw2 122 rfl rfl) (uw1 1 rfl rfl) ⟨by decide, by decide, by decide⟩ rfl ⟨by decide, by decide⟩ (Nat.le_of_ble_eq_true rfl) ⟨by decide, by decide⟩ (dd dL_corner 6 rfl) (fun q ce H locs hW hce hcv hcl => ?_)
  refine vx_catch (own := RL) (name := "java/lang/UnsupportedOperationException") hown [⟨0, 12, 15, 13⟩, ⟨0, 12, 19, 15⟩] ⟨0, 12, 23, 17⟩ [] (htab.trans rfl) (fun z hz => by
      simp only [List.mem_cons, List.not_mem_nil, or_false] at hz
      rcases hz with rfl | rfl
      · exact Or.inr ⟨by decide, "java/lang/IndexOutOfBoundsException", hu _ (uw2 117 rfl rfl), ex.2.2.2.2.1 _ (by decide) _ (by decide) (by decide)⟩
      · exact Or.inr ⟨by decide, "java/lang/IllegalArgumentException", hu _ (uw2 118 rfl rfl), ex.2.2.2.2.1 _ (by decide) _ (by decide) (by decide)⟩) (by decide) (by decide) (hu _ (uw2 119 rfl rfl)) (va_Nw.use rfl (ex.2.2.2.1 _ (by decide))) hce hcv hcl ?_
  refine lv_astore (pc := 23) (lv' := [(5, .ref q), (0, .ref a_t), (1, .int v1), (2, .int v2), (3, .int v3), (4, .ref a_out)]) hx hb (dd dL_corner 16 rfl) hl (by decide) rfl (fun ls hl => ?_)
  refine lv_iconst (pc := 25) (v := 3) hx hb (dd dL_corner 17 rfl) (by decide) ?_
  exact ret _ _ _ 26 hW (dd dL_corner 18 rfl)
set_option maxHeartbeats 4000000 in
set_option maxRecDepth 100000 in
theorem n_L_clear (l : Launch) (g : G9) (a_t a_land a_plan a_rings a_rows a_turns a_rings_0 a_rings_1 a_rings_2 a_rings_3 a_turns_known a_rings_0_corners a_rings_1_corners a_rings_2_corners a_rings_3_corners a_ways a_planner a_slants a_reaper a_land_kinds a_land_nears a_land_depths a_plan_numbers a_rows_strips a_rows_alongs a_rows_numbers a_rows_sorted a_rows_spare a_rows_tally a_rows_squares a_rows_starts a_rows_ends a_turns_lengths a_rings_0_corners_firsts a_rings_0_corners_seconds a_rings_1_corners_firsts a_rings_1_corners_seconds a_rings_2_corners_firsts a_rings_2_corners_seconds a_rings_3_corners_firsts a_rings_3_corners_seconds a_out : Nat) (c_land_laid c_land_head c_land_fieldCount c_land_innerCount c_plan_there c_plan_size c_rows_there c_rows_size : Int32) (c_turns_known : Ar) (c_rings_0_corners_size c_rings_1_corners_size c_rings_2_corners_size c_rings_3_corners_size : Int32) (c_out : Nat → Int64) (v1 r0 o_land_laid o_land_head o_land_fieldCount o_land_innerCount o_plan_there o_plan_size o_rows_there o_rows_size : Int32) (o_turns_known : Ar) (o_rings_0_corners_size o_rings_1_corners_size o_rings_2_corners_size o_rings_3_corners_size : Int32) (hr : X9_clear c_land_laid c_land_head c_land_fieldCount c_land_innerCount c_plan_there c_plan_size c_rows_there c_rows_size c_turns_known c_rings_0_corners_size c_rings_1_corners_size c_rings_2_corners_size c_rings_3_corners_size v1 = some (.inr (r0, o_land_laid, o_land_head, o_land_fieldCount, o_land_innerCount, o_plan_there, o_plan_size, o_rows_there, o_rows_size, o_turns_known, o_rings_0_corners_size, o_rings_1_corners_size, o_rings_2_corners_size, o_rings_3_corners_size))) : CtW l g yL_clear cL_clear 4 [(0, 9, 12, 13)] 8 132 [.ref a_t, .int v1, .ref a_out] ((w_X9_clear g a_t a_land a_plan a_rings a_rows a_turns a_rings_0 a_rings_1 a_rings_2 a_rings_3 a_turns_known a_rings_0_corners a_rings_1_corners a_rings_2_corners a_rings_3_corners a_ways a_planner a_slants a_reaper a_land_kinds a_land_nears a_land_depths a_plan_numbers a_rows_strips a_rows_alongs a_rows_numbers a_rows_sorted a_rows_spare a_rows_tally a_rows_squares a_rows_starts a_rows_ends a_turns_lengths a_rings_0_corners_firsts a_rings_0_corners_seconds a_rings_1_corners_firsts a_rings_1_corners_seconds a_rings_2_corners_firsts a_rings_2_corners_seconds a_rings_3_corners_firsts a_rings_3_corners_seconds c_land_laid c_land_head c_land_fieldCount c_land_innerCount c_plan_there c_plan_size c_rows_there c_rows_size c_turns_known c_rings_0_corners_size c_rings_1_corners_size c_rings_2_corners_size c_rings_3_corners_size) ++ [la g a_out 1 c_out]) 0 ((w_X9_clear g a_t a_land a_plan a_rings a_rows a_turns a_rings_0 a_rings_1 a_rings_2 a_rings_3 a_turns_known a_rings_0_corners a_rings_1_corners a_rings_2_corners a_rings_3_corners a_ways a_planner a_slants a_reaper a_land_kinds a_land_nears a_land_depths a_plan_numbers a_rows_strips a_rows_alongs a_rows_numbers a_rows_sorted a_rows_spare a_rows_tally a_rows_squares a_rows_starts a_rows_ends a_turns_lengths a_rings_0_corners_firsts a_rings_0_corners_seconds a_rings_1_corners_firsts a_rings_1_corners_seconds a_rings_2_corners_firsts a_rings_2_corners_seconds a_rings_3_corners_firsts a_rings_3_corners_seconds o_land_laid o_land_head o_land_fieldCount o_land_innerCount o_plan_there o_plan_size o_rows_there o_rows_size o_turns_known o_rings_0_corners_size o_rings_1_corners_size o_rings_2_corners_size o_rings_3_corners_size) ++ [la g a_out 1 (vp_updL c_out 0 (Int32.toInt64 r0))]) := by
  refine startW (by decide) (Nat.le_of_ble_eq_true rfl) ?_
  intro p e s m below meth c A Q ls args M hW hl htab ret
  have hx := M.1
  have hb := M.2.1
  have hown := M.2.2.2.1
  have hu := M.2.2.2.2.1
  have hl : lv_has ls 4 [(0, .ref a_t), (1, .int v1), (2, .ref a_out)] := hl
  obtain ⟨H, eH⟩ : ∃ z, z = s.heap := ⟨_, rfl⟩
  obtain ⟨locs, eL⟩ : ∃ z, z = ([] : List Loc) := ⟨_, rfl⟩
  rw [← eL] at hW ⊢
  suffices hS9 : WD g s A ((w_X9_clear g a_t a_land a_plan a_rings a_rows a_turns a_rings_0 a_rings_1 a_rings_2 a_rings_3 a_turns_known a_rings_0_corners a_rings_1_corners a_rings_2_corners a_rings_3_corners a_ways a_planner a_slants a_reaper a_land_kinds a_land_nears a_land_depths a_plan_numbers a_rows_strips a_rows_alongs a_rows_numbers a_rows_sorted a_rows_spare a_rows_tally a_rows_squares a_rows_starts a_rows_ends a_turns_lengths a_rings_0_corners_firsts a_rings_0_corners_seconds a_rings_1_corners_firsts a_rings_1_corners_seconds a_rings_2_corners_firsts a_rings_2_corners_seconds a_rings_3_corners_firsts a_rings_3_corners_seconds c_land_laid c_land_head c_land_fieldCount c_land_innerCount c_plan_there c_plan_size c_rows_there c_rows_size c_turns_known c_rings_0_corners_size c_rings_1_corners_size c_rings_2_corners_size c_rings_3_corners_size) ++ [la g a_out 1 c_out]) H locs → W p l e (rm9x 8 132) s m args below meth c H locs 0 0 Q (F0 m 0 ls []) by
    rw [← eH] at hW ⊢
    exact hS9 hW
  clear hW eH eL
  intro hW
  refine lv_aload_n (pc := 0) hx hb (dd dL_clear 0 rfl) rfl (lv_at hl 2 rfl) ?_
  refine lv_iconst (pc := 1) (v := 0) hx hb (dd dL_clear 1 rfl) (by decide) ?_
  refine lv_aload_n (pc := 2) hx hb (dd dL_clear 2 rfl) rfl (lv_at hl 0 rfl) ?_
  refine lv_iload_n (pc := 3) hx hb (dd dL_clear 3 rfl) rfl (lv_at hl 1 rfl) ?_
  refine callVI (pc := 4) (na := 1) (As := [.int v1]) (rest := [.int 0, .ref a_out]) (ws2 := ((w_X9_clear g a_t a_land a_plan a_rings a_rows a_turns a_rings_0 a_rings_1 a_rings_2 a_rings_3 a_turns_known a_rings_0_corners a_rings_1_corners a_rings_2_corners a_rings_3_corners a_ways a_planner a_slants a_reaper a_land_kinds a_land_nears a_land_depths a_plan_numbers a_rows_strips a_rows_alongs a_rows_numbers a_rows_sorted a_rows_spare a_rows_tally a_rows_squares a_rows_starts a_rows_ends a_turns_lengths a_rings_0_corners_firsts a_rings_0_corners_seconds a_rings_1_corners_firsts a_rings_1_corners_seconds a_rings_2_corners_firsts a_rings_2_corners_seconds a_rings_3_corners_firsts a_rings_3_corners_seconds o_land_laid o_land_head o_land_fieldCount o_land_innerCount o_plan_there o_plan_size o_rows_there o_rows_size o_turns_known o_rings_0_corners_size o_rings_1_corners_size o_rings_2_corners_size o_rings_3_corners_size) ++ [la g a_out 1 c_out])) M hl.1 hW (t_X9_clear l g a_t a_land a_plan a_rings a_rows a_turns a_rings_0 a_rings_1 a_rings_2 a_rings_3 a_turns_known a_rings_0_corners a_rings_1_corners a_rings_2_corners a_rings_3_corners a_ways a_planner a_slants a_reaper a_land_kinds a_land_nears a_land_depths a_plan_numbers a_rows_strips a_rows_alongs a_rows_numbers a_rows_sorted a_rows_spare a_rows_tally a_rows_squares a_rows_starts a_rows_ends a_turns_lengths a_rings_0_corners_firsts a_rings_0_corners_seconds a_rings_1_corners_firsts a_rings_1_corners_seconds a_rings_2_corners_firsts a_rings_2_corners_seconds a_rings_3_corners_firsts a_rings_3_corners_seconds c_land_laid c_land_head c_land_fieldCount c_land_innerCount c_plan_there c_plan_size c_rows_there c_rows_size c_turns_known c_rings_0_corners_size c_rings_1_corners_size c_rings_2_corners_size c_rings_3_corners_size v1 r0 o_land_laid o_land_head o_land_fieldCount o_land_innerCount o_plan_there o_plan_size o_rows_there o_rows_size o_turns_known o_rings_0_corners_size o_rings_1_corners_size o_rings_2_corners_size o_rings_3_corners_size hr) rfl [0, 1, 2, 3, 4, 5, 6, 7, 8, 9, 10, 11, 12, 13, 14] [15] [1, 2, 3, 4, 5, 6, 7, 8, 9, 10, 11, 12, 13, 14, 15, 0] rfl rfl rfl rfl rfl rfl rfl 0 9 rfl rfl rfl (uw3 20 rfl rfl) (uw3 17 rfl rfl) (uw3 18 rfl rfl) (uw3 19 rfl rfl) (uw1 1 rfl rfl) ⟨by decide, by decide, by decide⟩ rfl ⟨by decide, by decide⟩ (Nat.le_of_ble_eq_true rfl) ⟨Nat.zero_le _, Nat.zero_le _⟩ (dd dL_clear 4 rfl) (fun H locs hW => ?_)
  refine lv_i2l (pc := 7) hx hb (dd dL_clear 5 rfl) rfl ?_
  refine rLast (pc := 8) M hW 15 rfl (by decide) rfl (ws' := ((w_X9_clear g a_t a_land a_plan a_rings a_rows a_turns a_rings_0 a_rings_1 a_rings_2 a_rings_3 a_turns_known a_rings_0_corners a_rings_1_corners a_rings_2_corners a_rings_3_corners a_ways a_planner a_slants a_reaper a_land_kinds a_land_nears a_land_depths a_plan_numbers a_rows_strips a_rows_alongs a_rows_numbers a_rows_sorted a_rows_spare a_rows_tally a_rows_squares a_rows_starts a_rows_ends a_turns_lengths a_rings_0_corners_firsts a_rings_0_corners_seconds a_rings_1_corners_firsts a_rings_1_corners_seconds a_rings_2_corners_firsts a_rings_2_corners_seconds a_rings_3_corners_firsts a_rings_3_corners_seconds o_land_laid o_land_head o_land_fieldCount o_land_innerCount o_plan_there o_plan_size o_rows_there o_rows_size o_turns_known o_rings_0_corners_size o_rings_1_corners_size o_rings_2_corners_size o_rings_3_corners_size) ++ [la g a_out 1 (vp_updL c_out 0 (Int32.toInt64 r0))])) rfl (dd dL_clear 6 rfl) (fun H locs hW => ?_)
  refine lv_goto (pc := 9) (tgt := 15) hx hb (dd dL_clear 7 rfl) (by decide) ?_
  refine lv_iconst (pc := 15) (v := 0) hx hb (dd dL_clear 11 rfl) (by decide) ?_
  refine W.widen (k := 1) (n := 6) (by decide) (by decide) ?_
  exact ret _ _ _ 16 hW (dd dL_clear 12 rfl)
set_option maxHeartbeats 4000000 in
set_option maxRecDepth 100000 in
theorem x_L_clear_1 (l : Launch) (hl9 : l.stackTraces = false) (g : G9) (a_t a_land a_plan a_rings a_rows a_turns a_rings_0 a_rings_1 a_rings_2 a_rings_3 a_turns_known a_rings_0_corners a_rings_1_corners a_rings_2_corners a_rings_3_corners a_ways a_planner a_slants a_reaper a_land_kinds a_land_nears a_land_depths a_plan_numbers a_rows_strips a_rows_alongs a_rows_numbers a_rows_sorted a_rows_spare a_rows_tally a_rows_squares a_rows_starts a_rows_ends a_turns_lengths a_rings_0_corners_firsts a_rings_0_corners_seconds a_rings_1_corners_firsts a_rings_1_corners_seconds a_rings_2_corners_firsts a_rings_2_corners_seconds a_rings_3_corners_firsts a_rings_3_corners_seconds a_out : Nat) (c_land_laid c_land_head c_land_fieldCount c_land_innerCount c_plan_there c_plan_size c_rows_there c_rows_size : Int32) (c_turns_known : Ar) (c_rings_0_corners_size c_rings_1_corners_size c_rings_2_corners_size c_rings_3_corners_size : Int32) (c_out : Nat → Int64) (v1 : Int32) (hr : X9_clear c_land_laid c_land_head c_land_fieldCount c_land_innerCount c_plan_there c_plan_size c_rows_there c_rows_size c_turns_known c_rings_0_corners_size c_rings_1_corners_size c_rings_2_corners_size c_rings_3_corners_size v1 = some (.inl 1)) : CtW l g yL_clear cL_clear 4 [(0, 9, 12, 13)] 8 132 [.ref a_t, .int v1, .ref a_out] ((w_X9_clear g a_t a_land a_plan a_rings a_rows a_turns a_rings_0 a_rings_1 a_rings_2 a_rings_3 a_turns_known a_rings_0_corners a_rings_1_corners a_rings_2_corners a_rings_3_corners a_ways a_planner a_slants a_reaper a_land_kinds a_land_nears a_land_depths a_plan_numbers a_rows_strips a_rows_alongs a_rows_numbers a_rows_sorted a_rows_spare a_rows_tally a_rows_squares a_rows_starts a_rows_ends a_turns_lengths a_rings_0_corners_firsts a_rings_0_corners_seconds a_rings_1_corners_firsts a_rings_1_corners_seconds a_rings_2_corners_firsts a_rings_2_corners_seconds a_rings_3_corners_firsts a_rings_3_corners_seconds c_land_laid c_land_head c_land_fieldCount c_land_innerCount c_plan_there c_plan_size c_rows_there c_rows_size c_turns_known c_rings_0_corners_size c_rings_1_corners_size c_rings_2_corners_size c_rings_3_corners_size) ++ [la g a_out 1 c_out]) 1 ((w_X9_clear g a_t a_land a_plan a_rings a_rows a_turns a_rings_0 a_rings_1 a_rings_2 a_rings_3 a_turns_known a_rings_0_corners a_rings_1_corners a_rings_2_corners a_rings_3_corners a_ways a_planner a_slants a_reaper a_land_kinds a_land_nears a_land_depths a_plan_numbers a_rows_strips a_rows_alongs a_rows_numbers a_rows_sorted a_rows_spare a_rows_tally a_rows_squares a_rows_starts a_rows_ends a_turns_lengths a_rings_0_corners_firsts a_rings_0_corners_seconds a_rings_1_corners_firsts a_rings_1_corners_seconds a_rings_2_corners_firsts a_rings_2_corners_seconds a_rings_3_corners_firsts a_rings_3_corners_seconds c_land_laid c_land_head c_land_fieldCount c_land_innerCount c_plan_there c_plan_size c_rows_there c_rows_size c_turns_known c_rings_0_corners_size c_rings_1_corners_size c_rings_2_corners_size c_rings_3_corners_size) ++ [la g a_out 1 c_out]) := by
  refine startW (by decide) (Nat.le_of_ble_eq_true rfl) ?_
  intro p e s m below meth c A Q ls args M hW hl htab ret
  have hx := M.1
  have hb := M.2.1
  have hown := M.2.2.2.1
  have hu := M.2.2.2.2.1
  have hl : lv_has ls 4 [(0, .ref a_t), (1, .int v1), (2, .ref a_out)] := hl
  obtain ⟨H, eH⟩ : ∃ z, z = s.heap := ⟨_, rfl⟩
  obtain ⟨locs, eL⟩ : ∃ z, z = ([] : List Loc) := ⟨_, rfl⟩
  rw [← eL] at hW ⊢
  suffices hS9 : WD g s A ((w_X9_clear g a_t a_land a_plan a_rings a_rows a_turns a_rings_0 a_rings_1 a_rings_2 a_rings_3 a_turns_known a_rings_0_corners a_rings_1_corners a_rings_2_corners a_rings_3_corners a_ways a_planner a_slants a_reaper a_land_kinds a_land_nears a_land_depths a_plan_numbers a_rows_strips a_rows_alongs a_rows_numbers a_rows_sorted a_rows_spare a_rows_tally a_rows_squares a_rows_starts a_rows_ends a_turns_lengths a_rings_0_corners_firsts a_rings_0_corners_seconds a_rings_1_corners_firsts a_rings_1_corners_seconds a_rings_2_corners_firsts a_rings_2_corners_seconds a_rings_3_corners_firsts a_rings_3_corners_seconds c_land_laid c_land_head c_land_fieldCount c_land_innerCount c_plan_there c_plan_size c_rows_there c_rows_size c_turns_known c_rings_0_corners_size c_rings_1_corners_size c_rings_2_corners_size c_rings_3_corners_size) ++ [la g a_out 1 c_out]) H locs → W p l e (rm9x 8 132) s m args below meth c H locs 0 0 Q (F0 m 0 ls []) by
    rw [← eH] at hW ⊢
    exact hS9 hW
  clear hW eH eL
  intro hW
  refine lv_aload_n (pc := 0) hx hb (dd dL_clear 0 rfl) rfl (lv_at hl 2 rfl) ?_
  refine lv_iconst (pc := 1) (v := 0) hx hb (dd dL_clear 1 rfl) (by decide) ?_
  refine lv_aload_n (pc := 2) hx hb (dd dL_clear 2 rfl) rfl (lv_at hl 0 rfl) ?_
  refine lv_iload_n (pc := 3) hx hb (dd dL_clear 3 rfl) rfl (lv_at hl 1 rfl) ?_
  have ex := M.2.2.2.2.2.2.2.2.2.2.2.2.2
  refine callXc (pc := 4) (na := 1) (As := [.int v1]) (rest := [.int 0, .ref a_out]) (Or.inr rfl) M hl.1 hW (x_X9_clear l hl9 g a_t a_land a_plan a_rings a_rows a_turns a_rings_0 a_rings_1 a_rings_2 a_rings_3 a_turns_known a_rings_0_corners a_rings_1_corners a_rings_2_corners a_rings_3_corners a_ways a_planner a_slants a_reaper a_land_kinds a_land_nears a_land_depths a_plan_numbers a_rows_strips a_rows_alongs a_rows_numbers a_rows_sorted a_rows_spare a_rows_tally a_rows_squares a_rows_starts a_rows_ends a_turns_lengths a_rings_0_corners_firsts a_rings_0_corners_seconds a_rings_1_corners_firsts a_rings_1_corners_seconds a_rings_2_corners_firsts a_rings_2_corners_seconds a_rings_3_corners_firsts a_rings_3_corners_seconds c_land_laid c_land_head c_land_fieldCount c_land_innerCount c_plan_there c_plan_size c_rows_there c_rows_size c_turns_known c_rings_0_corners_size c_rings_1_corners_size c_rings_2_corners_size c_rings_3_corners_size v1 1 hr) rfl [0, 1, 2, 3, 4, 5, 6, 7, 8, 9, 10, 11, 12, 13, 14] [15] [1, 2, 3, 4, 5, 6, 7, 8, 9, 10, 11, 12, 13, 14, 15, 0] rfl rfl rfl rfl rfl rfl rfl 0 9 rfl rfl rfl (uw3 20 rfl rfl) (uw3 17 rfl rfl) (uw3 18 rfl rfl) (uw3 19 rfl rfl) (uw1 1 rfl rfl) ⟨by decide, by decide, by decide⟩ rfl ⟨by decide, by decide⟩ (Nat.le_of_ble_eq_true rfl) ⟨by decide, by decide⟩ (dd dL_clear 4 rfl) (fun q ce H locs hW hce hcv hcl => ?_)
  refine vx_catch (own := RL) (name := "java/lang/IndexOutOfBoundsException") hown [] ⟨0, 9, 12, 13⟩ [] (htab.trans rfl) (fun z hz => nomatch hz) (by decide) (by decide) (hu _ (uw2 117 rfl rfl)) (va_Nw.use rfl (ex.2.2.2.1 _ (by decide))) hce hcv hcl ?_
  refine lv_astore_n (pc := 12) (lv' := [(3, .ref q), (0, .ref a_t), (1, .int v1), (2, .ref a_out)]) hx hb (dd dL_clear 8 rfl) rfl hl (by decide) rfl (fun ls hl => ?_)
  refine lv_iconst (pc := 13) (v := 1) hx hb (dd dL_clear 9 rfl) (by decide) ?_
  exact ret _ _ _ 14 hW (dd dL_clear 10 rfl)
set_option maxHeartbeats 4000000 in
set_option maxRecDepth 100000 in
theorem n_L_area (l : Launch) (g : G9) (a_t a_rings a_rings_0 a_rings_1 a_rings_2 a_rings_3 a_rings_0_corners a_rings_1_corners a_rings_2_corners a_rings_3_corners a_rings_0_corners_firsts a_rings_0_corners_seconds a_rings_1_corners_firsts a_rings_1_corners_seconds a_rings_2_corners_firsts a_rings_2_corners_seconds a_rings_3_corners_firsts a_rings_3_corners_seconds a_land a_ways a_rows a_turns a_plan a_planner a_slants a_reaper a_out : Nat) (c_rings_0_corners_size c_rings_1_corners_size c_rings_2_corners_size c_rings_3_corners_size : Int32) (c_rings_0_corners_firsts c_rings_0_corners_seconds c_rings_1_corners_firsts c_rings_1_corners_seconds c_rings_2_corners_firsts c_rings_2_corners_seconds c_rings_3_corners_firsts c_rings_3_corners_seconds : Ar) (c_out : Nat → Int64) (v1 r0 : Int32) (hr : X9_area c_rings_0_corners_size c_rings_1_corners_size c_rings_2_corners_size c_rings_3_corners_size c_rings_0_corners_firsts c_rings_0_corners_seconds c_rings_1_corners_firsts c_rings_1_corners_seconds c_rings_2_corners_firsts c_rings_2_corners_seconds c_rings_3_corners_firsts c_rings_3_corners_seconds v1 = some (.inr r0)) : CtW l g yL_area cL_area 4 [(0, 9, 12, 13)] 8 132 [.ref a_t, .int v1, .ref a_out] ((w_X9_area g a_t a_rings a_rings_0 a_rings_1 a_rings_2 a_rings_3 a_rings_0_corners a_rings_1_corners a_rings_2_corners a_rings_3_corners a_rings_0_corners_firsts a_rings_0_corners_seconds a_rings_1_corners_firsts a_rings_1_corners_seconds a_rings_2_corners_firsts a_rings_2_corners_seconds a_rings_3_corners_firsts a_rings_3_corners_seconds a_land a_ways a_rows a_turns a_plan a_planner a_slants a_reaper c_rings_0_corners_size c_rings_1_corners_size c_rings_2_corners_size c_rings_3_corners_size c_rings_0_corners_firsts c_rings_0_corners_seconds c_rings_1_corners_firsts c_rings_1_corners_seconds c_rings_2_corners_firsts c_rings_2_corners_seconds c_rings_3_corners_firsts c_rings_3_corners_seconds) ++ [la g a_out 1 c_out]) 0 ((w_X9_area g a_t a_rings a_rings_0 a_rings_1 a_rings_2 a_rings_3 a_rings_0_corners a_rings_1_corners a_rings_2_corners a_rings_3_corners a_rings_0_corners_firsts a_rings_0_corners_seconds a_rings_1_corners_firsts a_rings_1_corners_seconds a_rings_2_corners_firsts a_rings_2_corners_seconds a_rings_3_corners_firsts a_rings_3_corners_seconds a_land a_ways a_rows a_turns a_plan a_planner a_slants a_reaper c_rings_0_corners_size c_rings_1_corners_size c_rings_2_corners_size c_rings_3_corners_size c_rings_0_corners_firsts c_rings_0_corners_seconds c_rings_1_corners_firsts c_rings_1_corners_seconds c_rings_2_corners_firsts c_rings_2_corners_seconds c_rings_3_corners_firsts c_rings_3_corners_seconds) ++ [la g a_out 1 (vp_updL c_out 0 (Int32.toInt64 r0))]) := by
  refine startW (by decide) (Nat.le_of_ble_eq_true rfl) ?_
  intro p e s m below meth c A Q ls args M hW hl htab ret
  have hx := M.1
  have hb := M.2.1
  have hown := M.2.2.2.1
  have hu := M.2.2.2.2.1
  have hl : lv_has ls 4 [(0, .ref a_t), (1, .int v1), (2, .ref a_out)] := hl
  obtain ⟨H, eH⟩ : ∃ z, z = s.heap := ⟨_, rfl⟩
  obtain ⟨locs, eL⟩ : ∃ z, z = ([] : List Loc) := ⟨_, rfl⟩
  rw [← eL] at hW ⊢
  suffices hS9 : WD g s A ((w_X9_area g a_t a_rings a_rings_0 a_rings_1 a_rings_2 a_rings_3 a_rings_0_corners a_rings_1_corners a_rings_2_corners a_rings_3_corners a_rings_0_corners_firsts a_rings_0_corners_seconds a_rings_1_corners_firsts a_rings_1_corners_seconds a_rings_2_corners_firsts a_rings_2_corners_seconds a_rings_3_corners_firsts a_rings_3_corners_seconds a_land a_ways a_rows a_turns a_plan a_planner a_slants a_reaper c_rings_0_corners_size c_rings_1_corners_size c_rings_2_corners_size c_rings_3_corners_size c_rings_0_corners_firsts c_rings_0_corners_seconds c_rings_1_corners_firsts c_rings_1_corners_seconds c_rings_2_corners_firsts c_rings_2_corners_seconds c_rings_3_corners_firsts c_rings_3_corners_seconds) ++ [la g a_out 1 c_out]) H locs → W p l e (rm9x 8 132) s m args below meth c H locs 0 0 Q (F0 m 0 ls []) by
    rw [← eH] at hW ⊢
    exact hS9 hW
  clear hW eH eL
  intro hW
  refine lv_aload_n (pc := 0) hx hb (dd dL_area 0 rfl) rfl (lv_at hl 2 rfl) ?_
  refine lv_iconst (pc := 1) (v := 0) hx hb (dd dL_area 1 rfl) (by decide) ?_
  refine lv_aload_n (pc := 2) hx hb (dd dL_area 2 rfl) rfl (lv_at hl 0 rfl) ?_
  refine lv_iload_n (pc := 3) hx hb (dd dL_area 3 rfl) rfl (lv_at hl 1 rfl) ?_
  refine callVI (pc := 4) (na := 1) (As := [.int v1]) (rest := [.int 0, .ref a_out]) (ws2 := ((w_X9_area g a_t a_rings a_rings_0 a_rings_1 a_rings_2 a_rings_3 a_rings_0_corners a_rings_1_corners a_rings_2_corners a_rings_3_corners a_rings_0_corners_firsts a_rings_0_corners_seconds a_rings_1_corners_firsts a_rings_1_corners_seconds a_rings_2_corners_firsts a_rings_2_corners_seconds a_rings_3_corners_firsts a_rings_3_corners_seconds a_land a_ways a_rows a_turns a_plan a_planner a_slants a_reaper c_rings_0_corners_size c_rings_1_corners_size c_rings_2_corners_size c_rings_3_corners_size c_rings_0_corners_firsts c_rings_0_corners_seconds c_rings_1_corners_firsts c_rings_1_corners_seconds c_rings_2_corners_firsts c_rings_2_corners_seconds c_rings_3_corners_firsts c_rings_3_corners_seconds) ++ [la g a_out 1 c_out])) M hl.1 hW (t_X9_area l g a_t a_rings a_rings_0 a_rings_1 a_rings_2 a_rings_3 a_rings_0_corners a_rings_1_corners a_rings_2_corners a_rings_3_corners a_rings_0_corners_firsts a_rings_0_corners_seconds a_rings_1_corners_firsts a_rings_1_corners_seconds a_rings_2_corners_firsts a_rings_2_corners_seconds a_rings_3_corners_firsts a_rings_3_corners_seconds a_land a_ways a_rows a_turns a_plan a_planner a_slants a_reaper c_rings_0_corners_size c_rings_1_corners_size c_rings_2_corners_size c_rings_3_corners_size c_rings_0_corners_firsts c_rings_0_corners_seconds c_rings_1_corners_firsts c_rings_1_corners_seconds c_rings_2_corners_firsts c_rings_2_corners_seconds c_rings_3_corners_firsts c_rings_3_corners_seconds v1 r0 hr) rfl [0, 1, 2, 3, 4, 5, 6, 7, 8, 9, 10, 11, 12, 13, 14, 15, 16, 17] [18] [1, 2, 3, 4, 5, 6, 7, 8, 9, 10, 11, 12, 13, 14, 15, 16, 17, 18, 0] rfl rfl rfl rfl rfl rfl rfl 0 9 rfl rfl rfl (uw3 27 rfl rfl) (uw3 24 rfl rfl) (uw3 25 rfl rfl) (uw3 26 rfl rfl) (uw1 1 rfl rfl) ⟨by decide, by decide, by decide⟩ rfl ⟨by decide, by decide⟩ (Nat.le_of_ble_eq_true rfl) ⟨Nat.zero_le _, Nat.zero_le _⟩ (dd dL_area 4 rfl) (fun H locs hW => ?_)
  refine lv_i2l (pc := 7) hx hb (dd dL_area 5 rfl) rfl ?_
  refine rLast (pc := 8) M hW 18 rfl (by decide) rfl (ws' := ((w_X9_area g a_t a_rings a_rings_0 a_rings_1 a_rings_2 a_rings_3 a_rings_0_corners a_rings_1_corners a_rings_2_corners a_rings_3_corners a_rings_0_corners_firsts a_rings_0_corners_seconds a_rings_1_corners_firsts a_rings_1_corners_seconds a_rings_2_corners_firsts a_rings_2_corners_seconds a_rings_3_corners_firsts a_rings_3_corners_seconds a_land a_ways a_rows a_turns a_plan a_planner a_slants a_reaper c_rings_0_corners_size c_rings_1_corners_size c_rings_2_corners_size c_rings_3_corners_size c_rings_0_corners_firsts c_rings_0_corners_seconds c_rings_1_corners_firsts c_rings_1_corners_seconds c_rings_2_corners_firsts c_rings_2_corners_seconds c_rings_3_corners_firsts c_rings_3_corners_seconds) ++ [la g a_out 1 (vp_updL c_out 0 (Int32.toInt64 r0))])) rfl (dd dL_area 6 rfl) (fun H locs hW => ?_)
  refine lv_goto (pc := 9) (tgt := 15) hx hb (dd dL_area 7 rfl) (by decide) ?_
  refine lv_iconst (pc := 15) (v := 0) hx hb (dd dL_area 11 rfl) (by decide) ?_
  refine W.widen (k := 1) (n := 6) (by decide) (by decide) ?_
  exact ret _ _ _ 16 hW (dd dL_area 12 rfl)
set_option maxHeartbeats 4000000 in
set_option maxRecDepth 100000 in
theorem x_L_area_1 (l : Launch) (hl9 : l.stackTraces = false) (g : G9) (a_t a_rings a_rings_0 a_rings_1 a_rings_2 a_rings_3 a_rings_0_corners a_rings_1_corners a_rings_2_corners a_rings_3_corners a_rings_0_corners_firsts a_rings_0_corners_seconds a_rings_1_corners_firsts a_rings_1_corners_seconds a_rings_2_corners_firsts a_rings_2_corners_seconds a_rings_3_corners_firsts a_rings_3_corners_seconds a_land a_ways a_rows a_turns a_plan a_planner a_slants a_reaper a_out : Nat) (c_rings_0_corners_size c_rings_1_corners_size c_rings_2_corners_size c_rings_3_corners_size : Int32) (c_rings_0_corners_firsts c_rings_0_corners_seconds c_rings_1_corners_firsts c_rings_1_corners_seconds c_rings_2_corners_firsts c_rings_2_corners_seconds c_rings_3_corners_firsts c_rings_3_corners_seconds : Ar) (c_out : Nat → Int64) (v1 : Int32) (hr : X9_area c_rings_0_corners_size c_rings_1_corners_size c_rings_2_corners_size c_rings_3_corners_size c_rings_0_corners_firsts c_rings_0_corners_seconds c_rings_1_corners_firsts c_rings_1_corners_seconds c_rings_2_corners_firsts c_rings_2_corners_seconds c_rings_3_corners_firsts c_rings_3_corners_seconds v1 = some (.inl 1)) : CtW l g yL_area cL_area 4 [(0, 9, 12, 13)] 8 132 [.ref a_t, .int v1, .ref a_out] ((w_X9_area g a_t a_rings a_rings_0 a_rings_1 a_rings_2 a_rings_3 a_rings_0_corners a_rings_1_corners a_rings_2_corners a_rings_3_corners a_rings_0_corners_firsts a_rings_0_corners_seconds a_rings_1_corners_firsts a_rings_1_corners_seconds a_rings_2_corners_firsts a_rings_2_corners_seconds a_rings_3_corners_firsts a_rings_3_corners_seconds a_land a_ways a_rows a_turns a_plan a_planner a_slants a_reaper c_rings_0_corners_size c_rings_1_corners_size c_rings_2_corners_size c_rings_3_corners_size c_rings_0_corners_firsts c_rings_0_corners_seconds c_rings_1_corners_firsts c_rings_1_corners_seconds c_rings_2_corners_firsts c_rings_2_corners_seconds c_rings_3_corners_firsts c_rings_3_corners_seconds) ++ [la g a_out 1 c_out]) 1 ((w_X9_area g a_t a_rings a_rings_0 a_rings_1 a_rings_2 a_rings_3 a_rings_0_corners a_rings_1_corners a_rings_2_corners a_rings_3_corners a_rings_0_corners_firsts a_rings_0_corners_seconds a_rings_1_corners_firsts a_rings_1_corners_seconds a_rings_2_corners_firsts a_rings_2_corners_seconds a_rings_3_corners_firsts a_rings_3_corners_seconds a_land a_ways a_rows a_turns a_plan a_planner a_slants a_reaper c_rings_0_corners_size c_rings_1_corners_size c_rings_2_corners_size c_rings_3_corners_size c_rings_0_corners_firsts c_rings_0_corners_seconds c_rings_1_corners_firsts c_rings_1_corners_seconds c_rings_2_corners_firsts c_rings_2_corners_seconds c_rings_3_corners_firsts c_rings_3_corners_seconds) ++ [la g a_out 1 c_out]) := by
  refine startW (by decide) (Nat.le_of_ble_eq_true rfl) ?_
  intro p e s m below meth c A Q ls args M hW hl htab ret
  have hx := M.1
  have hb := M.2.1
  have hown := M.2.2.2.1
  have hu := M.2.2.2.2.1
  have hl : lv_has ls 4 [(0, .ref a_t), (1, .int v1), (2, .ref a_out)] := hl
  obtain ⟨H, eH⟩ : ∃ z, z = s.heap := ⟨_, rfl⟩
  obtain ⟨locs, eL⟩ : ∃ z, z = ([] : List Loc) := ⟨_, rfl⟩
  rw [← eL] at hW ⊢
  suffices hS9 : WD g s A ((w_X9_area g a_t a_rings a_rings_0 a_rings_1 a_rings_2 a_rings_3 a_rings_0_corners a_rings_1_corners a_rings_2_corners a_rings_3_corners a_rings_0_corners_firsts a_rings_0_corners_seconds a_rings_1_corners_firsts a_rings_1_corners_seconds a_rings_2_corners_firsts a_rings_2_corners_seconds a_rings_3_corners_firsts a_rings_3_corners_seconds a_land a_ways a_rows a_turns a_plan a_planner a_slants a_reaper c_rings_0_corners_size c_rings_1_corners_size c_rings_2_corners_size c_rings_3_corners_size c_rings_0_corners_firsts c_rings_0_corners_seconds c_rings_1_corners_firsts c_rings_1_corners_seconds c_rings_2_corners_firsts c_rings_2_corners_seconds c_rings_3_corners_firsts c_rings_3_corners_seconds) ++ [la g a_out 1 c_out]) H locs → W p l e (rm9x 8 132) s m args below meth c H locs 0 0 Q (F0 m 0 ls []) by
    rw [← eH] at hW ⊢
    exact hS9 hW
  clear hW eH eL
  intro hW
  refine lv_aload_n (pc := 0) hx hb (dd dL_area 0 rfl) rfl (lv_at hl 2 rfl) ?_
  refine lv_iconst (pc := 1) (v := 0) hx hb (dd dL_area 1 rfl) (by decide) ?_
  refine lv_aload_n (pc := 2) hx hb (dd dL_area 2 rfl) rfl (lv_at hl 0 rfl) ?_
  refine lv_iload_n (pc := 3) hx hb (dd dL_area 3 rfl) rfl (lv_at hl 1 rfl) ?_
  have ex := M.2.2.2.2.2.2.2.2.2.2.2.2.2
  refine callXc (pc := 4) (na := 1) (As := [.int v1]) (rest := [.int 0, .ref a_out]) (Or.inr rfl) M hl.1 hW (x_X9_area l hl9 g a_t a_rings a_rings_0 a_rings_1 a_rings_2 a_rings_3 a_rings_0_corners a_rings_1_corners a_rings_2_corners a_rings_3_corners a_rings_0_corners_firsts a_rings_0_corners_seconds a_rings_1_corners_firsts a_rings_1_corners_seconds a_rings_2_corners_firsts a_rings_2_corners_seconds a_rings_3_corners_firsts a_rings_3_corners_seconds a_land a_ways a_rows a_turns a_plan a_planner a_slants a_reaper c_rings_0_corners_size c_rings_1_corners_size c_rings_2_corners_size c_rings_3_corners_size c_rings_0_corners_firsts c_rings_0_corners_seconds c_rings_1_corners_firsts c_rings_1_corners_seconds c_rings_2_corners_firsts c_rings_2_corners_seconds c_rings_3_corners_firsts c_rings_3_corners_seconds v1 1 hr) rfl [0, 1, 2, 3, 4, 5, 6, 7, 8, 9, 10, 11, 12, 13, 14, 15, 16, 17] [18] [1, 2, 3, 4, 5, 6, 7, 8, 9, 10, 11, 12, 13, 14, 15, 16, 17, 18, 0] rfl rfl rfl rfl rfl rfl rfl 0 9 rfl rfl rfl (uw3 27 rfl rfl) (uw3 24 rfl rfl) (uw3 25 rfl rfl) (uw3 26 rfl rfl) (uw1 1 rfl rfl) ⟨by decide, by decide, by decide⟩ rfl ⟨by decide, by decide⟩ (Nat.le_of_ble_eq_true rfl) ⟨by decide, by decide⟩ (dd dL_area 4 rfl) (fun q ce H locs hW hce hcv hcl => ?_)
  refine vx_catch (own := RL) (name := "java/lang/IndexOutOfBoundsException") hown [] ⟨0, 9, 12, 13⟩ [] (htab.trans rfl) (fun z hz => nomatch hz) (by decide) (by decide) (hu _ (uw2 117 rfl rfl)) (va_Nw.use rfl (ex.2.2.2.1 _ (by decide))) hce hcv hcl ?_
  refine lv_astore_n (pc := 12) (lv' := [(3, .ref q), (0, .ref a_t), (1, .int v1), (2, .ref a_out)]) hx hb (dd dL_area 8 rfl) rfl hl (by decide) rfl (fun ls hl => ?_)
  refine lv_iconst (pc := 13) (v := 1) hx hb (dd dL_area 9 rfl) (by decide) ?_
  exact ret _ _ _ 14 hW (dd dL_area 10 rfl)
set_option maxHeartbeats 4000000 in
set_option maxRecDepth 100000 in
theorem n_L_lay (l : Launch) (g : G9) (a_t a_land a_plan a_rings a_rows a_turns a_land_depths a_land_kinds a_land_nears a_rings_0 a_rings_1 a_rings_2 a_rings_3 a_turns_known a_rings_0_corners a_rings_1_corners a_rings_2_corners a_rings_3_corners a_rings_0_corners_firsts a_rings_0_corners_seconds a_rings_1_corners_firsts a_rings_1_corners_seconds a_rings_2_corners_firsts a_rings_2_corners_seconds a_rings_3_corners_firsts a_rings_3_corners_seconds a_ways a_planner a_slants a_reaper a_plan_numbers a_rows_strips a_rows_alongs a_rows_numbers a_rows_sorted a_rows_spare a_rows_tally a_rows_squares a_rows_starts a_rows_ends a_turns_lengths a_out : Nat) (c_land_laid c_land_head c_land_fieldCount c_land_innerCount c_plan_there c_plan_size c_rows_there c_rows_size : Int32) (c_land_depths c_land_kinds c_land_nears c_turns_known : Ar) (c_rings_0_corners_size c_rings_1_corners_size c_rings_2_corners_size c_rings_3_corners_size : Int32) (c_rings_0_corners_firsts c_rings_0_corners_seconds c_rings_1_corners_firsts c_rings_1_corners_seconds c_rings_2_corners_firsts c_rings_2_corners_seconds c_rings_3_corners_firsts c_rings_3_corners_seconds : Ar) (c_out : Nat → Int64) (v1 r0 o_land_laid o_land_head o_land_fieldCount o_land_innerCount o_plan_there o_plan_size o_rows_there o_rows_size : Int32) (o_land_depths o_land_kinds o_land_nears o_turns_known : Ar) (hr : X9_lay c_land_laid c_land_head c_land_fieldCount c_land_innerCount c_plan_there c_plan_size c_rows_there c_rows_size c_land_depths c_land_kinds c_land_nears c_turns_known c_rings_0_corners_size c_rings_1_corners_size c_rings_2_corners_size c_rings_3_corners_size c_rings_0_corners_firsts c_rings_0_corners_seconds c_rings_1_corners_firsts c_rings_1_corners_seconds c_rings_2_corners_firsts c_rings_2_corners_seconds c_rings_3_corners_firsts c_rings_3_corners_seconds v1 = some (.inr (r0, o_land_laid, o_land_head, o_land_fieldCount, o_land_innerCount, o_plan_there, o_plan_size, o_rows_there, o_rows_size, o_land_depths, o_land_kinds, o_land_nears, o_turns_known))) : CtW l g yL_lay cL_lay 4 [(0, 9, 12, 15)] 7 143 [.ref a_t, .int v1, .ref a_out] ((w_X9_lay g a_t a_land a_plan a_rings a_rows a_turns a_land_depths a_land_kinds a_land_nears a_rings_0 a_rings_1 a_rings_2 a_rings_3 a_turns_known a_rings_0_corners a_rings_1_corners a_rings_2_corners a_rings_3_corners a_rings_0_corners_firsts a_rings_0_corners_seconds a_rings_1_corners_firsts a_rings_1_corners_seconds a_rings_2_corners_firsts a_rings_2_corners_seconds a_rings_3_corners_firsts a_rings_3_corners_seconds a_ways a_planner a_slants a_reaper a_plan_numbers a_rows_strips a_rows_alongs a_rows_numbers a_rows_sorted a_rows_spare a_rows_tally a_rows_squares a_rows_starts a_rows_ends a_turns_lengths c_land_laid c_land_head c_land_fieldCount c_land_innerCount c_plan_there c_plan_size c_rows_there c_rows_size c_land_depths c_land_kinds c_land_nears c_turns_known c_rings_0_corners_size c_rings_1_corners_size c_rings_2_corners_size c_rings_3_corners_size c_rings_0_corners_firsts c_rings_0_corners_seconds c_rings_1_corners_firsts c_rings_1_corners_seconds c_rings_2_corners_firsts c_rings_2_corners_seconds c_rings_3_corners_firsts c_rings_3_corners_seconds) ++ [la g a_out 1 c_out]) 0 ((w_X9_lay g a_t a_land a_plan a_rings a_rows a_turns a_land_depths a_land_kinds a_land_nears a_rings_0 a_rings_1 a_rings_2 a_rings_3 a_turns_known a_rings_0_corners a_rings_1_corners a_rings_2_corners a_rings_3_corners a_rings_0_corners_firsts a_rings_0_corners_seconds a_rings_1_corners_firsts a_rings_1_corners_seconds a_rings_2_corners_firsts a_rings_2_corners_seconds a_rings_3_corners_firsts a_rings_3_corners_seconds a_ways a_planner a_slants a_reaper a_plan_numbers a_rows_strips a_rows_alongs a_rows_numbers a_rows_sorted a_rows_spare a_rows_tally a_rows_squares a_rows_starts a_rows_ends a_turns_lengths o_land_laid o_land_head o_land_fieldCount o_land_innerCount o_plan_there o_plan_size o_rows_there o_rows_size o_land_depths o_land_kinds o_land_nears o_turns_known c_rings_0_corners_size c_rings_1_corners_size c_rings_2_corners_size c_rings_3_corners_size c_rings_0_corners_firsts c_rings_0_corners_seconds c_rings_1_corners_firsts c_rings_1_corners_seconds c_rings_2_corners_firsts c_rings_2_corners_seconds c_rings_3_corners_firsts c_rings_3_corners_seconds) ++ [la g a_out 1 (vp_updL c_out 0 (Int32.toInt64 r0))]) := by
  refine startW (by decide) (Nat.le_of_ble_eq_true rfl) ?_
  intro p e s m below meth c A Q ls args M hW hl htab ret
  have hx := M.1
  have hb := M.2.1
  have hown := M.2.2.2.1
  have hu := M.2.2.2.2.1
  have hl : lv_has ls 4 [(0, .ref a_t), (1, .int v1), (2, .ref a_out)] := hl
  obtain ⟨H, eH⟩ : ∃ z, z = s.heap := ⟨_, rfl⟩
  obtain ⟨locs, eL⟩ : ∃ z, z = ([] : List Loc) := ⟨_, rfl⟩
  rw [← eL] at hW ⊢
  suffices hS9 : WD g s A ((w_X9_lay g a_t a_land a_plan a_rings a_rows a_turns a_land_depths a_land_kinds a_land_nears a_rings_0 a_rings_1 a_rings_2 a_rings_3 a_turns_known a_rings_0_corners a_rings_1_corners a_rings_2_corners a_rings_3_corners a_rings_0_corners_firsts a_rings_0_corners_seconds a_rings_1_corners_firsts a_rings_1_corners_seconds a_rings_2_corners_firsts a_rings_2_corners_seconds a_rings_3_corners_firsts a_rings_3_corners_seconds a_ways a_planner a_slants a_reaper a_plan_numbers a_rows_strips a_rows_alongs a_rows_numbers a_rows_sorted a_rows_spare a_rows_tally a_rows_squares a_rows_starts a_rows_ends a_turns_lengths c_land_laid c_land_head c_land_fieldCount c_land_innerCount c_plan_there c_plan_size c_rows_there c_rows_size c_land_depths c_land_kinds c_land_nears c_turns_known c_rings_0_corners_size c_rings_1_corners_size c_rings_2_corners_size c_rings_3_corners_size c_rings_0_corners_firsts c_rings_0_corners_seconds c_rings_1_corners_firsts c_rings_1_corners_seconds c_rings_2_corners_firsts c_rings_2_corners_seconds c_rings_3_corners_firsts c_rings_3_corners_seconds) ++ [la g a_out 1 c_out]) H locs → W p l e (rm9x 7 143) s m args below meth c H locs 0 0 Q (F0 m 0 ls []) by
    rw [← eH] at hW ⊢
    exact hS9 hW
  clear hW eH eL
  intro hW
  refine lv_aload_n (pc := 0) hx hb (dd dL_lay 0 rfl) rfl (lv_at hl 2 rfl) ?_
  refine lv_iconst (pc := 1) (v := 0) hx hb (dd dL_lay 1 rfl) (by decide) ?_
  refine lv_aload_n (pc := 2) hx hb (dd dL_lay 2 rfl) rfl (lv_at hl 0 rfl) ?_
  refine lv_iload_n (pc := 3) hx hb (dd dL_lay 3 rfl) rfl (lv_at hl 1 rfl) ?_
  refine callVI (pc := 4) (na := 1) (As := [.int v1]) (rest := [.int 0, .ref a_out]) (ws2 := ((w_X9_lay g a_t a_land a_plan a_rings a_rows a_turns a_land_depths a_land_kinds a_land_nears a_rings_0 a_rings_1 a_rings_2 a_rings_3 a_turns_known a_rings_0_corners a_rings_1_corners a_rings_2_corners a_rings_3_corners a_rings_0_corners_firsts a_rings_0_corners_seconds a_rings_1_corners_firsts a_rings_1_corners_seconds a_rings_2_corners_firsts a_rings_2_corners_seconds a_rings_3_corners_firsts a_rings_3_corners_seconds a_ways a_planner a_slants a_reaper a_plan_numbers a_rows_strips a_rows_alongs a_rows_numbers a_rows_sorted a_rows_spare a_rows_tally a_rows_squares a_rows_starts a_rows_ends a_turns_lengths o_land_laid o_land_head o_land_fieldCount o_land_innerCount o_plan_there o_plan_size o_rows_there o_rows_size o_land_depths o_land_kinds o_land_nears o_turns_known c_rings_0_corners_size c_rings_1_corners_size c_rings_2_corners_size c_rings_3_corners_size c_rings_0_corners_firsts c_rings_0_corners_seconds c_rings_1_corners_firsts c_rings_1_corners_seconds c_rings_2_corners_firsts c_rings_2_corners_seconds c_rings_3_corners_firsts c_rings_3_corners_seconds) ++ [la g a_out 1 c_out])) M hl.1 hW (t_X9_lay l g a_t a_land a_plan a_rings a_rows a_turns a_land_depths a_land_kinds a_land_nears a_rings_0 a_rings_1 a_rings_2 a_rings_3 a_turns_known a_rings_0_corners a_rings_1_corners a_rings_2_corners a_rings_3_corners a_rings_0_corners_firsts a_rings_0_corners_seconds a_rings_1_corners_firsts a_rings_1_corners_seconds a_rings_2_corners_firsts a_rings_2_corners_seconds a_rings_3_corners_firsts a_rings_3_corners_seconds a_ways a_planner a_slants a_reaper a_plan_numbers a_rows_strips a_rows_alongs a_rows_numbers a_rows_sorted a_rows_spare a_rows_tally a_rows_squares a_rows_starts a_rows_ends a_turns_lengths c_land_laid c_land_head c_land_fieldCount c_land_innerCount c_plan_there c_plan_size c_rows_there c_rows_size c_land_depths c_land_kinds c_land_nears c_turns_known c_rings_0_corners_size c_rings_1_corners_size c_rings_2_corners_size c_rings_3_corners_size c_rings_0_corners_firsts c_rings_0_corners_seconds c_rings_1_corners_firsts c_rings_1_corners_seconds c_rings_2_corners_firsts c_rings_2_corners_seconds c_rings_3_corners_firsts c_rings_3_corners_seconds v1 r0 o_land_laid o_land_head o_land_fieldCount o_land_innerCount o_plan_there o_plan_size o_rows_there o_rows_size o_land_depths o_land_kinds o_land_nears o_turns_known hr) rfl [0, 1, 2, 3, 4, 5, 6, 7, 8, 9, 10, 11, 12, 13, 14, 15, 16, 17, 18, 19, 20, 21, 22, 23, 24, 25] [26] [1, 2, 3, 4, 5, 6, 7, 8, 9, 10, 11, 12, 13, 14, 15, 16, 17, 18, 19, 20, 21, 22, 23, 24, 25, 26, 0] rfl rfl rfl rfl rfl rfl rfl 0 9 rfl rfl rfl (uw3 45 rfl rfl) (uw3 42 rfl rfl) (uw3 43 rfl rfl) (uw3 44 rfl rfl) (uw1 1 rfl rfl) ⟨by decide, by decide, by decide⟩ rfl ⟨by decide, by decide⟩ (Nat.le_of_ble_eq_true rfl) ⟨Nat.zero_le _, Nat.zero_le _⟩ (dd dL_lay 4 rfl) (fun H locs hW => ?_)
  refine lv_i2l (pc := 7) hx hb (dd dL_lay 5 rfl) rfl ?_
  refine rLast (pc := 8) M hW 26 rfl (by decide) rfl (ws' := ((w_X9_lay g a_t a_land a_plan a_rings a_rows a_turns a_land_depths a_land_kinds a_land_nears a_rings_0 a_rings_1 a_rings_2 a_rings_3 a_turns_known a_rings_0_corners a_rings_1_corners a_rings_2_corners a_rings_3_corners a_rings_0_corners_firsts a_rings_0_corners_seconds a_rings_1_corners_firsts a_rings_1_corners_seconds a_rings_2_corners_firsts a_rings_2_corners_seconds a_rings_3_corners_firsts a_rings_3_corners_seconds a_ways a_planner a_slants a_reaper a_plan_numbers a_rows_strips a_rows_alongs a_rows_numbers a_rows_sorted a_rows_spare a_rows_tally a_rows_squares a_rows_starts a_rows_ends a_turns_lengths o_land_laid o_land_head o_land_fieldCount o_land_innerCount o_plan_there o_plan_size o_rows_there o_rows_size o_land_depths o_land_kinds o_land_nears o_turns_known c_rings_0_corners_size c_rings_1_corners_size c_rings_2_corners_size c_rings_3_corners_size c_rings_0_corners_firsts c_rings_0_corners_seconds c_rings_1_corners_firsts c_rings_1_corners_seconds c_rings_2_corners_firsts c_rings_2_corners_seconds c_rings_3_corners_firsts c_rings_3_corners_seconds) ++ [la g a_out 1 (vp_updL c_out 0 (Int32.toInt64 r0))])) rfl (dd dL_lay 6 rfl) (fun H locs hW => ?_)
  refine lv_goto (pc := 9) (tgt := 15) hx hb (dd dL_lay 7 rfl) (by decide) ?_
  refine lv_iconst (pc := 15) (v := 0) hx hb (dd dL_lay 11 rfl) (by decide) ?_
  refine W.widen (k := 1) (n := 6) (by decide) (by decide) ?_
  exact ret _ _ _ 16 hW (dd dL_lay 12 rfl)
set_option maxHeartbeats 4000000 in
set_option maxRecDepth 100000 in
theorem x_L_lay_1 (l : Launch) (hl9 : l.stackTraces = false) (g : G9) (a_t a_land a_plan a_rings a_rows a_turns a_land_depths a_land_kinds a_land_nears a_rings_0 a_rings_1 a_rings_2 a_rings_3 a_turns_known a_rings_0_corners a_rings_1_corners a_rings_2_corners a_rings_3_corners a_rings_0_corners_firsts a_rings_0_corners_seconds a_rings_1_corners_firsts a_rings_1_corners_seconds a_rings_2_corners_firsts a_rings_2_corners_seconds a_rings_3_corners_firsts a_rings_3_corners_seconds a_ways a_planner a_slants a_reaper a_plan_numbers a_rows_strips a_rows_alongs a_rows_numbers a_rows_sorted a_rows_spare a_rows_tally a_rows_squares a_rows_starts a_rows_ends a_turns_lengths a_out : Nat) (c_land_laid c_land_head c_land_fieldCount c_land_innerCount c_plan_there c_plan_size c_rows_there c_rows_size : Int32) (c_land_depths c_land_kinds c_land_nears c_turns_known : Ar) (c_rings_0_corners_size c_rings_1_corners_size c_rings_2_corners_size c_rings_3_corners_size : Int32) (c_rings_0_corners_firsts c_rings_0_corners_seconds c_rings_1_corners_firsts c_rings_1_corners_seconds c_rings_2_corners_firsts c_rings_2_corners_seconds c_rings_3_corners_firsts c_rings_3_corners_seconds : Ar) (c_out : Nat → Int64) (v1 : Int32) (hr : X9_lay c_land_laid c_land_head c_land_fieldCount c_land_innerCount c_plan_there c_plan_size c_rows_there c_rows_size c_land_depths c_land_kinds c_land_nears c_turns_known c_rings_0_corners_size c_rings_1_corners_size c_rings_2_corners_size c_rings_3_corners_size c_rings_0_corners_firsts c_rings_0_corners_seconds c_rings_1_corners_firsts c_rings_1_corners_seconds c_rings_2_corners_firsts c_rings_2_corners_seconds c_rings_3_corners_firsts c_rings_3_corners_seconds v1 = some (.inl 2)) : CtW l g yL_lay cL_lay 4 [(0, 9, 12, 15)] 7 143 [.ref a_t, .int v1, .ref a_out] ((w_X9_lay g a_t a_land a_plan a_rings a_rows a_turns a_land_depths a_land_kinds a_land_nears a_rings_0 a_rings_1 a_rings_2 a_rings_3 a_turns_known a_rings_0_corners a_rings_1_corners a_rings_2_corners a_rings_3_corners a_rings_0_corners_firsts a_rings_0_corners_seconds a_rings_1_corners_firsts a_rings_1_corners_seconds a_rings_2_corners_firsts a_rings_2_corners_seconds a_rings_3_corners_firsts a_rings_3_corners_seconds a_ways a_planner a_slants a_reaper a_plan_numbers a_rows_strips a_rows_alongs a_rows_numbers a_rows_sorted a_rows_spare a_rows_tally a_rows_squares a_rows_starts a_rows_ends a_turns_lengths c_land_laid c_land_head c_land_fieldCount c_land_innerCount c_plan_there c_plan_size c_rows_there c_rows_size c_land_depths c_land_kinds c_land_nears c_turns_known c_rings_0_corners_size c_rings_1_corners_size c_rings_2_corners_size c_rings_3_corners_size c_rings_0_corners_firsts c_rings_0_corners_seconds c_rings_1_corners_firsts c_rings_1_corners_seconds c_rings_2_corners_firsts c_rings_2_corners_seconds c_rings_3_corners_firsts c_rings_3_corners_seconds) ++ [la g a_out 1 c_out]) 1 ((w_X9_lay g a_t a_land a_plan a_rings a_rows a_turns a_land_depths a_land_kinds a_land_nears a_rings_0 a_rings_1 a_rings_2 a_rings_3 a_turns_known a_rings_0_corners a_rings_1_corners a_rings_2_corners a_rings_3_corners a_rings_0_corners_firsts a_rings_0_corners_seconds a_rings_1_corners_firsts a_rings_1_corners_seconds a_rings_2_corners_firsts a_rings_2_corners_seconds a_rings_3_corners_firsts a_rings_3_corners_seconds a_ways a_planner a_slants a_reaper a_plan_numbers a_rows_strips a_rows_alongs a_rows_numbers a_rows_sorted a_rows_spare a_rows_tally a_rows_squares a_rows_starts a_rows_ends a_turns_lengths c_land_laid c_land_head c_land_fieldCount c_land_innerCount c_plan_there c_plan_size c_rows_there c_rows_size c_land_depths c_land_kinds c_land_nears c_turns_known c_rings_0_corners_size c_rings_1_corners_size c_rings_2_corners_size c_rings_3_corners_size c_rings_0_corners_firsts c_rings_0_corners_seconds c_rings_1_corners_firsts c_rings_1_corners_seconds c_rings_2_corners_firsts c_rings_2_corners_seconds c_rings_3_corners_firsts c_rings_3_corners_seconds) ++ [la g a_out 1 c_out]) := by
  refine startW (by decide) (Nat.le_of_ble_eq_true rfl) ?_
  intro p e s m below meth c A Q ls args M hW hl htab ret
  have hx := M.1
  have hb := M.2.1
  have hown := M.2.2.2.1
  have hu := M.2.2.2.2.1
  have hl : lv_has ls 4 [(0, .ref a_t), (1, .int v1), (2, .ref a_out)] := hl
  obtain ⟨H, eH⟩ : ∃ z, z = s.heap := ⟨_, rfl⟩
  obtain ⟨locs, eL⟩ : ∃ z, z = ([] : List Loc) := ⟨_, rfl⟩
  rw [← eL] at hW ⊢
  suffices hS9 : WD g s A ((w_X9_lay g a_t a_land a_plan a_rings a_rows a_turns a_land_depths a_land_kinds a_land_nears a_rings_0 a_rings_1 a_rings_2 a_rings_3 a_turns_known a_rings_0_corners a_rings_1_corners a_rings_2_corners a_rings_3_corners a_rings_0_corners_firsts a_rings_0_corners_seconds a_rings_1_corners_firsts a_rings_1_corners_seconds a_rings_2_corners_firsts a_rings_2_corners_seconds a_rings_3_corners_firsts a_rings_3_corners_seconds a_ways a_planner a_slants a_reaper a_plan_numbers a_rows_strips a_rows_alongs a_rows_numbers a_rows_sorted a_rows_spare a_rows_tally a_rows_squares a_rows_starts a_rows_ends a_turns_lengths c_land_laid c_land_head c_land_fieldCount c_land_innerCount c_plan_there c_plan_size c_rows_there c_rows_size c_land_depths c_land_kinds c_land_nears c_turns_known c_rings_0_corners_size c_rings_1_corners_size c_rings_2_corners_size c_rings_3_corners_size c_rings_0_corners_firsts c_rings_0_corners_seconds c_rings_1_corners_firsts c_rings_1_corners_seconds c_rings_2_corners_firsts c_rings_2_corners_seconds c_rings_3_corners_firsts c_rings_3_corners_seconds) ++ [la g a_out 1 c_out]) H locs → W p l e (rm9x 7 143) s m args below meth c H locs 0 0 Q (F0 m 0 ls []) by
    rw [← eH] at hW ⊢
    exact hS9 hW
  clear hW eH eL
  intro hW
  refine lv_aload_n (pc := 0) hx hb (dd dL_lay 0 rfl) rfl (lv_at hl 2 rfl) ?_
  refine lv_iconst (pc := 1) (v := 0) hx hb (dd dL_lay 1 rfl) (by decide) ?_
  refine lv_aload_n (pc := 2) hx hb (dd dL_lay 2 rfl) rfl (lv_at hl 0 rfl) ?_
  refine lv_iload_n (pc := 3) hx hb (dd dL_lay 3 rfl) rfl (lv_at hl 1 rfl) ?_
  have ex := M.2.2.2.2.2.2.2.2.2.2.2.2.2
  refine callXc (pc := 4) (na := 1) (As := [.int v1]) (rest := [.int 0, .ref a_out]) (Or.inr rfl) M hl.1 hW (x_X9_lay l hl9 g a_t a_land a_plan a_rings a_rows a_turns a_land_depths a_land_kinds a_land_nears a_rings_0 a_rings_1 a_rings_2 a_rings_3 a_turns_known a_rings_0_corners a_rings_1_corners a_rings_2_corners a_rings_3_corners a_rings_0_corners_firsts a_rings_0_corners_seconds a_rings_1_corners_firsts a_rings_1_corners_seconds a_rings_2_corners_firsts a_rings_2_corners_seconds a_rings_3_corners_firsts a_rings_3_corners_seconds a_ways a_planner a_slants a_reaper a_plan_numbers a_rows_strips a_rows_alongs a_rows_numbers a_rows_sorted a_rows_spare a_rows_tally a_rows_squares a_rows_starts a_rows_ends a_turns_lengths c_land_laid c_land_head c_land_fieldCount c_land_innerCount c_plan_there c_plan_size c_rows_there c_rows_size c_land_depths c_land_kinds c_land_nears c_turns_known c_rings_0_corners_size c_rings_1_corners_size c_rings_2_corners_size c_rings_3_corners_size c_rings_0_corners_firsts c_rings_0_corners_seconds c_rings_1_corners_firsts c_rings_1_corners_seconds c_rings_2_corners_firsts c_rings_2_corners_seconds c_rings_3_corners_firsts c_rings_3_corners_seconds v1 2 hr) rfl [0, 1, 2, 3, 4, 5, 6, 7, 8, 9, 10, 11, 12, 13, 14, 15, 16, 17, 18, 19, 20, 21, 22, 23, 24, 25] [26] [1, 2, 3, 4, 5, 6, 7, 8, 9, 10, 11, 12, 13, 14, 15, 16, 17, 18, 19, 20, 21, 22, 23, 24, 25, 26, 0] rfl rfl rfl rfl rfl rfl rfl 0 9 rfl rfl rfl (uw3 45 rfl rfl) (uw3 42 rfl rfl) (uw3 43 rfl rfl) (uw3 44 rfl rfl) (uw1 1 rfl rfl) ⟨by decide, by decide, by decide⟩ rfl ⟨by decide, by decide⟩ (Nat.le_of_ble_eq_true rfl) ⟨by decide, by decide⟩ (dd dL_lay 4 rfl) (fun q ce H locs hW hce hcv hcl => ?_)
  refine vx_catch (own := RL) (name := "java/lang/IllegalArgumentException") hown [] ⟨0, 9, 12, 15⟩ [] (htab.trans rfl) (fun z hz => nomatch hz) (by decide) (by decide) (hu _ (uw2 118 rfl rfl)) (va_Nw.use rfl (ex.2.2.2.1 _ (by decide))) hce hcv hcl ?_
  refine lv_astore_n (pc := 12) (lv' := [(3, .ref q), (0, .ref a_t), (1, .int v1), (2, .ref a_out)]) hx hb (dd dL_lay 8 rfl) rfl hl (by decide) rfl (fun ls hl => ?_)
  refine lv_iconst (pc := 13) (v := 1) hx hb (dd dL_lay 9 rfl) (by decide) ?_
  exact ret _ _ _ 14 hW (dd dL_lay 10 rfl)
set_option maxHeartbeats 4000000 in
set_option maxRecDepth 100000 in
theorem n_L_square (l : Launch) (g : G9) (a_t a_land a_land_kinds a_rings a_ways a_rows a_turns a_plan a_planner a_slants a_reaper a_land_nears a_land_depths a_out : Nat) (c_land_laid c_land_head c_land_fieldCount c_land_innerCount : Int32) (c_land_kinds : Ar) (c_out : Nat → Int64) (v1 v2 r0 : Int32) (hr : X9_square c_land_laid c_land_kinds v1 v2 = some (.inr r0)) : CtW l g yL_square cL_square 5 [(0, 10, 13, 33)] 8 132 [.ref a_t, .int v1, .int v2, .ref a_out] ((w_X9_square g a_t a_land a_land_kinds a_rings a_ways a_rows a_turns a_plan a_planner a_slants a_reaper a_land_nears a_land_depths c_land_laid c_land_head c_land_fieldCount c_land_innerCount c_land_kinds) ++ [la g a_out 1 c_out]) 0 ((w_X9_square g a_t a_land a_land_kinds a_rings a_ways a_rows a_turns a_plan a_planner a_slants a_reaper a_land_nears a_land_depths c_land_laid c_land_head c_land_fieldCount c_land_innerCount c_land_kinds) ++ [la g a_out 1 (vp_updL c_out 0 (Int32.toInt64 r0))]) := by
  refine startW (by decide) (Nat.le_of_ble_eq_true rfl) ?_
  intro p e s m below meth c A Q ls args M hW hl htab ret
  have hx := M.1
  have hb := M.2.1
  have hown := M.2.2.2.1
  have hu := M.2.2.2.2.1
  have hl : lv_has ls 5 [(0, .ref a_t), (1, .int v1), (2, .int v2), (3, .ref a_out)] := hl
  obtain ⟨H, eH⟩ : ∃ z, z = s.heap := ⟨_, rfl⟩
  obtain ⟨locs, eL⟩ : ∃ z, z = ([] : List Loc) := ⟨_, rfl⟩
  rw [← eL] at hW ⊢
  suffices hS9 : WD g s A ((w_X9_square g a_t a_land a_land_kinds a_rings a_ways a_rows a_turns a_plan a_planner a_slants a_reaper a_land_nears a_land_depths c_land_laid c_land_head c_land_fieldCount c_land_innerCount c_land_kinds) ++ [la g a_out 1 c_out]) H locs → W p l e (rm9x 8 132) s m args below meth c H locs 0 0 Q (F0 m 0 ls []) by
    rw [← eH] at hW ⊢
    exact hS9 hW
  clear hW eH eL
  intro hW
  refine lv_aload_n (pc := 0) hx hb (dd dL_square 0 rfl) rfl (lv_at hl 3 rfl) ?_
  refine lv_iconst (pc := 1) (v := 0) hx hb (dd dL_square 1 rfl) (by decide) ?_
  refine lv_aload_n (pc := 2) hx hb (dd dL_square 2 rfl) rfl (lv_at hl 0 rfl) ?_
  refine lv_iload_n (pc := 3) hx hb (dd dL_square 3 rfl) rfl (lv_at hl 1 rfl) ?_
  refine lv_iload_n (pc := 4) hx hb (dd dL_square 4 rfl) rfl (lv_at hl 2 rfl) ?_
  refine callVI (pc := 5) (na := 2) (As := [.int v1, .int v2]) (rest := [.int 0, .ref a_out]) (ws2 := ((w_X9_square g a_t a_land a_land_kinds a_rings a_ways a_rows a_turns a_plan a_planner a_slants a_reaper a_land_nears a_land_depths c_land_laid c_land_head c_land_fieldCount c_land_innerCount c_land_kinds) ++ [la g a_out 1 c_out])) M hl.1 hW (t_X9_square l g a_t a_land a_land_kinds a_rings a_ways a_rows a_turns a_plan a_planner a_slants a_reaper a_land_nears a_land_depths c_land_laid c_land_head c_land_fieldCount c_land_innerCount c_land_kinds v1 v2 r0 hr) rfl [0, 1, 2] [3] [1, 2, 3, 0] rfl rfl rfl rfl rfl rfl rfl 0 9 rfl rfl rfl (uw3 110 rfl rfl) (uw3 107 rfl rfl) (uw3 108 rfl rfl) (uw3 109 rfl rfl) (uw1 1 rfl rfl) ⟨by decide, by decide, by decide⟩ rfl ⟨by decide, by decide⟩ (Nat.le_of_ble_eq_true rfl) ⟨Nat.zero_le _, Nat.zero_le _⟩ (dd dL_square 5 rfl) (fun H locs hW => ?_)
  refine lv_i2l (pc := 8) hx hb (dd dL_square 6 rfl) rfl ?_
  refine rLast (pc := 9) M hW 3 rfl (by decide) rfl (ws' := ((w_X9_square g a_t a_land a_land_kinds a_rings a_ways a_rows a_turns a_plan a_planner a_slants a_reaper a_land_nears a_land_depths c_land_laid c_land_head c_land_fieldCount c_land_innerCount c_land_kinds) ++ [la g a_out 1 (vp_updL c_out 0 (Int32.toInt64 r0))])) rfl (dd dL_square 7 rfl) (fun H locs hW => ?_)
  refine lv_goto (pc := 10) (tgt := 17) hx hb (dd dL_square 8 rfl) (by decide) ?_
  refine lv_iconst (pc := 17) (v := 0) hx hb (dd dL_square 12 rfl) (by decide) ?_
  refine W.widen (k := 1) (n := 6) (by decide) (by decide) ?_
  exact ret _ _ _ 18 hW (dd dL_square 13 rfl)
set_option maxHeartbeats 4000000 in
set_option maxRecDepth 100000 in
theorem x_L_square_1 (l : Launch) (hl9 : l.stackTraces = false) (g : G9) (a_t a_land a_land_kinds a_rings a_ways a_rows a_turns a_plan a_planner a_slants a_reaper a_land_nears a_land_depths a_out : Nat) (c_land_laid c_land_head c_land_fieldCount c_land_innerCount : Int32) (c_land_kinds : Ar) (c_out : Nat → Int64) (v1 v2 : Int32) (hr : X9_square c_land_laid c_land_kinds v1 v2 = some (.inl 4)) : CtW l g yL_square cL_square 5 [(0, 10, 13, 33)] 8 132 [.ref a_t, .int v1, .int v2, .ref a_out] ((w_X9_square g a_t a_land a_land_kinds a_rings a_ways a_rows a_turns a_plan a_planner a_slants a_reaper a_land_nears a_land_depths c_land_laid c_land_head c_land_fieldCount c_land_innerCount c_land_kinds) ++ [la g a_out 1 c_out]) 1 ((w_X9_square g a_t a_land a_land_kinds a_rings a_ways a_rows a_turns a_plan a_planner a_slants a_reaper a_land_nears a_land_depths c_land_laid c_land_head c_land_fieldCount c_land_innerCount c_land_kinds) ++ [la g a_out 1 c_out]) := by
  refine startW (by decide) (Nat.le_of_ble_eq_true rfl) ?_
  intro p e s m below meth c A Q ls args M hW hl htab ret
  have hx := M.1
  have hb := M.2.1
  have hown := M.2.2.2.1
  have hu := M.2.2.2.2.1
  have hl : lv_has ls 5 [(0, .ref a_t), (1, .int v1), (2, .int v2), (3, .ref a_out)] := hl
  obtain ⟨H, eH⟩ : ∃ z, z = s.heap := ⟨_, rfl⟩
  obtain ⟨locs, eL⟩ : ∃ z, z = ([] : List Loc) := ⟨_, rfl⟩
  rw [← eL] at hW ⊢
  suffices hS9 : WD g s A ((w_X9_square g a_t a_land a_land_kinds a_rings a_ways a_rows a_turns a_plan a_planner a_slants a_reaper a_land_nears a_land_depths c_land_laid c_land_head c_land_fieldCount c_land_innerCount c_land_kinds) ++ [la g a_out 1 c_out]) H locs → W p l e (rm9x 8 132) s m args below meth c H locs 0 0 Q (F0 m 0 ls []) by
    rw [← eH] at hW ⊢
    exact hS9 hW
  clear hW eH eL
  intro hW
  refine lv_aload_n (pc := 0) hx hb (dd dL_square 0 rfl) rfl (lv_at hl 3 rfl) ?_
  refine lv_iconst (pc := 1) (v := 0) hx hb (dd dL_square 1 rfl) (by decide) ?_
  refine lv_aload_n (pc := 2) hx hb (dd dL_square 2 rfl) rfl (lv_at hl 0 rfl) ?_
  refine lv_iload_n (pc := 3) hx hb (dd dL_square 3 rfl) rfl (lv_at hl 1 rfl) ?_
  refine lv_iload_n (pc := 4) hx hb (dd dL_square 4 rfl) rfl (lv_at hl 2 rfl) ?_
  have ex := M.2.2.2.2.2.2.2.2.2.2.2.2.2
  refine callXc (pc := 5) (na := 2) (As := [.int v1, .int v2]) (rest := [.int 0, .ref a_out]) (Or.inr rfl) M hl.1 hW (x_X9_square l hl9 g a_t a_land a_land_kinds a_rings a_ways a_rows a_turns a_plan a_planner a_slants a_reaper a_land_nears a_land_depths c_land_laid c_land_head c_land_fieldCount c_land_innerCount c_land_kinds v1 v2 4 hr) rfl [0, 1, 2] [3] [1, 2, 3, 0] rfl rfl rfl rfl rfl rfl rfl 0 9 rfl rfl rfl (uw3 110 rfl rfl) (uw3 107 rfl rfl) (uw3 108 rfl rfl) (uw3 109 rfl rfl) (uw1 1 rfl rfl) ⟨by decide, by decide, by decide⟩ rfl ⟨by decide, by decide⟩ (Nat.le_of_ble_eq_true rfl) ⟨by decide, by decide⟩ (dd dL_square 5 rfl) (fun q ce H locs hW hce hcv hcl => ?_)
  refine vx_catch (own := RL) (name := "java/lang/IllegalStateException") hown [] ⟨0, 10, 13, 33⟩ [] (htab.trans rfl) (fun z hz => nomatch hz) (by decide) (by decide) (hu _ (uw3 106 rfl rfl)) (va_Nw.use rfl (ex.2.2.2.1 _ (by decide))) hce hcv hcl ?_
  refine lv_astore (pc := 13) (lv' := [(4, .ref q), (0, .ref a_t), (1, .int v1), (2, .int v2), (3, .ref a_out)]) hx hb (dd dL_square 9 rfl) hl (by decide) rfl (fun ls hl => ?_)
  refine lv_iconst (pc := 15) (v := 1) hx hb (dd dL_square 10 rfl) (by decide) ?_
  exact ret _ _ _ 16 hW (dd dL_square 11 rfl)
set_option maxHeartbeats 4000000 in
set_option maxRecDepth 100000 in
theorem n_L_rows (l : Launch) (g : G9) (a_t a_land a_plan a_rows a_turns a_land_kinds a_land_nears a_rows_alongs a_rows_ends a_rows_numbers a_rows_sorted a_rows_spare a_rows_squares a_rows_starts a_rows_strips a_rows_tally a_turns_known a_rings a_ways a_planner a_slants a_reaper a_land_depths a_plan_numbers a_turns_lengths a_out : Nat) (c_land_laid c_land_head c_land_fieldCount c_land_innerCount c_plan_there c_plan_size c_rows_there c_rows_size : Int32) (c_land_kinds c_land_nears c_rows_alongs c_rows_ends c_rows_numbers c_rows_sorted c_rows_spare c_rows_squares c_rows_starts c_rows_strips c_rows_tally c_turns_known : Ar) (c_out : Nat → Int64) (v1 v2 v3 r0 o_plan_there o_plan_size o_rows_there o_rows_size : Int32) (o_rows_alongs o_rows_ends o_rows_numbers o_rows_sorted o_rows_spare o_rows_squares o_rows_starts o_rows_strips o_rows_tally o_turns_known : Ar) (hr : X9_rows c_land_laid c_land_innerCount c_plan_there c_plan_size c_rows_there c_rows_size c_land_kinds c_land_nears c_rows_alongs c_rows_ends c_rows_numbers c_rows_sorted c_rows_spare c_rows_squares c_rows_starts c_rows_strips c_rows_tally c_turns_known v1 v2 v3 = some (.inr (r0, o_plan_there, o_plan_size, o_rows_there, o_rows_size, o_rows_alongs, o_rows_ends, o_rows_numbers, o_rows_sorted, o_rows_spare, o_rows_squares, o_rows_starts, o_rows_strips, o_rows_tally, o_turns_known))) : CtW l g yL_rows cL_rows 6 [(0, 12, 15, 33), (0, 12, 19, 15)] 8 134 [.ref a_t, .int v1, .int v2, .int v3, .ref a_out] ((w_X9_rows g a_t a_land a_plan a_rows a_turns a_land_kinds a_land_nears a_rows_alongs a_rows_ends a_rows_numbers a_rows_sorted a_rows_spare a_rows_squares a_rows_starts a_rows_strips a_rows_tally a_turns_known a_rings a_ways a_planner a_slants a_reaper a_land_depths a_plan_numbers a_turns_lengths c_land_laid c_land_head c_land_fieldCount c_land_innerCount c_plan_there c_plan_size c_rows_there c_rows_size c_land_kinds c_land_nears c_rows_alongs c_rows_ends c_rows_numbers c_rows_sorted c_rows_spare c_rows_squares c_rows_starts c_rows_strips c_rows_tally c_turns_known) ++ [la g a_out 1 c_out]) 0 ((w_X9_rows g a_t a_land a_plan a_rows a_turns a_land_kinds a_land_nears a_rows_alongs a_rows_ends a_rows_numbers a_rows_sorted a_rows_spare a_rows_squares a_rows_starts a_rows_strips a_rows_tally a_turns_known a_rings a_ways a_planner a_slants a_reaper a_land_depths a_plan_numbers a_turns_lengths c_land_laid c_land_head c_land_fieldCount c_land_innerCount o_plan_there o_plan_size o_rows_there o_rows_size c_land_kinds c_land_nears o_rows_alongs o_rows_ends o_rows_numbers o_rows_sorted o_rows_spare o_rows_squares o_rows_starts o_rows_strips o_rows_tally o_turns_known) ++ [la g a_out 1 (vp_updL c_out 0 (Int32.toInt64 r0))]) := by
  refine startW (by decide) (Nat.le_of_ble_eq_true rfl) ?_
  intro p e s m below meth c A Q ls args M hW hl htab ret
  have hx := M.1
  have hb := M.2.1
  have hown := M.2.2.2.1
  have hu := M.2.2.2.2.1
  have hl : lv_has ls 6 [(0, .ref a_t), (1, .int v1), (2, .int v2), (3, .int v3), (4, .ref a_out)] := hl
  obtain ⟨H, eH⟩ : ∃ z, z = s.heap := ⟨_, rfl⟩
  obtain ⟨locs, eL⟩ : ∃ z, z = ([] : List Loc) := ⟨_, rfl⟩
  rw [← eL] at hW ⊢
  suffices hS9 : WD g s A ((w_X9_rows g a_t a_land a_plan a_rows a_turns a_land_kinds a_land_nears a_rows_alongs a_rows_ends a_rows_numbers a_rows_sorted a_rows_spare a_rows_squares a_rows_starts a_rows_strips a_rows_tally a_turns_known a_rings a_ways a_planner a_slants a_reaper a_land_depths a_plan_numbers a_turns_lengths c_land_laid c_land_head c_land_fieldCount c_land_innerCount c_plan_there c_plan_size c_rows_there c_rows_size c_land_kinds c_land_nears c_rows_alongs c_rows_ends c_rows_numbers c_rows_sorted c_rows_spare c_rows_squares c_rows_starts c_rows_strips c_rows_tally c_turns_known) ++ [la g a_out 1 c_out]) H locs → W p l e (rm9x 8 134) s m args below meth c H locs 0 0 Q (F0 m 0 ls []) by
    rw [← eH] at hW ⊢
    exact hS9 hW
  clear hW eH eL
  intro hW
  refine lv_aload (pc := 0) hx hb (dd dL_rows 0 rfl) (lv_at hl 4 rfl) ?_
  refine lv_iconst (pc := 2) (v := 0) hx hb (dd dL_rows 1 rfl) (by decide) ?_
  refine lv_aload_n (pc := 3) hx hb (dd dL_rows 2 rfl) rfl (lv_at hl 0 rfl) ?_
  refine lv_iload_n (pc := 4) hx hb (dd dL_rows 3 rfl) rfl (lv_at hl 1 rfl) ?_
  refine lv_iload_n (pc := 5) hx hb (dd dL_rows 4 rfl) rfl (lv_at hl 2 rfl) ?_
  refine lv_iload_n (pc := 6) hx hb (dd dL_rows 5 rfl) rfl (lv_at hl 3 rfl) ?_
  refine callVI (pc := 7) (na := 3) (As := [.int v1, .int v2, .int v3]) (rest := [.int 0, .ref a_out]) (ws2 := ((w_X9_rows g a_t a_land a_plan a_rows a_turns a_land_kinds a_land_nears a_rows_alongs a_rows_ends a_rows_numbers a_rows_sorted a_rows_spare a_rows_squares a_rows_starts a_rows_strips a_rows_tally a_turns_known a_rings a_ways a_planner a_slants a_reaper a_land_depths a_plan_numbers a_turns_lengths c_land_laid c_land_head c_land_fieldCount c_land_innerCount o_plan_there o_plan_size o_rows_there o_rows_size c_land_kinds c_land_nears o_rows_alongs o_rows_ends o_rows_numbers o_rows_sorted o_rows_spare o_rows_squares o_rows_starts o_rows_strips o_rows_tally o_turns_known) ++ [la g a_out 1 c_out])) M hl.1 hW (t_X9_rows l g a_t a_land a_plan a_rows a_turns a_land_kinds a_land_nears a_rows_alongs a_rows_ends a_rows_numbers a_rows_sorted a_rows_spare a_rows_squares a_rows_starts a_rows_strips a_rows_tally a_turns_known a_rings a_ways a_planner a_slants a_reaper a_land_depths a_plan_numbers a_turns_lengths c_land_laid c_land_head c_land_fieldCount c_land_innerCount c_plan_there c_plan_size c_rows_there c_rows_size c_land_kinds c_land_nears c_rows_alongs c_rows_ends c_rows_numbers c_rows_sorted c_rows_spare c_rows_squares c_rows_starts c_rows_strips c_rows_tally c_turns_known v1 v2 v3 r0 o_plan_there o_plan_size o_rows_there o_rows_size o_rows_alongs o_rows_ends o_rows_numbers o_rows_sorted o_rows_spare o_rows_squares o_rows_starts o_rows_strips o_rows_tally o_turns_known hr) rfl [0, 1, 2, 3, 4, 5, 6, 7, 8, 9, 10, 11, 12, 13, 14, 15, 16] [17] [1, 2, 3, 4, 5, 6, 7, 8, 9, 10, 11, 12, 13, 14, 15, 16, 17, 0] rfl rfl rfl rfl rfl rfl rfl 0 9 rfl rfl rfl (uw3 139 rfl rfl) (uw3 136 rfl rfl) (uw3 137 rfl rfl) (uw3 138 rfl rfl) (uw1 1 rfl rfl) ⟨by decide, by decide, by decide⟩ rfl ⟨by decide, by decide⟩ (Nat.le_of_ble_eq_true rfl) ⟨Nat.zero_le _, Nat.zero_le _⟩ (dd dL_rows 6 rfl) (fun H locs hW => ?_)
  refine lv_i2l (pc := 10) hx hb (dd dL_rows 7 rfl) rfl ?_
  refine rLast (pc := 11) M hW 17 rfl (by decide) rfl (ws' := ((w_X9_rows g a_t a_land a_plan a_rows a_turns a_land_kinds a_land_nears a_rows_alongs a_rows_ends a_rows_numbers a_rows_sorted a_rows_spare a_rows_squares a_rows_starts a_rows_strips a_rows_tally a_turns_known a_rings a_ways a_planner a_slants a_reaper a_land_depths a_plan_numbers a_turns_lengths c_land_laid c_land_head c_land_fieldCount c_land_innerCount o_plan_there o_plan_size o_rows_there o_rows_size c_land_kinds c_land_nears o_rows_alongs o_rows_ends o_rows_numbers o_rows_sorted o_rows_spare o_rows_squares o_rows_starts o_rows_strips o_rows_tally o_turns_known) ++ [la g a_out 1 (vp_updL c_out 0 (Int32.toInt64 r0))])) rfl (dd dL_rows 8 rfl) (fun H locs hW => ?_)
  refine lv_goto (pc := 12) (tgt := 23) hx hb (dd dL_rows 9 rfl) (by decide) ?_
  refine lv_iconst (pc := 23) (v := 0) hx hb (dd dL_rows 16 rfl) (by decide) ?_
  refine W.widen (k := 1) (n := 6) (by decide) (by decide) ?_
  exact ret _ _ _ 24 hW (dd dL_rows 17 rfl)
set_option maxHeartbeats 4000000 in
set_option maxRecDepth 100000 in
theorem x_L_rows_1 (l : Launch) (hl9 : l.stackTraces = false) (g : G9) (a_t a_land a_plan a_rows a_turns a_land_kinds a_land_nears a_rows_alongs a_rows_ends a_rows_numbers a_rows_sorted a_rows_spare a_rows_squares a_rows_starts a_rows_strips a_rows_tally a_turns_known a_rings a_ways a_planner a_slants a_reaper a_land_depths a_plan_numbers a_turns_lengths a_out : Nat) (c_land_laid c_land_head c_land_fieldCount c_land_innerCount c_plan_there c_plan_size c_rows_there c_rows_size : Int32) (c_land_kinds c_land_nears c_rows_alongs c_rows_ends c_rows_numbers c_rows_sorted c_rows_spare c_rows_squares c_rows_starts c_rows_strips c_rows_tally c_turns_known : Ar) (c_out : Nat → Int64) (v1 v2 v3 : Int32) (hr : X9_rows c_land_laid c_land_innerCount c_plan_there c_plan_size c_rows_there c_rows_size c_land_kinds c_land_nears c_rows_alongs c_rows_ends c_rows_numbers c_rows_sorted c_rows_spare c_rows_squares c_rows_starts c_rows_strips c_rows_tally c_turns_known v1 v2 v3 = some (.inl 4)) : CtW l g yL_rows cL_rows 6 [(0, 12, 15, 33), (0, 12, 19, 15)] 8 134 [.ref a_t, .int v1, .int v2, .int v3, .ref a_out] ((w_X9_rows g a_t a_land a_plan a_rows a_turns a_land_kinds a_land_nears a_rows_alongs a_rows_ends a_rows_numbers a_rows_sorted a_rows_spare a_rows_squares a_rows_starts a_rows_strips a_rows_tally a_turns_known a_rings a_ways a_planner a_slants a_reaper a_land_depths a_plan_numbers a_turns_lengths c_land_laid c_land_head c_land_fieldCount c_land_innerCount c_plan_there c_plan_size c_rows_there c_rows_size c_land_kinds c_land_nears c_rows_alongs c_rows_ends c_rows_numbers c_rows_sorted c_rows_spare c_rows_squares c_rows_starts c_rows_strips c_rows_tally c_turns_known) ++ [la g a_out 1 c_out]) 1 ((w_X9_rows g a_t a_land a_plan a_rows a_turns a_land_kinds a_land_nears a_rows_alongs a_rows_ends a_rows_numbers a_rows_sorted a_rows_spare a_rows_squares a_rows_starts a_rows_strips a_rows_tally a_turns_known a_rings a_ways a_planner a_slants a_reaper a_land_depths a_plan_numbers a_turns_lengths c_land_laid c_land_head c_land_fieldCount c_land_innerCount c_plan_there c_plan_size c_rows_there c_rows_size c_land_kinds c_land_nears c_rows_alongs c_rows_ends c_rows_numbers c_rows_sorted c_rows_spare c_rows_squares c_rows_starts c_rows_strips c_rows_tally c_turns_known) ++ [la g a_out 1 c_out]) := by
  refine startW (by decide) (Nat.le_of_ble_eq_true rfl) ?_
  intro p e s m below meth c A Q ls args M hW hl htab ret
  have hx := M.1
  have hb := M.2.1
  have hown := M.2.2.2.1
  have hu := M.2.2.2.2.1
  have hl : lv_has ls 6 [(0, .ref a_t), (1, .int v1), (2, .int v2), (3, .int v3), (4, .ref a_out)] := hl
  obtain ⟨H, eH⟩ : ∃ z, z = s.heap := ⟨_, rfl⟩
  obtain ⟨locs, eL⟩ : ∃ z, z = ([] : List Loc) := ⟨_, rfl⟩
  rw [← eL] at hW ⊢
  suffices hS9 : WD g s A ((w_X9_rows g a_t a_land a_plan a_rows a_turns a_land_kinds a_land_nears a_rows_alongs a_rows_ends a_rows_numbers a_rows_sorted a_rows_spare a_rows_squares a_rows_starts a_rows_strips a_rows_tally a_turns_known a_rings a_ways a_planner a_slants a_reaper a_land_depths a_plan_numbers a_turns_lengths c_land_laid c_land_head c_land_fieldCount c_land_innerCount c_plan_there c_plan_size c_rows_there c_rows_size c_land_kinds c_land_nears c_rows_alongs c_rows_ends c_rows_numbers c_rows_sorted c_rows_spare c_rows_squares c_rows_starts c_rows_strips c_rows_tally c_turns_known) ++ [la g a_out 1 c_out]) H locs → W p l e (rm9x 8 134) s m args below meth c H locs 0 0 Q (F0 m 0 ls []) by
    rw [← eH] at hW ⊢
    exact hS9 hW
  clear hW eH eL
  intro hW
  refine lv_aload (pc := 0) hx hb (dd dL_rows 0 rfl) (lv_at hl 4 rfl) ?_
  refine lv_iconst (pc := 2) (v := 0) hx hb (dd dL_rows 1 rfl) (by decide) ?_
  refine lv_aload_n (pc := 3) hx hb (dd dL_rows 2 rfl) rfl (lv_at hl 0 rfl) ?_
  refine lv_iload_n (pc := 4) hx hb (dd dL_rows 3 rfl) rfl (lv_at hl 1 rfl) ?_
  refine lv_iload_n (pc := 5) hx hb (dd dL_rows 4 rfl) rfl (lv_at hl 2 rfl) ?_
  refine lv_iload_n (pc := 6) hx hb (dd dL_rows 5 rfl) rfl (lv_at hl 3 rfl) ?_
  have ex := M.2.2.2.2.2.2.2.2.2.2.2.2.2
  refine callXc (pc := 7) (na := 3) (As := [.int v1, .int v2, .int v3]) (rest := [.int 0, .ref a_out]) (Or.inr rfl) M hl.1 hW (x_X9_rows l hl9 g a_t a_land a_plan a_rows a_turns a_land_kinds a_land_nears a_rows_alongs a_rows_ends a_rows_numbers a_rows_sorted a_rows_spare a_rows_squares a_rows_starts a_rows_strips a_rows_tally a_turns_known a_rings a_ways a_planner a_slants a_reaper a_land_depths a_plan_numbers a_turns_lengths c_land_laid c_land_head c_land_fieldCount c_land_innerCount c_plan_there c_plan_size c_rows_there c_rows_size c_land_kinds c_land_nears c_rows_alongs c_rows_ends c_rows_numbers c_rows_sorted c_rows_spare c_rows_squares c_rows_starts c_rows_strips c_rows_tally c_turns_known v1 v2 v3 4 hr) rfl [0, 1, 2, 3, 4, 5, 6, 7, 8, 9, 10, 11, 12, 13, 14, 15, 16] [17] [1, 2, 3, 4, 5, 6, 7, 8, 9, 10, 11, 12, 13, 14, 15, 16, 17, 0] rfl rfl rfl rfl rfl rfl rfl 0 9 rfl rfl rfl (uw3 139 rfl rfl) (uw3 136 rfl rfl) (uw3 137 rfl rfl) (uw3 138 rfl rfl) (uw1 1 rfl rfl) ⟨by decide, by decide, by decide⟩ rfl ⟨by decide, by decide⟩ (Nat.le_of_ble_eq_true rfl) ⟨by decide, by decide⟩ (dd dL_rows 6 rfl) (fun q ce H locs hW hce hcv hcl => ?_)
  refine vx_catch (own := RL) (name := "java/lang/IllegalStateException") hown [] ⟨0, 12, 15, 33⟩ [⟨0, 12, 19, 15⟩] (htab.trans rfl) (fun z hz => nomatch hz) (by decide) (by decide) (hu _ (uw3 106 rfl rfl)) (va_Nw.use rfl (ex.2.2.2.1 _ (by decide))) hce hcv hcl ?_
  refine lv_astore (pc := 15) (lv' := [(5, .ref q), (0, .ref a_t), (1, .int v1), (2, .int v2), (3, .int v3), (4, .ref a_out)]) hx hb (dd dL_rows 10 rfl) hl (by decide) rfl (fun ls hl => ?_)
  refine lv_iconst (pc := 17) (v := 1) hx hb (dd dL_rows 11 rfl) (by decide) ?_
  exact ret _ _ _ 18 hW (dd dL_rows 12 rfl)
set_option maxHeartbeats 4000000 in
set_option maxRecDepth 100000 in
theorem x_L_rows_2 (l : Launch) (hl9 : l.stackTraces = false) (g : G9) (a_t a_land a_plan a_rows a_turns a_land_kinds a_land_nears a_rows_alongs a_rows_ends a_rows_numbers a_rows_sorted a_rows_spare a_rows_squares a_rows_starts a_rows_strips a_rows_tally a_turns_known a_rings a_ways a_planner a_slants a_reaper a_land_depths a_plan_numbers a_turns_lengths a_out : Nat) (c_land_laid c_land_head c_land_fieldCount c_land_innerCount c_plan_there c_plan_size c_rows_there c_rows_size : Int32) (c_land_kinds c_land_nears c_rows_alongs c_rows_ends c_rows_numbers c_rows_sorted c_rows_spare c_rows_squares c_rows_starts c_rows_strips c_rows_tally c_turns_known : Ar) (c_out : Nat → Int64) (v1 v2 v3 : Int32) (hr : X9_rows c_land_laid c_land_innerCount c_plan_there c_plan_size c_rows_there c_rows_size c_land_kinds c_land_nears c_rows_alongs c_rows_ends c_rows_numbers c_rows_sorted c_rows_spare c_rows_squares c_rows_starts c_rows_strips c_rows_tally c_turns_known v1 v2 v3 = some (.inl 2)) : CtW l g yL_rows cL_rows 6 [(0, 12, 15, 33), (0, 12, 19, 15)] 8 134 [.ref a_t, .int v1, .int v2, .int v3, .ref a_out] ((w_X9_rows g a_t a_land a_plan a_rows a_turns a_land_kinds a_land_nears a_rows_alongs a_rows_ends a_rows_numbers a_rows_sorted a_rows_spare a_rows_squares a_rows_starts a_rows_strips a_rows_tally a_turns_known a_rings a_ways a_planner a_slants a_reaper a_land_depths a_plan_numbers a_turns_lengths c_land_laid c_land_head c_land_fieldCount c_land_innerCount c_plan_there c_plan_size c_rows_there c_rows_size c_land_kinds c_land_nears c_rows_alongs c_rows_ends c_rows_numbers c_rows_sorted c_rows_spare c_rows_squares c_rows_starts c_rows_strips c_rows_tally c_turns_known) ++ [la g a_out 1 c_out]) 2 ((w_X9_rows g a_t a_land a_plan a_rows a_turns a_land_kinds a_land_nears a_rows_alongs a_rows_ends a_rows_numbers a_rows_sorted a_rows_spare a_rows_squares a_rows_starts a_rows_strips a_rows_tally a_turns_known a_rings a_ways a_planner a_slants a_reaper a_land_depths a_plan_numbers a_turns_lengths c_land_laid c_land_head c_land_fieldCount c_land_innerCount c_plan_there c_plan_size c_rows_there c_rows_size c_land_kinds c_land_nears c_rows_alongs c_rows_ends c_rows_numbers c_rows_sorted c_rows_spare c_rows_squares c_rows_starts c_rows_strips c_rows_tally c_turns_known) ++ [la g a_out 1 c_out]) := by
  refine startW (by decide) (Nat.le_of_ble_eq_true rfl) ?_
  intro p e s m below meth c A Q ls args M hW hl htab ret
  have hx := M.1
  have hb := M.2.1
  have hown := M.2.2.2.1
  have hu := M.2.2.2.2.1
  have hl : lv_has ls 6 [(0, .ref a_t), (1, .int v1), (2, .int v2), (3, .int v3), (4, .ref a_out)] := hl
  obtain ⟨H, eH⟩ : ∃ z, z = s.heap := ⟨_, rfl⟩
  obtain ⟨locs, eL⟩ : ∃ z, z = ([] : List Loc) := ⟨_, rfl⟩
  rw [← eL] at hW ⊢
  suffices hS9 : WD g s A ((w_X9_rows g a_t a_land a_plan a_rows a_turns a_land_kinds a_land_nears a_rows_alongs a_rows_ends a_rows_numbers a_rows_sorted a_rows_spare a_rows_squares a_rows_starts a_rows_strips a_rows_tally a_turns_known a_rings a_ways a_planner a_slants a_reaper a_land_depths a_plan_numbers a_turns_lengths c_land_laid c_land_head c_land_fieldCount c_land_innerCount c_plan_there c_plan_size c_rows_there c_rows_size c_land_kinds c_land_nears c_rows_alongs c_rows_ends c_rows_numbers c_rows_sorted c_rows_spare c_rows_squares c_rows_starts c_rows_strips c_rows_tally c_turns_known) ++ [la g a_out 1 c_out]) H locs → W p l e (rm9x 8 134) s m args below meth c H locs 0 0 Q (F0 m 0 ls []) by
    rw [← eH] at hW ⊢
    exact hS9 hW
  clear hW eH eL
  intro hW
  refine lv_aload (pc := 0) hx hb (dd dL_rows 0 rfl) (lv_at hl 4 rfl) ?_
  refine lv_iconst (pc := 2) (v := 0) hx hb (dd dL_rows 1 rfl) (by decide) ?_
  refine lv_aload_n (pc := 3) hx hb (dd dL_rows 2 rfl) rfl (lv_at hl 0 rfl) ?_
  refine lv_iload_n (pc := 4) hx hb (dd dL_rows 3 rfl) rfl (lv_at hl 1 rfl) ?_
  refine lv_iload_n (pc := 5) hx hb (dd dL_rows 4 rfl) rfl (lv_at hl 2 rfl) ?_
  refine lv_iload_n (pc := 6) hx hb (dd dL_rows 5 rfl) rfl (lv_at hl 3 rfl) ?_
  have ex := M.2.2.2.2.2.2.2.2.2.2.2.2.2
  refine callXc (pc := 7) (na := 3) (As := [.int v1, .int v2, .int v3]) (rest := [.int 0, .ref a_out]) (Or.inr rfl) M hl.1 hW (x_X9_rows l hl9 g a_t a_land a_plan a_rows a_turns a_land_kinds a_land_nears a_rows_alongs a_rows_ends a_rows_numbers a_rows_sorted a_rows_spare a_rows_squares a_rows_starts a_rows_strips a_rows_tally a_turns_known a_rings a_ways a_planner a_slants a_reaper a_land_depths a_plan_numbers a_turns_lengths c_land_laid c_land_head c_land_fieldCount c_land_innerCount c_plan_there c_plan_size c_rows_there c_rows_size c_land_kinds c_land_nears c_rows_alongs c_rows_ends c_rows_numbers c_rows_sorted c_rows_spare c_rows_squares c_rows_starts c_rows_strips c_rows_tally c_turns_known v1 v2 v3 2 hr) rfl [0, 1, 2, 3, 4, 5, 6, 7, 8, 9, 10, 11, 12, 13, 14, 15, 16] [17] [1, 2, 3, 4, 5, 6, 7, 8, 9, 10, 11, 12, 13, 14, 15, 16, 17, 0] rfl rfl rfl rfl rfl rfl rfl 0 9 rfl rfl rfl (uw3 139 rfl rfl) (uw3 136 rfl rfl) (uw3 137 rfl rfl) (uw3 138 rfl rfl) (uw1 1 rfl rfl) ⟨by decide, by decide, by decide⟩ rfl ⟨by decide, by decide⟩ (Nat.le_of_ble_eq_true rfl) ⟨by decide, by decide⟩ (dd dL_rows 6 rfl) (fun q ce H locs hW hce hcv hcl => ?_)
  refine vx_catch (own := RL) (name := "java/lang/IllegalArgumentException") hown [⟨0, 12, 15, 33⟩] ⟨0, 12, 19, 15⟩ [] (htab.trans rfl) (fun z hz => by
      simp only [List.mem_cons, List.not_mem_nil, or_false] at hz
      rcases hz with rfl
      · exact Or.inr ⟨by decide, "java/lang/IllegalStateException", hu _ (uw3 106 rfl rfl), ex.2.2.2.2.1 _ (by decide) _ (by decide) (by decide)⟩) (by decide) (by decide) (hu _ (uw2 118 rfl rfl)) (va_Nw.use rfl (ex.2.2.2.1 _ (by decide))) hce hcv hcl ?_
  refine lv_astore (pc := 19) (lv' := [(5, .ref q), (0, .ref a_t), (1, .int v1), (2, .int v2), (3, .int v3), (4, .ref a_out)]) hx hb (dd dL_rows 13 rfl) hl (by decide) rfl (fun ls hl => ?_)
  refine lv_iconst (pc := 21) (v := 2) hx hb (dd dL_rows 14 rfl) (by decide) ?_
  exact ret _ _ _ 22 hW (dd dL_rows 15 rfl)
set_option maxHeartbeats 4000000 in
set_option maxRecDepth 100000 in
theorem n_L_row (l : Launch) (g : G9) (a_t a_rows a_rows_ends a_rows_starts a_rows_strips a_rings a_land a_ways a_turns a_plan a_planner a_slants a_reaper a_rows_alongs a_rows_numbers a_rows_sorted a_rows_spare a_rows_tally a_rows_squares a_out : Nat) (c_rows_there c_rows_size : Int32) (c_rows_ends c_rows_starts c_rows_strips : Ar) (c_out : Nat → Int64) (v1 v2 r0 : Int32) (hr : X9_row c_rows_there c_rows_size c_rows_ends c_rows_starts c_rows_strips v1 v2 = some (.inr r0)) : CtW l g yL_row cL_row 5 [(0, 10, 13, 33), (0, 10, 17, 41)] 8 132 [.ref a_t, .int v1, .int v2, .ref a_out] ((w_X9_row g a_t a_rows a_rows_ends a_rows_starts a_rows_strips a_rings a_land a_ways a_turns a_plan a_planner a_slants a_reaper a_rows_alongs a_rows_numbers a_rows_sorted a_rows_spare a_rows_tally a_rows_squares c_rows_there c_rows_size c_rows_ends c_rows_starts c_rows_strips) ++ [la g a_out 1 c_out]) 0 ((w_X9_row g a_t a_rows a_rows_ends a_rows_starts a_rows_strips a_rings a_land a_ways a_turns a_plan a_planner a_slants a_reaper a_rows_alongs a_rows_numbers a_rows_sorted a_rows_spare a_rows_tally a_rows_squares c_rows_there c_rows_size c_rows_ends c_rows_starts c_rows_strips) ++ [la g a_out 1 (vp_updL c_out 0 (Int32.toInt64 r0))]) := by
  refine startW (by decide) (Nat.le_of_ble_eq_true rfl) ?_
  intro p e s m below meth c A Q ls args M hW hl htab ret
  have hx := M.1
  have hb := M.2.1
  have hown := M.2.2.2.1
  have hu := M.2.2.2.2.1
  have hl : lv_has ls 5 [(0, .ref a_t), (1, .int v1), (2, .int v2), (3, .ref a_out)] := hl
  obtain ⟨H, eH⟩ : ∃ z, z = s.heap := ⟨_, rfl⟩
  obtain ⟨locs, eL⟩ : ∃ z, z = ([] : List Loc) := ⟨_, rfl⟩
  rw [← eL] at hW ⊢
  suffices hS9 : WD g s A ((w_X9_row g a_t a_rows a_rows_ends a_rows_starts a_rows_strips a_rings a_land a_ways a_turns a_plan a_planner a_slants a_reaper a_rows_alongs a_rows_numbers a_rows_sorted a_rows_spare a_rows_tally a_rows_squares c_rows_there c_rows_size c_rows_ends c_rows_starts c_rows_strips) ++ [la g a_out 1 c_out]) H locs → W p l e (rm9x 8 132) s m args below meth c H locs 0 0 Q (F0 m 0 ls []) by
    rw [← eH] at hW ⊢
    exact hS9 hW
  clear hW eH eL
  intro hW
  refine lv_aload_n (pc := 0) hx hb (dd dL_row 0 rfl) rfl (lv_at hl 3 rfl) ?_
  refine lv_iconst (pc := 1) (v := 0) hx hb (dd dL_row 1 rfl) (by decide) ?_
  refine lv_aload_n (pc := 2) hx hb (dd dL_row 2 rfl) rfl (lv_at hl 0 rfl) ?_
  refine lv_iload_n (pc := 3) hx hb (dd dL_row 3 rfl) rfl (lv_at hl 1 rfl) ?_
  refine lv_iload_n (pc := 4) hx hb (dd dL_row 4 rfl) rfl (lv_at hl 2 rfl) ?_
  refine callVI (pc := 5) (na := 2) (As := [.int v1, .int v2]) (rest := [.int 0, .ref a_out]) (ws2 := ((w_X9_row g a_t a_rows a_rows_ends a_rows_starts a_rows_strips a_rings a_land a_ways a_turns a_plan a_planner a_slants a_reaper a_rows_alongs a_rows_numbers a_rows_sorted a_rows_spare a_rows_tally a_rows_squares c_rows_there c_rows_size c_rows_ends c_rows_starts c_rows_strips) ++ [la g a_out 1 c_out])) M hl.1 hW (t_X9_row l g a_t a_rows a_rows_ends a_rows_starts a_rows_strips a_rings a_land a_ways a_turns a_plan a_planner a_slants a_reaper a_rows_alongs a_rows_numbers a_rows_sorted a_rows_spare a_rows_tally a_rows_squares c_rows_there c_rows_size c_rows_ends c_rows_starts c_rows_strips v1 v2 r0 hr) rfl [0, 1, 2, 3, 4] [5] [1, 2, 3, 4, 5, 0] rfl rfl rfl rfl rfl rfl rfl 0 9 rfl rfl rfl (uw3 187 rfl rfl) (uw3 184 rfl rfl) (uw3 185 rfl rfl) (uw3 186 rfl rfl) (uw1 1 rfl rfl) ⟨by decide, by decide, by decide⟩ rfl ⟨by decide, by decide⟩ (Nat.le_of_ble_eq_true rfl) ⟨Nat.zero_le _, Nat.zero_le _⟩ (dd dL_row 5 rfl) (fun H locs hW => ?_)
  refine lv_i2l (pc := 8) hx hb (dd dL_row 6 rfl) rfl ?_
  refine rLast (pc := 9) M hW 5 rfl (by decide) rfl (ws' := ((w_X9_row g a_t a_rows a_rows_ends a_rows_starts a_rows_strips a_rings a_land a_ways a_turns a_plan a_planner a_slants a_reaper a_rows_alongs a_rows_numbers a_rows_sorted a_rows_spare a_rows_tally a_rows_squares c_rows_there c_rows_size c_rows_ends c_rows_starts c_rows_strips) ++ [la g a_out 1 (vp_updL c_out 0 (Int32.toInt64 r0))])) rfl (dd dL_row 7 rfl) (fun H locs hW => ?_)
  refine lv_goto (pc := 10) (tgt := 21) hx hb (dd dL_row 8 rfl) (by decide) ?_
  refine lv_iconst (pc := 21) (v := 0) hx hb (dd dL_row 15 rfl) (by decide) ?_
  refine W.widen (k := 1) (n := 6) (by decide) (by decide) ?_
  exact ret _ _ _ 22 hW (dd dL_row 16 rfl)
set_option maxHeartbeats 4000000 in
set_option maxRecDepth 100000 in
theorem x_L_row_1 (l : Launch) (hl9 : l.stackTraces = false) (g : G9) (a_t a_rows a_rows_ends a_rows_starts a_rows_strips a_rings a_land a_ways a_turns a_plan a_planner a_slants a_reaper a_rows_alongs a_rows_numbers a_rows_sorted a_rows_spare a_rows_tally a_rows_squares a_out : Nat) (c_rows_there c_rows_size : Int32) (c_rows_ends c_rows_starts c_rows_strips : Ar) (c_out : Nat → Int64) (v1 v2 : Int32) (hr : X9_row c_rows_there c_rows_size c_rows_ends c_rows_starts c_rows_strips v1 v2 = some (.inl 4)) : CtW l g yL_row cL_row 5 [(0, 10, 13, 33), (0, 10, 17, 41)] 8 132 [.ref a_t, .int v1, .int v2, .ref a_out] ((w_X9_row g a_t a_rows a_rows_ends a_rows_starts a_rows_strips a_rings a_land a_ways a_turns a_plan a_planner a_slants a_reaper a_rows_alongs a_rows_numbers a_rows_sorted a_rows_spare a_rows_tally a_rows_squares c_rows_there c_rows_size c_rows_ends c_rows_starts c_rows_strips) ++ [la g a_out 1 c_out]) 1 ((w_X9_row g a_t a_rows a_rows_ends a_rows_starts a_rows_strips a_rings a_land a_ways a_turns a_plan a_planner a_slants a_reaper a_rows_alongs a_rows_numbers a_rows_sorted a_rows_spare a_rows_tally a_rows_squares c_rows_there c_rows_size c_rows_ends c_rows_starts c_rows_strips) ++ [la g a_out 1 c_out]) := by
  refine startW (by decide) (Nat.le_of_ble_eq_true rfl) ?_
  intro p e s m below meth c A Q ls args M hW hl htab ret
  have hx := M.1
  have hb := M.2.1
  have hown := M.2.2.2.1
  have hu := M.2.2.2.2.1
  have hl : lv_has ls 5 [(0, .ref a_t), (1, .int v1), (2, .int v2), (3, .ref a_out)] := hl
  obtain ⟨H, eH⟩ : ∃ z, z = s.heap := ⟨_, rfl⟩
  obtain ⟨locs, eL⟩ : ∃ z, z = ([] : List Loc) := ⟨_, rfl⟩
  rw [← eL] at hW ⊢
  suffices hS9 : WD g s A ((w_X9_row g a_t a_rows a_rows_ends a_rows_starts a_rows_strips a_rings a_land a_ways a_turns a_plan a_planner a_slants a_reaper a_rows_alongs a_rows_numbers a_rows_sorted a_rows_spare a_rows_tally a_rows_squares c_rows_there c_rows_size c_rows_ends c_rows_starts c_rows_strips) ++ [la g a_out 1 c_out]) H locs → W p l e (rm9x 8 132) s m args below meth c H locs 0 0 Q (F0 m 0 ls []) by
    rw [← eH] at hW ⊢
    exact hS9 hW
  clear hW eH eL
  intro hW
  refine lv_aload_n (pc := 0) hx hb (dd dL_row 0 rfl) rfl (lv_at hl 3 rfl) ?_
  refine lv_iconst (pc := 1) (v := 0) hx hb (dd dL_row 1 rfl) (by decide) ?_
  refine lv_aload_n (pc := 2) hx hb (dd dL_row 2 rfl) rfl (lv_at hl 0 rfl) ?_
  refine lv_iload_n (pc := 3) hx hb (dd dL_row 3 rfl) rfl (lv_at hl 1 rfl) ?_
  refine lv_iload_n (pc := 4) hx hb (dd dL_row 4 rfl) rfl (lv_at hl 2 rfl) ?_
  have ex := M.2.2.2.2.2.2.2.2.2.2.2.2.2
  refine callXc (pc := 5) (na := 2) (As := [.int v1, .int v2]) (rest := [.int 0, .ref a_out]) (Or.inr rfl) M hl.1 hW (x_X9_row l hl9 g a_t a_rows a_rows_ends a_rows_starts a_rows_strips a_rings a_land a_ways a_turns a_plan a_planner a_slants a_reaper a_rows_alongs a_rows_numbers a_rows_sorted a_rows_spare a_rows_tally a_rows_squares c_rows_there c_rows_size c_rows_ends c_rows_starts c_rows_strips v1 v2 4 hr) rfl [0, 1, 2, 3, 4] [5] [1, 2, 3, 4, 5, 0] rfl rfl rfl rfl rfl rfl rfl 0 9 rfl rfl rfl (uw3 187 rfl rfl) (uw3 184 rfl rfl) (uw3 185 rfl rfl) (uw3 186 rfl rfl) (uw1 1 rfl rfl) ⟨by decide, by decide, by decide⟩ rfl ⟨by decide, by decide⟩ (Nat.le_of_ble_eq_true rfl) ⟨by decide, by decide⟩ (dd dL_row 5 rfl) (fun q ce H locs hW hce hcv hcl => ?_)
  refine vx_catch (own := RL) (name := "java/lang/IllegalStateException") hown [] ⟨0, 10, 13, 33⟩ [⟨0, 10, 17, 41⟩] (htab.trans rfl) (fun z hz => nomatch hz) (by decide) (by decide) (hu _ (uw3 106 rfl rfl)) (va_Nw.use rfl (ex.2.2.2.1 _ (by decide))) hce hcv hcl ?_
  refine lv_astore (pc := 13) (lv' := [(4, .ref q), (0, .ref a_t), (1, .int v1), (2, .int v2), (3, .ref a_out)]) hx hb (dd dL_row 9 rfl) hl (by decide) rfl (fun ls hl => ?_)
  refine lv_iconst (pc := 15) (v := 1) hx hb (dd dL_row 10 rfl) (by decide) ?_
  exact ret _ _ _ 16 hW (dd dL_row 11 rfl)
set_option maxHeartbeats 4000000 in
set_option maxRecDepth 100000 in
theorem x_L_row_2 (l : Launch) (hl9 : l.stackTraces = false) (g : G9) (a_t a_rows a_rows_ends a_rows_starts a_rows_strips a_rings a_land a_ways a_turns a_plan a_planner a_slants a_reaper a_rows_alongs a_rows_numbers a_rows_sorted a_rows_spare a_rows_tally a_rows_squares a_out : Nat) (c_rows_there c_rows_size : Int32) (c_rows_ends c_rows_starts c_rows_strips : Ar) (c_out : Nat → Int64) (v1 v2 : Int32) (hr : X9_row c_rows_there c_rows_size c_rows_ends c_rows_starts c_rows_strips v1 v2 = some (.inl 5)) : CtW l g yL_row cL_row 5 [(0, 10, 13, 33), (0, 10, 17, 41)] 8 132 [.ref a_t, .int v1, .int v2, .ref a_out] ((w_X9_row g a_t a_rows a_rows_ends a_rows_starts a_rows_strips a_rings a_land a_ways a_turns a_plan a_planner a_slants a_reaper a_rows_alongs a_rows_numbers a_rows_sorted a_rows_spare a_rows_tally a_rows_squares c_rows_there c_rows_size c_rows_ends c_rows_starts c_rows_strips) ++ [la g a_out 1 c_out]) 2 ((w_X9_row g a_t a_rows a_rows_ends a_rows_starts a_rows_strips a_rings a_land a_ways a_turns a_plan a_planner a_slants a_reaper a_rows_alongs a_rows_numbers a_rows_sorted a_rows_spare a_rows_tally a_rows_squares c_rows_there c_rows_size c_rows_ends c_rows_starts c_rows_strips) ++ [la g a_out 1 c_out]) := by
  refine startW (by decide) (Nat.le_of_ble_eq_true rfl) ?_
  intro p e s m below meth c A Q ls args M hW hl htab ret
  have hx := M.1
  have hb := M.2.1
  have hown := M.2.2.2.1
  have hu := M.2.2.2.2.1
  have hl : lv_has ls 5 [(0, .ref a_t), (1, .int v1), (2, .int v2), (3, .ref a_out)] := hl
  obtain ⟨H, eH⟩ : ∃ z, z = s.heap := ⟨_, rfl⟩
  obtain ⟨locs, eL⟩ : ∃ z, z = ([] : List Loc) := ⟨_, rfl⟩
  rw [← eL] at hW ⊢
  suffices hS9 : WD g s A ((w_X9_row g a_t a_rows a_rows_ends a_rows_starts a_rows_strips a_rings a_land a_ways a_turns a_plan a_planner a_slants a_reaper a_rows_alongs a_rows_numbers a_rows_sorted a_rows_spare a_rows_tally a_rows_squares c_rows_there c_rows_size c_rows_ends c_rows_starts c_rows_strips) ++ [la g a_out 1 c_out]) H locs → W p l e (rm9x 8 132) s m args below meth c H locs 0 0 Q (F0 m 0 ls []) by
    rw [← eH] at hW ⊢
    exact hS9 hW
  clear hW eH eL
  intro hW
  refine lv_aload_n (pc := 0) hx hb (dd dL_row 0 rfl) rfl (lv_at hl 3 rfl) ?_
  refine lv_iconst (pc := 1) (v := 0) hx hb (dd dL_row 1 rfl) (by decide) ?_
  refine lv_aload_n (pc := 2) hx hb (dd dL_row 2 rfl) rfl (lv_at hl 0 rfl) ?_
  refine lv_iload_n (pc := 3) hx hb (dd dL_row 3 rfl) rfl (lv_at hl 1 rfl) ?_
  refine lv_iload_n (pc := 4) hx hb (dd dL_row 4 rfl) rfl (lv_at hl 2 rfl) ?_
  have ex := M.2.2.2.2.2.2.2.2.2.2.2.2.2
  refine callXc (pc := 5) (na := 2) (As := [.int v1, .int v2]) (rest := [.int 0, .ref a_out]) (Or.inr rfl) M hl.1 hW (x_X9_row l hl9 g a_t a_rows a_rows_ends a_rows_starts a_rows_strips a_rings a_land a_ways a_turns a_plan a_planner a_slants a_reaper a_rows_alongs a_rows_numbers a_rows_sorted a_rows_spare a_rows_tally a_rows_squares c_rows_there c_rows_size c_rows_ends c_rows_starts c_rows_strips v1 v2 5 hr) rfl [0, 1, 2, 3, 4] [5] [1, 2, 3, 4, 5, 0] rfl rfl rfl rfl rfl rfl rfl 0 9 rfl rfl rfl (uw3 187 rfl rfl) (uw3 184 rfl rfl) (uw3 185 rfl rfl) (uw3 186 rfl rfl) (uw1 1 rfl rfl) ⟨by decide, by decide, by decide⟩ rfl ⟨by decide, by decide⟩ (Nat.le_of_ble_eq_true rfl) ⟨by decide, by decide⟩ (dd dL_row 5 rfl) (fun q ce H locs hW hce hcv hcl => ?_)
  refine vx_catch (own := RL) (name := "java/util/NoSuchElementException") hown [⟨0, 10, 13, 33⟩] ⟨0, 10, 17, 41⟩ [] (htab.trans rfl) (fun z hz => by
      simp only [List.mem_cons, List.not_mem_nil, or_false] at hz
      rcases hz with rfl
      · exact Or.inr ⟨by decide, "java/lang/IllegalStateException", hu _ (uw3 106 rfl rfl), ex.2.2.2.2.1 _ (by decide) _ (by decide) (by decide)⟩) (by decide) (by decide) (hu _ (uw3 183 rfl rfl)) (va_Nw.use rfl (ex.2.2.2.1 _ (by decide))) hce hcv hcl ?_
  refine lv_astore (pc := 17) (lv' := [(4, .ref q), (0, .ref a_t), (1, .int v1), (2, .int v2), (3, .ref a_out)]) hx hb (dd dL_row 12 rfl) hl (by decide) rfl (fun ls hl => ?_)
  refine lv_iconst (pc := 19) (v := 2) hx hb (dd dL_row 13 rfl) (by decide) ?_
  exact ret _ _ _ 20 hW (dd dL_row 14 rfl)
set_option maxHeartbeats 4000000 in
set_option maxRecDepth 100000 in
theorem n_L_rowOf (l : Launch) (g : G9) (a_t a_rows a_rows_numbers a_rings a_land a_ways a_turns a_plan a_planner a_slants a_reaper a_rows_strips a_rows_alongs a_rows_sorted a_rows_spare a_rows_tally a_rows_squares a_rows_starts a_rows_ends a_out : Nat) (c_rows_there c_rows_size : Int32) (c_rows_numbers : Ar) (c_out : Nat → Int64) (v1 v2 r0 : Int32) (hr : X9_rowOf c_rows_there c_rows_numbers v1 v2 = some (.inr r0)) : CtW l g yL_rowOf cL_rowOf 5 [(0, 10, 13, 33)] 8 132 [.ref a_t, .int v1, .int v2, .ref a_out] ((w_X9_rowOf g a_t a_rows a_rows_numbers a_rings a_land a_ways a_turns a_plan a_planner a_slants a_reaper a_rows_strips a_rows_alongs a_rows_sorted a_rows_spare a_rows_tally a_rows_squares a_rows_starts a_rows_ends c_rows_there c_rows_size c_rows_numbers) ++ [la g a_out 1 c_out]) 0 ((w_X9_rowOf g a_t a_rows a_rows_numbers a_rings a_land a_ways a_turns a_plan a_planner a_slants a_reaper a_rows_strips a_rows_alongs a_rows_sorted a_rows_spare a_rows_tally a_rows_squares a_rows_starts a_rows_ends c_rows_there c_rows_size c_rows_numbers) ++ [la g a_out 1 (vp_updL c_out 0 (Int32.toInt64 r0))]) := by
  refine startW (by decide) (Nat.le_of_ble_eq_true rfl) ?_
  intro p e s m below meth c A Q ls args M hW hl htab ret
  have hx := M.1
  have hb := M.2.1
  have hown := M.2.2.2.1
  have hu := M.2.2.2.2.1
  have hl : lv_has ls 5 [(0, .ref a_t), (1, .int v1), (2, .int v2), (3, .ref a_out)] := hl
  obtain ⟨H, eH⟩ : ∃ z, z = s.heap := ⟨_, rfl⟩
  obtain ⟨locs, eL⟩ : ∃ z, z = ([] : List Loc) := ⟨_, rfl⟩
  rw [← eL] at hW ⊢
  suffices hS9 : WD g s A ((w_X9_rowOf g a_t a_rows a_rows_numbers a_rings a_land a_ways a_turns a_plan a_planner a_slants a_reaper a_rows_strips a_rows_alongs a_rows_sorted a_rows_spare a_rows_tally a_rows_squares a_rows_starts a_rows_ends c_rows_there c_rows_size c_rows_numbers) ++ [la g a_out 1 c_out]) H locs → W p l e (rm9x 8 132) s m args below meth c H locs 0 0 Q (F0 m 0 ls []) by
    rw [← eH] at hW ⊢
    exact hS9 hW
  clear hW eH eL
  intro hW
  refine lv_aload_n (pc := 0) hx hb (dd dL_rowOf 0 rfl) rfl (lv_at hl 3 rfl) ?_
  refine lv_iconst (pc := 1) (v := 0) hx hb (dd dL_rowOf 1 rfl) (by decide) ?_
  refine lv_aload_n (pc := 2) hx hb (dd dL_rowOf 2 rfl) rfl (lv_at hl 0 rfl) ?_
  refine lv_iload_n (pc := 3) hx hb (dd dL_rowOf 3 rfl) rfl (lv_at hl 1 rfl) ?_
  refine lv_iload_n (pc := 4) hx hb (dd dL_rowOf 4 rfl) rfl (lv_at hl 2 rfl) ?_
  refine callVI (pc := 5) (na := 2) (As := [.int v1, .int v2]) (rest := [.int 0, .ref a_out]) (ws2 := ((w_X9_rowOf g a_t a_rows a_rows_numbers a_rings a_land a_ways a_turns a_plan a_planner a_slants a_reaper a_rows_strips a_rows_alongs a_rows_sorted a_rows_spare a_rows_tally a_rows_squares a_rows_starts a_rows_ends c_rows_there c_rows_size c_rows_numbers) ++ [la g a_out 1 c_out])) M hl.1 hW (t_X9_rowOf l g a_t a_rows a_rows_numbers a_rings a_land a_ways a_turns a_plan a_planner a_slants a_reaper a_rows_strips a_rows_alongs a_rows_sorted a_rows_spare a_rows_tally a_rows_squares a_rows_starts a_rows_ends c_rows_there c_rows_size c_rows_numbers v1 v2 r0 hr) rfl [0, 1, 2] [3] [1, 2, 3, 0] rfl rfl rfl rfl rfl rfl rfl 0 9 rfl rfl rfl (uw3 216 rfl rfl) (uw3 213 rfl rfl) (uw3 214 rfl rfl) (uw3 215 rfl rfl) (uw1 1 rfl rfl) ⟨by decide, by decide, by decide⟩ rfl ⟨by decide, by decide⟩ (Nat.le_of_ble_eq_true rfl) ⟨Nat.zero_le _, Nat.zero_le _⟩ (dd dL_rowOf 5 rfl) (fun H locs hW => ?_)
  refine lv_i2l (pc := 8) hx hb (dd dL_rowOf 6 rfl) rfl ?_
  refine rLast (pc := 9) M hW 3 rfl (by decide) rfl (ws' := ((w_X9_rowOf g a_t a_rows a_rows_numbers a_rings a_land a_ways a_turns a_plan a_planner a_slants a_reaper a_rows_strips a_rows_alongs a_rows_sorted a_rows_spare a_rows_tally a_rows_squares a_rows_starts a_rows_ends c_rows_there c_rows_size c_rows_numbers) ++ [la g a_out 1 (vp_updL c_out 0 (Int32.toInt64 r0))])) rfl (dd dL_rowOf 7 rfl) (fun H locs hW => ?_)
  refine lv_goto (pc := 10) (tgt := 17) hx hb (dd dL_rowOf 8 rfl) (by decide) ?_
  refine lv_iconst (pc := 17) (v := 0) hx hb (dd dL_rowOf 12 rfl) (by decide) ?_
  refine W.widen (k := 1) (n := 6) (by decide) (by decide) ?_
  exact ret _ _ _ 18 hW (dd dL_rowOf 13 rfl)
set_option maxHeartbeats 4000000 in
set_option maxRecDepth 100000 in
theorem x_L_rowOf_1 (l : Launch) (hl9 : l.stackTraces = false) (g : G9) (a_t a_rows a_rows_numbers a_rings a_land a_ways a_turns a_plan a_planner a_slants a_reaper a_rows_strips a_rows_alongs a_rows_sorted a_rows_spare a_rows_tally a_rows_squares a_rows_starts a_rows_ends a_out : Nat) (c_rows_there c_rows_size : Int32) (c_rows_numbers : Ar) (c_out : Nat → Int64) (v1 v2 : Int32) (hr : X9_rowOf c_rows_there c_rows_numbers v1 v2 = some (.inl 4)) : CtW l g yL_rowOf cL_rowOf 5 [(0, 10, 13, 33)] 8 132 [.ref a_t, .int v1, .int v2, .ref a_out] ((w_X9_rowOf g a_t a_rows a_rows_numbers a_rings a_land a_ways a_turns a_plan a_planner a_slants a_reaper a_rows_strips a_rows_alongs a_rows_sorted a_rows_spare a_rows_tally a_rows_squares a_rows_starts a_rows_ends c_rows_there c_rows_size c_rows_numbers) ++ [la g a_out 1 c_out]) 1 ((w_X9_rowOf g a_t a_rows a_rows_numbers a_rings a_land a_ways a_turns a_plan a_planner a_slants a_reaper a_rows_strips a_rows_alongs a_rows_sorted a_rows_spare a_rows_tally a_rows_squares a_rows_starts a_rows_ends c_rows_there c_rows_size c_rows_numbers) ++ [la g a_out 1 c_out]) := by
  refine startW (by decide) (Nat.le_of_ble_eq_true rfl) ?_
  intro p e s m below meth c A Q ls args M hW hl htab ret
  have hx := M.1
  have hb := M.2.1
  have hown := M.2.2.2.1
  have hu := M.2.2.2.2.1
  have hl : lv_has ls 5 [(0, .ref a_t), (1, .int v1), (2, .int v2), (3, .ref a_out)] := hl
  obtain ⟨H, eH⟩ : ∃ z, z = s.heap := ⟨_, rfl⟩
  obtain ⟨locs, eL⟩ : ∃ z, z = ([] : List Loc) := ⟨_, rfl⟩
  rw [← eL] at hW ⊢
  suffices hS9 : WD g s A ((w_X9_rowOf g a_t a_rows a_rows_numbers a_rings a_land a_ways a_turns a_plan a_planner a_slants a_reaper a_rows_strips a_rows_alongs a_rows_sorted a_rows_spare a_rows_tally a_rows_squares a_rows_starts a_rows_ends c_rows_there c_rows_size c_rows_numbers) ++ [la g a_out 1 c_out]) H locs → W p l e (rm9x 8 132) s m args below meth c H locs 0 0 Q (F0 m 0 ls []) by
    rw [← eH] at hW ⊢
    exact hS9 hW
  clear hW eH eL
  intro hW
  refine lv_aload_n (pc := 0) hx hb (dd dL_rowOf 0 rfl) rfl (lv_at hl 3 rfl) ?_
  refine lv_iconst (pc := 1) (v := 0) hx hb (dd dL_rowOf 1 rfl) (by decide) ?_
  refine lv_aload_n (pc := 2) hx hb (dd dL_rowOf 2 rfl) rfl (lv_at hl 0 rfl) ?_
  refine lv_iload_n (pc := 3) hx hb (dd dL_rowOf 3 rfl) rfl (lv_at hl 1 rfl) ?_
  refine lv_iload_n (pc := 4) hx hb (dd dL_rowOf 4 rfl) rfl (lv_at hl 2 rfl) ?_
  have ex := M.2.2.2.2.2.2.2.2.2.2.2.2.2
  refine callXc (pc := 5) (na := 2) (As := [.int v1, .int v2]) (rest := [.int 0, .ref a_out]) (Or.inr rfl) M hl.1 hW (x_X9_rowOf l hl9 g a_t a_rows a_rows_numbers a_rings a_land a_ways a_turns a_plan a_planner a_slants a_reaper a_rows_strips a_rows_alongs a_rows_sorted a_rows_spare a_rows_tally a_rows_squares a_rows_starts a_rows_ends c_rows_there c_rows_size c_rows_numbers v1 v2 4 hr) rfl [0, 1, 2] [3] [1, 2, 3, 0] rfl rfl rfl rfl rfl rfl rfl 0 9 rfl rfl rfl (uw3 216 rfl rfl) (uw3 213 rfl rfl) (uw3 214 rfl rfl) (uw3 215 rfl rfl) (uw1 1 rfl rfl) ⟨by decide, by decide, by decide⟩ rfl ⟨by decide, by decide⟩ (Nat.le_of_ble_eq_true rfl) ⟨by decide, by decide⟩ (dd dL_rowOf 5 rfl) (fun q ce H locs hW hce hcv hcl => ?_)
  refine vx_catch (own := RL) (name := "java/lang/IllegalStateException") hown [] ⟨0, 10, 13, 33⟩ [] (htab.trans rfl) (fun z hz => nomatch hz) (by decide) (by decide) (hu _ (uw3 106 rfl rfl)) (va_Nw.use rfl (ex.2.2.2.1 _ (by decide))) hce hcv hcl ?_
  refine lv_astore (pc := 13) (lv' := [(4, .ref q), (0, .ref a_t), (1, .int v1), (2, .int v2), (3, .ref a_out)]) hx hb (dd dL_rowOf 9 rfl) hl (by decide) rfl (fun ls hl => ?_)
  refine lv_iconst (pc := 15) (v := 1) hx hb (dd dL_rowOf 10 rfl) (by decide) ?_
  exact ret _ _ _ 16 hW (dd dL_rowOf 11 rfl)
set_option maxHeartbeats 4000000 in
set_option maxRecDepth 100000 in
theorem n_L_way (l : Launch) (g : G9) (a_t a_land a_ways a_land_kinds a_land_nears a_ways_lengths a_ways_slantwises a_ways_straights a_rings a_rows a_turns a_plan a_planner a_slants a_reaper a_land_depths a_out : Nat) (c_land_laid c_land_head c_land_fieldCount c_land_innerCount c_ways_straightSize c_ways_slantwiseSize : Int32) (c_land_kinds c_land_nears c_ways_lengths c_ways_slantwises c_ways_straights : Ar) (c_out : Nat → Int64) (v1 v2 v3 v4 r0 o_ways_straightSize o_ways_slantwiseSize : Int32) (o_ways_lengths o_ways_slantwises o_ways_straights : Ar) (hr : X9_way c_land_laid c_ways_straightSize c_ways_slantwiseSize c_land_kinds c_land_nears c_ways_lengths c_ways_slantwises c_ways_straights v1 v2 v3 v4 = some (.inr (r0, o_ways_straightSize, o_ways_slantwiseSize, o_ways_lengths, o_ways_slantwises, o_ways_straights))) : CtW l g yL_way cL_way 7 [(0, 14, 17, 33)] 8 136 [.ref a_t, .int v1, .int v2, .int v3, .int v4, .ref a_out] ((w_X9_way g a_t a_land a_ways a_land_kinds a_land_nears a_ways_lengths a_ways_slantwises a_ways_straights a_rings a_rows a_turns a_plan a_planner a_slants a_reaper a_land_depths c_land_laid c_land_head c_land_fieldCount c_land_innerCount c_ways_straightSize c_ways_slantwiseSize c_land_kinds c_land_nears c_ways_lengths c_ways_slantwises c_ways_straights) ++ [la g a_out 1 c_out]) 0 ((w_X9_way g a_t a_land a_ways a_land_kinds a_land_nears a_ways_lengths a_ways_slantwises a_ways_straights a_rings a_rows a_turns a_plan a_planner a_slants a_reaper a_land_depths c_land_laid c_land_head c_land_fieldCount c_land_innerCount o_ways_straightSize o_ways_slantwiseSize c_land_kinds c_land_nears o_ways_lengths o_ways_slantwises o_ways_straights) ++ [la g a_out 1 (vp_updL c_out 0 (Int32.toInt64 r0))]) := by
  refine startW (by decide) (Nat.le_of_ble_eq_true rfl) ?_
  intro p e s m below meth c A Q ls args M hW hl htab ret
  have hx := M.1
  have hb := M.2.1
  have hown := M.2.2.2.1
  have hu := M.2.2.2.2.1
  have hl : lv_has ls 7 [(0, .ref a_t), (1, .int v1), (2, .int v2), (3, .int v3), (4, .int v4), (5, .ref a_out)] := hl
  obtain ⟨H, eH⟩ : ∃ z, z = s.heap := ⟨_, rfl⟩
  obtain ⟨locs, eL⟩ : ∃ z, z = ([] : List Loc) := ⟨_, rfl⟩
  rw [← eL] at hW ⊢
  suffices hS9 : WD g s A ((w_X9_way g a_t a_land a_ways a_land_kinds a_land_nears a_ways_lengths a_ways_slantwises a_ways_straights a_rings a_rows a_turns a_plan a_planner a_slants a_reaper a_land_depths c_land_laid c_land_head c_land_fieldCount c_land_innerCount c_ways_straightSize c_ways_slantwiseSize c_land_kinds c_land_nears c_ways_lengths c_ways_slantwises c_ways_straights) ++ [la g a_out 1 c_out]) H locs → W p l e (rm9x 8 136) s m args below meth c H locs 0 0 Q (F0 m 0 ls []) by
    rw [← eH] at hW ⊢
    exact hS9 hW
  clear hW eH eL
  intro hW
  refine lv_aload (pc := 0) hx hb (dd dL_way 0 rfl) (lv_at hl 5 rfl) ?_
  refine lv_iconst (pc := 2) (v := 0) hx hb (dd dL_way 1 rfl) (by decide) ?_
  refine lv_aload_n (pc := 3) hx hb (dd dL_way 2 rfl) rfl (lv_at hl 0 rfl) ?_
  refine lv_iload_n (pc := 4) hx hb (dd dL_way 3 rfl) rfl (lv_at hl 1 rfl) ?_
  refine lv_iload_n (pc := 5) hx hb (dd dL_way 4 rfl) rfl (lv_at hl 2 rfl) ?_
  refine lv_iload_n (pc := 6) hx hb (dd dL_way 5 rfl) rfl (lv_at hl 3 rfl) ?_
  refine lv_iload (pc := 7) hx hb (dd dL_way 6 rfl) (lv_at hl 4 rfl) ?_
  refine callVI (pc := 9) (na := 4) (As := [.int v1, .int v2, .int v3, .int v4]) (rest := [.int 0, .ref a_out]) (ws2 := ((w_X9_way g a_t a_land a_ways a_land_kinds a_land_nears a_ways_lengths a_ways_slantwises a_ways_straights a_rings a_rows a_turns a_plan a_planner a_slants a_reaper a_land_depths c_land_laid c_land_head c_land_fieldCount c_land_innerCount o_ways_straightSize o_ways_slantwiseSize c_land_kinds c_land_nears o_ways_lengths o_ways_slantwises o_ways_straights) ++ [la g a_out 1 c_out])) M hl.1 hW (t_X9_way l g a_t a_land a_ways a_land_kinds a_land_nears a_ways_lengths a_ways_slantwises a_ways_straights a_rings a_rows a_turns a_plan a_planner a_slants a_reaper a_land_depths c_land_laid c_land_head c_land_fieldCount c_land_innerCount c_ways_straightSize c_ways_slantwiseSize c_land_kinds c_land_nears c_ways_lengths c_ways_slantwises c_ways_straights v1 v2 v3 v4 r0 o_ways_straightSize o_ways_slantwiseSize o_ways_lengths o_ways_slantwises o_ways_straights hr) rfl [0, 1, 2, 3, 4, 5, 6, 7] [8] [1, 2, 3, 4, 5, 6, 7, 8, 0] rfl rfl rfl rfl rfl rfl rfl 0 9 rfl rfl rfl (uw3 223 rfl rfl) (uw3 220 rfl rfl) (uw3 221 rfl rfl) (uw3 222 rfl rfl) (uw1 1 rfl rfl) ⟨by decide, by decide, by decide⟩ rfl ⟨by decide, by decide⟩ (Nat.le_of_ble_eq_true rfl) ⟨Nat.zero_le _, Nat.zero_le _⟩ (dd dL_way 7 rfl) (fun H locs hW => ?_)
  refine lv_i2l (pc := 12) hx hb (dd dL_way 8 rfl) rfl ?_
  refine rLast (pc := 13) M hW 8 rfl (by decide) rfl (ws' := ((w_X9_way g a_t a_land a_ways a_land_kinds a_land_nears a_ways_lengths a_ways_slantwises a_ways_straights a_rings a_rows a_turns a_plan a_planner a_slants a_reaper a_land_depths c_land_laid c_land_head c_land_fieldCount c_land_innerCount o_ways_straightSize o_ways_slantwiseSize c_land_kinds c_land_nears o_ways_lengths o_ways_slantwises o_ways_straights) ++ [la g a_out 1 (vp_updL c_out 0 (Int32.toInt64 r0))])) rfl (dd dL_way 9 rfl) (fun H locs hW => ?_)
  refine lv_goto (pc := 14) (tgt := 21) hx hb (dd dL_way 10 rfl) (by decide) ?_
  refine lv_iconst (pc := 21) (v := 0) hx hb (dd dL_way 14 rfl) (by decide) ?_
  refine W.widen (k := 1) (n := 6) (by decide) (by decide) ?_
  exact ret _ _ _ 22 hW (dd dL_way 15 rfl)
set_option maxHeartbeats 4000000 in
set_option maxRecDepth 100000 in
theorem x_L_way_1 (l : Launch) (hl9 : l.stackTraces = false) (g : G9) (a_t a_land a_ways a_land_kinds a_land_nears a_ways_lengths a_ways_slantwises a_ways_straights a_rings a_rows a_turns a_plan a_planner a_slants a_reaper a_land_depths a_out : Nat) (c_land_laid c_land_head c_land_fieldCount c_land_innerCount c_ways_straightSize c_ways_slantwiseSize : Int32) (c_land_kinds c_land_nears c_ways_lengths c_ways_slantwises c_ways_straights : Ar) (c_out : Nat → Int64) (v1 v2 v3 v4 : Int32) (hr : X9_way c_land_laid c_ways_straightSize c_ways_slantwiseSize c_land_kinds c_land_nears c_ways_lengths c_ways_slantwises c_ways_straights v1 v2 v3 v4 = some (.inl 4)) : CtW l g yL_way cL_way 7 [(0, 14, 17, 33)] 8 136 [.ref a_t, .int v1, .int v2, .int v3, .int v4, .ref a_out] ((w_X9_way g a_t a_land a_ways a_land_kinds a_land_nears a_ways_lengths a_ways_slantwises a_ways_straights a_rings a_rows a_turns a_plan a_planner a_slants a_reaper a_land_depths c_land_laid c_land_head c_land_fieldCount c_land_innerCount c_ways_straightSize c_ways_slantwiseSize c_land_kinds c_land_nears c_ways_lengths c_ways_slantwises c_ways_straights) ++ [la g a_out 1 c_out]) 1 ((w_X9_way g a_t a_land a_ways a_land_kinds a_land_nears a_ways_lengths a_ways_slantwises a_ways_straights a_rings a_rows a_turns a_plan a_planner a_slants a_reaper a_land_depths c_land_laid c_land_head c_land_fieldCount c_land_innerCount c_ways_straightSize c_ways_slantwiseSize c_land_kinds c_land_nears c_ways_lengths c_ways_slantwises c_ways_straights) ++ [la g a_out 1 c_out]) := by
  refine startW (by decide) (Nat.le_of_ble_eq_true rfl) ?_
  intro p e s m below meth c A Q ls args M hW hl htab ret
  have hx := M.1
  have hb := M.2.1
  have hown := M.2.2.2.1
  have hu := M.2.2.2.2.1
  have hl : lv_has ls 7 [(0, .ref a_t), (1, .int v1), (2, .int v2), (3, .int v3), (4, .int v4), (5, .ref a_out)] := hl
  obtain ⟨H, eH⟩ : ∃ z, z = s.heap := ⟨_, rfl⟩
  obtain ⟨locs, eL⟩ : ∃ z, z = ([] : List Loc) := ⟨_, rfl⟩
  rw [← eL] at hW ⊢
  suffices hS9 : WD g s A ((w_X9_way g a_t a_land a_ways a_land_kinds a_land_nears a_ways_lengths a_ways_slantwises a_ways_straights a_rings a_rows a_turns a_plan a_planner a_slants a_reaper a_land_depths c_land_laid c_land_head c_land_fieldCount c_land_innerCount c_ways_straightSize c_ways_slantwiseSize c_land_kinds c_land_nears c_ways_lengths c_ways_slantwises c_ways_straights) ++ [la g a_out 1 c_out]) H locs → W p l e (rm9x 8 136) s m args below meth c H locs 0 0 Q (F0 m 0 ls []) by
    rw [← eH] at hW ⊢
    exact hS9 hW
  clear hW eH eL
  intro hW
  refine lv_aload (pc := 0) hx hb (dd dL_way 0 rfl) (lv_at hl 5 rfl) ?_
  refine lv_iconst (pc := 2) (v := 0) hx hb (dd dL_way 1 rfl) (by decide) ?_
  refine lv_aload_n (pc := 3) hx hb (dd dL_way 2 rfl) rfl (lv_at hl 0 rfl) ?_
  refine lv_iload_n (pc := 4) hx hb (dd dL_way 3 rfl) rfl (lv_at hl 1 rfl) ?_
  refine lv_iload_n (pc := 5) hx hb (dd dL_way 4 rfl) rfl (lv_at hl 2 rfl) ?_
  refine lv_iload_n (pc := 6) hx hb (dd dL_way 5 rfl) rfl (lv_at hl 3 rfl) ?_
  refine lv_iload (pc := 7) hx hb (dd dL_way 6 rfl) (lv_at hl 4 rfl) ?_
  have ex := M.2.2.2.2.2.2.2.2.2.2.2.2.2
  refine callXc (pc := 9) (na := 4) (As := [.int v1, .int v2, .int v3, .int v4]) (rest := [.int 0, .ref a_out]) (Or.inr rfl) M hl.1 hW (x_X9_way l hl9 g a_t a_land a_ways a_land_kinds a_land_nears a_ways_lengths a_ways_slantwises a_ways_straights a_rings a_rows a_turns a_plan a_planner a_slants a_reaper a_land_depths c_land_laid c_land_head c_land_fieldCount c_land_innerCount c_ways_straightSize c_ways_slantwiseSize c_land_kinds c_land_nears c_ways_lengths c_ways_slantwises c_ways_straights v1 v2 v3 v4 4 hr) rfl [0, 1, 2, 3, 4, 5, 6, 7] [8] [1, 2, 3, 4, 5, 6, 7, 8, 0] rfl rfl rfl rfl rfl rfl rfl 0 9 rfl rfl rfl (uw3 223 rfl rfl) (uw3 220 rfl rfl) (uw3 221 rfl rfl) (uw3 222 rfl rfl) (uw1 1 rfl rfl) ⟨by decide, by decide, by decide⟩ rfl ⟨by decide, by decide⟩ (Nat.le_of_ble_eq_true rfl) ⟨by decide, by decide⟩ (dd dL_way 7 rfl) (fun q ce H locs hW hce hcv hcl => ?_)
  refine vx_catch (own := RL) (name := "java/lang/IllegalStateException") hown [] ⟨0, 14, 17, 33⟩ [] (htab.trans rfl) (fun z hz => nomatch hz) (by decide) (by decide) (hu _ (uw3 106 rfl rfl)) (va_Nw.use rfl (ex.2.2.2.1 _ (by decide))) hce hcv hcl ?_
  refine lv_astore (pc := 17) (lv' := [(6, .ref q), (0, .ref a_t), (1, .int v1), (2, .int v2), (3, .int v3), (4, .int v4), (5, .ref a_out)]) hx hb (dd dL_way 11 rfl) hl (by decide) rfl (fun ls hl => ?_)
  refine lv_iconst (pc := 19) (v := 1) hx hb (dd dL_way 12 rfl) (by decide) ?_
  exact ret _ _ _ 20 hW (dd dL_way 13 rfl)
set_option maxHeartbeats 4000000 in
set_option maxRecDepth 100000 in
theorem n_L_turn (l : Launch) (g : G9) (a_t a_land a_rows a_turns a_ways a_land_kinds a_land_nears a_rows_ends a_turns_known a_turns_lengths a_ways_lengths a_ways_slantwises a_ways_straights a_rings a_plan a_planner a_slants a_reaper a_land_depths a_rows_strips a_rows_alongs a_rows_numbers a_rows_sorted a_rows_spare a_rows_tally a_rows_squares a_rows_starts a_out : Nat) (c_land_laid c_land_head c_land_fieldCount c_land_innerCount c_rows_there c_rows_size c_ways_straightSize c_ways_slantwiseSize : Int32) (c_land_kinds c_land_nears c_rows_ends c_turns_known c_turns_lengths c_ways_lengths c_ways_slantwises c_ways_straights : Ar) (c_out : Nat → Int64) (v1 v2 r0 o_ways_straightSize o_ways_slantwiseSize : Int32) (o_turns_known o_turns_lengths o_ways_lengths o_ways_slantwises o_ways_straights : Ar) (hr : X9_turn c_rows_there c_rows_size c_ways_straightSize c_ways_slantwiseSize c_land_kinds c_land_nears c_rows_ends c_turns_known c_turns_lengths c_ways_lengths c_ways_slantwises c_ways_straights v1 v2 = some (.inr (r0, o_ways_straightSize, o_ways_slantwiseSize, o_turns_known, o_turns_lengths, o_ways_lengths, o_ways_slantwises, o_ways_straights))) : CtW l g yL_turn cL_turn 5 [(0, 10, 13, 33), (0, 10, 17, 41)] 8 133 [.ref a_t, .int v1, .int v2, .ref a_out] ((w_X9_turn g a_t a_land a_rows a_turns a_ways a_land_kinds a_land_nears a_rows_ends a_turns_known a_turns_lengths a_ways_lengths a_ways_slantwises a_ways_straights a_rings a_plan a_planner a_slants a_reaper a_land_depths a_rows_strips a_rows_alongs a_rows_numbers a_rows_sorted a_rows_spare a_rows_tally a_rows_squares a_rows_starts c_land_laid c_land_head c_land_fieldCount c_land_innerCount c_rows_there c_rows_size c_ways_straightSize c_ways_slantwiseSize c_land_kinds c_land_nears c_rows_ends c_turns_known c_turns_lengths c_ways_lengths c_ways_slantwises c_ways_straights) ++ [la g a_out 1 c_out]) 0 ((w_X9_turn g a_t a_land a_rows a_turns a_ways a_land_kinds a_land_nears a_rows_ends a_turns_known a_turns_lengths a_ways_lengths a_ways_slantwises a_ways_straights a_rings a_plan a_planner a_slants a_reaper a_land_depths a_rows_strips a_rows_alongs a_rows_numbers a_rows_sorted a_rows_spare a_rows_tally a_rows_squares a_rows_starts c_land_laid c_land_head c_land_fieldCount c_land_innerCount c_rows_there c_rows_size o_ways_straightSize o_ways_slantwiseSize c_land_kinds c_land_nears c_rows_ends o_turns_known o_turns_lengths o_ways_lengths o_ways_slantwises o_ways_straights) ++ [la g a_out 1 (vp_updL c_out 0 (Int32.toInt64 r0))]) := by
  refine startW (by decide) (Nat.le_of_ble_eq_true rfl) ?_
  intro p e s m below meth c A Q ls args M hW hl htab ret
  have hx := M.1
  have hb := M.2.1
  have hown := M.2.2.2.1
  have hu := M.2.2.2.2.1
  have hl : lv_has ls 5 [(0, .ref a_t), (1, .int v1), (2, .int v2), (3, .ref a_out)] := hl
  obtain ⟨H, eH⟩ : ∃ z, z = s.heap := ⟨_, rfl⟩
  obtain ⟨locs, eL⟩ : ∃ z, z = ([] : List Loc) := ⟨_, rfl⟩
  rw [← eL] at hW ⊢
  suffices hS9 : WD g s A ((w_X9_turn g a_t a_land a_rows a_turns a_ways a_land_kinds a_land_nears a_rows_ends a_turns_known a_turns_lengths a_ways_lengths a_ways_slantwises a_ways_straights a_rings a_plan a_planner a_slants a_reaper a_land_depths a_rows_strips a_rows_alongs a_rows_numbers a_rows_sorted a_rows_spare a_rows_tally a_rows_squares a_rows_starts c_land_laid c_land_head c_land_fieldCount c_land_innerCount c_rows_there c_rows_size c_ways_straightSize c_ways_slantwiseSize c_land_kinds c_land_nears c_rows_ends c_turns_known c_turns_lengths c_ways_lengths c_ways_slantwises c_ways_straights) ++ [la g a_out 1 c_out]) H locs → W p l e (rm9x 8 133) s m args below meth c H locs 0 0 Q (F0 m 0 ls []) by
    rw [← eH] at hW ⊢
    exact hS9 hW
  clear hW eH eL
  intro hW
  refine lv_aload_n (pc := 0) hx hb (dd dL_turn 0 rfl) rfl (lv_at hl 3 rfl) ?_
  refine lv_iconst (pc := 1) (v := 0) hx hb (dd dL_turn 1 rfl) (by decide) ?_
  refine lv_aload_n (pc := 2) hx hb (dd dL_turn 2 rfl) rfl (lv_at hl 0 rfl) ?_
  refine lv_iload_n (pc := 3) hx hb (dd dL_turn 3 rfl) rfl (lv_at hl 1 rfl) ?_
  refine lv_iload_n (pc := 4) hx hb (dd dL_turn 4 rfl) rfl (lv_at hl 2 rfl) ?_
  refine callVI (pc := 5) (na := 2) (As := [.int v1, .int v2]) (rest := [.int 0, .ref a_out]) (ws2 := ((w_X9_turn g a_t a_land a_rows a_turns a_ways a_land_kinds a_land_nears a_rows_ends a_turns_known a_turns_lengths a_ways_lengths a_ways_slantwises a_ways_straights a_rings a_plan a_planner a_slants a_reaper a_land_depths a_rows_strips a_rows_alongs a_rows_numbers a_rows_sorted a_rows_spare a_rows_tally a_rows_squares a_rows_starts c_land_laid c_land_head c_land_fieldCount c_land_innerCount c_rows_there c_rows_size o_ways_straightSize o_ways_slantwiseSize c_land_kinds c_land_nears c_rows_ends o_turns_known o_turns_lengths o_ways_lengths o_ways_slantwises o_ways_straights) ++ [la g a_out 1 c_out])) M hl.1 hW (t_X9_turn l g a_t a_land a_rows a_turns a_ways a_land_kinds a_land_nears a_rows_ends a_turns_known a_turns_lengths a_ways_lengths a_ways_slantwises a_ways_straights a_rings a_plan a_planner a_slants a_reaper a_land_depths a_rows_strips a_rows_alongs a_rows_numbers a_rows_sorted a_rows_spare a_rows_tally a_rows_squares a_rows_starts c_land_laid c_land_head c_land_fieldCount c_land_innerCount c_rows_there c_rows_size c_ways_straightSize c_ways_slantwiseSize c_land_kinds c_land_nears c_rows_ends c_turns_known c_turns_lengths c_ways_lengths c_ways_slantwises c_ways_straights v1 v2 r0 o_ways_straightSize o_ways_slantwiseSize o_turns_known o_turns_lengths o_ways_lengths o_ways_slantwises o_ways_straights hr) rfl [0, 1, 2, 3, 4, 5, 6, 7, 8, 9, 10, 11, 12] [13] [1, 2, 3, 4, 5, 6, 7, 8, 9, 10, 11, 12, 13, 0] rfl rfl rfl rfl rfl rfl rfl 0 9 rfl rfl rfl (uw4 9 rfl rfl) (uw4 6 rfl rfl) (uw4 7 rfl rfl) (uw4 8 rfl rfl) (uw1 1 rfl rfl) ⟨by decide, by decide, by decide⟩ rfl ⟨by decide, by decide⟩ (Nat.le_of_ble_eq_true rfl) ⟨Nat.zero_le _, Nat.zero_le _⟩ (dd dL_turn 5 rfl) (fun H locs hW => ?_)
  refine lv_i2l (pc := 8) hx hb (dd dL_turn 6 rfl) rfl ?_
  refine rLast (pc := 9) M hW 13 rfl (by decide) rfl (ws' := ((w_X9_turn g a_t a_land a_rows a_turns a_ways a_land_kinds a_land_nears a_rows_ends a_turns_known a_turns_lengths a_ways_lengths a_ways_slantwises a_ways_straights a_rings a_plan a_planner a_slants a_reaper a_land_depths a_rows_strips a_rows_alongs a_rows_numbers a_rows_sorted a_rows_spare a_rows_tally a_rows_squares a_rows_starts c_land_laid c_land_head c_land_fieldCount c_land_innerCount c_rows_there c_rows_size o_ways_straightSize o_ways_slantwiseSize c_land_kinds c_land_nears c_rows_ends o_turns_known o_turns_lengths o_ways_lengths o_ways_slantwises o_ways_straights) ++ [la g a_out 1 (vp_updL c_out 0 (Int32.toInt64 r0))])) rfl (dd dL_turn 7 rfl) (fun H locs hW => ?_)
  refine lv_goto (pc := 10) (tgt := 21) hx hb (dd dL_turn 8 rfl) (by decide) ?_
  refine lv_iconst (pc := 21) (v := 0) hx hb (dd dL_turn 15 rfl) (by decide) ?_
  refine W.widen (k := 1) (n := 6) (by decide) (by decide) ?_
  exact ret _ _ _ 22 hW (dd dL_turn 16 rfl)
set_option maxHeartbeats 4000000 in
set_option maxRecDepth 100000 in
theorem x_L_turn_1 (l : Launch) (hl9 : l.stackTraces = false) (g : G9) (a_t a_land a_rows a_turns a_ways a_land_kinds a_land_nears a_rows_ends a_turns_known a_turns_lengths a_ways_lengths a_ways_slantwises a_ways_straights a_rings a_plan a_planner a_slants a_reaper a_land_depths a_rows_strips a_rows_alongs a_rows_numbers a_rows_sorted a_rows_spare a_rows_tally a_rows_squares a_rows_starts a_out : Nat) (c_land_laid c_land_head c_land_fieldCount c_land_innerCount c_rows_there c_rows_size c_ways_straightSize c_ways_slantwiseSize : Int32) (c_land_kinds c_land_nears c_rows_ends c_turns_known c_turns_lengths c_ways_lengths c_ways_slantwises c_ways_straights : Ar) (c_out : Nat → Int64) (v1 v2 : Int32) (hr : X9_turn c_rows_there c_rows_size c_ways_straightSize c_ways_slantwiseSize c_land_kinds c_land_nears c_rows_ends c_turns_known c_turns_lengths c_ways_lengths c_ways_slantwises c_ways_straights v1 v2 = some (.inl 4)) : CtW l g yL_turn cL_turn 5 [(0, 10, 13, 33), (0, 10, 17, 41)] 8 133 [.ref a_t, .int v1, .int v2, .ref a_out] ((w_X9_turn g a_t a_land a_rows a_turns a_ways a_land_kinds a_land_nears a_rows_ends a_turns_known a_turns_lengths a_ways_lengths a_ways_slantwises a_ways_straights a_rings a_plan a_planner a_slants a_reaper a_land_depths a_rows_strips a_rows_alongs a_rows_numbers a_rows_sorted a_rows_spare a_rows_tally a_rows_squares a_rows_starts c_land_laid c_land_head c_land_fieldCount c_land_innerCount c_rows_there c_rows_size c_ways_straightSize c_ways_slantwiseSize c_land_kinds c_land_nears c_rows_ends c_turns_known c_turns_lengths c_ways_lengths c_ways_slantwises c_ways_straights) ++ [la g a_out 1 c_out]) 1 ((w_X9_turn g a_t a_land a_rows a_turns a_ways a_land_kinds a_land_nears a_rows_ends a_turns_known a_turns_lengths a_ways_lengths a_ways_slantwises a_ways_straights a_rings a_plan a_planner a_slants a_reaper a_land_depths a_rows_strips a_rows_alongs a_rows_numbers a_rows_sorted a_rows_spare a_rows_tally a_rows_squares a_rows_starts c_land_laid c_land_head c_land_fieldCount c_land_innerCount c_rows_there c_rows_size c_ways_straightSize c_ways_slantwiseSize c_land_kinds c_land_nears c_rows_ends c_turns_known c_turns_lengths c_ways_lengths c_ways_slantwises c_ways_straights) ++ [la g a_out 1 c_out]) := by
  refine startW (by decide) (Nat.le_of_ble_eq_true rfl) ?_
  intro p e s m below meth c A Q ls args M hW hl htab ret
  have hx := M.1
  have hb := M.2.1
  have hown := M.2.2.2.1
  have hu := M.2.2.2.2.1
  have hl : lv_has ls 5 [(0, .ref a_t), (1, .int v1), (2, .int v2), (3, .ref a_out)] := hl
  obtain ⟨H, eH⟩ : ∃ z, z = s.heap := ⟨_, rfl⟩
  obtain ⟨locs, eL⟩ : ∃ z, z = ([] : List Loc) := ⟨_, rfl⟩
  rw [← eL] at hW ⊢
  suffices hS9 : WD g s A ((w_X9_turn g a_t a_land a_rows a_turns a_ways a_land_kinds a_land_nears a_rows_ends a_turns_known a_turns_lengths a_ways_lengths a_ways_slantwises a_ways_straights a_rings a_plan a_planner a_slants a_reaper a_land_depths a_rows_strips a_rows_alongs a_rows_numbers a_rows_sorted a_rows_spare a_rows_tally a_rows_squares a_rows_starts c_land_laid c_land_head c_land_fieldCount c_land_innerCount c_rows_there c_rows_size c_ways_straightSize c_ways_slantwiseSize c_land_kinds c_land_nears c_rows_ends c_turns_known c_turns_lengths c_ways_lengths c_ways_slantwises c_ways_straights) ++ [la g a_out 1 c_out]) H locs → W p l e (rm9x 8 133) s m args below meth c H locs 0 0 Q (F0 m 0 ls []) by
    rw [← eH] at hW ⊢
    exact hS9 hW
  clear hW eH eL
  intro hW
  refine lv_aload_n (pc := 0) hx hb (dd dL_turn 0 rfl) rfl (lv_at hl 3 rfl) ?_
  refine lv_iconst (pc := 1) (v := 0) hx hb (dd dL_turn 1 rfl) (by decide) ?_
  refine lv_aload_n (pc := 2) hx hb (dd dL_turn 2 rfl) rfl (lv_at hl 0 rfl) ?_
  refine lv_iload_n (pc := 3) hx hb (dd dL_turn 3 rfl) rfl (lv_at hl 1 rfl) ?_
  refine lv_iload_n (pc := 4) hx hb (dd dL_turn 4 rfl) rfl (lv_at hl 2 rfl) ?_
  have ex := M.2.2.2.2.2.2.2.2.2.2.2.2.2
  refine callXc (pc := 5) (na := 2) (As := [.int v1, .int v2]) (rest := [.int 0, .ref a_out]) (Or.inr rfl) M hl.1 hW (x_X9_turn l hl9 g a_t a_land a_rows a_turns a_ways a_land_kinds a_land_nears a_rows_ends a_turns_known a_turns_lengths a_ways_lengths a_ways_slantwises a_ways_straights a_rings a_plan a_planner a_slants a_reaper a_land_depths a_rows_strips a_rows_alongs a_rows_numbers a_rows_sorted a_rows_spare a_rows_tally a_rows_squares a_rows_starts c_land_laid c_land_head c_land_fieldCount c_land_innerCount c_rows_there c_rows_size c_ways_straightSize c_ways_slantwiseSize c_land_kinds c_land_nears c_rows_ends c_turns_known c_turns_lengths c_ways_lengths c_ways_slantwises c_ways_straights v1 v2 4 hr) rfl [0, 1, 2, 3, 4, 5, 6, 7, 8, 9, 10, 11, 12] [13] [1, 2, 3, 4, 5, 6, 7, 8, 9, 10, 11, 12, 13, 0] rfl rfl rfl rfl rfl rfl rfl 0 9 rfl rfl rfl (uw4 9 rfl rfl) (uw4 6 rfl rfl) (uw4 7 rfl rfl) (uw4 8 rfl rfl) (uw1 1 rfl rfl) ⟨by decide, by decide, by decide⟩ rfl ⟨by decide, by decide⟩ (Nat.le_of_ble_eq_true rfl) ⟨by decide, by decide⟩ (dd dL_turn 5 rfl) (fun q ce H locs hW hce hcv hcl => ?_)
  refine vx_catch (own := RL) (name := "java/lang/IllegalStateException") hown [] ⟨0, 10, 13, 33⟩ [⟨0, 10, 17, 41⟩] (htab.trans rfl) (fun z hz => nomatch hz) (by decide) (by decide) (hu _ (uw3 106 rfl rfl)) (va_Nw.use rfl (ex.2.2.2.1 _ (by decide))) hce hcv hcl ?_
  refine lv_astore (pc := 13) (lv' := [(4, .ref q), (0, .ref a_t), (1, .int v1), (2, .int v2), (3, .ref a_out)]) hx hb (dd dL_turn 9 rfl) hl (by decide) rfl (fun ls hl => ?_)
  refine lv_iconst (pc := 15) (v := 1) hx hb (dd dL_turn 10 rfl) (by decide) ?_
  exact ret _ _ _ 16 hW (dd dL_turn 11 rfl)
set_option maxHeartbeats 4000000 in
set_option maxRecDepth 100000 in
theorem x_L_turn_2 (l : Launch) (hl9 : l.stackTraces = false) (g : G9) (a_t a_land a_rows a_turns a_ways a_land_kinds a_land_nears a_rows_ends a_turns_known a_turns_lengths a_ways_lengths a_ways_slantwises a_ways_straights a_rings a_plan a_planner a_slants a_reaper a_land_depths a_rows_strips a_rows_alongs a_rows_numbers a_rows_sorted a_rows_spare a_rows_tally a_rows_squares a_rows_starts a_out : Nat) (c_land_laid c_land_head c_land_fieldCount c_land_innerCount c_rows_there c_rows_size c_ways_straightSize c_ways_slantwiseSize : Int32) (c_land_kinds c_land_nears c_rows_ends c_turns_known c_turns_lengths c_ways_lengths c_ways_slantwises c_ways_straights : Ar) (c_out : Nat → Int64) (v1 v2 : Int32) (hr : X9_turn c_rows_there c_rows_size c_ways_straightSize c_ways_slantwiseSize c_land_kinds c_land_nears c_rows_ends c_turns_known c_turns_lengths c_ways_lengths c_ways_slantwises c_ways_straights v1 v2 = some (.inl 5)) : CtW l g yL_turn cL_turn 5 [(0, 10, 13, 33), (0, 10, 17, 41)] 8 133 [.ref a_t, .int v1, .int v2, .ref a_out] ((w_X9_turn g a_t a_land a_rows a_turns a_ways a_land_kinds a_land_nears a_rows_ends a_turns_known a_turns_lengths a_ways_lengths a_ways_slantwises a_ways_straights a_rings a_plan a_planner a_slants a_reaper a_land_depths a_rows_strips a_rows_alongs a_rows_numbers a_rows_sorted a_rows_spare a_rows_tally a_rows_squares a_rows_starts c_land_laid c_land_head c_land_fieldCount c_land_innerCount c_rows_there c_rows_size c_ways_straightSize c_ways_slantwiseSize c_land_kinds c_land_nears c_rows_ends c_turns_known c_turns_lengths c_ways_lengths c_ways_slantwises c_ways_straights) ++ [la g a_out 1 c_out]) 2 ((w_X9_turn g a_t a_land a_rows a_turns a_ways a_land_kinds a_land_nears a_rows_ends a_turns_known a_turns_lengths a_ways_lengths a_ways_slantwises a_ways_straights a_rings a_plan a_planner a_slants a_reaper a_land_depths a_rows_strips a_rows_alongs a_rows_numbers a_rows_sorted a_rows_spare a_rows_tally a_rows_squares a_rows_starts c_land_laid c_land_head c_land_fieldCount c_land_innerCount c_rows_there c_rows_size c_ways_straightSize c_ways_slantwiseSize c_land_kinds c_land_nears c_rows_ends c_turns_known c_turns_lengths c_ways_lengths c_ways_slantwises c_ways_straights) ++ [la g a_out 1 c_out]) := by
  refine startW (by decide) (Nat.le_of_ble_eq_true rfl) ?_
  intro p e s m below meth c A Q ls args M hW hl htab ret
  have hx := M.1
  have hb := M.2.1
  have hown := M.2.2.2.1
  have hu := M.2.2.2.2.1
  have hl : lv_has ls 5 [(0, .ref a_t), (1, .int v1), (2, .int v2), (3, .ref a_out)] := hl
  obtain ⟨H, eH⟩ : ∃ z, z = s.heap := ⟨_, rfl⟩
  obtain ⟨locs, eL⟩ : ∃ z, z = ([] : List Loc) := ⟨_, rfl⟩
  rw [← eL] at hW ⊢
  suffices hS9 : WD g s A ((w_X9_turn g a_t a_land a_rows a_turns a_ways a_land_kinds a_land_nears a_rows_ends a_turns_known a_turns_lengths a_ways_lengths a_ways_slantwises a_ways_straights a_rings a_plan a_planner a_slants a_reaper a_land_depths a_rows_strips a_rows_alongs a_rows_numbers a_rows_sorted a_rows_spare a_rows_tally a_rows_squares a_rows_starts c_land_laid c_land_head c_land_fieldCount c_land_innerCount c_rows_there c_rows_size c_ways_straightSize c_ways_slantwiseSize c_land_kinds c_land_nears c_rows_ends c_turns_known c_turns_lengths c_ways_lengths c_ways_slantwises c_ways_straights) ++ [la g a_out 1 c_out]) H locs → W p l e (rm9x 8 133) s m args below meth c H locs 0 0 Q (F0 m 0 ls []) by
    rw [← eH] at hW ⊢
    exact hS9 hW
  clear hW eH eL
  intro hW
  refine lv_aload_n (pc := 0) hx hb (dd dL_turn 0 rfl) rfl (lv_at hl 3 rfl) ?_
  refine lv_iconst (pc := 1) (v := 0) hx hb (dd dL_turn 1 rfl) (by decide) ?_
  refine lv_aload_n (pc := 2) hx hb (dd dL_turn 2 rfl) rfl (lv_at hl 0 rfl) ?_
  refine lv_iload_n (pc := 3) hx hb (dd dL_turn 3 rfl) rfl (lv_at hl 1 rfl) ?_
  refine lv_iload_n (pc := 4) hx hb (dd dL_turn 4 rfl) rfl (lv_at hl 2 rfl) ?_
  have ex := M.2.2.2.2.2.2.2.2.2.2.2.2.2
  refine callXc (pc := 5) (na := 2) (As := [.int v1, .int v2]) (rest := [.int 0, .ref a_out]) (Or.inr rfl) M hl.1 hW (x_X9_turn l hl9 g a_t a_land a_rows a_turns a_ways a_land_kinds a_land_nears a_rows_ends a_turns_known a_turns_lengths a_ways_lengths a_ways_slantwises a_ways_straights a_rings a_plan a_planner a_slants a_reaper a_land_depths a_rows_strips a_rows_alongs a_rows_numbers a_rows_sorted a_rows_spare a_rows_tally a_rows_squares a_rows_starts c_land_laid c_land_head c_land_fieldCount c_land_innerCount c_rows_there c_rows_size c_ways_straightSize c_ways_slantwiseSize c_land_kinds c_land_nears c_rows_ends c_turns_known c_turns_lengths c_ways_lengths c_ways_slantwises c_ways_straights v1 v2 5 hr) rfl [0, 1, 2, 3, 4, 5, 6, 7, 8, 9, 10, 11, 12] [13] [1, 2, 3, 4, 5, 6, 7, 8, 9, 10, 11, 12, 13, 0] rfl rfl rfl rfl rfl rfl rfl 0 9 rfl rfl rfl (uw4 9 rfl rfl) (uw4 6 rfl rfl) (uw4 7 rfl rfl) (uw4 8 rfl rfl) (uw1 1 rfl rfl) ⟨by decide, by decide, by decide⟩ rfl ⟨by decide, by decide⟩ (Nat.le_of_ble_eq_true rfl) ⟨by decide, by decide⟩ (dd dL_turn 5 rfl) (fun q ce H locs hW hce hcv hcl => ?_)
  refine vx_catch (own := RL) (name := "java/util/NoSuchElementException") hown [⟨0, 10, 13, 33⟩] ⟨0, 10, 17, 41⟩ [] (htab.trans rfl) (fun z hz => by
      simp only [List.mem_cons, List.not_mem_nil, or_false] at hz
      rcases hz with rfl
      · exact Or.inr ⟨by decide, "java/lang/IllegalStateException", hu _ (uw3 106 rfl rfl), ex.2.2.2.2.1 _ (by decide) _ (by decide) (by decide)⟩) (by decide) (by decide) (hu _ (uw3 183 rfl rfl)) (va_Nw.use rfl (ex.2.2.2.1 _ (by decide))) hce hcv hcl ?_
  refine lv_astore (pc := 17) (lv' := [(4, .ref q), (0, .ref a_t), (1, .int v1), (2, .int v2), (3, .ref a_out)]) hx hb (dd dL_turn 12 rfl) hl (by decide) rfl (fun ls hl => ?_)
  refine lv_iconst (pc := 19) (v := 2) hx hb (dd dL_turn 13 rfl) (by decide) ?_
  exact ret _ _ _ 20 hW (dd dL_turn 14 rfl)
set_option maxHeartbeats 4000000 in
set_option maxRecDepth 100000 in
theorem n_L_best (l : Launch) (g : G9) (a_t a_land a_plan a_planner a_rows a_turns a_ways a_land_kinds a_land_nears a_plan_numbers a_planner_rests a_rows_ends a_turns_known a_turns_lengths a_ways_lengths a_ways_slantwises a_ways_straights a_rings a_slants a_reaper a_land_depths a_rows_strips a_rows_alongs a_rows_numbers a_rows_sorted a_rows_spare a_rows_tally a_rows_squares a_rows_starts a_out : Nat) (c_land_laid c_land_head c_land_fieldCount c_land_innerCount c_plan_there c_plan_size c_rows_there c_rows_size c_ways_straightSize c_ways_slantwiseSize : Int32) (c_land_kinds c_land_nears c_plan_numbers c_planner_rests c_rows_ends c_turns_known c_turns_lengths c_ways_lengths c_ways_slantwises c_ways_straights : Ar) (c_out : Nat → Int64) (r0 o_plan_there o_plan_size o_ways_straightSize o_ways_slantwiseSize : Int32) (o_plan_numbers o_planner_rests o_turns_known o_turns_lengths o_ways_lengths o_ways_slantwises o_ways_straights : Ar) (hr : X9_best c_plan_there c_plan_size c_rows_there c_rows_size c_ways_straightSize c_ways_slantwiseSize c_land_kinds c_land_nears c_plan_numbers c_planner_rests c_rows_ends c_turns_known c_turns_lengths c_ways_lengths c_ways_slantwises c_ways_straights = some (.inr (r0, o_plan_there, o_plan_size, o_ways_straightSize, o_ways_slantwiseSize, o_plan_numbers, o_planner_rests, o_turns_known, o_turns_lengths, o_ways_lengths, o_ways_slantwises, o_ways_straights))) : CtW l g yL_best cL_best 3 [(0, 8, 11, 33)] 8 140 [.ref a_t, .ref a_out] ((w_X9_best g a_t a_land a_plan a_planner a_rows a_turns a_ways a_land_kinds a_land_nears a_plan_numbers a_planner_rests a_rows_ends a_turns_known a_turns_lengths a_ways_lengths a_ways_slantwises a_ways_straights a_rings a_slants a_reaper a_land_depths a_rows_strips a_rows_alongs a_rows_numbers a_rows_sorted a_rows_spare a_rows_tally a_rows_squares a_rows_starts c_land_laid c_land_head c_land_fieldCount c_land_innerCount c_plan_there c_plan_size c_rows_there c_rows_size c_ways_straightSize c_ways_slantwiseSize c_land_kinds c_land_nears c_plan_numbers c_planner_rests c_rows_ends c_turns_known c_turns_lengths c_ways_lengths c_ways_slantwises c_ways_straights) ++ [la g a_out 1 c_out]) 0 ((w_X9_best g a_t a_land a_plan a_planner a_rows a_turns a_ways a_land_kinds a_land_nears a_plan_numbers a_planner_rests a_rows_ends a_turns_known a_turns_lengths a_ways_lengths a_ways_slantwises a_ways_straights a_rings a_slants a_reaper a_land_depths a_rows_strips a_rows_alongs a_rows_numbers a_rows_sorted a_rows_spare a_rows_tally a_rows_squares a_rows_starts c_land_laid c_land_head c_land_fieldCount c_land_innerCount o_plan_there o_plan_size c_rows_there c_rows_size o_ways_straightSize o_ways_slantwiseSize c_land_kinds c_land_nears o_plan_numbers o_planner_rests c_rows_ends o_turns_known o_turns_lengths o_ways_lengths o_ways_slantwises o_ways_straights) ++ [la g a_out 1 (vp_updL c_out 0 (Int32.toInt64 r0))]) := by
  refine startW (by decide) (Nat.le_of_ble_eq_true rfl) ?_
  intro p e s m below meth c A Q ls args M hW hl htab ret
  have hx := M.1
  have hb := M.2.1
  have hown := M.2.2.2.1
  have hu := M.2.2.2.2.1
  have hl : lv_has ls 3 [(0, .ref a_t), (1, .ref a_out)] := hl
  obtain ⟨H, eH⟩ : ∃ z, z = s.heap := ⟨_, rfl⟩
  obtain ⟨locs, eL⟩ : ∃ z, z = ([] : List Loc) := ⟨_, rfl⟩
  rw [← eL] at hW ⊢
  suffices hS9 : WD g s A ((w_X9_best g a_t a_land a_plan a_planner a_rows a_turns a_ways a_land_kinds a_land_nears a_plan_numbers a_planner_rests a_rows_ends a_turns_known a_turns_lengths a_ways_lengths a_ways_slantwises a_ways_straights a_rings a_slants a_reaper a_land_depths a_rows_strips a_rows_alongs a_rows_numbers a_rows_sorted a_rows_spare a_rows_tally a_rows_squares a_rows_starts c_land_laid c_land_head c_land_fieldCount c_land_innerCount c_plan_there c_plan_size c_rows_there c_rows_size c_ways_straightSize c_ways_slantwiseSize c_land_kinds c_land_nears c_plan_numbers c_planner_rests c_rows_ends c_turns_known c_turns_lengths c_ways_lengths c_ways_slantwises c_ways_straights) ++ [la g a_out 1 c_out]) H locs → W p l e (rm9x 8 140) s m args below meth c H locs 0 0 Q (F0 m 0 ls []) by
    rw [← eH] at hW ⊢
    exact hS9 hW
  clear hW eH eL
  intro hW
  refine lv_aload_n (pc := 0) hx hb (dd dL_best 0 rfl) rfl (lv_at hl 1 rfl) ?_
  refine lv_iconst (pc := 1) (v := 0) hx hb (dd dL_best 1 rfl) (by decide) ?_
  refine lv_aload_n (pc := 2) hx hb (dd dL_best 2 rfl) rfl (lv_at hl 0 rfl) ?_
  refine callVI (pc := 3) (na := 0) (As := []) (rest := [.int 0, .ref a_out]) (ws2 := ((w_X9_best g a_t a_land a_plan a_planner a_rows a_turns a_ways a_land_kinds a_land_nears a_plan_numbers a_planner_rests a_rows_ends a_turns_known a_turns_lengths a_ways_lengths a_ways_slantwises a_ways_straights a_rings a_slants a_reaper a_land_depths a_rows_strips a_rows_alongs a_rows_numbers a_rows_sorted a_rows_spare a_rows_tally a_rows_squares a_rows_starts c_land_laid c_land_head c_land_fieldCount c_land_innerCount o_plan_there o_plan_size c_rows_there c_rows_size o_ways_straightSize o_ways_slantwiseSize c_land_kinds c_land_nears o_plan_numbers o_planner_rests c_rows_ends o_turns_known o_turns_lengths o_ways_lengths o_ways_slantwises o_ways_straights) ++ [la g a_out 1 c_out])) M hl.1 hW (t_X9_best l g a_t a_land a_plan a_planner a_rows a_turns a_ways a_land_kinds a_land_nears a_plan_numbers a_planner_rests a_rows_ends a_turns_known a_turns_lengths a_ways_lengths a_ways_slantwises a_ways_straights a_rings a_slants a_reaper a_land_depths a_rows_strips a_rows_alongs a_rows_numbers a_rows_sorted a_rows_spare a_rows_tally a_rows_squares a_rows_starts c_land_laid c_land_head c_land_fieldCount c_land_innerCount c_plan_there c_plan_size c_rows_there c_rows_size c_ways_straightSize c_ways_slantwiseSize c_land_kinds c_land_nears c_plan_numbers c_planner_rests c_rows_ends c_turns_known c_turns_lengths c_ways_lengths c_ways_slantwises c_ways_straights r0 o_plan_there o_plan_size o_ways_straightSize o_ways_slantwiseSize o_plan_numbers o_planner_rests o_turns_known o_turns_lengths o_ways_lengths o_ways_slantwises o_ways_straights hr) rfl [0, 1, 2, 3, 4, 5, 6, 7, 8, 9, 10, 11, 12, 13, 14, 15, 16] [17] [1, 2, 3, 4, 5, 6, 7, 8, 9, 10, 11, 12, 13, 14, 15, 16, 17, 0] rfl rfl rfl rfl rfl rfl rfl 0 9 rfl rfl rfl (uw4 26 rfl rfl) (uw4 23 rfl rfl) (uw4 24 rfl rfl) (uw4 25 rfl rfl) (uw1 1 rfl rfl) ⟨by decide, by decide, by decide⟩ rfl ⟨by decide, by decide⟩ (Nat.le_of_ble_eq_true rfl) ⟨Nat.zero_le _, Nat.zero_le _⟩ (dd dL_best 3 rfl) (fun H locs hW => ?_)
  refine lv_i2l (pc := 6) hx hb (dd dL_best 4 rfl) rfl ?_
  refine rLast (pc := 7) M hW 17 rfl (by decide) rfl (ws' := ((w_X9_best g a_t a_land a_plan a_planner a_rows a_turns a_ways a_land_kinds a_land_nears a_plan_numbers a_planner_rests a_rows_ends a_turns_known a_turns_lengths a_ways_lengths a_ways_slantwises a_ways_straights a_rings a_slants a_reaper a_land_depths a_rows_strips a_rows_alongs a_rows_numbers a_rows_sorted a_rows_spare a_rows_tally a_rows_squares a_rows_starts c_land_laid c_land_head c_land_fieldCount c_land_innerCount o_plan_there o_plan_size c_rows_there c_rows_size o_ways_straightSize o_ways_slantwiseSize c_land_kinds c_land_nears o_plan_numbers o_planner_rests c_rows_ends o_turns_known o_turns_lengths o_ways_lengths o_ways_slantwises o_ways_straights) ++ [la g a_out 1 (vp_updL c_out 0 (Int32.toInt64 r0))])) rfl (dd dL_best 5 rfl) (fun H locs hW => ?_)
  refine lv_goto (pc := 8) (tgt := 14) hx hb (dd dL_best 6 rfl) (by decide) ?_
  refine lv_iconst (pc := 14) (v := 0) hx hb (dd dL_best 10 rfl) (by decide) ?_
  refine W.widen (k := 1) (n := 6) (by decide) (by decide) ?_
  exact ret _ _ _ 15 hW (dd dL_best 11 rfl)
set_option maxHeartbeats 4000000 in
set_option maxRecDepth 100000 in
theorem x_L_best_1 (l : Launch) (hl9 : l.stackTraces = false) (g : G9) (a_t a_land a_plan a_planner a_rows a_turns a_ways a_land_kinds a_land_nears a_plan_numbers a_planner_rests a_rows_ends a_turns_known a_turns_lengths a_ways_lengths a_ways_slantwises a_ways_straights a_rings a_slants a_reaper a_land_depths a_rows_strips a_rows_alongs a_rows_numbers a_rows_sorted a_rows_spare a_rows_tally a_rows_squares a_rows_starts a_out : Nat) (c_land_laid c_land_head c_land_fieldCount c_land_innerCount c_plan_there c_plan_size c_rows_there c_rows_size c_ways_straightSize c_ways_slantwiseSize : Int32) (c_land_kinds c_land_nears c_plan_numbers c_planner_rests c_rows_ends c_turns_known c_turns_lengths c_ways_lengths c_ways_slantwises c_ways_straights : Ar) (c_out : Nat → Int64) (hr : X9_best c_plan_there c_plan_size c_rows_there c_rows_size c_ways_straightSize c_ways_slantwiseSize c_land_kinds c_land_nears c_plan_numbers c_planner_rests c_rows_ends c_turns_known c_turns_lengths c_ways_lengths c_ways_slantwises c_ways_straights = some (.inl 4)) : CtW l g yL_best cL_best 3 [(0, 8, 11, 33)] 8 140 [.ref a_t, .ref a_out] ((w_X9_best g a_t a_land a_plan a_planner a_rows a_turns a_ways a_land_kinds a_land_nears a_plan_numbers a_planner_rests a_rows_ends a_turns_known a_turns_lengths a_ways_lengths a_ways_slantwises a_ways_straights a_rings a_slants a_reaper a_land_depths a_rows_strips a_rows_alongs a_rows_numbers a_rows_sorted a_rows_spare a_rows_tally a_rows_squares a_rows_starts c_land_laid c_land_head c_land_fieldCount c_land_innerCount c_plan_there c_plan_size c_rows_there c_rows_size c_ways_straightSize c_ways_slantwiseSize c_land_kinds c_land_nears c_plan_numbers c_planner_rests c_rows_ends c_turns_known c_turns_lengths c_ways_lengths c_ways_slantwises c_ways_straights) ++ [la g a_out 1 c_out]) 1 ((w_X9_best g a_t a_land a_plan a_planner a_rows a_turns a_ways a_land_kinds a_land_nears a_plan_numbers a_planner_rests a_rows_ends a_turns_known a_turns_lengths a_ways_lengths a_ways_slantwises a_ways_straights a_rings a_slants a_reaper a_land_depths a_rows_strips a_rows_alongs a_rows_numbers a_rows_sorted a_rows_spare a_rows_tally a_rows_squares a_rows_starts c_land_laid c_land_head c_land_fieldCount c_land_innerCount c_plan_there c_plan_size c_rows_there c_rows_size c_ways_straightSize c_ways_slantwiseSize c_land_kinds c_land_nears c_plan_numbers c_planner_rests c_rows_ends c_turns_known c_turns_lengths c_ways_lengths c_ways_slantwises c_ways_straights) ++ [la g a_out 1 c_out]) := by
  refine startW (by decide) (Nat.le_of_ble_eq_true rfl) ?_
  intro p e s m below meth c A Q ls args M hW hl htab ret
  have hx := M.1
  have hb := M.2.1
  have hown := M.2.2.2.1
  have hu := M.2.2.2.2.1
  have hl : lv_has ls 3 [(0, .ref a_t), (1, .ref a_out)] := hl
  obtain ⟨H, eH⟩ : ∃ z, z = s.heap := ⟨_, rfl⟩
  obtain ⟨locs, eL⟩ : ∃ z, z = ([] : List Loc) := ⟨_, rfl⟩
  rw [← eL] at hW ⊢
  suffices hS9 : WD g s A ((w_X9_best g a_t a_land a_plan a_planner a_rows a_turns a_ways a_land_kinds a_land_nears a_plan_numbers a_planner_rests a_rows_ends a_turns_known a_turns_lengths a_ways_lengths a_ways_slantwises a_ways_straights a_rings a_slants a_reaper a_land_depths a_rows_strips a_rows_alongs a_rows_numbers a_rows_sorted a_rows_spare a_rows_tally a_rows_squares a_rows_starts c_land_laid c_land_head c_land_fieldCount c_land_innerCount c_plan_there c_plan_size c_rows_there c_rows_size c_ways_straightSize c_ways_slantwiseSize c_land_kinds c_land_nears c_plan_numbers c_planner_rests c_rows_ends c_turns_known c_turns_lengths c_ways_lengths c_ways_slantwises c_ways_straights) ++ [la g a_out 1 c_out]) H locs → W p l e (rm9x 8 140) s m args below meth c H locs 0 0 Q (F0 m 0 ls []) by
    rw [← eH] at hW ⊢
    exact hS9 hW
  clear hW eH eL
  intro hW
  refine lv_aload_n (pc := 0) hx hb (dd dL_best 0 rfl) rfl (lv_at hl 1 rfl) ?_
  refine lv_iconst (pc := 1) (v := 0) hx hb (dd dL_best 1 rfl) (by decide) ?_
  refine lv_aload_n (pc := 2) hx hb (dd dL_best 2 rfl) rfl (lv_at hl 0 rfl) ?_
  have ex := M.2.2.2.2.2.2.2.2.2.2.2.2.2
  refine callXc (pc := 3) (na := 0) (As := []) (rest := [.int 0, .ref a_out]) (Or.inr rfl) M hl.1 hW (x_X9_best l hl9 g a_t a_land a_plan a_planner a_rows a_turns a_ways a_land_kinds a_land_nears a_plan_numbers a_planner_rests a_rows_ends a_turns_known a_turns_lengths a_ways_lengths a_ways_slantwises a_ways_straights a_rings a_slants a_reaper a_land_depths a_rows_strips a_rows_alongs a_rows_numbers a_rows_sorted a_rows_spare a_rows_tally a_rows_squares a_rows_starts c_land_laid c_land_head c_land_fieldCount c_land_innerCount c_plan_there c_plan_size c_rows_there c_rows_size c_ways_straightSize c_ways_slantwiseSize c_land_kinds c_land_nears c_plan_numbers c_planner_rests c_rows_ends c_turns_known c_turns_lengths c_ways_lengths c_ways_slantwises c_ways_straights 4 hr) rfl [0, 1, 2, 3, 4, 5, 6, 7, 8, 9, 10, 11, 12, 13, 14, 15, 16] [17] [1, 2, 3, 4, 5, 6, 7, 8, 9, 10, 11, 12, 13, 14, 15, 16, 17, 0] rfl rfl rfl rfl rfl rfl rfl 0 9 rfl rfl rfl (uw4 26 rfl rfl) (uw4 23 rfl rfl) (uw4 24 rfl rfl) (uw4 25 rfl rfl) (uw1 1 rfl rfl) ⟨by decide, by decide, by decide⟩ rfl ⟨by decide, by decide⟩ (Nat.le_of_ble_eq_true rfl) ⟨by decide, by decide⟩ (dd dL_best 3 rfl) (fun q ce H locs hW hce hcv hcl => ?_)
  refine vx_catch (own := RL) (name := "java/lang/IllegalStateException") hown [] ⟨0, 8, 11, 33⟩ [] (htab.trans rfl) (fun z hz => nomatch hz) (by decide) (by decide) (hu _ (uw3 106 rfl rfl)) (va_Nw.use rfl (ex.2.2.2.1 _ (by decide))) hce hcv hcl ?_
  refine lv_astore_n (pc := 11) (lv' := [(2, .ref q), (0, .ref a_t), (1, .ref a_out)]) hx hb (dd dL_best 7 rfl) rfl hl (by decide) rfl (fun ls hl => ?_)
  refine lv_iconst (pc := 12) (v := 1) hx hb (dd dL_best 8 rfl) (by decide) ?_
  exact ret _ _ _ 13 hW (dd dL_best 9 rfl)
set_option maxHeartbeats 4000000 in
set_option maxRecDepth 100000 in
theorem n_L_bound (l : Launch) (g : G9) (a_t a_land a_rows a_turns a_ways a_land_kinds a_land_nears a_rows_ends a_turns_known a_turns_lengths a_ways_lengths a_ways_slantwises a_ways_straights a_rings a_plan a_planner a_slants a_reaper a_land_depths a_rows_strips a_rows_alongs a_rows_numbers a_rows_sorted a_rows_spare a_rows_tally a_rows_squares a_rows_starts a_out : Nat) (c_land_laid c_land_head c_land_fieldCount c_land_innerCount c_rows_there c_rows_size c_ways_straightSize c_ways_slantwiseSize : Int32) (c_land_kinds c_land_nears c_rows_ends c_turns_known c_turns_lengths c_ways_lengths c_ways_slantwises c_ways_straights : Ar) (c_out : Nat → Int64) (r0 o_ways_straightSize o_ways_slantwiseSize : Int32) (o_turns_known o_turns_lengths o_ways_lengths o_ways_slantwises o_ways_straights : Ar) (hr : X9_bound c_rows_there c_rows_size c_ways_straightSize c_ways_slantwiseSize c_land_kinds c_land_nears c_rows_ends c_turns_known c_turns_lengths c_ways_lengths c_ways_slantwises c_ways_straights = some (.inr (r0, o_ways_straightSize, o_ways_slantwiseSize, o_turns_known, o_turns_lengths, o_ways_lengths, o_ways_slantwises, o_ways_straights))) : CtW l g yL_bound cL_bound 3 [(0, 8, 11, 33)] 8 139 [.ref a_t, .ref a_out] ((w_X9_bound g a_t a_land a_rows a_turns a_ways a_land_kinds a_land_nears a_rows_ends a_turns_known a_turns_lengths a_ways_lengths a_ways_slantwises a_ways_straights a_rings a_plan a_planner a_slants a_reaper a_land_depths a_rows_strips a_rows_alongs a_rows_numbers a_rows_sorted a_rows_spare a_rows_tally a_rows_squares a_rows_starts c_land_laid c_land_head c_land_fieldCount c_land_innerCount c_rows_there c_rows_size c_ways_straightSize c_ways_slantwiseSize c_land_kinds c_land_nears c_rows_ends c_turns_known c_turns_lengths c_ways_lengths c_ways_slantwises c_ways_straights) ++ [la g a_out 1 c_out]) 0 ((w_X9_bound g a_t a_land a_rows a_turns a_ways a_land_kinds a_land_nears a_rows_ends a_turns_known a_turns_lengths a_ways_lengths a_ways_slantwises a_ways_straights a_rings a_plan a_planner a_slants a_reaper a_land_depths a_rows_strips a_rows_alongs a_rows_numbers a_rows_sorted a_rows_spare a_rows_tally a_rows_squares a_rows_starts c_land_laid c_land_head c_land_fieldCount c_land_innerCount c_rows_there c_rows_size o_ways_straightSize o_ways_slantwiseSize c_land_kinds c_land_nears c_rows_ends o_turns_known o_turns_lengths o_ways_lengths o_ways_slantwises o_ways_straights) ++ [la g a_out 1 (vp_updL c_out 0 (Int32.toInt64 r0))]) := by
  refine startW (by decide) (Nat.le_of_ble_eq_true rfl) ?_
  intro p e s m below meth c A Q ls args M hW hl htab ret
  have hx := M.1
  have hb := M.2.1
  have hown := M.2.2.2.1
  have hu := M.2.2.2.2.1
  have hl : lv_has ls 3 [(0, .ref a_t), (1, .ref a_out)] := hl
  obtain ⟨H, eH⟩ : ∃ z, z = s.heap := ⟨_, rfl⟩
  obtain ⟨locs, eL⟩ : ∃ z, z = ([] : List Loc) := ⟨_, rfl⟩
  rw [← eL] at hW ⊢
  suffices hS9 : WD g s A ((w_X9_bound g a_t a_land a_rows a_turns a_ways a_land_kinds a_land_nears a_rows_ends a_turns_known a_turns_lengths a_ways_lengths a_ways_slantwises a_ways_straights a_rings a_plan a_planner a_slants a_reaper a_land_depths a_rows_strips a_rows_alongs a_rows_numbers a_rows_sorted a_rows_spare a_rows_tally a_rows_squares a_rows_starts c_land_laid c_land_head c_land_fieldCount c_land_innerCount c_rows_there c_rows_size c_ways_straightSize c_ways_slantwiseSize c_land_kinds c_land_nears c_rows_ends c_turns_known c_turns_lengths c_ways_lengths c_ways_slantwises c_ways_straights) ++ [la g a_out 1 c_out]) H locs → W p l e (rm9x 8 139) s m args below meth c H locs 0 0 Q (F0 m 0 ls []) by
    rw [← eH] at hW ⊢
    exact hS9 hW
  clear hW eH eL
  intro hW
  refine lv_aload_n (pc := 0) hx hb (dd dL_bound 0 rfl) rfl (lv_at hl 1 rfl) ?_
  refine lv_iconst (pc := 1) (v := 0) hx hb (dd dL_bound 1 rfl) (by decide) ?_
  refine lv_aload_n (pc := 2) hx hb (dd dL_bound 2 rfl) rfl (lv_at hl 0 rfl) ?_
  refine callVI (pc := 3) (na := 0) (As := []) (rest := [.int 0, .ref a_out]) (ws2 := ((w_X9_bound g a_t a_land a_rows a_turns a_ways a_land_kinds a_land_nears a_rows_ends a_turns_known a_turns_lengths a_ways_lengths a_ways_slantwises a_ways_straights a_rings a_plan a_planner a_slants a_reaper a_land_depths a_rows_strips a_rows_alongs a_rows_numbers a_rows_sorted a_rows_spare a_rows_tally a_rows_squares a_rows_starts c_land_laid c_land_head c_land_fieldCount c_land_innerCount c_rows_there c_rows_size o_ways_straightSize o_ways_slantwiseSize c_land_kinds c_land_nears c_rows_ends o_turns_known o_turns_lengths o_ways_lengths o_ways_slantwises o_ways_straights) ++ [la g a_out 1 c_out])) M hl.1 hW (t_X9_bound l g a_t a_land a_rows a_turns a_ways a_land_kinds a_land_nears a_rows_ends a_turns_known a_turns_lengths a_ways_lengths a_ways_slantwises a_ways_straights a_rings a_plan a_planner a_slants a_reaper a_land_depths a_rows_strips a_rows_alongs a_rows_numbers a_rows_sorted a_rows_spare a_rows_tally a_rows_squares a_rows_starts c_land_laid c_land_head c_land_fieldCount c_land_innerCount c_rows_there c_rows_size c_ways_straightSize c_ways_slantwiseSize c_land_kinds c_land_nears c_rows_ends c_turns_known c_turns_lengths c_ways_lengths c_ways_slantwises c_ways_straights r0 o_ways_straightSize o_ways_slantwiseSize o_turns_known o_turns_lengths o_ways_lengths o_ways_slantwises o_ways_straights hr) rfl [0, 1, 2, 3, 4, 5, 6, 7, 8, 9, 10, 11, 12] [13] [1, 2, 3, 4, 5, 6, 7, 8, 9, 10, 11, 12, 13, 0] rfl rfl rfl rfl rfl rfl rfl 0 9 rfl rfl rfl (uw4 98 rfl rfl) (uw4 95 rfl rfl) (uw4 96 rfl rfl) (uw4 97 rfl rfl) (uw1 1 rfl rfl) ⟨by decide, by decide, by decide⟩ rfl ⟨by decide, by decide⟩ (Nat.le_of_ble_eq_true rfl) ⟨Nat.zero_le _, Nat.zero_le _⟩ (dd dL_bound 3 rfl) (fun H locs hW => ?_)
  refine lv_i2l (pc := 6) hx hb (dd dL_bound 4 rfl) rfl ?_
  refine rLast (pc := 7) M hW 13 rfl (by decide) rfl (ws' := ((w_X9_bound g a_t a_land a_rows a_turns a_ways a_land_kinds a_land_nears a_rows_ends a_turns_known a_turns_lengths a_ways_lengths a_ways_slantwises a_ways_straights a_rings a_plan a_planner a_slants a_reaper a_land_depths a_rows_strips a_rows_alongs a_rows_numbers a_rows_sorted a_rows_spare a_rows_tally a_rows_squares a_rows_starts c_land_laid c_land_head c_land_fieldCount c_land_innerCount c_rows_there c_rows_size o_ways_straightSize o_ways_slantwiseSize c_land_kinds c_land_nears c_rows_ends o_turns_known o_turns_lengths o_ways_lengths o_ways_slantwises o_ways_straights) ++ [la g a_out 1 (vp_updL c_out 0 (Int32.toInt64 r0))])) rfl (dd dL_bound 5 rfl) (fun H locs hW => ?_)
  refine lv_goto (pc := 8) (tgt := 14) hx hb (dd dL_bound 6 rfl) (by decide) ?_
  refine lv_iconst (pc := 14) (v := 0) hx hb (dd dL_bound 10 rfl) (by decide) ?_
  refine W.widen (k := 1) (n := 6) (by decide) (by decide) ?_
  exact ret _ _ _ 15 hW (dd dL_bound 11 rfl)
set_option maxHeartbeats 4000000 in
set_option maxRecDepth 100000 in
theorem x_L_bound_1 (l : Launch) (hl9 : l.stackTraces = false) (g : G9) (a_t a_land a_rows a_turns a_ways a_land_kinds a_land_nears a_rows_ends a_turns_known a_turns_lengths a_ways_lengths a_ways_slantwises a_ways_straights a_rings a_plan a_planner a_slants a_reaper a_land_depths a_rows_strips a_rows_alongs a_rows_numbers a_rows_sorted a_rows_spare a_rows_tally a_rows_squares a_rows_starts a_out : Nat) (c_land_laid c_land_head c_land_fieldCount c_land_innerCount c_rows_there c_rows_size c_ways_straightSize c_ways_slantwiseSize : Int32) (c_land_kinds c_land_nears c_rows_ends c_turns_known c_turns_lengths c_ways_lengths c_ways_slantwises c_ways_straights : Ar) (c_out : Nat → Int64) (hr : X9_bound c_rows_there c_rows_size c_ways_straightSize c_ways_slantwiseSize c_land_kinds c_land_nears c_rows_ends c_turns_known c_turns_lengths c_ways_lengths c_ways_slantwises c_ways_straights = some (.inl 4)) : CtW l g yL_bound cL_bound 3 [(0, 8, 11, 33)] 8 139 [.ref a_t, .ref a_out] ((w_X9_bound g a_t a_land a_rows a_turns a_ways a_land_kinds a_land_nears a_rows_ends a_turns_known a_turns_lengths a_ways_lengths a_ways_slantwises a_ways_straights a_rings a_plan a_planner a_slants a_reaper a_land_depths a_rows_strips a_rows_alongs a_rows_numbers a_rows_sorted a_rows_spare a_rows_tally a_rows_squares a_rows_starts c_land_laid c_land_head c_land_fieldCount c_land_innerCount c_rows_there c_rows_size c_ways_straightSize c_ways_slantwiseSize c_land_kinds c_land_nears c_rows_ends c_turns_known c_turns_lengths c_ways_lengths c_ways_slantwises c_ways_straights) ++ [la g a_out 1 c_out]) 1 ((w_X9_bound g a_t a_land a_rows a_turns a_ways a_land_kinds a_land_nears a_rows_ends a_turns_known a_turns_lengths a_ways_lengths a_ways_slantwises a_ways_straights a_rings a_plan a_planner a_slants a_reaper a_land_depths a_rows_strips a_rows_alongs a_rows_numbers a_rows_sorted a_rows_spare a_rows_tally a_rows_squares a_rows_starts c_land_laid c_land_head c_land_fieldCount c_land_innerCount c_rows_there c_rows_size c_ways_straightSize c_ways_slantwiseSize c_land_kinds c_land_nears c_rows_ends c_turns_known c_turns_lengths c_ways_lengths c_ways_slantwises c_ways_straights) ++ [la g a_out 1 c_out]) := by
  refine startW (by decide) (Nat.le_of_ble_eq_true rfl) ?_
  intro p e s m below meth c A Q ls args M hW hl htab ret
  have hx := M.1
  have hb := M.2.1
  have hown := M.2.2.2.1
  have hu := M.2.2.2.2.1
  have hl : lv_has ls 3 [(0, .ref a_t), (1, .ref a_out)] := hl
  obtain ⟨H, eH⟩ : ∃ z, z = s.heap := ⟨_, rfl⟩
  obtain ⟨locs, eL⟩ : ∃ z, z = ([] : List Loc) := ⟨_, rfl⟩
  rw [← eL] at hW ⊢
  suffices hS9 : WD g s A ((w_X9_bound g a_t a_land a_rows a_turns a_ways a_land_kinds a_land_nears a_rows_ends a_turns_known a_turns_lengths a_ways_lengths a_ways_slantwises a_ways_straights a_rings a_plan a_planner a_slants a_reaper a_land_depths a_rows_strips a_rows_alongs a_rows_numbers a_rows_sorted a_rows_spare a_rows_tally a_rows_squares a_rows_starts c_land_laid c_land_head c_land_fieldCount c_land_innerCount c_rows_there c_rows_size c_ways_straightSize c_ways_slantwiseSize c_land_kinds c_land_nears c_rows_ends c_turns_known c_turns_lengths c_ways_lengths c_ways_slantwises c_ways_straights) ++ [la g a_out 1 c_out]) H locs → W p l e (rm9x 8 139) s m args below meth c H locs 0 0 Q (F0 m 0 ls []) by
    rw [← eH] at hW ⊢
    exact hS9 hW
  clear hW eH eL
  intro hW
  refine lv_aload_n (pc := 0) hx hb (dd dL_bound 0 rfl) rfl (lv_at hl 1 rfl) ?_
  refine lv_iconst (pc := 1) (v := 0) hx hb (dd dL_bound 1 rfl) (by decide) ?_
  refine lv_aload_n (pc := 2) hx hb (dd dL_bound 2 rfl) rfl (lv_at hl 0 rfl) ?_
  have ex := M.2.2.2.2.2.2.2.2.2.2.2.2.2
  refine callXc (pc := 3) (na := 0) (As := []) (rest := [.int 0, .ref a_out]) (Or.inr rfl) M hl.1 hW (x_X9_bound l hl9 g a_t a_land a_rows a_turns a_ways a_land_kinds a_land_nears a_rows_ends a_turns_known a_turns_lengths a_ways_lengths a_ways_slantwises a_ways_straights a_rings a_plan a_planner a_slants a_reaper a_land_depths a_rows_strips a_rows_alongs a_rows_numbers a_rows_sorted a_rows_spare a_rows_tally a_rows_squares a_rows_starts c_land_laid c_land_head c_land_fieldCount c_land_innerCount c_rows_there c_rows_size c_ways_straightSize c_ways_slantwiseSize c_land_kinds c_land_nears c_rows_ends c_turns_known c_turns_lengths c_ways_lengths c_ways_slantwises c_ways_straights 4 hr) rfl [0, 1, 2, 3, 4, 5, 6, 7, 8, 9, 10, 11, 12] [13] [1, 2, 3, 4, 5, 6, 7, 8, 9, 10, 11, 12, 13, 0] rfl rfl rfl rfl rfl rfl rfl 0 9 rfl rfl rfl (uw4 98 rfl rfl) (uw4 95 rfl rfl) (uw4 96 rfl rfl) (uw4 97 rfl rfl) (uw1 1 rfl rfl) ⟨by decide, by decide, by decide⟩ rfl ⟨by decide, by decide⟩ (Nat.le_of_ble_eq_true rfl) ⟨by decide, by decide⟩ (dd dL_bound 3 rfl) (fun q ce H locs hW hce hcv hcl => ?_)
  refine vx_catch (own := RL) (name := "java/lang/IllegalStateException") hown [] ⟨0, 8, 11, 33⟩ [] (htab.trans rfl) (fun z hz => nomatch hz) (by decide) (by decide) (hu _ (uw3 106 rfl rfl)) (va_Nw.use rfl (ex.2.2.2.1 _ (by decide))) hce hcv hcl ?_
  refine lv_astore_n (pc := 11) (lv' := [(2, .ref q), (0, .ref a_t), (1, .ref a_out)]) hx hb (dd dL_bound 7 rfl) rfl hl (by decide) rfl (fun ls hl => ?_)
  refine lv_iconst (pc := 12) (v := 1) hx hb (dd dL_bound 8 rfl) (by decide) ?_
  exact ret _ _ _ 13 hW (dd dL_bound 9 rfl)
set_option maxHeartbeats 4000000 in
set_option maxRecDepth 100000 in
theorem n_L_swing (l : Launch) (g : G9) (a_t a_plan a_turns a_plan_numbers a_turns_lengths a_rings a_land a_ways a_rows a_planner a_slants a_reaper a_turns_known a_out : Nat) (c_plan_there c_plan_size : Int32) (c_plan_numbers c_turns_lengths : Ar) (c_out : Nat → Int64) (v1 v2 r0 : Int32) (o_plan_numbers : Ar) (hr : X9_swing c_plan_there c_plan_size c_plan_numbers c_turns_lengths v1 v2 = some (.inr (r0, o_plan_numbers))) : CtW l g yL_swing cL_swing 5 [(0, 10, 13, 33), (0, 10, 17, 15)] 8 132 [.ref a_t, .int v1, .int v2, .ref a_out] ((w_X9_swing g a_t a_plan a_turns a_plan_numbers a_turns_lengths a_rings a_land a_ways a_rows a_planner a_slants a_reaper a_turns_known c_plan_there c_plan_size c_plan_numbers c_turns_lengths) ++ [la g a_out 1 c_out]) 0 ((w_X9_swing g a_t a_plan a_turns a_plan_numbers a_turns_lengths a_rings a_land a_ways a_rows a_planner a_slants a_reaper a_turns_known c_plan_there c_plan_size o_plan_numbers c_turns_lengths) ++ [la g a_out 1 (vp_updL c_out 0 (Int32.toInt64 r0))]) := by
  refine startW (by decide) (Nat.le_of_ble_eq_true rfl) ?_
  intro p e s m below meth c A Q ls args M hW hl htab ret
  have hx := M.1
  have hb := M.2.1
  have hown := M.2.2.2.1
  have hu := M.2.2.2.2.1
  have hl : lv_has ls 5 [(0, .ref a_t), (1, .int v1), (2, .int v2), (3, .ref a_out)] := hl
  obtain ⟨H, eH⟩ : ∃ z, z = s.heap := ⟨_, rfl⟩
  obtain ⟨locs, eL⟩ : ∃ z, z = ([] : List Loc) := ⟨_, rfl⟩
  rw [← eL] at hW ⊢
  suffices hS9 : WD g s A ((w_X9_swing g a_t a_plan a_turns a_plan_numbers a_turns_lengths a_rings a_land a_ways a_rows a_planner a_slants a_reaper a_turns_known c_plan_there c_plan_size c_plan_numbers c_turns_lengths) ++ [la g a_out 1 c_out]) H locs → W p l e (rm9x 8 132) s m args below meth c H locs 0 0 Q (F0 m 0 ls []) by
    rw [← eH] at hW ⊢
    exact hS9 hW
  clear hW eH eL
  intro hW
  refine lv_aload_n (pc := 0) hx hb (dd dL_swing 0 rfl) rfl (lv_at hl 3 rfl) ?_
  refine lv_iconst (pc := 1) (v := 0) hx hb (dd dL_swing 1 rfl) (by decide) ?_
  refine lv_aload_n (pc := 2) hx hb (dd dL_swing 2 rfl) rfl (lv_at hl 0 rfl) ?_
  refine lv_iload_n (pc := 3) hx hb (dd dL_swing 3 rfl) rfl (lv_at hl 1 rfl) ?_
  refine lv_iload_n (pc := 4) hx hb (dd dL_swing 4 rfl) rfl (lv_at hl 2 rfl) ?_
  refine callVI (pc := 5) (na := 2) (As := [.int v1, .int v2]) (rest := [.int 0, .ref a_out]) (ws2 := ((w_X9_swing g a_t a_plan a_turns a_plan_numbers a_turns_lengths a_rings a_land a_ways a_rows a_planner a_slants a_reaper a_turns_known c_plan_there c_plan_size o_plan_numbers c_turns_lengths) ++ [la g a_out 1 c_out])) M hl.1 hW (t_X9_swing l g a_t a_plan a_turns a_plan_numbers a_turns_lengths a_rings a_land a_ways a_rows a_planner a_slants a_reaper a_turns_known c_plan_there c_plan_size c_plan_numbers c_turns_lengths v1 v2 r0 o_plan_numbers hr) rfl [0, 1, 2, 3, 4] [5] [1, 2, 3, 4, 5, 0] rfl rfl rfl rfl rfl rfl rfl 0 9 rfl rfl rfl (uw4 117 rfl rfl) (uw4 114 rfl rfl) (uw4 115 rfl rfl) (uw4 116 rfl rfl) (uw1 1 rfl rfl) ⟨by decide, by decide, by decide⟩ rfl ⟨by decide, by decide⟩ (Nat.le_of_ble_eq_true rfl) ⟨Nat.zero_le _, Nat.zero_le _⟩ (dd dL_swing 5 rfl) (fun H locs hW => ?_)
  refine lv_i2l (pc := 8) hx hb (dd dL_swing 6 rfl) rfl ?_
  refine rLast (pc := 9) M hW 5 rfl (by decide) rfl (ws' := ((w_X9_swing g a_t a_plan a_turns a_plan_numbers a_turns_lengths a_rings a_land a_ways a_rows a_planner a_slants a_reaper a_turns_known c_plan_there c_plan_size o_plan_numbers c_turns_lengths) ++ [la g a_out 1 (vp_updL c_out 0 (Int32.toInt64 r0))])) rfl (dd dL_swing 7 rfl) (fun H locs hW => ?_)
  refine lv_goto (pc := 10) (tgt := 21) hx hb (dd dL_swing 8 rfl) (by decide) ?_
  refine lv_iconst (pc := 21) (v := 0) hx hb (dd dL_swing 15 rfl) (by decide) ?_
  refine W.widen (k := 1) (n := 6) (by decide) (by decide) ?_
  exact ret _ _ _ 22 hW (dd dL_swing 16 rfl)
set_option maxHeartbeats 4000000 in
set_option maxRecDepth 100000 in
theorem x_L_swing_1 (l : Launch) (hl9 : l.stackTraces = false) (g : G9) (a_t a_plan a_turns a_plan_numbers a_turns_lengths a_rings a_land a_ways a_rows a_planner a_slants a_reaper a_turns_known a_out : Nat) (c_plan_there c_plan_size : Int32) (c_plan_numbers c_turns_lengths : Ar) (c_out : Nat → Int64) (v1 v2 : Int32) (hr : X9_swing c_plan_there c_plan_size c_plan_numbers c_turns_lengths v1 v2 = some (.inl 4)) : CtW l g yL_swing cL_swing 5 [(0, 10, 13, 33), (0, 10, 17, 15)] 8 132 [.ref a_t, .int v1, .int v2, .ref a_out] ((w_X9_swing g a_t a_plan a_turns a_plan_numbers a_turns_lengths a_rings a_land a_ways a_rows a_planner a_slants a_reaper a_turns_known c_plan_there c_plan_size c_plan_numbers c_turns_lengths) ++ [la g a_out 1 c_out]) 1 ((w_X9_swing g a_t a_plan a_turns a_plan_numbers a_turns_lengths a_rings a_land a_ways a_rows a_planner a_slants a_reaper a_turns_known c_plan_there c_plan_size c_plan_numbers c_turns_lengths) ++ [la g a_out 1 c_out]) := by
  refine startW (by decide) (Nat.le_of_ble_eq_true rfl) ?_
  intro p e s m below meth c A Q ls args M hW hl htab ret
  have hx := M.1
  have hb := M.2.1
  have hown := M.2.2.2.1
  have hu := M.2.2.2.2.1
  have hl : lv_has ls 5 [(0, .ref a_t), (1, .int v1), (2, .int v2), (3, .ref a_out)] := hl
  obtain ⟨H, eH⟩ : ∃ z, z = s.heap := ⟨_, rfl⟩
  obtain ⟨locs, eL⟩ : ∃ z, z = ([] : List Loc) := ⟨_, rfl⟩
  rw [← eL] at hW ⊢
  suffices hS9 : WD g s A ((w_X9_swing g a_t a_plan a_turns a_plan_numbers a_turns_lengths a_rings a_land a_ways a_rows a_planner a_slants a_reaper a_turns_known c_plan_there c_plan_size c_plan_numbers c_turns_lengths) ++ [la g a_out 1 c_out]) H locs → W p l e (rm9x 8 132) s m args below meth c H locs 0 0 Q (F0 m 0 ls []) by
    rw [← eH] at hW ⊢
    exact hS9 hW
  clear hW eH eL
  intro hW
  refine lv_aload_n (pc := 0) hx hb (dd dL_swing 0 rfl) rfl (lv_at hl 3 rfl) ?_
  refine lv_iconst (pc := 1) (v := 0) hx hb (dd dL_swing 1 rfl) (by decide) ?_
  refine lv_aload_n (pc := 2) hx hb (dd dL_swing 2 rfl) rfl (lv_at hl 0 rfl) ?_
  refine lv_iload_n (pc := 3) hx hb (dd dL_swing 3 rfl) rfl (lv_at hl 1 rfl) ?_
  refine lv_iload_n (pc := 4) hx hb (dd dL_swing 4 rfl) rfl (lv_at hl 2 rfl) ?_
  have ex := M.2.2.2.2.2.2.2.2.2.2.2.2.2
  refine callXc (pc := 5) (na := 2) (As := [.int v1, .int v2]) (rest := [.int 0, .ref a_out]) (Or.inr rfl) M hl.1 hW (x_X9_swing l hl9 g a_t a_plan a_turns a_plan_numbers a_turns_lengths a_rings a_land a_ways a_rows a_planner a_slants a_reaper a_turns_known c_plan_there c_plan_size c_plan_numbers c_turns_lengths v1 v2 4 hr) rfl [0, 1, 2, 3, 4] [5] [1, 2, 3, 4, 5, 0] rfl rfl rfl rfl rfl rfl rfl 0 9 rfl rfl rfl (uw4 117 rfl rfl) (uw4 114 rfl rfl) (uw4 115 rfl rfl) (uw4 116 rfl rfl) (uw1 1 rfl rfl) ⟨by decide, by decide, by decide⟩ rfl ⟨by decide, by decide⟩ (Nat.le_of_ble_eq_true rfl) ⟨by decide, by decide⟩ (dd dL_swing 5 rfl) (fun q ce H locs hW hce hcv hcl => ?_)
  refine vx_catch (own := RL) (name := "java/lang/IllegalStateException") hown [] ⟨0, 10, 13, 33⟩ [⟨0, 10, 17, 15⟩] (htab.trans rfl) (fun z hz => nomatch hz) (by decide) (by decide) (hu _ (uw3 106 rfl rfl)) (va_Nw.use rfl (ex.2.2.2.1 _ (by decide))) hce hcv hcl ?_
  refine lv_astore (pc := 13) (lv' := [(4, .ref q), (0, .ref a_t), (1, .int v1), (2, .int v2), (3, .ref a_out)]) hx hb (dd dL_swing 9 rfl) hl (by decide) rfl (fun ls hl => ?_)
  refine lv_iconst (pc := 15) (v := 1) hx hb (dd dL_swing 10 rfl) (by decide) ?_
  exact ret _ _ _ 16 hW (dd dL_swing 11 rfl)
set_option maxHeartbeats 4000000 in
set_option maxRecDepth 100000 in
theorem x_L_swing_2 (l : Launch) (hl9 : l.stackTraces = false) (g : G9) (a_t a_plan a_turns a_plan_numbers a_turns_lengths a_rings a_land a_ways a_rows a_planner a_slants a_reaper a_turns_known a_out : Nat) (c_plan_there c_plan_size : Int32) (c_plan_numbers c_turns_lengths : Ar) (c_out : Nat → Int64) (v1 v2 : Int32) (hr : X9_swing c_plan_there c_plan_size c_plan_numbers c_turns_lengths v1 v2 = some (.inl 2)) : CtW l g yL_swing cL_swing 5 [(0, 10, 13, 33), (0, 10, 17, 15)] 8 132 [.ref a_t, .int v1, .int v2, .ref a_out] ((w_X9_swing g a_t a_plan a_turns a_plan_numbers a_turns_lengths a_rings a_land a_ways a_rows a_planner a_slants a_reaper a_turns_known c_plan_there c_plan_size c_plan_numbers c_turns_lengths) ++ [la g a_out 1 c_out]) 2 ((w_X9_swing g a_t a_plan a_turns a_plan_numbers a_turns_lengths a_rings a_land a_ways a_rows a_planner a_slants a_reaper a_turns_known c_plan_there c_plan_size c_plan_numbers c_turns_lengths) ++ [la g a_out 1 c_out]) := by
  refine startW (by decide) (Nat.le_of_ble_eq_true rfl) ?_
  intro p e s m below meth c A Q ls args M hW hl htab ret
  have hx := M.1
  have hb := M.2.1
  have hown := M.2.2.2.1
  have hu := M.2.2.2.2.1
  have hl : lv_has ls 5 [(0, .ref a_t), (1, .int v1), (2, .int v2), (3, .ref a_out)] := hl
  obtain ⟨H, eH⟩ : ∃ z, z = s.heap := ⟨_, rfl⟩
  obtain ⟨locs, eL⟩ : ∃ z, z = ([] : List Loc) := ⟨_, rfl⟩
  rw [← eL] at hW ⊢
  suffices hS9 : WD g s A ((w_X9_swing g a_t a_plan a_turns a_plan_numbers a_turns_lengths a_rings a_land a_ways a_rows a_planner a_slants a_reaper a_turns_known c_plan_there c_plan_size c_plan_numbers c_turns_lengths) ++ [la g a_out 1 c_out]) H locs → W p l e (rm9x 8 132) s m args below meth c H locs 0 0 Q (F0 m 0 ls []) by
    rw [← eH] at hW ⊢
    exact hS9 hW
  clear hW eH eL
  intro hW
  refine lv_aload_n (pc := 0) hx hb (dd dL_swing 0 rfl) rfl (lv_at hl 3 rfl) ?_
  refine lv_iconst (pc := 1) (v := 0) hx hb (dd dL_swing 1 rfl) (by decide) ?_
  refine lv_aload_n (pc := 2) hx hb (dd dL_swing 2 rfl) rfl (lv_at hl 0 rfl) ?_
  refine lv_iload_n (pc := 3) hx hb (dd dL_swing 3 rfl) rfl (lv_at hl 1 rfl) ?_
  refine lv_iload_n (pc := 4) hx hb (dd dL_swing 4 rfl) rfl (lv_at hl 2 rfl) ?_
  have ex := M.2.2.2.2.2.2.2.2.2.2.2.2.2
  refine callXc (pc := 5) (na := 2) (As := [.int v1, .int v2]) (rest := [.int 0, .ref a_out]) (Or.inr rfl) M hl.1 hW (x_X9_swing l hl9 g a_t a_plan a_turns a_plan_numbers a_turns_lengths a_rings a_land a_ways a_rows a_planner a_slants a_reaper a_turns_known c_plan_there c_plan_size c_plan_numbers c_turns_lengths v1 v2 2 hr) rfl [0, 1, 2, 3, 4] [5] [1, 2, 3, 4, 5, 0] rfl rfl rfl rfl rfl rfl rfl 0 9 rfl rfl rfl (uw4 117 rfl rfl) (uw4 114 rfl rfl) (uw4 115 rfl rfl) (uw4 116 rfl rfl) (uw1 1 rfl rfl) ⟨by decide, by decide, by decide⟩ rfl ⟨by decide, by decide⟩ (Nat.le_of_ble_eq_true rfl) ⟨by decide, by decide⟩ (dd dL_swing 5 rfl) (fun q ce H locs hW hce hcv hcl => ?_)
  refine vx_catch (own := RL) (name := "java/lang/IllegalArgumentException") hown [⟨0, 10, 13, 33⟩] ⟨0, 10, 17, 15⟩ [] (htab.trans rfl) (fun z hz => by
      simp only [List.mem_cons, List.not_mem_nil, or_false] at hz
      rcases hz with rfl
      · exact Or.inr ⟨by decide, "java/lang/IllegalStateException", hu _ (uw3 106 rfl rfl), ex.2.2.2.2.1 _ (by decide) _ (by decide) (by decide)⟩) (by decide) (by decide) (hu _ (uw2 118 rfl rfl)) (va_Nw.use rfl (ex.2.2.2.1 _ (by decide))) hce hcv hcl ?_
  refine lv_astore (pc := 17) (lv' := [(4, .ref q), (0, .ref a_t), (1, .int v1), (2, .int v2), (3, .ref a_out)]) hx hb (dd dL_swing 12 rfl) hl (by decide) rfl (fun ls hl => ?_)
  refine lv_iconst (pc := 19) (v := 2) hx hb (dd dL_swing 13 rfl) (by decide) ?_
  exact ret _ _ _ 20 hW (dd dL_swing 14 rfl)
set_option maxHeartbeats 4000000 in
set_option maxRecDepth 100000 in
theorem n_L_choose (l : Launch) (g : G9) (a_t a_land a_plan a_planner a_rows a_slants a_turns a_ways a_land_kinds a_land_nears a_plan_numbers a_planner_rests a_rows_alongs a_rows_ends a_rows_numbers a_rows_sorted a_rows_spare a_rows_squares a_rows_starts a_rows_strips a_rows_tally a_slants_firsts a_slants_seconds a_turns_known a_turns_lengths a_ways_lengths a_ways_slantwises a_ways_straights a_rings a_reaper a_land_depths a_out : Nat) (c_land_laid c_land_head c_land_fieldCount c_land_innerCount c_plan_there c_plan_size c_rows_there c_rows_size c_slants_size c_ways_straightSize c_ways_slantwiseSize : Int32) (c_land_kinds c_land_nears c_plan_numbers c_planner_rests c_rows_alongs c_rows_ends c_rows_numbers c_rows_sorted c_rows_spare c_rows_squares c_rows_starts c_rows_strips c_rows_tally c_slants_firsts c_slants_seconds c_turns_known c_turns_lengths c_ways_lengths c_ways_slantwises c_ways_straights : Ar) (c_out : Nat → Int64) (v1 r0 o_plan_there o_plan_size o_rows_there o_rows_size o_ways_straightSize o_ways_slantwiseSize : Int32) (o_plan_numbers o_planner_rests o_rows_alongs o_rows_ends o_rows_numbers o_rows_sorted o_rows_spare o_rows_squares o_rows_starts o_rows_strips o_rows_tally o_turns_known o_turns_lengths o_ways_lengths o_ways_slantwises o_ways_straights : Ar) (hr : X9_choose c_land_laid c_land_innerCount c_plan_there c_plan_size c_rows_there c_rows_size c_slants_size c_ways_straightSize c_ways_slantwiseSize c_land_kinds c_land_nears c_plan_numbers c_planner_rests c_rows_alongs c_rows_ends c_rows_numbers c_rows_sorted c_rows_spare c_rows_squares c_rows_starts c_rows_strips c_rows_tally c_slants_firsts c_slants_seconds c_turns_known c_turns_lengths c_ways_lengths c_ways_slantwises c_ways_straights v1 = some (.inr (r0, o_plan_there, o_plan_size, o_rows_there, o_rows_size, o_ways_straightSize, o_ways_slantwiseSize, o_plan_numbers, o_planner_rests, o_rows_alongs, o_rows_ends, o_rows_numbers, o_rows_sorted, o_rows_spare, o_rows_squares, o_rows_starts, o_rows_strips, o_rows_tally, o_turns_known, o_turns_lengths, o_ways_lengths, o_ways_slantwises, o_ways_straights))) : CtW l g yL_choose cL_choose 4 [(0, 9, 12, 33), (0, 9, 15, 15)] 8 167 [.ref a_t, .int v1, .ref a_out] ((w_X9_choose g a_t a_land a_plan a_planner a_rows a_slants a_turns a_ways a_land_kinds a_land_nears a_plan_numbers a_planner_rests a_rows_alongs a_rows_ends a_rows_numbers a_rows_sorted a_rows_spare a_rows_squares a_rows_starts a_rows_strips a_rows_tally a_slants_firsts a_slants_seconds a_turns_known a_turns_lengths a_ways_lengths a_ways_slantwises a_ways_straights a_rings a_reaper a_land_depths c_land_laid c_land_head c_land_fieldCount c_land_innerCount c_plan_there c_plan_size c_rows_there c_rows_size c_slants_size c_ways_straightSize c_ways_slantwiseSize c_land_kinds c_land_nears c_plan_numbers c_planner_rests c_rows_alongs c_rows_ends c_rows_numbers c_rows_sorted c_rows_spare c_rows_squares c_rows_starts c_rows_strips c_rows_tally c_slants_firsts c_slants_seconds c_turns_known c_turns_lengths c_ways_lengths c_ways_slantwises c_ways_straights) ++ [la g a_out 1 c_out]) 0 ((w_X9_choose g a_t a_land a_plan a_planner a_rows a_slants a_turns a_ways a_land_kinds a_land_nears a_plan_numbers a_planner_rests a_rows_alongs a_rows_ends a_rows_numbers a_rows_sorted a_rows_spare a_rows_squares a_rows_starts a_rows_strips a_rows_tally a_slants_firsts a_slants_seconds a_turns_known a_turns_lengths a_ways_lengths a_ways_slantwises a_ways_straights a_rings a_reaper a_land_depths c_land_laid c_land_head c_land_fieldCount c_land_innerCount o_plan_there o_plan_size o_rows_there o_rows_size c_slants_size o_ways_straightSize o_ways_slantwiseSize c_land_kinds c_land_nears o_plan_numbers o_planner_rests o_rows_alongs o_rows_ends o_rows_numbers o_rows_sorted o_rows_spare o_rows_squares o_rows_starts o_rows_strips o_rows_tally c_slants_firsts c_slants_seconds o_turns_known o_turns_lengths o_ways_lengths o_ways_slantwises o_ways_straights) ++ [la g a_out 1 (vp_updL c_out 0 (Int32.toInt64 r0))]) := by
  refine startW (by decide) (Nat.le_of_ble_eq_true rfl) ?_
  intro p e s m below meth c A Q ls args M hW hl htab ret
  have hx := M.1
  have hb := M.2.1
  have hown := M.2.2.2.1
  have hu := M.2.2.2.2.1
  have hl : lv_has ls 4 [(0, .ref a_t), (1, .int v1), (2, .ref a_out)] := hl
  obtain ⟨H, eH⟩ : ∃ z, z = s.heap := ⟨_, rfl⟩
  obtain ⟨locs, eL⟩ : ∃ z, z = ([] : List Loc) := ⟨_, rfl⟩
  rw [← eL] at hW ⊢
  suffices hS9 : WD g s A ((w_X9_choose g a_t a_land a_plan a_planner a_rows a_slants a_turns a_ways a_land_kinds a_land_nears a_plan_numbers a_planner_rests a_rows_alongs a_rows_ends a_rows_numbers a_rows_sorted a_rows_spare a_rows_squares a_rows_starts a_rows_strips a_rows_tally a_slants_firsts a_slants_seconds a_turns_known a_turns_lengths a_ways_lengths a_ways_slantwises a_ways_straights a_rings a_reaper a_land_depths c_land_laid c_land_head c_land_fieldCount c_land_innerCount c_plan_there c_plan_size c_rows_there c_rows_size c_slants_size c_ways_straightSize c_ways_slantwiseSize c_land_kinds c_land_nears c_plan_numbers c_planner_rests c_rows_alongs c_rows_ends c_rows_numbers c_rows_sorted c_rows_spare c_rows_squares c_rows_starts c_rows_strips c_rows_tally c_slants_firsts c_slants_seconds c_turns_known c_turns_lengths c_ways_lengths c_ways_slantwises c_ways_straights) ++ [la g a_out 1 c_out]) H locs → W p l e (rm9x 8 167) s m args below meth c H locs 0 0 Q (F0 m 0 ls []) by
    rw [← eH] at hW ⊢
    exact hS9 hW
  clear hW eH eL
  intro hW
  refine lv_aload_n (pc := 0) hx hb (dd dL_choose 0 rfl) rfl (lv_at hl 2 rfl) ?_
  refine lv_iconst (pc := 1) (v := 0) hx hb (dd dL_choose 1 rfl) (by decide) ?_
  refine lv_aload_n (pc := 2) hx hb (dd dL_choose 2 rfl) rfl (lv_at hl 0 rfl) ?_
  refine lv_iload_n (pc := 3) hx hb (dd dL_choose 3 rfl) rfl (lv_at hl 1 rfl) ?_
  refine callVI (pc := 4) (na := 1) (As := [.int v1]) (rest := [.int 0, .ref a_out]) (ws2 := ((w_X9_choose g a_t a_land a_plan a_planner a_rows a_slants a_turns a_ways a_land_kinds a_land_nears a_plan_numbers a_planner_rests a_rows_alongs a_rows_ends a_rows_numbers a_rows_sorted a_rows_spare a_rows_squares a_rows_starts a_rows_strips a_rows_tally a_slants_firsts a_slants_seconds a_turns_known a_turns_lengths a_ways_lengths a_ways_slantwises a_ways_straights a_rings a_reaper a_land_depths c_land_laid c_land_head c_land_fieldCount c_land_innerCount o_plan_there o_plan_size o_rows_there o_rows_size c_slants_size o_ways_straightSize o_ways_slantwiseSize c_land_kinds c_land_nears o_plan_numbers o_planner_rests o_rows_alongs o_rows_ends o_rows_numbers o_rows_sorted o_rows_spare o_rows_squares o_rows_starts o_rows_strips o_rows_tally c_slants_firsts c_slants_seconds o_turns_known o_turns_lengths o_ways_lengths o_ways_slantwises o_ways_straights) ++ [la g a_out 1 c_out])) M hl.1 hW (t_X9_choose l g a_t a_land a_plan a_planner a_rows a_slants a_turns a_ways a_land_kinds a_land_nears a_plan_numbers a_planner_rests a_rows_alongs a_rows_ends a_rows_numbers a_rows_sorted a_rows_spare a_rows_squares a_rows_starts a_rows_strips a_rows_tally a_slants_firsts a_slants_seconds a_turns_known a_turns_lengths a_ways_lengths a_ways_slantwises a_ways_straights a_rings a_reaper a_land_depths c_land_laid c_land_head c_land_fieldCount c_land_innerCount c_plan_there c_plan_size c_rows_there c_rows_size c_slants_size c_ways_straightSize c_ways_slantwiseSize c_land_kinds c_land_nears c_plan_numbers c_planner_rests c_rows_alongs c_rows_ends c_rows_numbers c_rows_sorted c_rows_spare c_rows_squares c_rows_starts c_rows_strips c_rows_tally c_slants_firsts c_slants_seconds c_turns_known c_turns_lengths c_ways_lengths c_ways_slantwises c_ways_straights v1 r0 o_plan_there o_plan_size o_rows_there o_rows_size o_ways_straightSize o_ways_slantwiseSize o_plan_numbers o_planner_rests o_rows_alongs o_rows_ends o_rows_numbers o_rows_sorted o_rows_spare o_rows_squares o_rows_starts o_rows_strips o_rows_tally o_turns_known o_turns_lengths o_ways_lengths o_ways_slantwises o_ways_straights hr) rfl [0, 1, 2, 3, 4, 5, 6, 7, 8, 9, 10, 11, 12, 13, 14, 15, 16, 17, 18, 19, 20, 21, 22, 23, 24, 25, 26, 27] [28] [1, 2, 3, 4, 5, 6, 7, 8, 9, 10, 11, 12, 13, 14, 15, 16, 17, 18, 19, 20, 21, 22, 23, 24, 25, 26, 27, 28, 0] rfl rfl rfl rfl rfl rfl rfl 0 9 rfl rfl rfl (uw4 132 rfl rfl) (uw4 129 rfl rfl) (uw4 130 rfl rfl) (uw4 131 rfl rfl) (uw1 1 rfl rfl) ⟨by decide, by decide, by decide⟩ rfl ⟨by decide, by decide⟩ (Nat.le_of_ble_eq_true rfl) ⟨Nat.zero_le _, Nat.zero_le _⟩ (dd dL_choose 4 rfl) (fun H locs hW => ?_)
  refine lv_i2l (pc := 7) hx hb (dd dL_choose 5 rfl) rfl ?_
  refine rLast (pc := 8) M hW 28 rfl (by decide) rfl (ws' := ((w_X9_choose g a_t a_land a_plan a_planner a_rows a_slants a_turns a_ways a_land_kinds a_land_nears a_plan_numbers a_planner_rests a_rows_alongs a_rows_ends a_rows_numbers a_rows_sorted a_rows_spare a_rows_squares a_rows_starts a_rows_strips a_rows_tally a_slants_firsts a_slants_seconds a_turns_known a_turns_lengths a_ways_lengths a_ways_slantwises a_ways_straights a_rings a_reaper a_land_depths c_land_laid c_land_head c_land_fieldCount c_land_innerCount o_plan_there o_plan_size o_rows_there o_rows_size c_slants_size o_ways_straightSize o_ways_slantwiseSize c_land_kinds c_land_nears o_plan_numbers o_planner_rests o_rows_alongs o_rows_ends o_rows_numbers o_rows_sorted o_rows_spare o_rows_squares o_rows_starts o_rows_strips o_rows_tally c_slants_firsts c_slants_seconds o_turns_known o_turns_lengths o_ways_lengths o_ways_slantwises o_ways_straights) ++ [la g a_out 1 (vp_updL c_out 0 (Int32.toInt64 r0))])) rfl (dd dL_choose 6 rfl) (fun H locs hW => ?_)
  refine lv_goto (pc := 9) (tgt := 18) hx hb (dd dL_choose 7 rfl) (by decide) ?_
  refine lv_iconst (pc := 18) (v := 0) hx hb (dd dL_choose 14 rfl) (by decide) ?_
  refine W.widen (k := 1) (n := 6) (by decide) (by decide) ?_
  exact ret _ _ _ 19 hW (dd dL_choose 15 rfl)
set_option maxHeartbeats 4000000 in
set_option maxRecDepth 100000 in
theorem x_L_choose_1 (l : Launch) (hl9 : l.stackTraces = false) (g : G9) (a_t a_land a_plan a_planner a_rows a_slants a_turns a_ways a_land_kinds a_land_nears a_plan_numbers a_planner_rests a_rows_alongs a_rows_ends a_rows_numbers a_rows_sorted a_rows_spare a_rows_squares a_rows_starts a_rows_strips a_rows_tally a_slants_firsts a_slants_seconds a_turns_known a_turns_lengths a_ways_lengths a_ways_slantwises a_ways_straights a_rings a_reaper a_land_depths a_out : Nat) (c_land_laid c_land_head c_land_fieldCount c_land_innerCount c_plan_there c_plan_size c_rows_there c_rows_size c_slants_size c_ways_straightSize c_ways_slantwiseSize : Int32) (c_land_kinds c_land_nears c_plan_numbers c_planner_rests c_rows_alongs c_rows_ends c_rows_numbers c_rows_sorted c_rows_spare c_rows_squares c_rows_starts c_rows_strips c_rows_tally c_slants_firsts c_slants_seconds c_turns_known c_turns_lengths c_ways_lengths c_ways_slantwises c_ways_straights : Ar) (c_out : Nat → Int64) (v1 : Int32) (hr : X9_choose c_land_laid c_land_innerCount c_plan_there c_plan_size c_rows_there c_rows_size c_slants_size c_ways_straightSize c_ways_slantwiseSize c_land_kinds c_land_nears c_plan_numbers c_planner_rests c_rows_alongs c_rows_ends c_rows_numbers c_rows_sorted c_rows_spare c_rows_squares c_rows_starts c_rows_strips c_rows_tally c_slants_firsts c_slants_seconds c_turns_known c_turns_lengths c_ways_lengths c_ways_slantwises c_ways_straights v1 = some (.inl 4)) : CtW l g yL_choose cL_choose 4 [(0, 9, 12, 33), (0, 9, 15, 15)] 8 167 [.ref a_t, .int v1, .ref a_out] ((w_X9_choose g a_t a_land a_plan a_planner a_rows a_slants a_turns a_ways a_land_kinds a_land_nears a_plan_numbers a_planner_rests a_rows_alongs a_rows_ends a_rows_numbers a_rows_sorted a_rows_spare a_rows_squares a_rows_starts a_rows_strips a_rows_tally a_slants_firsts a_slants_seconds a_turns_known a_turns_lengths a_ways_lengths a_ways_slantwises a_ways_straights a_rings a_reaper a_land_depths c_land_laid c_land_head c_land_fieldCount c_land_innerCount c_plan_there c_plan_size c_rows_there c_rows_size c_slants_size c_ways_straightSize c_ways_slantwiseSize c_land_kinds c_land_nears c_plan_numbers c_planner_rests c_rows_alongs c_rows_ends c_rows_numbers c_rows_sorted c_rows_spare c_rows_squares c_rows_starts c_rows_strips c_rows_tally c_slants_firsts c_slants_seconds c_turns_known c_turns_lengths c_ways_lengths c_ways_slantwises c_ways_straights) ++ [la g a_out 1 c_out]) 1 ((w_X9_choose g a_t a_land a_plan a_planner a_rows a_slants a_turns a_ways a_land_kinds a_land_nears a_plan_numbers a_planner_rests a_rows_alongs a_rows_ends a_rows_numbers a_rows_sorted a_rows_spare a_rows_squares a_rows_starts a_rows_strips a_rows_tally a_slants_firsts a_slants_seconds a_turns_known a_turns_lengths a_ways_lengths a_ways_slantwises a_ways_straights a_rings a_reaper a_land_depths c_land_laid c_land_head c_land_fieldCount c_land_innerCount c_plan_there c_plan_size c_rows_there c_rows_size c_slants_size c_ways_straightSize c_ways_slantwiseSize c_land_kinds c_land_nears c_plan_numbers c_planner_rests c_rows_alongs c_rows_ends c_rows_numbers c_rows_sorted c_rows_spare c_rows_squares c_rows_starts c_rows_strips c_rows_tally c_slants_firsts c_slants_seconds c_turns_known c_turns_lengths c_ways_lengths c_ways_slantwises c_ways_straights) ++ [la g a_out 1 c_out]) := by
  refine startW (by decide) (Nat.le_of_ble_eq_true rfl) ?_
  intro p e s m below meth c A Q ls args M hW hl htab ret
  have hx := M.1
  have hb := M.2.1
  have hown := M.2.2.2.1
  have hu := M.2.2.2.2.1
  have hl : lv_has ls 4 [(0, .ref a_t), (1, .int v1), (2, .ref a_out)] := hl
  obtain ⟨H, eH⟩ : ∃ z, z = s.heap := ⟨_, rfl⟩
  obtain ⟨locs, eL⟩ : ∃ z, z = ([] : List Loc) := ⟨_, rfl⟩
  rw [← eL] at hW ⊢
  suffices hS9 : WD g s A ((w_X9_choose g a_t a_land a_plan a_planner a_rows a_slants a_turns a_ways a_land_kinds a_land_nears a_plan_numbers a_planner_rests a_rows_alongs a_rows_ends a_rows_numbers a_rows_sorted a_rows_spare a_rows_squares a_rows_starts a_rows_strips a_rows_tally a_slants_firsts a_slants_seconds a_turns_known a_turns_lengths a_ways_lengths a_ways_slantwises a_ways_straights a_rings a_reaper a_land_depths c_land_laid c_land_head c_land_fieldCount c_land_innerCount c_plan_there c_plan_size c_rows_there c_rows_size c_slants_size c_ways_straightSize c_ways_slantwiseSize c_land_kinds c_land_nears c_plan_numbers c_planner_rests c_rows_alongs c_rows_ends c_rows_numbers c_rows_sorted c_rows_spare c_rows_squares c_rows_starts c_rows_strips c_rows_tally c_slants_firsts c_slants_seconds c_turns_known c_turns_lengths c_ways_lengths c_ways_slantwises c_ways_straights) ++ [la g a_out 1 c_out]) H locs → W p l e (rm9x 8 167) s m args below meth c H locs 0 0 Q (F0 m 0 ls []) by
    rw [← eH] at hW ⊢
    exact hS9 hW
  clear hW eH eL
  intro hW
  refine lv_aload_n (pc := 0) hx hb (dd dL_choose 0 rfl) rfl (lv_at hl 2 rfl) ?_
  refine lv_iconst (pc := 1) (v := 0) hx hb (dd dL_choose 1 rfl) (by decide) ?_
  refine lv_aload_n (pc := 2) hx hb (dd dL_choose 2 rfl) rfl (lv_at hl 0 rfl) ?_
  refine lv_iload_n (pc := 3) hx hb (dd dL_choose 3 rfl) rfl (lv_at hl 1 rfl) ?_
  have ex := M.2.2.2.2.2.2.2.2.2.2.2.2.2
  refine callXc (pc := 4) (na := 1) (As := [.int v1]) (rest := [.int 0, .ref a_out]) (Or.inr rfl) M hl.1 hW (x_X9_choose l hl9 g a_t a_land a_plan a_planner a_rows a_slants a_turns a_ways a_land_kinds a_land_nears a_plan_numbers a_planner_rests a_rows_alongs a_rows_ends a_rows_numbers a_rows_sorted a_rows_spare a_rows_squares a_rows_starts a_rows_strips a_rows_tally a_slants_firsts a_slants_seconds a_turns_known a_turns_lengths a_ways_lengths a_ways_slantwises a_ways_straights a_rings a_reaper a_land_depths c_land_laid c_land_head c_land_fieldCount c_land_innerCount c_plan_there c_plan_size c_rows_there c_rows_size c_slants_size c_ways_straightSize c_ways_slantwiseSize c_land_kinds c_land_nears c_plan_numbers c_planner_rests c_rows_alongs c_rows_ends c_rows_numbers c_rows_sorted c_rows_spare c_rows_squares c_rows_starts c_rows_strips c_rows_tally c_slants_firsts c_slants_seconds c_turns_known c_turns_lengths c_ways_lengths c_ways_slantwises c_ways_straights v1 4 hr) rfl [0, 1, 2, 3, 4, 5, 6, 7, 8, 9, 10, 11, 12, 13, 14, 15, 16, 17, 18, 19, 20, 21, 22, 23, 24, 25, 26, 27] [28] [1, 2, 3, 4, 5, 6, 7, 8, 9, 10, 11, 12, 13, 14, 15, 16, 17, 18, 19, 20, 21, 22, 23, 24, 25, 26, 27, 28, 0] rfl rfl rfl rfl rfl rfl rfl 0 9 rfl rfl rfl (uw4 132 rfl rfl) (uw4 129 rfl rfl) (uw4 130 rfl rfl) (uw4 131 rfl rfl) (uw1 1 rfl rfl) ⟨by decide, by decide, by decide⟩ rfl ⟨by decide, by decide⟩ (Nat.le_of_ble_eq_true rfl) ⟨by decide, by decide⟩ (dd dL_choose 4 rfl) (fun q ce H locs hW hce hcv hcl => ?_)
  refine vx_catch (own := RL) (name := "java/lang/IllegalStateException") hown [] ⟨0, 9, 12, 33⟩ [⟨0, 9, 15, 15⟩] (htab.trans rfl) (fun z hz => nomatch hz) (by decide) (by decide) (hu _ (uw3 106 rfl rfl)) (va_Nw.use rfl (ex.2.2.2.1 _ (by decide))) hce hcv hcl ?_
  refine lv_astore_n (pc := 12) (lv' := [(3, .ref q), (0, .ref a_t), (1, .int v1), (2, .ref a_out)]) hx hb (dd dL_choose 8 rfl) rfl hl (by decide) rfl (fun ls hl => ?_)
  refine lv_iconst (pc := 13) (v := 1) hx hb (dd dL_choose 9 rfl) (by decide) ?_
  exact ret _ _ _ 14 hW (dd dL_choose 10 rfl)
set_option maxHeartbeats 4000000 in
set_option maxRecDepth 100000 in
theorem x_L_choose_2 (l : Launch) (hl9 : l.stackTraces = false) (g : G9) (a_t a_land a_plan a_planner a_rows a_slants a_turns a_ways a_land_kinds a_land_nears a_plan_numbers a_planner_rests a_rows_alongs a_rows_ends a_rows_numbers a_rows_sorted a_rows_spare a_rows_squares a_rows_starts a_rows_strips a_rows_tally a_slants_firsts a_slants_seconds a_turns_known a_turns_lengths a_ways_lengths a_ways_slantwises a_ways_straights a_rings a_reaper a_land_depths a_out : Nat) (c_land_laid c_land_head c_land_fieldCount c_land_innerCount c_plan_there c_plan_size c_rows_there c_rows_size c_slants_size c_ways_straightSize c_ways_slantwiseSize : Int32) (c_land_kinds c_land_nears c_plan_numbers c_planner_rests c_rows_alongs c_rows_ends c_rows_numbers c_rows_sorted c_rows_spare c_rows_squares c_rows_starts c_rows_strips c_rows_tally c_slants_firsts c_slants_seconds c_turns_known c_turns_lengths c_ways_lengths c_ways_slantwises c_ways_straights : Ar) (c_out : Nat → Int64) (v1 : Int32) (hr : X9_choose c_land_laid c_land_innerCount c_plan_there c_plan_size c_rows_there c_rows_size c_slants_size c_ways_straightSize c_ways_slantwiseSize c_land_kinds c_land_nears c_plan_numbers c_planner_rests c_rows_alongs c_rows_ends c_rows_numbers c_rows_sorted c_rows_spare c_rows_squares c_rows_starts c_rows_strips c_rows_tally c_slants_firsts c_slants_seconds c_turns_known c_turns_lengths c_ways_lengths c_ways_slantwises c_ways_straights v1 = some (.inl 2)) : CtW l g yL_choose cL_choose 4 [(0, 9, 12, 33), (0, 9, 15, 15)] 8 167 [.ref a_t, .int v1, .ref a_out] ((w_X9_choose g a_t a_land a_plan a_planner a_rows a_slants a_turns a_ways a_land_kinds a_land_nears a_plan_numbers a_planner_rests a_rows_alongs a_rows_ends a_rows_numbers a_rows_sorted a_rows_spare a_rows_squares a_rows_starts a_rows_strips a_rows_tally a_slants_firsts a_slants_seconds a_turns_known a_turns_lengths a_ways_lengths a_ways_slantwises a_ways_straights a_rings a_reaper a_land_depths c_land_laid c_land_head c_land_fieldCount c_land_innerCount c_plan_there c_plan_size c_rows_there c_rows_size c_slants_size c_ways_straightSize c_ways_slantwiseSize c_land_kinds c_land_nears c_plan_numbers c_planner_rests c_rows_alongs c_rows_ends c_rows_numbers c_rows_sorted c_rows_spare c_rows_squares c_rows_starts c_rows_strips c_rows_tally c_slants_firsts c_slants_seconds c_turns_known c_turns_lengths c_ways_lengths c_ways_slantwises c_ways_straights) ++ [la g a_out 1 c_out]) 2 ((w_X9_choose g a_t a_land a_plan a_planner a_rows a_slants a_turns a_ways a_land_kinds a_land_nears a_plan_numbers a_planner_rests a_rows_alongs a_rows_ends a_rows_numbers a_rows_sorted a_rows_spare a_rows_squares a_rows_starts a_rows_strips a_rows_tally a_slants_firsts a_slants_seconds a_turns_known a_turns_lengths a_ways_lengths a_ways_slantwises a_ways_straights a_rings a_reaper a_land_depths c_land_laid c_land_head c_land_fieldCount c_land_innerCount c_plan_there c_plan_size c_rows_there c_rows_size c_slants_size c_ways_straightSize c_ways_slantwiseSize c_land_kinds c_land_nears c_plan_numbers c_planner_rests c_rows_alongs c_rows_ends c_rows_numbers c_rows_sorted c_rows_spare c_rows_squares c_rows_starts c_rows_strips c_rows_tally c_slants_firsts c_slants_seconds c_turns_known c_turns_lengths c_ways_lengths c_ways_slantwises c_ways_straights) ++ [la g a_out 1 c_out]) := by
  refine startW (by decide) (Nat.le_of_ble_eq_true rfl) ?_
  intro p e s m below meth c A Q ls args M hW hl htab ret
  have hx := M.1
  have hb := M.2.1
  have hown := M.2.2.2.1
  have hu := M.2.2.2.2.1
  have hl : lv_has ls 4 [(0, .ref a_t), (1, .int v1), (2, .ref a_out)] := hl
  obtain ⟨H, eH⟩ : ∃ z, z = s.heap := ⟨_, rfl⟩
  obtain ⟨locs, eL⟩ : ∃ z, z = ([] : List Loc) := ⟨_, rfl⟩
  rw [← eL] at hW ⊢
  suffices hS9 : WD g s A ((w_X9_choose g a_t a_land a_plan a_planner a_rows a_slants a_turns a_ways a_land_kinds a_land_nears a_plan_numbers a_planner_rests a_rows_alongs a_rows_ends a_rows_numbers a_rows_sorted a_rows_spare a_rows_squares a_rows_starts a_rows_strips a_rows_tally a_slants_firsts a_slants_seconds a_turns_known a_turns_lengths a_ways_lengths a_ways_slantwises a_ways_straights a_rings a_reaper a_land_depths c_land_laid c_land_head c_land_fieldCount c_land_innerCount c_plan_there c_plan_size c_rows_there c_rows_size c_slants_size c_ways_straightSize c_ways_slantwiseSize c_land_kinds c_land_nears c_plan_numbers c_planner_rests c_rows_alongs c_rows_ends c_rows_numbers c_rows_sorted c_rows_spare c_rows_squares c_rows_starts c_rows_strips c_rows_tally c_slants_firsts c_slants_seconds c_turns_known c_turns_lengths c_ways_lengths c_ways_slantwises c_ways_straights) ++ [la g a_out 1 c_out]) H locs → W p l e (rm9x 8 167) s m args below meth c H locs 0 0 Q (F0 m 0 ls []) by
    rw [← eH] at hW ⊢
    exact hS9 hW
  clear hW eH eL
  intro hW
  refine lv_aload_n (pc := 0) hx hb (dd dL_choose 0 rfl) rfl (lv_at hl 2 rfl) ?_
  refine lv_iconst (pc := 1) (v := 0) hx hb (dd dL_choose 1 rfl) (by decide) ?_
  refine lv_aload_n (pc := 2) hx hb (dd dL_choose 2 rfl) rfl (lv_at hl 0 rfl) ?_
  refine lv_iload_n (pc := 3) hx hb (dd dL_choose 3 rfl) rfl (lv_at hl 1 rfl) ?_
  have ex := M.2.2.2.2.2.2.2.2.2.2.2.2.2
  refine callXc (pc := 4) (na := 1) (As := [.int v1]) (rest := [.int 0, .ref a_out]) (Or.inr rfl) M hl.1 hW (x_X9_choose l hl9 g a_t a_land a_plan a_planner a_rows a_slants a_turns a_ways a_land_kinds a_land_nears a_plan_numbers a_planner_rests a_rows_alongs a_rows_ends a_rows_numbers a_rows_sorted a_rows_spare a_rows_squares a_rows_starts a_rows_strips a_rows_tally a_slants_firsts a_slants_seconds a_turns_known a_turns_lengths a_ways_lengths a_ways_slantwises a_ways_straights a_rings a_reaper a_land_depths c_land_laid c_land_head c_land_fieldCount c_land_innerCount c_plan_there c_plan_size c_rows_there c_rows_size c_slants_size c_ways_straightSize c_ways_slantwiseSize c_land_kinds c_land_nears c_plan_numbers c_planner_rests c_rows_alongs c_rows_ends c_rows_numbers c_rows_sorted c_rows_spare c_rows_squares c_rows_starts c_rows_strips c_rows_tally c_slants_firsts c_slants_seconds c_turns_known c_turns_lengths c_ways_lengths c_ways_slantwises c_ways_straights v1 2 hr) rfl [0, 1, 2, 3, 4, 5, 6, 7, 8, 9, 10, 11, 12, 13, 14, 15, 16, 17, 18, 19, 20, 21, 22, 23, 24, 25, 26, 27] [28] [1, 2, 3, 4, 5, 6, 7, 8, 9, 10, 11, 12, 13, 14, 15, 16, 17, 18, 19, 20, 21, 22, 23, 24, 25, 26, 27, 28, 0] rfl rfl rfl rfl rfl rfl rfl 0 9 rfl rfl rfl (uw4 132 rfl rfl) (uw4 129 rfl rfl) (uw4 130 rfl rfl) (uw4 131 rfl rfl) (uw1 1 rfl rfl) ⟨by decide, by decide, by decide⟩ rfl ⟨by decide, by decide⟩ (Nat.le_of_ble_eq_true rfl) ⟨by decide, by decide⟩ (dd dL_choose 4 rfl) (fun q ce H locs hW hce hcv hcl => ?_)
  refine vx_catch (own := RL) (name := "java/lang/IllegalArgumentException") hown [⟨0, 9, 12, 33⟩] ⟨0, 9, 15, 15⟩ [] (htab.trans rfl) (fun z hz => by
      simp only [List.mem_cons, List.not_mem_nil, or_false] at hz
      rcases hz with rfl
      · exact Or.inr ⟨by decide, "java/lang/IllegalStateException", hu _ (uw3 106 rfl rfl), ex.2.2.2.2.1 _ (by decide) _ (by decide) (by decide)⟩) (by decide) (by decide) (hu _ (uw2 118 rfl rfl)) (va_Nw.use rfl (ex.2.2.2.1 _ (by decide))) hce hcv hcl ?_
  refine lv_astore_n (pc := 15) (lv' := [(3, .ref q), (0, .ref a_t), (1, .int v1), (2, .ref a_out)]) hx hb (dd dL_choose 11 rfl) rfl hl (by decide) rfl (fun ls hl => ?_)
  refine lv_iconst (pc := 16) (v := 2) hx hb (dd dL_choose 12 rfl) (by decide) ?_
  exact ret _ _ _ 17 hW (dd dL_choose 13 rfl)
set_option maxHeartbeats 4000000 in
set_option maxRecDepth 100000 in
theorem n_L_yields (l : Launch) (g : G9) (a_t a_reaper a_reaper_crop a_rings a_land a_ways a_rows a_turns a_plan a_planner a_slants a_reaper_bearing a_reaper_findings a_reaper_places : Nat) (c_reaper_capacity c_reaper_weight c_reaper_unload : Int32) (c_reaper_crop : Ar) (v1 v2 v3 : Int32) (o_reaper_crop : Ar) (hr : X9_yields c_reaper_crop v1 v2 v3 = some (.inr o_reaper_crop)) : CtW l g yL_yields cL_yields 5 [(0, 7, 10, 13), (0, 7, 14, 15)] 8 135 [.ref a_t, .int v1, .int v2, .int v3] (w_X9_yields g a_t a_reaper a_reaper_crop a_rings a_land a_ways a_rows a_turns a_plan a_planner a_slants a_reaper_bearing a_reaper_findings a_reaper_places c_reaper_capacity c_reaper_weight c_reaper_unload c_reaper_crop) 0 (w_X9_yields g a_t a_reaper a_reaper_crop a_rings a_land a_ways a_rows a_turns a_plan a_planner a_slants a_reaper_bearing a_reaper_findings a_reaper_places c_reaper_capacity c_reaper_weight c_reaper_unload o_reaper_crop) := by
  refine startW (by decide) (Nat.le_of_ble_eq_true rfl) ?_
  intro p e s m below meth c A Q ls args M hW hl htab ret
  have hx := M.1
  have hb := M.2.1
  have hown := M.2.2.2.1
  have hu := M.2.2.2.2.1
  have hl : lv_has ls 5 [(0, .ref a_t), (1, .int v1), (2, .int v2), (3, .int v3)] := hl
  obtain ⟨H, eH⟩ : ∃ z, z = s.heap := ⟨_, rfl⟩
  obtain ⟨locs, eL⟩ : ∃ z, z = ([] : List Loc) := ⟨_, rfl⟩
  rw [← eL] at hW ⊢
  suffices hS9 : WD g s A (w_X9_yields g a_t a_reaper a_reaper_crop a_rings a_land a_ways a_rows a_turns a_plan a_planner a_slants a_reaper_bearing a_reaper_findings a_reaper_places c_reaper_capacity c_reaper_weight c_reaper_unload c_reaper_crop) H locs → W p l e (rm9x 8 135) s m args below meth c H locs 0 0 Q (F0 m 0 ls []) by
    rw [← eH] at hW ⊢
    exact hS9 hW
  clear hW eH eL
  intro hW
  refine lv_aload_n (pc := 0) hx hb (dd dL_yields 0 rfl) rfl (lv_at hl 0 rfl) ?_
  refine lv_iload_n (pc := 1) hx hb (dd dL_yields 1 rfl) rfl (lv_at hl 1 rfl) ?_
  refine lv_iload_n (pc := 2) hx hb (dd dL_yields 2 rfl) rfl (lv_at hl 2 rfl) ?_
  refine lv_iload_n (pc := 3) hx hb (dd dL_yields 3 rfl) rfl (lv_at hl 3 rfl) ?_
  refine callVV (pc := 4) (na := 3) (As := [.int v1, .int v2, .int v3]) (rest := []) (ws2 := (w_X9_yields g a_t a_reaper a_reaper_crop a_rings a_land a_ways a_rows a_turns a_plan a_planner a_slants a_reaper_bearing a_reaper_findings a_reaper_places c_reaper_capacity c_reaper_weight c_reaper_unload o_reaper_crop)) M hl.1 hW (t_X9_yields l g a_t a_reaper a_reaper_crop a_rings a_land a_ways a_rows a_turns a_plan a_planner a_slants a_reaper_bearing a_reaper_findings a_reaper_places c_reaper_capacity c_reaper_weight c_reaper_unload c_reaper_crop v1 v2 v3 o_reaper_crop hr) rfl [0, 1, 2] [] [0, 1, 2] rfl rfl rfl rfl rfl rfl rfl 0 9 rfl rfl rfl (uw4 143 rfl rfl) (uw4 140 rfl rfl) (uw4 141 rfl rfl) (uw4 142 rfl rfl) (uw1 1 rfl rfl) ⟨by decide, by decide, by decide⟩ rfl ⟨by decide, by decide⟩ (Nat.le_of_ble_eq_true rfl) ⟨Nat.zero_le _, Nat.zero_le _⟩ (dd dL_yields 4 rfl) (fun H locs hW => ?_)
  refine lv_goto (pc := 7) (tgt := 18) hx hb (dd dL_yields 5 rfl) (by decide) ?_
  refine lv_iconst (pc := 18) (v := 0) hx hb (dd dL_yields 12 rfl) (by decide) ?_
  refine W.widen (k := 1) (n := 6) (by decide) (by decide) ?_
  exact ret _ _ _ 19 hW (dd dL_yields 13 rfl)
set_option maxHeartbeats 4000000 in
set_option maxRecDepth 100000 in
theorem x_L_yields_1 (l : Launch) (hl9 : l.stackTraces = false) (g : G9) (a_t a_reaper a_reaper_crop a_rings a_land a_ways a_rows a_turns a_plan a_planner a_slants a_reaper_bearing a_reaper_findings a_reaper_places : Nat) (c_reaper_capacity c_reaper_weight c_reaper_unload : Int32) (c_reaper_crop : Ar) (v1 v2 v3 : Int32) (hr : X9_yields c_reaper_crop v1 v2 v3 = some (.inl 1)) : CtW l g yL_yields cL_yields 5 [(0, 7, 10, 13), (0, 7, 14, 15)] 8 135 [.ref a_t, .int v1, .int v2, .int v3] (w_X9_yields g a_t a_reaper a_reaper_crop a_rings a_land a_ways a_rows a_turns a_plan a_planner a_slants a_reaper_bearing a_reaper_findings a_reaper_places c_reaper_capacity c_reaper_weight c_reaper_unload c_reaper_crop) 1 (w_X9_yields g a_t a_reaper a_reaper_crop a_rings a_land a_ways a_rows a_turns a_plan a_planner a_slants a_reaper_bearing a_reaper_findings a_reaper_places c_reaper_capacity c_reaper_weight c_reaper_unload c_reaper_crop) := by
  refine startW (by decide) (Nat.le_of_ble_eq_true rfl) ?_
  intro p e s m below meth c A Q ls args M hW hl htab ret
  have hx := M.1
  have hb := M.2.1
  have hown := M.2.2.2.1
  have hu := M.2.2.2.2.1
  have hl : lv_has ls 5 [(0, .ref a_t), (1, .int v1), (2, .int v2), (3, .int v3)] := hl
  obtain ⟨H, eH⟩ : ∃ z, z = s.heap := ⟨_, rfl⟩
  obtain ⟨locs, eL⟩ : ∃ z, z = ([] : List Loc) := ⟨_, rfl⟩
  rw [← eL] at hW ⊢
  suffices hS9 : WD g s A (w_X9_yields g a_t a_reaper a_reaper_crop a_rings a_land a_ways a_rows a_turns a_plan a_planner a_slants a_reaper_bearing a_reaper_findings a_reaper_places c_reaper_capacity c_reaper_weight c_reaper_unload c_reaper_crop) H locs → W p l e (rm9x 8 135) s m args below meth c H locs 0 0 Q (F0 m 0 ls []) by
    rw [← eH] at hW ⊢
    exact hS9 hW
  clear hW eH eL
  intro hW
  refine lv_aload_n (pc := 0) hx hb (dd dL_yields 0 rfl) rfl (lv_at hl 0 rfl) ?_
  refine lv_iload_n (pc := 1) hx hb (dd dL_yields 1 rfl) rfl (lv_at hl 1 rfl) ?_
  refine lv_iload_n (pc := 2) hx hb (dd dL_yields 2 rfl) rfl (lv_at hl 2 rfl) ?_
  refine lv_iload_n (pc := 3) hx hb (dd dL_yields 3 rfl) rfl (lv_at hl 3 rfl) ?_
  have ex := M.2.2.2.2.2.2.2.2.2.2.2.2.2
  refine callXc (pc := 4) (na := 3) (As := [.int v1, .int v2, .int v3]) (rest := []) (Or.inl rfl) M hl.1 hW (x_X9_yields l hl9 g a_t a_reaper a_reaper_crop a_rings a_land a_ways a_rows a_turns a_plan a_planner a_slants a_reaper_bearing a_reaper_findings a_reaper_places c_reaper_capacity c_reaper_weight c_reaper_unload c_reaper_crop v1 v2 v3 1 hr) rfl [0, 1, 2] [] [0, 1, 2] rfl rfl rfl rfl rfl rfl rfl 0 9 rfl rfl rfl (uw4 143 rfl rfl) (uw4 140 rfl rfl) (uw4 141 rfl rfl) (uw4 142 rfl rfl) (uw1 1 rfl rfl) ⟨by decide, by decide, by decide⟩ rfl ⟨by decide, by decide⟩ (Nat.le_of_ble_eq_true rfl) ⟨by decide, by decide⟩ (dd dL_yields 4 rfl) (fun q ce H locs hW hce hcv hcl => ?_)
  refine vx_catch (own := RL) (name := "java/lang/IndexOutOfBoundsException") hown [] ⟨0, 7, 10, 13⟩ [⟨0, 7, 14, 15⟩] (htab.trans rfl) (fun z hz => nomatch hz) (by decide) (by decide) (hu _ (uw2 117 rfl rfl)) (va_Nw.use rfl (ex.2.2.2.1 _ (by decide))) hce hcv hcl ?_
  refine lv_astore (pc := 10) (lv' := [(4, .ref q), (0, .ref a_t), (1, .int v1), (2, .int v2), (3, .int v3)]) hx hb (dd dL_yields 6 rfl) hl (by decide) rfl (fun ls hl => ?_)
  refine lv_iconst (pc := 12) (v := 1) hx hb (dd dL_yields 7 rfl) (by decide) ?_
  exact ret _ _ _ 13 hW (dd dL_yields 8 rfl)
set_option maxHeartbeats 4000000 in
set_option maxRecDepth 100000 in
theorem x_L_yields_2 (l : Launch) (hl9 : l.stackTraces = false) (g : G9) (a_t a_reaper a_reaper_crop a_rings a_land a_ways a_rows a_turns a_plan a_planner a_slants a_reaper_bearing a_reaper_findings a_reaper_places : Nat) (c_reaper_capacity c_reaper_weight c_reaper_unload : Int32) (c_reaper_crop : Ar) (v1 v2 v3 : Int32) (hr : X9_yields c_reaper_crop v1 v2 v3 = some (.inl 2)) : CtW l g yL_yields cL_yields 5 [(0, 7, 10, 13), (0, 7, 14, 15)] 8 135 [.ref a_t, .int v1, .int v2, .int v3] (w_X9_yields g a_t a_reaper a_reaper_crop a_rings a_land a_ways a_rows a_turns a_plan a_planner a_slants a_reaper_bearing a_reaper_findings a_reaper_places c_reaper_capacity c_reaper_weight c_reaper_unload c_reaper_crop) 2 (w_X9_yields g a_t a_reaper a_reaper_crop a_rings a_land a_ways a_rows a_turns a_plan a_planner a_slants a_reaper_bearing a_reaper_findings a_reaper_places c_reaper_capacity c_reaper_weight c_reaper_unload c_reaper_crop) := by
  refine startW (by decide) (Nat.le_of_ble_eq_true rfl) ?_
  intro p e s m below meth c A Q ls args M hW hl htab ret
  have hx := M.1
  have hb := M.2.1
  have hown := M.2.2.2.1
  have hu := M.2.2.2.2.1
  have hl : lv_has ls 5 [(0, .ref a_t), (1, .int v1), (2, .int v2), (3, .int v3)] := hl
  obtain ⟨H, eH⟩ : ∃ z, z = s.heap := ⟨_, rfl⟩
  obtain ⟨locs, eL⟩ : ∃ z, z = ([] : List Loc) := ⟨_, rfl⟩
  rw [← eL] at hW ⊢
  suffices hS9 : WD g s A (w_X9_yields g a_t a_reaper a_reaper_crop a_rings a_land a_ways a_rows a_turns a_plan a_planner a_slants a_reaper_bearing a_reaper_findings a_reaper_places c_reaper_capacity c_reaper_weight c_reaper_unload c_reaper_crop) H locs → W p l e (rm9x 8 135) s m args below meth c H locs 0 0 Q (F0 m 0 ls []) by
    rw [← eH] at hW ⊢
    exact hS9 hW
  clear hW eH eL
  intro hW
  refine lv_aload_n (pc := 0) hx hb (dd dL_yields 0 rfl) rfl (lv_at hl 0 rfl) ?_
  refine lv_iload_n (pc := 1) hx hb (dd dL_yields 1 rfl) rfl (lv_at hl 1 rfl) ?_
  refine lv_iload_n (pc := 2) hx hb (dd dL_yields 2 rfl) rfl (lv_at hl 2 rfl) ?_
  refine lv_iload_n (pc := 3) hx hb (dd dL_yields 3 rfl) rfl (lv_at hl 3 rfl) ?_
  have ex := M.2.2.2.2.2.2.2.2.2.2.2.2.2
  refine callXc (pc := 4) (na := 3) (As := [.int v1, .int v2, .int v3]) (rest := []) (Or.inl rfl) M hl.1 hW (x_X9_yields l hl9 g a_t a_reaper a_reaper_crop a_rings a_land a_ways a_rows a_turns a_plan a_planner a_slants a_reaper_bearing a_reaper_findings a_reaper_places c_reaper_capacity c_reaper_weight c_reaper_unload c_reaper_crop v1 v2 v3 2 hr) rfl [0, 1, 2] [] [0, 1, 2] rfl rfl rfl rfl rfl rfl rfl 0 9 rfl rfl rfl (uw4 143 rfl rfl) (uw4 140 rfl rfl) (uw4 141 rfl rfl) (uw4 142 rfl rfl) (uw1 1 rfl rfl) ⟨by decide, by decide, by decide⟩ rfl ⟨by decide, by decide⟩ (Nat.le_of_ble_eq_true rfl) ⟨by decide, by decide⟩ (dd dL_yields 4 rfl) (fun q ce H locs hW hce hcv hcl => ?_)
  refine vx_catch (own := RL) (name := "java/lang/IllegalArgumentException") hown [⟨0, 7, 10, 13⟩] ⟨0, 7, 14, 15⟩ [] (htab.trans rfl) (fun z hz => by
      simp only [List.mem_cons, List.not_mem_nil, or_false] at hz
      rcases hz with rfl
      · exact Or.inr ⟨by decide, "java/lang/IndexOutOfBoundsException", hu _ (uw2 117 rfl rfl), ex.2.2.2.2.1 _ (by decide) _ (by decide) (by decide)⟩) (by decide) (by decide) (hu _ (uw2 118 rfl rfl)) (va_Nw.use rfl (ex.2.2.2.1 _ (by decide))) hce hcv hcl ?_
  refine lv_astore (pc := 14) (lv' := [(4, .ref q), (0, .ref a_t), (1, .int v1), (2, .int v2), (3, .int v3)]) hx hb (dd dL_yields 9 rfl) hl (by decide) rfl (fun ls hl => ?_)
  refine lv_iconst (pc := 16) (v := 2) hx hb (dd dL_yields 10 rfl) (by decide) ?_
  exact ret _ _ _ 17 hW (dd dL_yields 11 rfl)
set_option maxHeartbeats 4000000 in
set_option maxRecDepth 100000 in
theorem n_L_bears (l : Launch) (g : G9) (a_t a_reaper a_reaper_bearing a_rings a_land a_ways a_rows a_turns a_plan a_planner a_slants a_reaper_crop a_reaper_findings a_reaper_places : Nat) (c_reaper_capacity c_reaper_weight c_reaper_unload : Int32) (c_reaper_bearing : Ar) (v1 v2 v3 : Int32) (o_reaper_bearing : Ar) (hr : X9_bears c_reaper_bearing v1 v2 v3 = some (.inr o_reaper_bearing)) : CtW l g yL_bears cL_bears 5 [(0, 7, 10, 13), (0, 7, 14, 15)] 8 135 [.ref a_t, .int v1, .int v2, .int v3] (w_X9_bears g a_t a_reaper a_reaper_bearing a_rings a_land a_ways a_rows a_turns a_plan a_planner a_slants a_reaper_crop a_reaper_findings a_reaper_places c_reaper_capacity c_reaper_weight c_reaper_unload c_reaper_bearing) 0 (w_X9_bears g a_t a_reaper a_reaper_bearing a_rings a_land a_ways a_rows a_turns a_plan a_planner a_slants a_reaper_crop a_reaper_findings a_reaper_places c_reaper_capacity c_reaper_weight c_reaper_unload o_reaper_bearing) := by
  refine startW (by decide) (Nat.le_of_ble_eq_true rfl) ?_
  intro p e s m below meth c A Q ls args M hW hl htab ret
  have hx := M.1
  have hb := M.2.1
  have hown := M.2.2.2.1
  have hu := M.2.2.2.2.1
  have hl : lv_has ls 5 [(0, .ref a_t), (1, .int v1), (2, .int v2), (3, .int v3)] := hl
  obtain ⟨H, eH⟩ : ∃ z, z = s.heap := ⟨_, rfl⟩
  obtain ⟨locs, eL⟩ : ∃ z, z = ([] : List Loc) := ⟨_, rfl⟩
  rw [← eL] at hW ⊢
  suffices hS9 : WD g s A (w_X9_bears g a_t a_reaper a_reaper_bearing a_rings a_land a_ways a_rows a_turns a_plan a_planner a_slants a_reaper_crop a_reaper_findings a_reaper_places c_reaper_capacity c_reaper_weight c_reaper_unload c_reaper_bearing) H locs → W p l e (rm9x 8 135) s m args below meth c H locs 0 0 Q (F0 m 0 ls []) by
    rw [← eH] at hW ⊢
    exact hS9 hW
  clear hW eH eL
  intro hW
  refine lv_aload_n (pc := 0) hx hb (dd dL_bears 0 rfl) rfl (lv_at hl 0 rfl) ?_
  refine lv_iload_n (pc := 1) hx hb (dd dL_bears 1 rfl) rfl (lv_at hl 1 rfl) ?_
  refine lv_iload_n (pc := 2) hx hb (dd dL_bears 2 rfl) rfl (lv_at hl 2 rfl) ?_
  refine lv_iload_n (pc := 3) hx hb (dd dL_bears 3 rfl) rfl (lv_at hl 3 rfl) ?_
  refine callVV (pc := 4) (na := 3) (As := [.int v1, .int v2, .int v3]) (rest := []) (ws2 := (w_X9_bears g a_t a_reaper a_reaper_bearing a_rings a_land a_ways a_rows a_turns a_plan a_planner a_slants a_reaper_crop a_reaper_findings a_reaper_places c_reaper_capacity c_reaper_weight c_reaper_unload o_reaper_bearing)) M hl.1 hW (t_X9_bears l g a_t a_reaper a_reaper_bearing a_rings a_land a_ways a_rows a_turns a_plan a_planner a_slants a_reaper_crop a_reaper_findings a_reaper_places c_reaper_capacity c_reaper_weight c_reaper_unload c_reaper_bearing v1 v2 v3 o_reaper_bearing hr) rfl [0, 1, 2] [] [0, 1, 2] rfl rfl rfl rfl rfl rfl rfl 0 9 rfl rfl rfl (uw4 156 rfl rfl) (uw4 153 rfl rfl) (uw4 154 rfl rfl) (uw4 155 rfl rfl) (uw1 1 rfl rfl) ⟨by decide, by decide, by decide⟩ rfl ⟨by decide, by decide⟩ (Nat.le_of_ble_eq_true rfl) ⟨Nat.zero_le _, Nat.zero_le _⟩ (dd dL_bears 4 rfl) (fun H locs hW => ?_)
  refine lv_goto (pc := 7) (tgt := 18) hx hb (dd dL_bears 5 rfl) (by decide) ?_
  refine lv_iconst (pc := 18) (v := 0) hx hb (dd dL_bears 12 rfl) (by decide) ?_
  refine W.widen (k := 1) (n := 6) (by decide) (by decide) ?_
  exact ret _ _ _ 19 hW (dd dL_bears 13 rfl)
set_option maxHeartbeats 4000000 in
set_option maxRecDepth 100000 in
theorem x_L_bears_1 (l : Launch) (hl9 : l.stackTraces = false) (g : G9) (a_t a_reaper a_reaper_bearing a_rings a_land a_ways a_rows a_turns a_plan a_planner a_slants a_reaper_crop a_reaper_findings a_reaper_places : Nat) (c_reaper_capacity c_reaper_weight c_reaper_unload : Int32) (c_reaper_bearing : Ar) (v1 v2 v3 : Int32) (hr : X9_bears c_reaper_bearing v1 v2 v3 = some (.inl 1)) : CtW l g yL_bears cL_bears 5 [(0, 7, 10, 13), (0, 7, 14, 15)] 8 135 [.ref a_t, .int v1, .int v2, .int v3] (w_X9_bears g a_t a_reaper a_reaper_bearing a_rings a_land a_ways a_rows a_turns a_plan a_planner a_slants a_reaper_crop a_reaper_findings a_reaper_places c_reaper_capacity c_reaper_weight c_reaper_unload c_reaper_bearing) 1 (w_X9_bears g a_t a_reaper a_reaper_bearing a_rings a_land a_ways a_rows a_turns a_plan a_planner a_slants a_reaper_crop a_reaper_findings a_reaper_places c_reaper_capacity c_reaper_weight c_reaper_unload c_reaper_bearing) := by
  refine startW (by decide) (Nat.le_of_ble_eq_true rfl) ?_
  intro p e s m below meth c A Q ls args M hW hl htab ret
  have hx := M.1
  have hb := M.2.1
  have hown := M.2.2.2.1
  have hu := M.2.2.2.2.1
  have hl : lv_has ls 5 [(0, .ref a_t), (1, .int v1), (2, .int v2), (3, .int v3)] := hl
  obtain ⟨H, eH⟩ : ∃ z, z = s.heap := ⟨_, rfl⟩
  obtain ⟨locs, eL⟩ : ∃ z, z = ([] : List Loc) := ⟨_, rfl⟩
  rw [← eL] at hW ⊢
  suffices hS9 : WD g s A (w_X9_bears g a_t a_reaper a_reaper_bearing a_rings a_land a_ways a_rows a_turns a_plan a_planner a_slants a_reaper_crop a_reaper_findings a_reaper_places c_reaper_capacity c_reaper_weight c_reaper_unload c_reaper_bearing) H locs → W p l e (rm9x 8 135) s m args below meth c H locs 0 0 Q (F0 m 0 ls []) by
    rw [← eH] at hW ⊢
    exact hS9 hW
  clear hW eH eL
  intro hW
  refine lv_aload_n (pc := 0) hx hb (dd dL_bears 0 rfl) rfl (lv_at hl 0 rfl) ?_
  refine lv_iload_n (pc := 1) hx hb (dd dL_bears 1 rfl) rfl (lv_at hl 1 rfl) ?_
  refine lv_iload_n (pc := 2) hx hb (dd dL_bears 2 rfl) rfl (lv_at hl 2 rfl) ?_
  refine lv_iload_n (pc := 3) hx hb (dd dL_bears 3 rfl) rfl (lv_at hl 3 rfl) ?_
  have ex := M.2.2.2.2.2.2.2.2.2.2.2.2.2
  refine callXc (pc := 4) (na := 3) (As := [.int v1, .int v2, .int v3]) (rest := []) (Or.inl rfl) M hl.1 hW (x_X9_bears l hl9 g a_t a_reaper a_reaper_bearing a_rings a_land a_ways a_rows a_turns a_plan a_planner a_slants a_reaper_crop a_reaper_findings a_reaper_places c_reaper_capacity c_reaper_weight c_reaper_unload c_reaper_bearing v1 v2 v3 1 hr) rfl [0, 1, 2] [] [0, 1, 2] rfl rfl rfl rfl rfl rfl rfl 0 9 rfl rfl rfl (uw4 156 rfl rfl) (uw4 153 rfl rfl) (uw4 154 rfl rfl) (uw4 155 rfl rfl) (uw1 1 rfl rfl) ⟨by decide, by decide, by decide⟩ rfl ⟨by decide, by decide⟩ (Nat.le_of_ble_eq_true rfl) ⟨by decide, by decide⟩ (dd dL_bears 4 rfl) (fun q ce H locs hW hce hcv hcl => ?_)
  refine vx_catch (own := RL) (name := "java/lang/IndexOutOfBoundsException") hown [] ⟨0, 7, 10, 13⟩ [⟨0, 7, 14, 15⟩] (htab.trans rfl) (fun z hz => nomatch hz) (by decide) (by decide) (hu _ (uw2 117 rfl rfl)) (va_Nw.use rfl (ex.2.2.2.1 _ (by decide))) hce hcv hcl ?_
  refine lv_astore (pc := 10) (lv' := [(4, .ref q), (0, .ref a_t), (1, .int v1), (2, .int v2), (3, .int v3)]) hx hb (dd dL_bears 6 rfl) hl (by decide) rfl (fun ls hl => ?_)
  refine lv_iconst (pc := 12) (v := 1) hx hb (dd dL_bears 7 rfl) (by decide) ?_
  exact ret _ _ _ 13 hW (dd dL_bears 8 rfl)
set_option maxHeartbeats 4000000 in
set_option maxRecDepth 100000 in
theorem x_L_bears_2 (l : Launch) (hl9 : l.stackTraces = false) (g : G9) (a_t a_reaper a_reaper_bearing a_rings a_land a_ways a_rows a_turns a_plan a_planner a_slants a_reaper_crop a_reaper_findings a_reaper_places : Nat) (c_reaper_capacity c_reaper_weight c_reaper_unload : Int32) (c_reaper_bearing : Ar) (v1 v2 v3 : Int32) (hr : X9_bears c_reaper_bearing v1 v2 v3 = some (.inl 2)) : CtW l g yL_bears cL_bears 5 [(0, 7, 10, 13), (0, 7, 14, 15)] 8 135 [.ref a_t, .int v1, .int v2, .int v3] (w_X9_bears g a_t a_reaper a_reaper_bearing a_rings a_land a_ways a_rows a_turns a_plan a_planner a_slants a_reaper_crop a_reaper_findings a_reaper_places c_reaper_capacity c_reaper_weight c_reaper_unload c_reaper_bearing) 2 (w_X9_bears g a_t a_reaper a_reaper_bearing a_rings a_land a_ways a_rows a_turns a_plan a_planner a_slants a_reaper_crop a_reaper_findings a_reaper_places c_reaper_capacity c_reaper_weight c_reaper_unload c_reaper_bearing) := by
  refine startW (by decide) (Nat.le_of_ble_eq_true rfl) ?_
  intro p e s m below meth c A Q ls args M hW hl htab ret
  have hx := M.1
  have hb := M.2.1
  have hown := M.2.2.2.1
  have hu := M.2.2.2.2.1
  have hl : lv_has ls 5 [(0, .ref a_t), (1, .int v1), (2, .int v2), (3, .int v3)] := hl
  obtain ⟨H, eH⟩ : ∃ z, z = s.heap := ⟨_, rfl⟩
  obtain ⟨locs, eL⟩ : ∃ z, z = ([] : List Loc) := ⟨_, rfl⟩
  rw [← eL] at hW ⊢
  suffices hS9 : WD g s A (w_X9_bears g a_t a_reaper a_reaper_bearing a_rings a_land a_ways a_rows a_turns a_plan a_planner a_slants a_reaper_crop a_reaper_findings a_reaper_places c_reaper_capacity c_reaper_weight c_reaper_unload c_reaper_bearing) H locs → W p l e (rm9x 8 135) s m args below meth c H locs 0 0 Q (F0 m 0 ls []) by
    rw [← eH] at hW ⊢
    exact hS9 hW
  clear hW eH eL
  intro hW
  refine lv_aload_n (pc := 0) hx hb (dd dL_bears 0 rfl) rfl (lv_at hl 0 rfl) ?_
  refine lv_iload_n (pc := 1) hx hb (dd dL_bears 1 rfl) rfl (lv_at hl 1 rfl) ?_
  refine lv_iload_n (pc := 2) hx hb (dd dL_bears 2 rfl) rfl (lv_at hl 2 rfl) ?_
  refine lv_iload_n (pc := 3) hx hb (dd dL_bears 3 rfl) rfl (lv_at hl 3 rfl) ?_
  have ex := M.2.2.2.2.2.2.2.2.2.2.2.2.2
  refine callXc (pc := 4) (na := 3) (As := [.int v1, .int v2, .int v3]) (rest := []) (Or.inl rfl) M hl.1 hW (x_X9_bears l hl9 g a_t a_reaper a_reaper_bearing a_rings a_land a_ways a_rows a_turns a_plan a_planner a_slants a_reaper_crop a_reaper_findings a_reaper_places c_reaper_capacity c_reaper_weight c_reaper_unload c_reaper_bearing v1 v2 v3 2 hr) rfl [0, 1, 2] [] [0, 1, 2] rfl rfl rfl rfl rfl rfl rfl 0 9 rfl rfl rfl (uw4 156 rfl rfl) (uw4 153 rfl rfl) (uw4 154 rfl rfl) (uw4 155 rfl rfl) (uw1 1 rfl rfl) ⟨by decide, by decide, by decide⟩ rfl ⟨by decide, by decide⟩ (Nat.le_of_ble_eq_true rfl) ⟨by decide, by decide⟩ (dd dL_bears 4 rfl) (fun q ce H locs hW hce hcv hcl => ?_)
  refine vx_catch (own := RL) (name := "java/lang/IllegalArgumentException") hown [⟨0, 7, 10, 13⟩] ⟨0, 7, 14, 15⟩ [] (htab.trans rfl) (fun z hz => by
      simp only [List.mem_cons, List.not_mem_nil, or_false] at hz
      rcases hz with rfl
      · exact Or.inr ⟨by decide, "java/lang/IndexOutOfBoundsException", hu _ (uw2 117 rfl rfl), ex.2.2.2.2.1 _ (by decide) _ (by decide) (by decide)⟩) (by decide) (by decide) (hu _ (uw2 118 rfl rfl)) (va_Nw.use rfl (ex.2.2.2.1 _ (by decide))) hce hcv hcl ?_
  refine lv_astore (pc := 14) (lv' := [(4, .ref q), (0, .ref a_t), (1, .int v1), (2, .int v2), (3, .int v3)]) hx hb (dd dL_bears 9 rfl) hl (by decide) rfl (fun ls hl => ?_)
  refine lv_iconst (pc := 16) (v := 2) hx hb (dd dL_bears 10 rfl) (by decide) ?_
  exact ret _ _ _ 17 hW (dd dL_bears 11 rfl)
set_option maxHeartbeats 4000000 in
set_option maxRecDepth 100000 in
theorem n_L_reaper (l : Launch) (g : G9) (a_t a_reaper a_rings a_land a_ways a_rows a_turns a_plan a_planner a_slants a_reaper_crop a_reaper_bearing a_reaper_findings a_reaper_places : Nat) (c_reaper_capacity c_reaper_weight c_reaper_unload v1 v2 v3 o_reaper_capacity o_reaper_weight o_reaper_unload : Int32) (hr : X9_reaper c_reaper_capacity c_reaper_weight c_reaper_unload v1 v2 v3 = some (.inr (o_reaper_capacity, o_reaper_weight, o_reaper_unload))) : CtW l g yL_reaper cL_reaper 5 [(0, 7, 10, 15)] 7 113 [.ref a_t, .int v1, .int v2, .int v3] (w_X9_reaper g a_t a_reaper a_rings a_land a_ways a_rows a_turns a_plan a_planner a_slants a_reaper_crop a_reaper_bearing a_reaper_findings a_reaper_places c_reaper_capacity c_reaper_weight c_reaper_unload) 0 (w_X9_reaper g a_t a_reaper a_rings a_land a_ways a_rows a_turns a_plan a_planner a_slants a_reaper_crop a_reaper_bearing a_reaper_findings a_reaper_places o_reaper_capacity o_reaper_weight o_reaper_unload) := by
  refine startW (by decide) (Nat.le_of_ble_eq_true rfl) ?_
  intro p e s m below meth c A Q ls args M hW hl htab ret
  have hx := M.1
  have hb := M.2.1
  have hown := M.2.2.2.1
  have hu := M.2.2.2.2.1
  have hl : lv_has ls 5 [(0, .ref a_t), (1, .int v1), (2, .int v2), (3, .int v3)] := hl
  obtain ⟨H, eH⟩ : ∃ z, z = s.heap := ⟨_, rfl⟩
  obtain ⟨locs, eL⟩ : ∃ z, z = ([] : List Loc) := ⟨_, rfl⟩
  rw [← eL] at hW ⊢
  suffices hS9 : WD g s A (w_X9_reaper g a_t a_reaper a_rings a_land a_ways a_rows a_turns a_plan a_planner a_slants a_reaper_crop a_reaper_bearing a_reaper_findings a_reaper_places c_reaper_capacity c_reaper_weight c_reaper_unload) H locs → W p l e (rm9x 7 113) s m args below meth c H locs 0 0 Q (F0 m 0 ls []) by
    rw [← eH] at hW ⊢
    exact hS9 hW
  clear hW eH eL
  intro hW
  refine lv_aload_n (pc := 0) hx hb (dd dL_reaper 0 rfl) rfl (lv_at hl 0 rfl) ?_
  refine lv_iload_n (pc := 1) hx hb (dd dL_reaper 1 rfl) rfl (lv_at hl 1 rfl) ?_
  refine lv_iload_n (pc := 2) hx hb (dd dL_reaper 2 rfl) rfl (lv_at hl 2 rfl) ?_
  refine lv_iload_n (pc := 3) hx hb (dd dL_reaper 3 rfl) rfl (lv_at hl 3 rfl) ?_
  refine callVV (pc := 4) (na := 3) (As := [.int v1, .int v2, .int v3]) (rest := []) (ws2 := (w_X9_reaper g a_t a_reaper a_rings a_land a_ways a_rows a_turns a_plan a_planner a_slants a_reaper_crop a_reaper_bearing a_reaper_findings a_reaper_places o_reaper_capacity o_reaper_weight o_reaper_unload)) M hl.1 hW (t_X9_reaper l g a_t a_reaper a_rings a_land a_ways a_rows a_turns a_plan a_planner a_slants a_reaper_crop a_reaper_bearing a_reaper_findings a_reaper_places c_reaper_capacity c_reaper_weight c_reaper_unload v1 v2 v3 o_reaper_capacity o_reaper_weight o_reaper_unload hr) rfl [0, 1] [] [0, 1] rfl rfl rfl rfl rfl rfl rfl 0 9 rfl rfl rfl (uw4 164 rfl rfl) (uw4 161 rfl rfl) (uw4 162 rfl rfl) (uw4 163 rfl rfl) (uw1 1 rfl rfl) ⟨by decide, by decide, by decide⟩ rfl ⟨by decide, by decide⟩ (Nat.le_of_ble_eq_true rfl) ⟨Nat.zero_le _, Nat.zero_le _⟩ (dd dL_reaper 4 rfl) (fun H locs hW => ?_)
  refine lv_goto (pc := 7) (tgt := 14) hx hb (dd dL_reaper 5 rfl) (by decide) ?_
  refine lv_iconst (pc := 14) (v := 0) hx hb (dd dL_reaper 9 rfl) (by decide) ?_
  refine W.widen (k := 1) (n := 6) (by decide) (by decide) ?_
  exact ret _ _ _ 15 hW (dd dL_reaper 10 rfl)
set_option maxHeartbeats 4000000 in
set_option maxRecDepth 100000 in
theorem x_L_reaper_1 (l : Launch) (hl9 : l.stackTraces = false) (g : G9) (a_t a_reaper a_rings a_land a_ways a_rows a_turns a_plan a_planner a_slants a_reaper_crop a_reaper_bearing a_reaper_findings a_reaper_places : Nat) (c_reaper_capacity c_reaper_weight c_reaper_unload v1 v2 v3 : Int32) (hr : X9_reaper c_reaper_capacity c_reaper_weight c_reaper_unload v1 v2 v3 = some (.inl 2)) : CtW l g yL_reaper cL_reaper 5 [(0, 7, 10, 15)] 7 113 [.ref a_t, .int v1, .int v2, .int v3] (w_X9_reaper g a_t a_reaper a_rings a_land a_ways a_rows a_turns a_plan a_planner a_slants a_reaper_crop a_reaper_bearing a_reaper_findings a_reaper_places c_reaper_capacity c_reaper_weight c_reaper_unload) 1 (w_X9_reaper g a_t a_reaper a_rings a_land a_ways a_rows a_turns a_plan a_planner a_slants a_reaper_crop a_reaper_bearing a_reaper_findings a_reaper_places c_reaper_capacity c_reaper_weight c_reaper_unload) := by
  refine startW (by decide) (Nat.le_of_ble_eq_true rfl) ?_
  intro p e s m below meth c A Q ls args M hW hl htab ret
  have hx := M.1
  have hb := M.2.1
  have hown := M.2.2.2.1
  have hu := M.2.2.2.2.1
  have hl : lv_has ls 5 [(0, .ref a_t), (1, .int v1), (2, .int v2), (3, .int v3)] := hl
  obtain ⟨H, eH⟩ : ∃ z, z = s.heap := ⟨_, rfl⟩
  obtain ⟨locs, eL⟩ : ∃ z, z = ([] : List Loc) := ⟨_, rfl⟩
  rw [← eL] at hW ⊢
  suffices hS9 : WD g s A (w_X9_reaper g a_t a_reaper a_rings a_land a_ways a_rows a_turns a_plan a_planner a_slants a_reaper_crop a_reaper_bearing a_reaper_findings a_reaper_places c_reaper_capacity c_reaper_weight c_reaper_unload) H locs → W p l e (rm9x 7 113) s m args below meth c H locs 0 0 Q (F0 m 0 ls []) by
    rw [← eH] at hW ⊢
    exact hS9 hW
  clear hW eH eL
  intro hW
  refine lv_aload_n (pc := 0) hx hb (dd dL_reaper 0 rfl) rfl (lv_at hl 0 rfl) ?_
  refine lv_iload_n (pc := 1) hx hb (dd dL_reaper 1 rfl) rfl (lv_at hl 1 rfl) ?_
  refine lv_iload_n (pc := 2) hx hb (dd dL_reaper 2 rfl) rfl (lv_at hl 2 rfl) ?_
  refine lv_iload_n (pc := 3) hx hb (dd dL_reaper 3 rfl) rfl (lv_at hl 3 rfl) ?_
  have ex := M.2.2.2.2.2.2.2.2.2.2.2.2.2
  refine callXc (pc := 4) (na := 3) (As := [.int v1, .int v2, .int v3]) (rest := []) (Or.inl rfl) M hl.1 hW (x_X9_reaper l hl9 g a_t a_reaper a_rings a_land a_ways a_rows a_turns a_plan a_planner a_slants a_reaper_crop a_reaper_bearing a_reaper_findings a_reaper_places c_reaper_capacity c_reaper_weight c_reaper_unload v1 v2 v3 2 hr) rfl [0, 1] [] [0, 1] rfl rfl rfl rfl rfl rfl rfl 0 9 rfl rfl rfl (uw4 164 rfl rfl) (uw4 161 rfl rfl) (uw4 162 rfl rfl) (uw4 163 rfl rfl) (uw1 1 rfl rfl) ⟨by decide, by decide, by decide⟩ rfl ⟨by decide, by decide⟩ (Nat.le_of_ble_eq_true rfl) ⟨by decide, by decide⟩ (dd dL_reaper 4 rfl) (fun q ce H locs hW hce hcv hcl => ?_)
  refine vx_catch (own := RL) (name := "java/lang/IllegalArgumentException") hown [] ⟨0, 7, 10, 15⟩ [] (htab.trans rfl) (fun z hz => nomatch hz) (by decide) (by decide) (hu _ (uw2 118 rfl rfl)) (va_Nw.use rfl (ex.2.2.2.1 _ (by decide))) hce hcv hcl ?_
  refine lv_astore (pc := 10) (lv' := [(4, .ref q), (0, .ref a_t), (1, .int v1), (2, .int v2), (3, .int v3)]) hx hb (dd dL_reaper 6 rfl) hl (by decide) rfl (fun ls hl => ?_)
  refine lv_iconst (pc := 12) (v := 1) hx hb (dd dL_reaper 7 rfl) (by decide) ?_
  exact ret _ _ _ 13 hW (dd dL_reaper 8 rfl)
set_option maxHeartbeats 4000000 in
set_option maxRecDepth 100000 in
theorem n_L_run (l : Launch) (g : G9) (a_t a_plan a_reaper a_rows a_turns a_plan_numbers a_reaper_bearing a_reaper_crop a_reaper_findings a_reaper_places a_rows_squares a_rows_starts a_turns_lengths a_rings a_land a_ways a_planner a_slants a_rows_strips a_rows_alongs a_rows_numbers a_rows_sorted a_rows_spare a_rows_tally a_rows_ends a_turns_known a_out : Nat) (c_plan_there c_plan_size c_reaper_capacity c_reaper_weight c_reaper_unload c_rows_there c_rows_size : Int32) (c_plan_numbers c_reaper_bearing c_reaper_crop c_reaper_findings c_reaper_places c_rows_squares c_rows_starts c_turns_lengths : Ar) (c_out : Nat → Int64) (r0 : Int32) (o_reaper_findings o_reaper_places : Ar) (hr : X9_run c_plan_there c_plan_size c_reaper_capacity c_reaper_weight c_reaper_unload c_plan_numbers c_reaper_bearing c_reaper_crop c_reaper_findings c_reaper_places c_rows_squares c_rows_starts c_turns_lengths = some (.inr (r0, o_reaper_findings, o_reaper_places))) : CtW l g yL_run cL_run 3 [(0, 8, 11, 33)] 8 131 [.ref a_t, .ref a_out] ((w_X9_run g a_t a_plan a_reaper a_rows a_turns a_plan_numbers a_reaper_bearing a_reaper_crop a_reaper_findings a_reaper_places a_rows_squares a_rows_starts a_turns_lengths a_rings a_land a_ways a_planner a_slants a_rows_strips a_rows_alongs a_rows_numbers a_rows_sorted a_rows_spare a_rows_tally a_rows_ends a_turns_known c_plan_there c_plan_size c_reaper_capacity c_reaper_weight c_reaper_unload c_rows_there c_rows_size c_plan_numbers c_reaper_bearing c_reaper_crop c_reaper_findings c_reaper_places c_rows_squares c_rows_starts c_turns_lengths) ++ [la g a_out 1 c_out]) 0 ((w_X9_run g a_t a_plan a_reaper a_rows a_turns a_plan_numbers a_reaper_bearing a_reaper_crop a_reaper_findings a_reaper_places a_rows_squares a_rows_starts a_turns_lengths a_rings a_land a_ways a_planner a_slants a_rows_strips a_rows_alongs a_rows_numbers a_rows_sorted a_rows_spare a_rows_tally a_rows_ends a_turns_known c_plan_there c_plan_size c_reaper_capacity c_reaper_weight c_reaper_unload c_rows_there c_rows_size c_plan_numbers c_reaper_bearing c_reaper_crop o_reaper_findings o_reaper_places c_rows_squares c_rows_starts c_turns_lengths) ++ [la g a_out 1 (vp_updL c_out 0 (Int32.toInt64 r0))]) := by
  refine startW (by decide) (Nat.le_of_ble_eq_true rfl) ?_
  intro p e s m below meth c A Q ls args M hW hl htab ret
  have hx := M.1
  have hb := M.2.1
  have hown := M.2.2.2.1
  have hu := M.2.2.2.2.1
  have hl : lv_has ls 3 [(0, .ref a_t), (1, .ref a_out)] := hl
  obtain ⟨H, eH⟩ : ∃ z, z = s.heap := ⟨_, rfl⟩
  obtain ⟨locs, eL⟩ : ∃ z, z = ([] : List Loc) := ⟨_, rfl⟩
  rw [← eL] at hW ⊢
  suffices hS9 : WD g s A ((w_X9_run g a_t a_plan a_reaper a_rows a_turns a_plan_numbers a_reaper_bearing a_reaper_crop a_reaper_findings a_reaper_places a_rows_squares a_rows_starts a_turns_lengths a_rings a_land a_ways a_planner a_slants a_rows_strips a_rows_alongs a_rows_numbers a_rows_sorted a_rows_spare a_rows_tally a_rows_ends a_turns_known c_plan_there c_plan_size c_reaper_capacity c_reaper_weight c_reaper_unload c_rows_there c_rows_size c_plan_numbers c_reaper_bearing c_reaper_crop c_reaper_findings c_reaper_places c_rows_squares c_rows_starts c_turns_lengths) ++ [la g a_out 1 c_out]) H locs → W p l e (rm9x 8 131) s m args below meth c H locs 0 0 Q (F0 m 0 ls []) by
    rw [← eH] at hW ⊢
    exact hS9 hW
  clear hW eH eL
  intro hW
  refine lv_aload_n (pc := 0) hx hb (dd dL_run 0 rfl) rfl (lv_at hl 1 rfl) ?_
  refine lv_iconst (pc := 1) (v := 0) hx hb (dd dL_run 1 rfl) (by decide) ?_
  refine lv_aload_n (pc := 2) hx hb (dd dL_run 2 rfl) rfl (lv_at hl 0 rfl) ?_
  refine callVI (pc := 3) (na := 0) (As := []) (rest := [.int 0, .ref a_out]) (ws2 := ((w_X9_run g a_t a_plan a_reaper a_rows a_turns a_plan_numbers a_reaper_bearing a_reaper_crop a_reaper_findings a_reaper_places a_rows_squares a_rows_starts a_turns_lengths a_rings a_land a_ways a_planner a_slants a_rows_strips a_rows_alongs a_rows_numbers a_rows_sorted a_rows_spare a_rows_tally a_rows_ends a_turns_known c_plan_there c_plan_size c_reaper_capacity c_reaper_weight c_reaper_unload c_rows_there c_rows_size c_plan_numbers c_reaper_bearing c_reaper_crop o_reaper_findings o_reaper_places c_rows_squares c_rows_starts c_turns_lengths) ++ [la g a_out 1 c_out])) M hl.1 hW (t_X9_run l g a_t a_plan a_reaper a_rows a_turns a_plan_numbers a_reaper_bearing a_reaper_crop a_reaper_findings a_reaper_places a_rows_squares a_rows_starts a_turns_lengths a_rings a_land a_ways a_planner a_slants a_rows_strips a_rows_alongs a_rows_numbers a_rows_sorted a_rows_spare a_rows_tally a_rows_ends a_turns_known c_plan_there c_plan_size c_reaper_capacity c_reaper_weight c_reaper_unload c_rows_there c_rows_size c_plan_numbers c_reaper_bearing c_reaper_crop c_reaper_findings c_reaper_places c_rows_squares c_rows_starts c_turns_lengths r0 o_reaper_findings o_reaper_places hr) rfl [0, 1, 2, 3, 4, 5, 6, 7, 8, 9, 10, 11, 12] [13] [1, 2, 3, 4, 5, 6, 7, 8, 9, 10, 11, 12, 13, 0] rfl rfl rfl rfl rfl rfl rfl 0 9 rfl rfl rfl (uw4 175 rfl rfl) (uw4 172 rfl rfl) (uw4 173 rfl rfl) (uw4 174 rfl rfl) (uw1 1 rfl rfl) ⟨by decide, by decide, by decide⟩ rfl ⟨by decide, by decide⟩ (Nat.le_of_ble_eq_true rfl) ⟨Nat.zero_le _, Nat.zero_le _⟩ (dd dL_run 3 rfl) (fun H locs hW => ?_)
  refine lv_i2l (pc := 6) hx hb (dd dL_run 4 rfl) rfl ?_
  refine rLast (pc := 7) M hW 13 rfl (by decide) rfl (ws' := ((w_X9_run g a_t a_plan a_reaper a_rows a_turns a_plan_numbers a_reaper_bearing a_reaper_crop a_reaper_findings a_reaper_places a_rows_squares a_rows_starts a_turns_lengths a_rings a_land a_ways a_planner a_slants a_rows_strips a_rows_alongs a_rows_numbers a_rows_sorted a_rows_spare a_rows_tally a_rows_ends a_turns_known c_plan_there c_plan_size c_reaper_capacity c_reaper_weight c_reaper_unload c_rows_there c_rows_size c_plan_numbers c_reaper_bearing c_reaper_crop o_reaper_findings o_reaper_places c_rows_squares c_rows_starts c_turns_lengths) ++ [la g a_out 1 (vp_updL c_out 0 (Int32.toInt64 r0))])) rfl (dd dL_run 5 rfl) (fun H locs hW => ?_)
  refine lv_goto (pc := 8) (tgt := 14) hx hb (dd dL_run 6 rfl) (by decide) ?_
  refine lv_iconst (pc := 14) (v := 0) hx hb (dd dL_run 10 rfl) (by decide) ?_
  refine W.widen (k := 1) (n := 6) (by decide) (by decide) ?_
  exact ret _ _ _ 15 hW (dd dL_run 11 rfl)
set_option maxHeartbeats 4000000 in
set_option maxRecDepth 100000 in
theorem x_L_run_1 (l : Launch) (hl9 : l.stackTraces = false) (g : G9) (a_t a_plan a_reaper a_rows a_turns a_plan_numbers a_reaper_bearing a_reaper_crop a_reaper_findings a_reaper_places a_rows_squares a_rows_starts a_turns_lengths a_rings a_land a_ways a_planner a_slants a_rows_strips a_rows_alongs a_rows_numbers a_rows_sorted a_rows_spare a_rows_tally a_rows_ends a_turns_known a_out : Nat) (c_plan_there c_plan_size c_reaper_capacity c_reaper_weight c_reaper_unload c_rows_there c_rows_size : Int32) (c_plan_numbers c_reaper_bearing c_reaper_crop c_reaper_findings c_reaper_places c_rows_squares c_rows_starts c_turns_lengths : Ar) (c_out : Nat → Int64) (hr : X9_run c_plan_there c_plan_size c_reaper_capacity c_reaper_weight c_reaper_unload c_plan_numbers c_reaper_bearing c_reaper_crop c_reaper_findings c_reaper_places c_rows_squares c_rows_starts c_turns_lengths = some (.inl 4)) : CtW l g yL_run cL_run 3 [(0, 8, 11, 33)] 8 131 [.ref a_t, .ref a_out] ((w_X9_run g a_t a_plan a_reaper a_rows a_turns a_plan_numbers a_reaper_bearing a_reaper_crop a_reaper_findings a_reaper_places a_rows_squares a_rows_starts a_turns_lengths a_rings a_land a_ways a_planner a_slants a_rows_strips a_rows_alongs a_rows_numbers a_rows_sorted a_rows_spare a_rows_tally a_rows_ends a_turns_known c_plan_there c_plan_size c_reaper_capacity c_reaper_weight c_reaper_unload c_rows_there c_rows_size c_plan_numbers c_reaper_bearing c_reaper_crop c_reaper_findings c_reaper_places c_rows_squares c_rows_starts c_turns_lengths) ++ [la g a_out 1 c_out]) 1 ((w_X9_run g a_t a_plan a_reaper a_rows a_turns a_plan_numbers a_reaper_bearing a_reaper_crop a_reaper_findings a_reaper_places a_rows_squares a_rows_starts a_turns_lengths a_rings a_land a_ways a_planner a_slants a_rows_strips a_rows_alongs a_rows_numbers a_rows_sorted a_rows_spare a_rows_tally a_rows_ends a_turns_known c_plan_there c_plan_size c_reaper_capacity c_reaper_weight c_reaper_unload c_rows_there c_rows_size c_plan_numbers c_reaper_bearing c_reaper_crop c_reaper_findings c_reaper_places c_rows_squares c_rows_starts c_turns_lengths) ++ [la g a_out 1 c_out]) := by
  refine startW (by decide) (Nat.le_of_ble_eq_true rfl) ?_
  intro p e s m below meth c A Q ls args M hW hl htab ret
  have hx := M.1
  have hb := M.2.1
  have hown := M.2.2.2.1
  have hu := M.2.2.2.2.1
  have hl : lv_has ls 3 [(0, .ref a_t), (1, .ref a_out)] := hl
  obtain ⟨H, eH⟩ : ∃ z, z = s.heap := ⟨_, rfl⟩
  obtain ⟨locs, eL⟩ : ∃ z, z = ([] : List Loc) := ⟨_, rfl⟩
  rw [← eL] at hW ⊢
  suffices hS9 : WD g s A ((w_X9_run g a_t a_plan a_reaper a_rows a_turns a_plan_numbers a_reaper_bearing a_reaper_crop a_reaper_findings a_reaper_places a_rows_squares a_rows_starts a_turns_lengths a_rings a_land a_ways a_planner a_slants a_rows_strips a_rows_alongs a_rows_numbers a_rows_sorted a_rows_spare a_rows_tally a_rows_ends a_turns_known c_plan_there c_plan_size c_reaper_capacity c_reaper_weight c_reaper_unload c_rows_there c_rows_size c_plan_numbers c_reaper_bearing c_reaper_crop c_reaper_findings c_reaper_places c_rows_squares c_rows_starts c_turns_lengths) ++ [la g a_out 1 c_out]) H locs → W p l e (rm9x 8 131) s m args below meth c H locs 0 0 Q (F0 m 0 ls []) by
    rw [← eH] at hW ⊢
    exact hS9 hW
  clear hW eH eL
  intro hW
  refine lv_aload_n (pc := 0) hx hb (dd dL_run 0 rfl) rfl (lv_at hl 1 rfl) ?_
  refine lv_iconst (pc := 1) (v := 0) hx hb (dd dL_run 1 rfl) (by decide) ?_
  refine lv_aload_n (pc := 2) hx hb (dd dL_run 2 rfl) rfl (lv_at hl 0 rfl) ?_
  have ex := M.2.2.2.2.2.2.2.2.2.2.2.2.2
  refine callXc (pc := 3) (na := 0) (As := []) (rest := [.int 0, .ref a_out]) (Or.inr rfl) M hl.1 hW (x_X9_run l hl9 g a_t a_plan a_reaper a_rows a_turns a_plan_numbers a_reaper_bearing a_reaper_crop a_reaper_findings a_reaper_places a_rows_squares a_rows_starts a_turns_lengths a_rings a_land a_ways a_planner a_slants a_rows_strips a_rows_alongs a_rows_numbers a_rows_sorted a_rows_spare a_rows_tally a_rows_ends a_turns_known c_plan_there c_plan_size c_reaper_capacity c_reaper_weight c_reaper_unload c_rows_there c_rows_size c_plan_numbers c_reaper_bearing c_reaper_crop c_reaper_findings c_reaper_places c_rows_squares c_rows_starts c_turns_lengths 4 hr) rfl [0, 1, 2, 3, 4, 5, 6, 7, 8, 9, 10, 11, 12] [13] [1, 2, 3, 4, 5, 6, 7, 8, 9, 10, 11, 12, 13, 0] rfl rfl rfl rfl rfl rfl rfl 0 9 rfl rfl rfl (uw4 175 rfl rfl) (uw4 172 rfl rfl) (uw4 173 rfl rfl) (uw4 174 rfl rfl) (uw1 1 rfl rfl) ⟨by decide, by decide, by decide⟩ rfl ⟨by decide, by decide⟩ (Nat.le_of_ble_eq_true rfl) ⟨by decide, by decide⟩ (dd dL_run 3 rfl) (fun q ce H locs hW hce hcv hcl => ?_)
  refine vx_catch (own := RL) (name := "java/lang/IllegalStateException") hown [] ⟨0, 8, 11, 33⟩ [] (htab.trans rfl) (fun z hz => nomatch hz) (by decide) (by decide) (hu _ (uw3 106 rfl rfl)) (va_Nw.use rfl (ex.2.2.2.1 _ (by decide))) hce hcv hcl ?_
  refine lv_astore_n (pc := 11) (lv' := [(2, .ref q), (0, .ref a_t), (1, .ref a_out)]) hx hb (dd dL_run 7 rfl) rfl hl (by decide) rfl (fun ls hl => ?_)
  refine lv_iconst (pc := 12) (v := 1) hx hb (dd dL_run 8 rfl) (by decide) ?_
  exact ret _ _ _ 13 hW (dd dL_run 9 rfl)
set_option maxHeartbeats 4000000 in
set_option maxRecDepth 100000 in
theorem n_L_look (l : Launch) (g : G9) (a_t a_reaper a_reaper_findings a_rings a_land a_ways a_rows a_turns a_plan a_planner a_slants a_reaper_crop a_reaper_bearing a_reaper_places a_out : Nat) (c_reaper_capacity c_reaper_weight c_reaper_unload : Int32) (c_reaper_findings : Ar) (c_out : Nat → Int64) (v1 r0 : Int32) (hr : X9_look c_reaper_findings v1 = some (.inr r0)) : CtW l g yL_look cL_look 4 [(0, 9, 12, 41)] 7 111 [.ref a_t, .int v1, .ref a_out] ((w_X9_look g a_t a_reaper a_reaper_findings a_rings a_land a_ways a_rows a_turns a_plan a_planner a_slants a_reaper_crop a_reaper_bearing a_reaper_places c_reaper_capacity c_reaper_weight c_reaper_unload c_reaper_findings) ++ [la g a_out 1 c_out]) 0 ((w_X9_look g a_t a_reaper a_reaper_findings a_rings a_land a_ways a_rows a_turns a_plan a_planner a_slants a_reaper_crop a_reaper_bearing a_reaper_places c_reaper_capacity c_reaper_weight c_reaper_unload c_reaper_findings) ++ [la g a_out 1 (vp_updL c_out 0 (Int32.toInt64 r0))]) := by
  refine startW (by decide) (Nat.le_of_ble_eq_true rfl) ?_
  intro p e s m below meth c A Q ls args M hW hl htab ret
  have hx := M.1
  have hb := M.2.1
  have hown := M.2.2.2.1
  have hu := M.2.2.2.2.1
  have hl : lv_has ls 4 [(0, .ref a_t), (1, .int v1), (2, .ref a_out)] := hl
  obtain ⟨H, eH⟩ : ∃ z, z = s.heap := ⟨_, rfl⟩
  obtain ⟨locs, eL⟩ : ∃ z, z = ([] : List Loc) := ⟨_, rfl⟩
  rw [← eL] at hW ⊢
  suffices hS9 : WD g s A ((w_X9_look g a_t a_reaper a_reaper_findings a_rings a_land a_ways a_rows a_turns a_plan a_planner a_slants a_reaper_crop a_reaper_bearing a_reaper_places c_reaper_capacity c_reaper_weight c_reaper_unload c_reaper_findings) ++ [la g a_out 1 c_out]) H locs → W p l e (rm9x 7 111) s m args below meth c H locs 0 0 Q (F0 m 0 ls []) by
    rw [← eH] at hW ⊢
    exact hS9 hW
  clear hW eH eL
  intro hW
  refine lv_aload_n (pc := 0) hx hb (dd dL_look 0 rfl) rfl (lv_at hl 2 rfl) ?_
  refine lv_iconst (pc := 1) (v := 0) hx hb (dd dL_look 1 rfl) (by decide) ?_
  refine lv_aload_n (pc := 2) hx hb (dd dL_look 2 rfl) rfl (lv_at hl 0 rfl) ?_
  refine lv_iload_n (pc := 3) hx hb (dd dL_look 3 rfl) rfl (lv_at hl 1 rfl) ?_
  refine callVI (pc := 4) (na := 1) (As := [.int v1]) (rest := [.int 0, .ref a_out]) (ws2 := ((w_X9_look g a_t a_reaper a_reaper_findings a_rings a_land a_ways a_rows a_turns a_plan a_planner a_slants a_reaper_crop a_reaper_bearing a_reaper_places c_reaper_capacity c_reaper_weight c_reaper_unload c_reaper_findings) ++ [la g a_out 1 c_out])) M hl.1 hW (t_X9_look l g a_t a_reaper a_reaper_findings a_rings a_land a_ways a_rows a_turns a_plan a_planner a_slants a_reaper_crop a_reaper_bearing a_reaper_places c_reaper_capacity c_reaper_weight c_reaper_unload c_reaper_findings v1 r0 hr) rfl [0, 1, 2] [3] [1, 2, 3, 0] rfl rfl rfl rfl rfl rfl rfl 0 9 rfl rfl rfl (uw4 200 rfl rfl) (uw4 197 rfl rfl) (uw4 198 rfl rfl) (uw4 199 rfl rfl) (uw1 1 rfl rfl) ⟨by decide, by decide, by decide⟩ rfl ⟨by decide, by decide⟩ (Nat.le_of_ble_eq_true rfl) ⟨Nat.zero_le _, Nat.zero_le _⟩ (dd dL_look 4 rfl) (fun H locs hW => ?_)
  refine lv_i2l (pc := 7) hx hb (dd dL_look 5 rfl) rfl ?_
  refine rLast (pc := 8) M hW 3 rfl (by decide) rfl (ws' := ((w_X9_look g a_t a_reaper a_reaper_findings a_rings a_land a_ways a_rows a_turns a_plan a_planner a_slants a_reaper_crop a_reaper_bearing a_reaper_places c_reaper_capacity c_reaper_weight c_reaper_unload c_reaper_findings) ++ [la g a_out 1 (vp_updL c_out 0 (Int32.toInt64 r0))])) rfl (dd dL_look 6 rfl) (fun H locs hW => ?_)
  refine lv_goto (pc := 9) (tgt := 15) hx hb (dd dL_look 7 rfl) (by decide) ?_
  refine lv_iconst (pc := 15) (v := 0) hx hb (dd dL_look 11 rfl) (by decide) ?_
  refine W.widen (k := 1) (n := 6) (by decide) (by decide) ?_
  exact ret _ _ _ 16 hW (dd dL_look 12 rfl)
set_option maxHeartbeats 4000000 in
set_option maxRecDepth 100000 in
theorem x_L_look_1 (l : Launch) (hl9 : l.stackTraces = false) (g : G9) (a_t a_reaper a_reaper_findings a_rings a_land a_ways a_rows a_turns a_plan a_planner a_slants a_reaper_crop a_reaper_bearing a_reaper_places a_out : Nat) (c_reaper_capacity c_reaper_weight c_reaper_unload : Int32) (c_reaper_findings : Ar) (c_out : Nat → Int64) (v1 : Int32) (hr : X9_look c_reaper_findings v1 = some (.inl 5)) : CtW l g yL_look cL_look 4 [(0, 9, 12, 41)] 7 111 [.ref a_t, .int v1, .ref a_out] ((w_X9_look g a_t a_reaper a_reaper_findings a_rings a_land a_ways a_rows a_turns a_plan a_planner a_slants a_reaper_crop a_reaper_bearing a_reaper_places c_reaper_capacity c_reaper_weight c_reaper_unload c_reaper_findings) ++ [la g a_out 1 c_out]) 1 ((w_X9_look g a_t a_reaper a_reaper_findings a_rings a_land a_ways a_rows a_turns a_plan a_planner a_slants a_reaper_crop a_reaper_bearing a_reaper_places c_reaper_capacity c_reaper_weight c_reaper_unload c_reaper_findings) ++ [la g a_out 1 c_out]) := by
  refine startW (by decide) (Nat.le_of_ble_eq_true rfl) ?_
  intro p e s m below meth c A Q ls args M hW hl htab ret
  have hx := M.1
  have hb := M.2.1
  have hown := M.2.2.2.1
  have hu := M.2.2.2.2.1
  have hl : lv_has ls 4 [(0, .ref a_t), (1, .int v1), (2, .ref a_out)] := hl
  obtain ⟨H, eH⟩ : ∃ z, z = s.heap := ⟨_, rfl⟩
  obtain ⟨locs, eL⟩ : ∃ z, z = ([] : List Loc) := ⟨_, rfl⟩
  rw [← eL] at hW ⊢
  suffices hS9 : WD g s A ((w_X9_look g a_t a_reaper a_reaper_findings a_rings a_land a_ways a_rows a_turns a_plan a_planner a_slants a_reaper_crop a_reaper_bearing a_reaper_places c_reaper_capacity c_reaper_weight c_reaper_unload c_reaper_findings) ++ [la g a_out 1 c_out]) H locs → W p l e (rm9x 7 111) s m args below meth c H locs 0 0 Q (F0 m 0 ls []) by
    rw [← eH] at hW ⊢
    exact hS9 hW
  clear hW eH eL
  intro hW
  refine lv_aload_n (pc := 0) hx hb (dd dL_look 0 rfl) rfl (lv_at hl 2 rfl) ?_
  refine lv_iconst (pc := 1) (v := 0) hx hb (dd dL_look 1 rfl) (by decide) ?_
  refine lv_aload_n (pc := 2) hx hb (dd dL_look 2 rfl) rfl (lv_at hl 0 rfl) ?_
  refine lv_iload_n (pc := 3) hx hb (dd dL_look 3 rfl) rfl (lv_at hl 1 rfl) ?_
  have ex := M.2.2.2.2.2.2.2.2.2.2.2.2.2
  refine callXc (pc := 4) (na := 1) (As := [.int v1]) (rest := [.int 0, .ref a_out]) (Or.inr rfl) M hl.1 hW (x_X9_look l hl9 g a_t a_reaper a_reaper_findings a_rings a_land a_ways a_rows a_turns a_plan a_planner a_slants a_reaper_crop a_reaper_bearing a_reaper_places c_reaper_capacity c_reaper_weight c_reaper_unload c_reaper_findings v1 5 hr) rfl [0, 1, 2] [3] [1, 2, 3, 0] rfl rfl rfl rfl rfl rfl rfl 0 9 rfl rfl rfl (uw4 200 rfl rfl) (uw4 197 rfl rfl) (uw4 198 rfl rfl) (uw4 199 rfl rfl) (uw1 1 rfl rfl) ⟨by decide, by decide, by decide⟩ rfl ⟨by decide, by decide⟩ (Nat.le_of_ble_eq_true rfl) ⟨by decide, by decide⟩ (dd dL_look 4 rfl) (fun q ce H locs hW hce hcv hcl => ?_)
  refine vx_catch (own := RL) (name := "java/util/NoSuchElementException") hown [] ⟨0, 9, 12, 41⟩ [] (htab.trans rfl) (fun z hz => nomatch hz) (by decide) (by decide) (hu _ (uw3 183 rfl rfl)) (va_Nw.use rfl (ex.2.2.2.1 _ (by decide))) hce hcv hcl ?_
  refine lv_astore_n (pc := 12) (lv' := [(3, .ref q), (0, .ref a_t), (1, .int v1), (2, .ref a_out)]) hx hb (dd dL_look 8 rfl) rfl hl (by decide) rfl (fun ls hl => ?_)
  refine lv_iconst (pc := 13) (v := 1) hx hb (dd dL_look 9 rfl) (by decide) ?_
  exact ret _ _ _ 14 hW (dd dL_look 10 rfl)
