abbrev w_X9_best (g : G9) (a_t a_land a_plan a_planner a_rows a_turns a_ways a_land_kinds a_land_nears a_plan_numbers a_planner_rests a_rows_ends a_turns_known a_turns_lengths a_ways_lengths a_ways_slantwises a_ways_straights a_rings a_slants a_reaper a_land_depths a_rows_strips a_rows_alongs a_rows_numbers a_rows_sorted a_rows_spare a_rows_tally a_rows_squares a_rows_starts : Nat) (c_land_laid c_land_head c_land_fieldCount c_land_innerCount c_plan_there c_plan_size c_rows_there c_rows_size c_ways_straightSize c_ways_slantwiseSize : Int32) (c_land_kinds c_land_nears c_plan_numbers c_planner_rests c_rows_ends c_turns_known c_turns_lengths c_ways_lengths c_ways_slantwises c_ways_straights : Ar) : va_W := [ob a_t 9 [.ref a_rings, .ref a_land, .ref a_ways, .ref a_rows, .ref a_turns, .ref a_plan, .ref a_planner, .ref a_slants, .ref a_reaper], ob a_land 0 [.ref a_land_kinds, .ref a_land_nears, .ref a_land_depths, .int c_land_laid, .int c_land_head, .int c_land_fieldCount, .int c_land_innerCount], ob a_plan 2 [.ref a_turns, .ref a_plan_numbers, .int c_plan_there, .int c_plan_size], ob a_planner 3 [.ref a_plan, .ref a_turns, .ref a_planner_rests], ob a_rows 6 [.ref a_land, .ref a_rows_strips, .ref a_rows_alongs, .ref a_rows_numbers, .ref a_rows_sorted, .ref a_rows_spare, .ref a_rows_tally, .ref a_rows_squares, .ref a_rows_starts, .ref a_rows_ends, .int c_rows_there, .int c_rows_size], ob a_turns 7 [.ref a_ways, .ref a_rows, .ref a_turns_lengths, .ref a_turns_known], ob a_ways 8 [.ref a_land, .ref a_ways_lengths, .ref a_ways_straights, .ref a_ways_slantwises, .int c_ways_straightSize, .int c_ways_slantwiseSize], ia g a_land_kinds 1200 c_land_kinds, ia g a_land_nears 1200 c_land_nears, ia g a_plan_numbers 60 c_plan_numbers, ia g a_planner_rests 9216 c_planner_rests, ia g a_rows_ends 120 c_rows_ends, za g a_turns_known 120 c_turns_known, ia g a_turns_lengths 14400 c_turns_lengths, ia g a_ways_lengths 1200 c_ways_lengths, ia g a_ways_slantwises 1200 c_ways_slantwises, ia g a_ways_straights 1200 c_ways_straights]
noncomputable def X9_best (c_plan_there c_plan_size c_rows_there c_rows_size c_ways_straightSize c_ways_slantwiseSize : Int32) (c_land_kinds c_land_nears c_plan_numbers c_planner_rests c_rows_ends c_turns_known c_turns_lengths c_ways_lengths c_ways_slantwises c_ways_straights : Ar) : Option (Nat ⊕ (Int32 × Int32 × Int32 × Int32 × Int32 × Ar × Ar × Ar × Ar × Ar × Ar × Ar)) :=
  bnd (X9_needRows c_rows_there) <| Sum.elim (fun x9 => some (.inl x9)) fun (_ : Unit) => rmap <| bnd (X7_learnAll c_turns_known c_turns_lengths c_rows_size c_ways_straightSize c_ways_slantwiseSize c_rows_ends c_ways_lengths c_ways_slantwises c_ways_straights c_land_kinds c_land_nears) <| un7 fun c_turns_known_8 c_turns_lengths_8 c_ways_straightSize_8 c_ways_slantwiseSize_8 c_ways_lengths_8 c_ways_slantwises_8 c_ways_straights_8 => bnd (X3_make c_plan_there c_plan_size c_planner_rests c_plan_numbers c_turns_lengths_8 c_rows_size) <| un5 fun r_22 c_plan_there_22 c_plan_size_22 c_planner_rests_22 c_plan_numbers_22 => some (r_22, c_plan_there_22, c_plan_size_22, c_ways_straightSize_8, c_ways_slantwiseSize_8, c_plan_numbers_22, c_planner_rests_22, c_turns_known_8, c_turns_lengths_8, c_ways_lengths_8, c_ways_slantwises_8, c_ways_straights_8)
set_option maxHeartbeats 4000000 in
set_option maxRecDepth 100000 in
theorem t_X9_best (l : Launch) (g : G9) (a_t a_land a_plan a_planner a_rows a_turns a_ways a_land_kinds a_land_nears a_plan_numbers a_planner_rests a_rows_ends a_turns_known a_turns_lengths a_ways_lengths a_ways_slantwises a_ways_straights a_rings a_slants a_reaper a_land_depths a_rows_strips a_rows_alongs a_rows_numbers a_rows_sorted a_rows_spare a_rows_tally a_rows_squares a_rows_starts : Nat) (c_land_laid c_land_head c_land_fieldCount c_land_innerCount c_plan_there c_plan_size c_rows_there c_rows_size c_ways_straightSize c_ways_slantwiseSize : Int32) (c_land_kinds c_land_nears c_plan_numbers c_planner_rests c_rows_ends c_turns_known c_turns_lengths c_ways_lengths c_ways_slantwises c_ways_straights : Ar) (r0 o_plan_there o_plan_size o_ways_straightSize o_ways_slantwiseSize : Int32) (o_plan_numbers o_planner_rests o_turns_known o_turns_lengths o_ways_lengths o_ways_slantwises o_ways_straights : Ar) (h : X9_best c_plan_there c_plan_size c_rows_there c_rows_size c_ways_straightSize c_ways_slantwiseSize c_land_kinds c_land_nears c_plan_numbers c_planner_rests c_rows_ends c_turns_known c_turns_lengths c_ways_lengths c_ways_slantwises c_ways_straights = some (.inr (r0, o_plan_there, o_plan_size, o_ways_straightSize, o_ways_slantwiseSize, o_plan_numbers, o_planner_rests, o_turns_known, o_turns_lengths, o_ways_lengths, o_ways_slantwises, o_ways_straights))) : CtI l g yX9_best cX9_best 1 .int 7 120 [.ref a_t] (w_X9_best g a_t a_land a_plan a_planner a_rows a_turns a_ways a_land_kinds a_land_nears a_plan_numbers a_planner_rests a_rows_ends a_turns_known a_turns_lengths a_ways_lengths a_ways_slantwises a_ways_straights a_rings a_slants a_reaper a_land_depths a_rows_strips a_rows_alongs a_rows_numbers a_rows_sorted a_rows_spare a_rows_tally a_rows_squares a_rows_starts c_land_laid c_land_head c_land_fieldCount c_land_innerCount c_plan_there c_plan_size c_rows_there c_rows_size c_ways_straightSize c_ways_slantwiseSize c_land_kinds c_land_nears c_plan_numbers c_planner_rests c_rows_ends c_turns_known c_turns_lengths c_ways_lengths c_ways_slantwises c_ways_straights) r0 (w_X9_best g a_t a_land a_plan a_planner a_rows a_turns a_ways a_land_kinds a_land_nears a_plan_numbers a_planner_rests a_rows_ends a_turns_known a_turns_lengths a_ways_lengths a_ways_slantwises a_ways_straights a_rings a_slants a_reaper a_land_depths a_rows_strips a_rows_alongs a_rows_numbers a_rows_sorted a_rows_spare a_rows_tally a_rows_squares a_rows_starts c_land_laid c_land_head c_land_fieldCount c_land_innerCount o_plan_there o_plan_size c_rows_there c_rows_size o_ways_straightSize o_ways_slantwiseSize c_land_kinds c_land_nears o_plan_numbers o_planner_rests c_rows_ends o_turns_known o_turns_lengths o_ways_lengths o_ways_slantwises o_ways_straights) := by
  refine startI (by decide) (Nat.le_of_ble_eq_true rfl) ?_
  intro p e s m below meth c A Q ls args M hW hl ret
  have hx := M.1
  have hb := M.2.1
  have hown := M.2.2.2.1
  have hu := M.2.2.2.2.1
  have hl : lv_has ls 1 [(0, .ref a_t)] := hl
  unfold X9_best at h
  obtain ⟨H, eH⟩ : ∃ z, z = s.heap := ⟨_, rfl⟩
  obtain ⟨locs, eL⟩ : ∃ z, z = ([] : List Loc) := ⟨_, rfl⟩
  rw [← eL] at hW ⊢
  suffices hS9 : WD g s A (w_X9_best g a_t a_land a_plan a_planner a_rows a_turns a_ways a_land_kinds a_land_nears a_plan_numbers a_planner_rests a_rows_ends a_turns_known a_turns_lengths a_ways_lengths a_ways_slantwises a_ways_straights a_rings a_slants a_reaper a_land_depths a_rows_strips a_rows_alongs a_rows_numbers a_rows_sorted a_rows_spare a_rows_tally a_rows_squares a_rows_starts c_land_laid c_land_head c_land_fieldCount c_land_innerCount c_plan_there c_plan_size c_rows_there c_rows_size c_ways_straightSize c_ways_slantwiseSize c_land_kinds c_land_nears c_plan_numbers c_planner_rests c_rows_ends c_turns_known c_turns_lengths c_ways_lengths c_ways_slantwises c_ways_straights) H locs → W p l e (rm9 7 120) s m args below meth c H locs 0 0 Q (F0 m 0 ls []) by
    rw [← eH] at hW ⊢
    exact hS9 hW
  clear hW eH eL
  intro hW
  refine lv_aload_n (pc := 0) hx hb (dd dX9_best 0 rfl) rfl (lv_at hl 0 rfl) ?_
  obtain ⟨ex9, hr, h⟩ := bnd_ex h
  rcases ex9 with x9 | u9
  · have h := sE_l h
    cases h
  have h := sE_r h
  refine callVV (pc := 1) (na := 0) (As := []) (rest := []) (ws2 := (w_X9_best g a_t a_land a_plan a_planner a_rows a_turns a_ways a_land_kinds a_land_nears a_plan_numbers a_planner_rests a_rows_ends a_turns_known a_turns_lengths a_ways_lengths a_ways_slantwises a_ways_straights a_rings a_slants a_reaper a_land_depths a_rows_strips a_rows_alongs a_rows_numbers a_rows_sorted a_rows_spare a_rows_tally a_rows_squares a_rows_starts c_land_laid c_land_head c_land_fieldCount c_land_innerCount c_plan_there c_plan_size c_rows_there c_rows_size c_ways_straightSize c_ways_slantwiseSize c_land_kinds c_land_nears c_plan_numbers c_planner_rests c_rows_ends c_turns_known c_turns_lengths c_ways_lengths c_ways_slantwises c_ways_straights)) M hl.1 hW (t_X9_needRows l g a_t a_rows a_rings a_land a_ways a_turns a_plan a_planner a_slants a_reaper a_rows_strips a_rows_alongs a_rows_numbers a_rows_sorted a_rows_spare a_rows_tally a_rows_squares a_rows_starts a_rows_ends c_rows_there c_rows_size hr) rfl [0, 4] [1, 2, 3, 5, 6, 7, 8, 9, 10, 11, 12, 13, 14, 15, 16] [15, 0, 1, 2, 16, 3, 4, 5, 6, 7, 8, 9, 10, 11, 12, 13, 14] rfl rfl rfl rfl rfl rfl rfl 0 9 rfl rfl rfl (uw3 191 rfl rfl) (uw3 188 rfl rfl) (uw3 190 rfl rfl) (uwp 22 rfl rfl) (uw1 1 rfl rfl) ⟨by decide, by decide, by decide⟩ rfl ⟨by decide, by decide⟩ (Nat.le_of_ble_eq_true rfl)  ⟨Nat.zero_le _, Nat.zero_le _⟩ (dd dX9_best 1 rfl) (fun H locs hW => ?_)
  have h := rmap_ex h
  refine lv_aload_n (pc := 4) hx hb (dd dX9_best 2 rfl) rfl (lv_at hl 0 rfl) ?_
  refine rGet (pc := 5) M hW 0 4 iU9 rfl rfl (by decide) (uw2 54 rfl rfl) rfl (dd dX9_best 3 rfl) ?_
  obtain ⟨⟨c_turns_known_8, c_turns_lengths_8, c_ways_straightSize_8, c_ways_slantwiseSize_8, c_ways_lengths_8, c_ways_slantwises_8, c_ways_straights_8⟩, hr, h⟩ := bnd_ex h
  have h := un7_at h
  refine callVV (pc := 8) (na := 0) (As := []) (rest := []) (ws2 := (w_X9_best g a_t a_land a_plan a_planner a_rows a_turns a_ways a_land_kinds a_land_nears a_plan_numbers a_planner_rests a_rows_ends a_turns_known a_turns_lengths a_ways_lengths a_ways_slantwises a_ways_straights a_rings a_slants a_reaper a_land_depths a_rows_strips a_rows_alongs a_rows_numbers a_rows_sorted a_rows_spare a_rows_tally a_rows_squares a_rows_starts c_land_laid c_land_head c_land_fieldCount c_land_innerCount c_plan_there c_plan_size c_rows_there c_rows_size c_ways_straightSize_8 c_ways_slantwiseSize_8 c_land_kinds c_land_nears c_plan_numbers c_planner_rests c_rows_ends c_turns_known_8 c_turns_lengths_8 c_ways_lengths_8 c_ways_slantwises_8 c_ways_straights_8)) M hl.1 hW (t_X7_learnAll l g a_turns a_turns_known a_turns_lengths a_rows a_ways a_rows_ends a_land a_ways_lengths a_ways_slantwises a_ways_straights a_land_kinds a_land_nears a_rows_strips a_rows_alongs a_rows_numbers a_rows_sorted a_rows_spare a_rows_tally a_rows_squares a_rows_starts a_land_depths c_turns_known c_turns_lengths c_rows_there c_rows_size c_ways_straightSize c_ways_slantwiseSize c_rows_ends c_land_laid c_land_head c_land_fieldCount c_land_innerCount c_ways_lengths c_ways_slantwises c_ways_straights c_land_kinds c_land_nears c_turns_known_8 c_turns_lengths_8 c_ways_straightSize_8 c_ways_slantwiseSize_8 c_ways_lengths_8 c_ways_slantwises_8 c_ways_straights_8 hr) rfl [5, 12, 13, 4, 6, 11, 1, 14, 15, 16, 7, 8] [0, 2, 3, 9, 10] [0, 11, 1, 2, 8, 5, 9, 15, 16, 3, 4, 10, 6, 7, 12, 13, 14] rfl rfl rfl rfl rfl rfl rfl 5 7 rfl rfl rfl (uw4 30 rfl rfl) (uw4 27 rfl rfl) (uw4 28 rfl rfl) (uw4 29 rfl rfl) (uw1 8 rfl rfl) ⟨by decide, by decide, by decide⟩ rfl ⟨by decide, by decide⟩ (Nat.le_of_ble_eq_true rfl) ⟨Nat.zero_le _, Nat.zero_le _⟩ (dd dX9_best 4 rfl) (fun H locs hW => ?_)
  refine lv_aload_n (pc := 11) hx hb (dd dX9_best 5 rfl) rfl (lv_at hl 0 rfl) ?_
  refine rGet (pc := 12) M hW 0 6 iU9 rfl rfl (by decide) (uw2 56 rfl rfl) rfl (dd dX9_best 6 rfl) ?_
  refine lv_aload_n (pc := 15) hx hb (dd dX9_best 7 rfl) rfl (lv_at hl 0 rfl) ?_
  refine rGet (pc := 16) M hW 0 3 iU9 rfl rfl (by decide) (uw2 53 rfl rfl) rfl (dd dX9_best 8 rfl) ?_
  refine rGet (pc := 19) M hW 4 11 iU6 rfl rfl (by decide) (uw1 160 rfl rfl) rfl (dd dX9_best 9 rfl) ?_
  obtain ⟨⟨r_22, c_plan_there_22, c_plan_size_22, c_planner_rests_22, c_plan_numbers_22⟩, hr, h⟩ := bnd_ex h
  have h := un5_at h
  refine callVI (pc := 22) (na := 1) (As := [.int c_rows_size]) (rest := []) (ws2 := (w_X9_best g a_t a_land a_plan a_planner a_rows a_turns a_ways a_land_kinds a_land_nears a_plan_numbers a_planner_rests a_rows_ends a_turns_known a_turns_lengths a_ways_lengths a_ways_slantwises a_ways_straights a_rings a_slants a_reaper a_land_depths a_rows_strips a_rows_alongs a_rows_numbers a_rows_sorted a_rows_spare a_rows_tally a_rows_squares a_rows_starts c_land_laid c_land_head c_land_fieldCount c_land_innerCount c_plan_there_22 c_plan_size_22 c_rows_there c_rows_size c_ways_straightSize_8 c_ways_slantwiseSize_8 c_land_kinds c_land_nears c_plan_numbers_22 c_planner_rests_22 c_rows_ends c_turns_known_8 c_turns_lengths_8 c_ways_lengths_8 c_ways_slantwises_8 c_ways_straights_8)) M hl.1 hW (t_X3_make l g a_planner a_plan a_planner_rests a_turns a_plan_numbers a_turns_lengths a_ways a_rows a_turns_known c_plan_there c_plan_size c_planner_rests c_plan_numbers c_turns_lengths_8 c_rows_size r_22 c_plan_there_22 c_plan_size_22 c_planner_rests_22 c_plan_numbers_22 hr) rfl [3, 2, 10, 5, 9, 13] [0, 1, 4, 6, 7, 8, 11, 12, 14, 15, 16] [0, 1, 12, 11, 2, 14, 3, 4, 5, 15, 13, 6, 7, 16, 8, 9, 10] rfl rfl rfl rfl rfl rfl rfl 3 3 rfl rfl rfl (uw4 35 rfl rfl) (uw4 32 rfl rfl) (uw4 33 rfl rfl) (uw4 34 rfl rfl) (uw1 10 rfl rfl) ⟨by decide, by decide, by decide⟩ rfl ⟨by decide, by decide⟩ (Nat.le_of_ble_eq_true rfl) ⟨Nat.zero_le _, Nat.zero_le _⟩ (dd dX9_best 10 rfl) (fun H locs hW => ?_)
  have hW9 := hW
  cases h
  exact ret _ _ _ 25 hW9 rfl (dd dX9_best 11 rfl)
set_option maxHeartbeats 4000000 in
set_option maxRecDepth 100000 in
theorem x_X9_best (l : Launch) (hl9 : l.stackTraces = false) (g : G9) (a_t a_land a_plan a_planner a_rows a_turns a_ways a_land_kinds a_land_nears a_plan_numbers a_planner_rests a_rows_ends a_turns_known a_turns_lengths a_ways_lengths a_ways_slantwises a_ways_straights a_rings a_slants a_reaper a_land_depths a_rows_strips a_rows_alongs a_rows_numbers a_rows_sorted a_rows_spare a_rows_tally a_rows_squares a_rows_starts : Nat) (c_land_laid c_land_head c_land_fieldCount c_land_innerCount c_plan_there c_plan_size c_rows_there c_rows_size c_ways_straightSize c_ways_slantwiseSize : Int32) (c_land_kinds c_land_nears c_plan_numbers c_planner_rests c_rows_ends c_turns_known c_turns_lengths c_ways_lengths c_ways_slantwises c_ways_straights : Ar) (k0 : Nat) (h : X9_best c_plan_there c_plan_size c_rows_there c_rows_size c_ways_straightSize c_ways_slantwiseSize c_land_kinds c_land_nears c_plan_numbers c_planner_rests c_rows_ends c_turns_known c_turns_lengths c_ways_lengths c_ways_slantwises c_ways_straights = some (.inl k0)) : CtX QnI l g yX9_best cX9_best 1 (some .int) 7 120 [.ref a_t] (w_X9_best g a_t a_land a_plan a_planner a_rows a_turns a_ways a_land_kinds a_land_nears a_plan_numbers a_planner_rests a_rows_ends a_turns_known a_turns_lengths a_ways_lengths a_ways_slantwises a_ways_straights a_rings a_slants a_reaper a_land_depths a_rows_strips a_rows_alongs a_rows_numbers a_rows_sorted a_rows_spare a_rows_tally a_rows_squares a_rows_starts c_land_laid c_land_head c_land_fieldCount c_land_innerCount c_plan_there c_plan_size c_rows_there c_rows_size c_ways_straightSize c_ways_slantwiseSize c_land_kinds c_land_nears c_plan_numbers c_planner_rests c_rows_ends c_turns_known c_turns_lengths c_ways_lengths c_ways_slantwises c_ways_straights) (excN k0) := by
  refine startX (by decide) (Nat.le_of_ble_eq_true rfl) ?_
  intro p e s m below meth c A Q ls args M hW hl hlk hex hA9 hQ
  have hx := M.1
  have hb := M.2.1
  have hown := M.2.2.2.1
  have hu := M.2.2.2.2.1
  have hl : lv_has ls 1 [(0, .ref a_t)] := hl
  unfold X9_best at h
  obtain ⟨H, eH⟩ : ∃ z, z = s.heap := ⟨_, rfl⟩
  obtain ⟨locs, eL⟩ : ∃ z, z = ([] : List Loc) := ⟨_, rfl⟩
  rw [← eL] at hW ⊢
  suffices hS9 : WD g s A (w_X9_best g a_t a_land a_plan a_planner a_rows a_turns a_ways a_land_kinds a_land_nears a_plan_numbers a_planner_rests a_rows_ends a_turns_known a_turns_lengths a_ways_lengths a_ways_slantwises a_ways_straights a_rings a_slants a_reaper a_land_depths a_rows_strips a_rows_alongs a_rows_numbers a_rows_sorted a_rows_spare a_rows_tally a_rows_squares a_rows_starts c_land_laid c_land_head c_land_fieldCount c_land_innerCount c_plan_there c_plan_size c_rows_there c_rows_size c_ways_straightSize c_ways_slantwiseSize c_land_kinds c_land_nears c_plan_numbers c_planner_rests c_rows_ends c_turns_known c_turns_lengths c_ways_lengths c_ways_slantwises c_ways_straights) H locs → W p l e (rm9x 7 120) s m args below meth c H locs 0 0 Q (F0 m 0 ls []) by
    rw [← eH] at hW ⊢
    exact hS9 hW
  clear hW eL
  intro hW
  refine lv_aload_n (pc := 0) hx hb (dd dX9_best 0 rfl) rfl (lv_at hl 0 rfl) ?_
  obtain ⟨ex9, hr, h⟩ := bnd_ex h
  rcases ex9 with x9 | u9
  · have h := sE_l h
    have hW9 := hW
    cases h
    exact callXV (pc := 1) (na := 0) (As := []) (rest := []) M hl.1 hW9 hlk hex hA9 hQ (x_X9_needRows l hl9 g a_t a_rows a_rings a_land a_ways a_turns a_plan a_planner a_slants a_reaper a_rows_strips a_rows_alongs a_rows_numbers a_rows_sorted a_rows_spare a_rows_tally a_rows_squares a_rows_starts a_rows_ends c_rows_there c_rows_size _ hr) rfl [0, 4] [1, 2, 3, 5, 6, 7, 8, 9, 10, 11, 12, 13, 14, 15, 16] [15, 0, 1, 2, 16, 3, 4, 5, 6, 7, 8, 9, 10, 11, 12, 13, 14] rfl rfl rfl rfl rfl rfl rfl 0 9 rfl rfl rfl (uw3 191 rfl rfl) (uw3 188 rfl rfl) (uw3 190 rfl rfl) (uwp 22 rfl rfl) (uw1 1 rfl rfl) ⟨by decide, by decide, by decide⟩ rfl ⟨by decide, by decide⟩ (Nat.le_of_ble_eq_true rfl)  ⟨by decide, by decide⟩ (dd dX9_best 1 rfl)
  have h := sE_r h
  refine callVV (pc := 1) (na := 0) (As := []) (rest := []) (ws2 := (w_X9_best g a_t a_land a_plan a_planner a_rows a_turns a_ways a_land_kinds a_land_nears a_plan_numbers a_planner_rests a_rows_ends a_turns_known a_turns_lengths a_ways_lengths a_ways_slantwises a_ways_straights a_rings a_slants a_reaper a_land_depths a_rows_strips a_rows_alongs a_rows_numbers a_rows_sorted a_rows_spare a_rows_tally a_rows_squares a_rows_starts c_land_laid c_land_head c_land_fieldCount c_land_innerCount c_plan_there c_plan_size c_rows_there c_rows_size c_ways_straightSize c_ways_slantwiseSize c_land_kinds c_land_nears c_plan_numbers c_planner_rests c_rows_ends c_turns_known c_turns_lengths c_ways_lengths c_ways_slantwises c_ways_straights)) M hl.1 hW (t_X9_needRows l g a_t a_rows a_rings a_land a_ways a_turns a_plan a_planner a_slants a_reaper a_rows_strips a_rows_alongs a_rows_numbers a_rows_sorted a_rows_spare a_rows_tally a_rows_squares a_rows_starts a_rows_ends c_rows_there c_rows_size hr) rfl [0, 4] [1, 2, 3, 5, 6, 7, 8, 9, 10, 11, 12, 13, 14, 15, 16] [15, 0, 1, 2, 16, 3, 4, 5, 6, 7, 8, 9, 10, 11, 12, 13, 14] rfl rfl rfl rfl rfl rfl rfl 0 9 rfl rfl rfl (uw3 191 rfl rfl) (uw3 188 rfl rfl) (uw3 190 rfl rfl) (uwp 22 rfl rfl) (uw1 1 rfl rfl) ⟨by decide, by decide, by decide⟩ rfl ⟨by decide, by decide⟩ (Nat.le_of_ble_eq_true rfl)  ⟨Nat.zero_le _, Nat.zero_le _⟩ (dd dX9_best 1 rfl) (fun H locs hW => ?_)
  exact (rmap_no h).elim
abbrev w_X9_bound (g : G9) (a_t a_land a_rows a_turns a_ways a_land_kinds a_land_nears a_rows_ends a_turns_known a_turns_lengths a_ways_lengths a_ways_slantwises a_ways_straights a_rings a_plan a_planner a_slants a_reaper a_land_depths a_rows_strips a_rows_alongs a_rows_numbers a_rows_sorted a_rows_spare a_rows_tally a_rows_squares a_rows_starts : Nat) (c_land_laid c_land_head c_land_fieldCount c_land_innerCount c_rows_there c_rows_size c_ways_straightSize c_ways_slantwiseSize : Int32) (c_land_kinds c_land_nears c_rows_ends c_turns_known c_turns_lengths c_ways_lengths c_ways_slantwises c_ways_straights : Ar) : va_W := [ob a_t 9 [.ref a_rings, .ref a_land, .ref a_ways, .ref a_rows, .ref a_turns, .ref a_plan, .ref a_planner, .ref a_slants, .ref a_reaper], ob a_land 0 [.ref a_land_kinds, .ref a_land_nears, .ref a_land_depths, .int c_land_laid, .int c_land_head, .int c_land_fieldCount, .int c_land_innerCount], ob a_rows 6 [.ref a_land, .ref a_rows_strips, .ref a_rows_alongs, .ref a_rows_numbers, .ref a_rows_sorted, .ref a_rows_spare, .ref a_rows_tally, .ref a_rows_squares, .ref a_rows_starts, .ref a_rows_ends, .int c_rows_there, .int c_rows_size], ob a_turns 7 [.ref a_ways, .ref a_rows, .ref a_turns_lengths, .ref a_turns_known], ob a_ways 8 [.ref a_land, .ref a_ways_lengths, .ref a_ways_straights, .ref a_ways_slantwises, .int c_ways_straightSize, .int c_ways_slantwiseSize], ia g a_land_kinds 1200 c_land_kinds, ia g a_land_nears 1200 c_land_nears, ia g a_rows_ends 120 c_rows_ends, za g a_turns_known 120 c_turns_known, ia g a_turns_lengths 14400 c_turns_lengths, ia g a_ways_lengths 1200 c_ways_lengths, ia g a_ways_slantwises 1200 c_ways_slantwises, ia g a_ways_straights 1200 c_ways_straights]
noncomputable def X9_bound (c_rows_there c_rows_size c_ways_straightSize c_ways_slantwiseSize : Int32) (c_land_kinds c_land_nears c_rows_ends c_turns_known c_turns_lengths c_ways_lengths c_ways_slantwises c_ways_straights : Ar) : Option (Nat ⊕ (Int32 × Int32 × Int32 × Ar × Ar × Ar × Ar × Ar)) :=
  bnd (X9_needRows c_rows_there) <| Sum.elim (fun x9 => some (.inl x9)) fun (_ : Unit) => rmap <| bnd (X7_learnAll c_turns_known c_turns_lengths c_rows_size c_ways_straightSize c_ways_slantwiseSize c_rows_ends c_ways_lengths c_ways_slantwises c_ways_straights c_land_kinds c_land_nears) <| un7 fun c_turns_known_8 c_turns_lengths_8 c_ways_straightSize_8 c_ways_slantwiseSize_8 c_ways_lengths_8 c_ways_slantwises_8 c_ways_straights_8 => bnd (X7_leastOfAll c_turns_lengths_8 c_rows_size) <| fun r_15 => bnd (X9_orNone r_15) <| fun r_18 => some (r_18, c_ways_straightSize_8, c_ways_slantwiseSize_8, c_turns_known_8, c_turns_lengths_8, c_ways_lengths_8, c_ways_slantwises_8, c_ways_straights_8)
set_option maxHeartbeats 4000000 in
set_option maxRecDepth 100000 in
theorem t_X9_bound (l : Launch) (g : G9) (a_t a_land a_rows a_turns a_ways a_land_kinds a_land_nears a_rows_ends a_turns_known a_turns_lengths a_ways_lengths a_ways_slantwises a_ways_straights a_rings a_plan a_planner a_slants a_reaper a_land_depths a_rows_strips a_rows_alongs a_rows_numbers a_rows_sorted a_rows_spare a_rows_tally a_rows_squares a_rows_starts : Nat) (c_land_laid c_land_head c_land_fieldCount c_land_innerCount c_rows_there c_rows_size c_ways_straightSize c_ways_slantwiseSize : Int32) (c_land_kinds c_land_nears c_rows_ends c_turns_known c_turns_lengths c_ways_lengths c_ways_slantwises c_ways_straights : Ar) (r0 o_ways_straightSize o_ways_slantwiseSize : Int32) (o_turns_known o_turns_lengths o_ways_lengths o_ways_slantwises o_ways_straights : Ar) (h : X9_bound c_rows_there c_rows_size c_ways_straightSize c_ways_slantwiseSize c_land_kinds c_land_nears c_rows_ends c_turns_known c_turns_lengths c_ways_lengths c_ways_slantwises c_ways_straights = some (.inr (r0, o_ways_straightSize, o_ways_slantwiseSize, o_turns_known, o_turns_lengths, o_ways_lengths, o_ways_slantwises, o_ways_straights))) : CtI l g yX9_bound cX9_bound 1 .int 7 119 [.ref a_t] (w_X9_bound g a_t a_land a_rows a_turns a_ways a_land_kinds a_land_nears a_rows_ends a_turns_known a_turns_lengths a_ways_lengths a_ways_slantwises a_ways_straights a_rings a_plan a_planner a_slants a_reaper a_land_depths a_rows_strips a_rows_alongs a_rows_numbers a_rows_sorted a_rows_spare a_rows_tally a_rows_squares a_rows_starts c_land_laid c_land_head c_land_fieldCount c_land_innerCount c_rows_there c_rows_size c_ways_straightSize c_ways_slantwiseSize c_land_kinds c_land_nears c_rows_ends c_turns_known c_turns_lengths c_ways_lengths c_ways_slantwises c_ways_straights) r0 (w_X9_bound g a_t a_land a_rows a_turns a_ways a_land_kinds a_land_nears a_rows_ends a_turns_known a_turns_lengths a_ways_lengths a_ways_slantwises a_ways_straights a_rings a_plan a_planner a_slants a_reaper a_land_depths a_rows_strips a_rows_alongs a_rows_numbers a_rows_sorted a_rows_spare a_rows_tally a_rows_squares a_rows_starts c_land_laid c_land_head c_land_fieldCount c_land_innerCount c_rows_there c_rows_size o_ways_straightSize o_ways_slantwiseSize c_land_kinds c_land_nears c_rows_ends o_turns_known o_turns_lengths o_ways_lengths o_ways_slantwises o_ways_straights) := by
  refine startI (by decide) (Nat.le_of_ble_eq_true rfl) ?_
  intro p e s m below meth c A Q ls args M hW hl ret
  have hx := M.1
  have hb := M.2.1
  have hown := M.2.2.2.1
  have hu := M.2.2.2.2.1
  have hl : lv_has ls 1 [(0, .ref a_t)] := hl
  unfold X9_bound at h
  obtain ⟨H, eH⟩ : ∃ z, z = s.heap := ⟨_, rfl⟩
  obtain ⟨locs, eL⟩ : ∃ z, z = ([] : List Loc) := ⟨_, rfl⟩
  rw [← eL] at hW ⊢
  suffices hS9 : WD g s A (w_X9_bound g a_t a_land a_rows a_turns a_ways a_land_kinds a_land_nears a_rows_ends a_turns_known a_turns_lengths a_ways_lengths a_ways_slantwises a_ways_straights a_rings a_plan a_planner a_slants a_reaper a_land_depths a_rows_strips a_rows_alongs a_rows_numbers a_rows_sorted a_rows_spare a_rows_tally a_rows_squares a_rows_starts c_land_laid c_land_head c_land_fieldCount c_land_innerCount c_rows_there c_rows_size c_ways_straightSize c_ways_slantwiseSize c_land_kinds c_land_nears c_rows_ends c_turns_known c_turns_lengths c_ways_lengths c_ways_slantwises c_ways_straights) H locs → W p l e (rm9 7 119) s m args below meth c H locs 0 0 Q (F0 m 0 ls []) by
    rw [← eH] at hW ⊢
    exact hS9 hW
  clear hW eH eL
  intro hW
  refine lv_aload_n (pc := 0) hx hb (dd dX9_bound 0 rfl) rfl (lv_at hl 0 rfl) ?_
  obtain ⟨ex9, hr, h⟩ := bnd_ex h
  rcases ex9 with x9 | u9
  · have h := sE_l h
    cases h
  have h := sE_r h
  refine callVV (pc := 1) (na := 0) (As := []) (rest := []) (ws2 := (w_X9_bound g a_t a_land a_rows a_turns a_ways a_land_kinds a_land_nears a_rows_ends a_turns_known a_turns_lengths a_ways_lengths a_ways_slantwises a_ways_straights a_rings a_plan a_planner a_slants a_reaper a_land_depths a_rows_strips a_rows_alongs a_rows_numbers a_rows_sorted a_rows_spare a_rows_tally a_rows_squares a_rows_starts c_land_laid c_land_head c_land_fieldCount c_land_innerCount c_rows_there c_rows_size c_ways_straightSize c_ways_slantwiseSize c_land_kinds c_land_nears c_rows_ends c_turns_known c_turns_lengths c_ways_lengths c_ways_slantwises c_ways_straights)) M hl.1 hW (t_X9_needRows l g a_t a_rows a_rings a_land a_ways a_turns a_plan a_planner a_slants a_reaper a_rows_strips a_rows_alongs a_rows_numbers a_rows_sorted a_rows_spare a_rows_tally a_rows_squares a_rows_starts a_rows_ends c_rows_there c_rows_size hr) rfl [0, 2] [1, 3, 4, 5, 6, 7, 8, 9, 10, 11, 12] [11, 0, 12, 1, 2, 3, 4, 5, 6, 7, 8, 9, 10] rfl rfl rfl rfl rfl rfl rfl 0 9 rfl rfl rfl (uw3 191 rfl rfl) (uw3 188 rfl rfl) (uw3 190 rfl rfl) (uwp 22 rfl rfl) (uw1 1 rfl rfl) ⟨by decide, by decide, by decide⟩ rfl ⟨by decide, by decide⟩ (Nat.le_of_ble_eq_true rfl)  ⟨Nat.zero_le _, Nat.zero_le _⟩ (dd dX9_bound 1 rfl) (fun H locs hW => ?_)
  have h := rmap_ex h
  refine lv_aload_n (pc := 4) hx hb (dd dX9_bound 2 rfl) rfl (lv_at hl 0 rfl) ?_
  refine rGet (pc := 5) M hW 0 4 iU9 rfl rfl (by decide) (uw2 54 rfl rfl) rfl (dd dX9_bound 3 rfl) ?_
  obtain ⟨⟨c_turns_known_8, c_turns_lengths_8, c_ways_straightSize_8, c_ways_slantwiseSize_8, c_ways_lengths_8, c_ways_slantwises_8, c_ways_straights_8⟩, hr, h⟩ := bnd_ex h
  have h := un7_at h
  refine callVV (pc := 8) (na := 0) (As := []) (rest := []) (ws2 := (w_X9_bound g a_t a_land a_rows a_turns a_ways a_land_kinds a_land_nears a_rows_ends a_turns_known a_turns_lengths a_ways_lengths a_ways_slantwises a_ways_straights a_rings a_plan a_planner a_slants a_reaper a_land_depths a_rows_strips a_rows_alongs a_rows_numbers a_rows_sorted a_rows_spare a_rows_tally a_rows_squares a_rows_starts c_land_laid c_land_head c_land_fieldCount c_land_innerCount c_rows_there c_rows_size c_ways_straightSize_8 c_ways_slantwiseSize_8 c_land_kinds c_land_nears c_rows_ends c_turns_known_8 c_turns_lengths_8 c_ways_lengths_8 c_ways_slantwises_8 c_ways_straights_8)) M hl.1 hW (t_X7_learnAll l g a_turns a_turns_known a_turns_lengths a_rows a_ways a_rows_ends a_land a_ways_lengths a_ways_slantwises a_ways_straights a_land_kinds a_land_nears a_rows_strips a_rows_alongs a_rows_numbers a_rows_sorted a_rows_spare a_rows_tally a_rows_squares a_rows_starts a_land_depths c_turns_known c_turns_lengths c_rows_there c_rows_size c_ways_straightSize c_ways_slantwiseSize c_rows_ends c_land_laid c_land_head c_land_fieldCount c_land_innerCount c_ways_lengths c_ways_slantwises c_ways_straights c_land_kinds c_land_nears c_turns_known_8 c_turns_lengths_8 c_ways_straightSize_8 c_ways_slantwiseSize_8 c_ways_lengths_8 c_ways_slantwises_8 c_ways_straights_8 hr) rfl [3, 8, 9, 2, 4, 7, 1, 10, 11, 12, 5, 6] [0] [0, 7, 4, 1, 5, 11, 12, 6, 2, 3, 8, 9, 10] rfl rfl rfl rfl rfl rfl rfl 3 7 rfl rfl rfl (uw4 30 rfl rfl) (uw4 27 rfl rfl) (uw4 28 rfl rfl) (uw4 29 rfl rfl) (uw1 8 rfl rfl) ⟨by decide, by decide, by decide⟩ rfl ⟨by decide, by decide⟩ (Nat.le_of_ble_eq_true rfl) ⟨Nat.zero_le _, Nat.zero_le _⟩ (dd dX9_bound 4 rfl) (fun H locs hW => ?_)
  refine lv_aload_n (pc := 11) hx hb (dd dX9_bound 5 rfl) rfl (lv_at hl 0 rfl) ?_
  refine rGet (pc := 12) M hW 0 4 iU9 rfl rfl (by decide) (uw2 54 rfl rfl) rfl (dd dX9_bound 6 rfl) ?_
  obtain ⟨r_15, hr, h⟩ := bnd_ex h
  refine callVI (pc := 15) (na := 0) (As := []) (rest := []) (ws2 := (w_X9_bound g a_t a_land a_rows a_turns a_ways a_land_kinds a_land_nears a_rows_ends a_turns_known a_turns_lengths a_ways_lengths a_ways_slantwises a_ways_straights a_rings a_plan a_planner a_slants a_reaper a_land_depths a_rows_strips a_rows_alongs a_rows_numbers a_rows_sorted a_rows_spare a_rows_tally a_rows_squares a_rows_starts c_land_laid c_land_head c_land_fieldCount c_land_innerCount c_rows_there c_rows_size c_ways_straightSize_8 c_ways_slantwiseSize_8 c_land_kinds c_land_nears c_rows_ends c_turns_known_8 c_turns_lengths_8 c_ways_lengths_8 c_ways_slantwises_8 c_ways_straights_8)) M hl.1 hW (t_X7_leastOfAll l g a_turns a_turns_lengths a_rows a_ways a_turns_known a_land a_rows_strips a_rows_alongs a_rows_numbers a_rows_sorted a_rows_spare a_rows_tally a_rows_squares a_rows_starts a_rows_ends c_turns_lengths_8 c_rows_there c_rows_size r_15 hr) rfl [3, 9, 2] [0, 1, 4, 5, 6, 7, 8, 10, 11, 12] [0, 1, 12, 10, 2, 3, 4, 5, 6, 11, 7, 8, 9] rfl rfl rfl rfl rfl rfl rfl 3 7 rfl rfl rfl (uw4 102 rfl rfl) (uw4 99 rfl rfl) (uw4 100 rfl rfl) (uw4 101 rfl rfl) (uw1 8 rfl rfl) ⟨by decide, by decide, by decide⟩ rfl ⟨by decide, by decide⟩ (Nat.le_of_ble_eq_true rfl) ⟨Nat.zero_le _, Nat.zero_le _⟩ (dd dX9_bound 7 rfl) (fun H locs hW => ?_)
  obtain ⟨r_18, hr, h⟩ := bnd_ex h
  refine callSI (pc := 18) (na := 1) (As := [.int r_15]) (rest := []) (ws2 := (w_X9_bound g a_t a_land a_rows a_turns a_ways a_land_kinds a_land_nears a_rows_ends a_turns_known a_turns_lengths a_ways_lengths a_ways_slantwises a_ways_straights a_rings a_plan a_planner a_slants a_reaper a_land_depths a_rows_strips a_rows_alongs a_rows_numbers a_rows_sorted a_rows_spare a_rows_tally a_rows_squares a_rows_starts c_land_laid c_land_head c_land_fieldCount c_land_innerCount c_rows_there c_rows_size c_ways_straightSize_8 c_ways_slantwiseSize_8 c_land_kinds c_land_nears c_rows_ends c_turns_known_8 c_turns_lengths_8 c_ways_lengths_8 c_ways_slantwises_8 c_ways_straights_8)) M hl.1 hW (t_X9_orNone l g r_15 r_18 hr) [] [0, 1, 2, 3, 4, 5, 6, 7, 8, 9, 10, 11, 12] [0, 1, 2, 3, 4, 5, 6, 7, 8, 9, 10, 11, 12] rfl rfl rfl rfl rfl rfl rfl (uw4 1 rfl rfl) (uw3 239 rfl rfl) (uw4 0 rfl rfl) (uw1 1 rfl rfl) ⟨by decide, by decide, by decide⟩ rfl ⟨by decide, by decide⟩ (Nat.le_of_ble_eq_true rfl) ⟨Nat.zero_le _, Nat.zero_le _⟩ (dd dX9_bound 8 rfl) (fun H locs hW => ?_)
  have hW9 := hW
  cases h
  exact ret _ _ _ 21 hW9 rfl (dd dX9_bound 9 rfl)
set_option maxHeartbeats 4000000 in
set_option maxRecDepth 100000 in
theorem x_X9_bound (l : Launch) (hl9 : l.stackTraces = false) (g : G9) (a_t a_land a_rows a_turns a_ways a_land_kinds a_land_nears a_rows_ends a_turns_known a_turns_lengths a_ways_lengths a_ways_slantwises a_ways_straights a_rings a_plan a_planner a_slants a_reaper a_land_depths a_rows_strips a_rows_alongs a_rows_numbers a_rows_sorted a_rows_spare a_rows_tally a_rows_squares a_rows_starts : Nat) (c_land_laid c_land_head c_land_fieldCount c_land_innerCount c_rows_there c_rows_size c_ways_straightSize c_ways_slantwiseSize : Int32) (c_land_kinds c_land_nears c_rows_ends c_turns_known c_turns_lengths c_ways_lengths c_ways_slantwises c_ways_straights : Ar) (k0 : Nat) (h : X9_bound c_rows_there c_rows_size c_ways_straightSize c_ways_slantwiseSize c_land_kinds c_land_nears c_rows_ends c_turns_known c_turns_lengths c_ways_lengths c_ways_slantwises c_ways_straights = some (.inl k0)) : CtX QnI l g yX9_bound cX9_bound 1 (some .int) 7 119 [.ref a_t] (w_X9_bound g a_t a_land a_rows a_turns a_ways a_land_kinds a_land_nears a_rows_ends a_turns_known a_turns_lengths a_ways_lengths a_ways_slantwises a_ways_straights a_rings a_plan a_planner a_slants a_reaper a_land_depths a_rows_strips a_rows_alongs a_rows_numbers a_rows_sorted a_rows_spare a_rows_tally a_rows_squares a_rows_starts c_land_laid c_land_head c_land_fieldCount c_land_innerCount c_rows_there c_rows_size c_ways_straightSize c_ways_slantwiseSize c_land_kinds c_land_nears c_rows_ends c_turns_known c_turns_lengths c_ways_lengths c_ways_slantwises c_ways_straights) (excN k0) := by
  refine startX (by decide) (Nat.le_of_ble_eq_true rfl) ?_
  intro p e s m below meth c A Q ls args M hW hl hlk hex hA9 hQ
  have hx := M.1
  have hb := M.2.1
  have hown := M.2.2.2.1
  have hu := M.2.2.2.2.1
  have hl : lv_has ls 1 [(0, .ref a_t)] := hl
  unfold X9_bound at h
  obtain ⟨H, eH⟩ : ∃ z, z = s.heap := ⟨_, rfl⟩
  obtain ⟨locs, eL⟩ : ∃ z, z = ([] : List Loc) := ⟨_, rfl⟩
  rw [← eL] at hW ⊢
  suffices hS9 : WD g s A (w_X9_bound g a_t a_land a_rows a_turns a_ways a_land_kinds a_land_nears a_rows_ends a_turns_known a_turns_lengths a_ways_lengths a_ways_slantwises a_ways_straights a_rings a_plan a_planner a_slants a_reaper a_land_depths a_rows_strips a_rows_alongs a_rows_numbers a_rows_sorted a_rows_spare a_rows_tally a_rows_squares a_rows_starts c_land_laid c_land_head c_land_fieldCount c_land_innerCount c_rows_there c_rows_size c_ways_straightSize c_ways_slantwiseSize c_land_kinds c_land_nears c_rows_ends c_turns_known c_turns_lengths c_ways_lengths c_ways_slantwises c_ways_straights) H locs → W p l e (rm9x 7 119) s m args below meth c H locs 0 0 Q (F0 m 0 ls []) by
    rw [← eH] at hW ⊢
    exact hS9 hW
  clear hW eL
  intro hW
  refine lv_aload_n (pc := 0) hx hb (dd dX9_bound 0 rfl) rfl (lv_at hl 0 rfl) ?_
  obtain ⟨ex9, hr, h⟩ := bnd_ex h
  rcases ex9 with x9 | u9
  · have h := sE_l h
    have hW9 := hW
    cases h
    exact callXV (pc := 1) (na := 0) (As := []) (rest := []) M hl.1 hW9 hlk hex hA9 hQ (x_X9_needRows l hl9 g a_t a_rows a_rings a_land a_ways a_turns a_plan a_planner a_slants a_reaper a_rows_strips a_rows_alongs a_rows_numbers a_rows_sorted a_rows_spare a_rows_tally a_rows_squares a_rows_starts a_rows_ends c_rows_there c_rows_size _ hr) rfl [0, 2] [1, 3, 4, 5, 6, 7, 8, 9, 10, 11, 12] [11, 0, 12, 1, 2, 3, 4, 5, 6, 7, 8, 9, 10] rfl rfl rfl rfl rfl rfl rfl 0 9 rfl rfl rfl (uw3 191 rfl rfl) (uw3 188 rfl rfl) (uw3 190 rfl rfl) (uwp 22 rfl rfl) (uw1 1 rfl rfl) ⟨by decide, by decide, by decide⟩ rfl ⟨by decide, by decide⟩ (Nat.le_of_ble_eq_true rfl)  ⟨by decide, by decide⟩ (dd dX9_bound 1 rfl)
  have h := sE_r h
  refine callVV (pc := 1) (na := 0) (As := []) (rest := []) (ws2 := (w_X9_bound g a_t a_land a_rows a_turns a_ways a_land_kinds a_land_nears a_rows_ends a_turns_known a_turns_lengths a_ways_lengths a_ways_slantwises a_ways_straights a_rings a_plan a_planner a_slants a_reaper a_land_depths a_rows_strips a_rows_alongs a_rows_numbers a_rows_sorted a_rows_spare a_rows_tally a_rows_squares a_rows_starts c_land_laid c_land_head c_land_fieldCount c_land_innerCount c_rows_there c_rows_size c_ways_straightSize c_ways_slantwiseSize c_land_kinds c_land_nears c_rows_ends c_turns_known c_turns_lengths c_ways_lengths c_ways_slantwises c_ways_straights)) M hl.1 hW (t_X9_needRows l g a_t a_rows a_rings a_land a_ways a_turns a_plan a_planner a_slants a_reaper a_rows_strips a_rows_alongs a_rows_numbers a_rows_sorted a_rows_spare a_rows_tally a_rows_squares a_rows_starts a_rows_ends c_rows_there c_rows_size hr) rfl [0, 2] [1, 3, 4, 5, 6, 7, 8, 9, 10, 11, 12] [11, 0, 12, 1, 2, 3, 4, 5, 6, 7, 8, 9, 10] rfl rfl rfl rfl rfl rfl rfl 0 9 rfl rfl rfl (uw3 191 rfl rfl) (uw3 188 rfl rfl) (uw3 190 rfl rfl) (uwp 22 rfl rfl) (uw1 1 rfl rfl) ⟨by decide, by decide, by decide⟩ rfl ⟨by decide, by decide⟩ (Nat.le_of_ble_eq_true rfl)  ⟨Nat.zero_le _, Nat.zero_le _⟩ (dd dX9_bound 1 rfl) (fun H locs hW => ?_)
  exact (rmap_no h).elim
abbrev w_X9_plan (g : G9) (a_t a_plan a_plan_numbers a_rings a_land a_ways a_rows a_turns a_planner a_slants a_reaper : Nat) (c_plan_there c_plan_size : Int32) (c_plan_numbers : Ar) : va_W := [ob a_t 9 [.ref a_rings, .ref a_land, .ref a_ways, .ref a_rows, .ref a_turns, .ref a_plan, .ref a_planner, .ref a_slants, .ref a_reaper], ob a_plan 2 [.ref a_turns, .ref a_plan_numbers, .int c_plan_there, .int c_plan_size], ia g a_plan_numbers 60 c_plan_numbers]
noncomputable def X9_plan (c_plan_there c_plan_size : Int32) (c_plan_numbers : Ar) (v1 : Int32) : Option Int32 :=
  if c_plan_there = 0 then (some (-1)) else (if v1 < 0 then (some (-1)) else (if c_plan_size ≤ v1 then (some (-1)) else (ck (ix v1 60) <| some (ag c_plan_numbers v1))))
set_option maxHeartbeats 4000000 in
set_option maxRecDepth 100000 in
theorem t_X9_plan (l : Launch) (g : G9) (a_t a_plan a_plan_numbers a_rings a_land a_ways a_rows a_turns a_planner a_slants a_reaper : Nat) (c_plan_there c_plan_size : Int32) (c_plan_numbers : Ar) (v1 r0 : Int32) (h : X9_plan c_plan_there c_plan_size c_plan_numbers v1 = some r0) : CtI l g yX9_plan cX9_plan 2 .int 0 0 [.ref a_t, .int v1] (w_X9_plan g a_t a_plan a_plan_numbers a_rings a_land a_ways a_rows a_turns a_planner a_slants a_reaper c_plan_there c_plan_size c_plan_numbers) r0 (w_X9_plan g a_t a_plan a_plan_numbers a_rings a_land a_ways a_rows a_turns a_planner a_slants a_reaper c_plan_there c_plan_size c_plan_numbers) := by
  refine startI (by decide) (Nat.le_of_ble_eq_true rfl) ?_
  intro p e s m below meth c A Q ls args M hW hl ret
  have hx := M.1
  have hb := M.2.1
  have hown := M.2.2.2.1
  have hu := M.2.2.2.2.1
  have hl : lv_has ls 2 [(0, .ref a_t), (1, .int v1)] := hl
  unfold X9_plan at h
  obtain ⟨H, eH⟩ : ∃ z, z = s.heap := ⟨_, rfl⟩
  obtain ⟨locs, eL⟩ : ∃ z, z = ([] : List Loc) := ⟨_, rfl⟩
  rw [← eL] at hW ⊢
  suffices hS9 : WD g s A (w_X9_plan g a_t a_plan a_plan_numbers a_rings a_land a_ways a_rows a_turns a_planner a_slants a_reaper c_plan_there c_plan_size c_plan_numbers) H locs → W p l e (rm9 0 0) s m args below meth c H locs 0 0 Q (F0 m 0 ls []) by
    rw [← eH] at hW ⊢
    exact hS9 hW
  clear hW eH eL
  intro hW
  refine lv_aload_n (pc := 0) hx hb (dd dX9_plan 0 rfl) rfl (lv_at hl 0 rfl) ?_
  refine rGet (pc := 1) M hW 0 5 iU9 rfl rfl (by decide) (uw2 55 rfl rfl) rfl (dd dX9_plan 1 rfl) ?_
  refine rGet (pc := 4) M hW 1 2 iU2 rfl rfl (by decide) (uw1 219 rfl rfl) rfl (dd dX9_plan 2 rfl) ?_
  refine lv_if_eq (pc := 7) (tgt := 37) hx hb (dd dX9_plan 3 rfl) (by decide) (fun hc => ?_) (fun hc => ?_)
  · have h := it_t hc h
    refine lv_iconst (pc := 37) (v := (-1)) hx hb (dd dX9_plan 17 rfl) (by decide) ?_
    have hW9 := hW
    cases h
    exact ret _ _ _ 38 hW9 rfl (dd dX9_plan 18 rfl)
  · have h := it_f hc h
    refine lv_iload_n (pc := 10) hx hb (dd dX9_plan 4 rfl) rfl (lv_at hl 1 rfl) ?_
    refine lv_if_lt (pc := 11) (tgt := 37) hx hb (dd dX9_plan 5 rfl) (by decide) (fun hc => ?_) (fun hc => ?_)
    · have h := it_t hc h
      refine lv_iconst (pc := 37) (v := (-1)) hx hb (dd dX9_plan 17 rfl) (by decide) ?_
      have hW9 := hW
      cases h
      exact ret _ _ _ 38 hW9 rfl (dd dX9_plan 18 rfl)
    · have h := it_f hc h
      refine lv_iload_n (pc := 14) hx hb (dd dX9_plan 6 rfl) rfl (lv_at hl 1 rfl) ?_
      refine lv_aload_n (pc := 15) hx hb (dd dX9_plan 7 rfl) rfl (lv_at hl 0 rfl) ?_
      refine rGet (pc := 16) M hW 0 5 iU9 rfl rfl (by decide) (uw2 55 rfl rfl) rfl (dd dX9_plan 8 rfl) ?_
      refine rGet (pc := 19) M hW 1 3 iU2 rfl rfl (by decide) (uw1 223 rfl rfl) rfl (dd dX9_plan 9 rfl) ?_
      refine lv_icmp_ge (pc := 22) (tgt := 37) hx hb (dd dX9_plan 10 rfl) (by decide) (fun hc => ?_) (fun hc => ?_)
      · have h := it_t hc h
        refine lv_iconst (pc := 37) (v := (-1)) hx hb (dd dX9_plan 17 rfl) (by decide) ?_
        have hW9 := hW
        cases h
        exact ret _ _ _ 38 hW9 rfl (dd dX9_plan 18 rfl)
      · have h := it_f hc h
        refine lv_aload_n (pc := 25) hx hb (dd dX9_plan 11 rfl) rfl (lv_at hl 0 rfl) ?_
        refine rGet (pc := 26) M hW 0 5 iU9 rfl rfl (by decide) (uw2 55 rfl rfl) rfl (dd dX9_plan 12 rfl) ?_
        refine rGet (pc := 29) M hW 1 1 iU2 rfl rfl (by decide) (uw1 216 rfl rfl) rfl (dd dX9_plan 13 rfl) ?_
        refine lv_iload_n (pc := 32) hx hb (dd dX9_plan 14 rfl) rfl (lv_at hl 1 rfl) ?_
        obtain ⟨hi, h⟩ := ck_ex h
        refine rIald (pc := 33) M hW 2 rfl hi (dd dX9_plan 15 rfl) ?_
        refine lv_goto (pc := 34) (tgt := 38) hx hb (dd dX9_plan 16 rfl) (by decide) ?_
        have hW9 := hW
        cases h
        exact ret _ _ _ 38 hW9 rfl (dd dX9_plan 18 rfl)
abbrev w_X9_needPlan (g : G9) (a_t a_plan a_rings a_land a_ways a_rows a_turns a_planner a_slants a_reaper a_plan_numbers : Nat) (c_plan_there c_plan_size : Int32) : va_W := [ob a_t 9 [.ref a_rings, .ref a_land, .ref a_ways, .ref a_rows, .ref a_turns, .ref a_plan, .ref a_planner, .ref a_slants, .ref a_reaper], ob a_plan 2 [.ref a_turns, .ref a_plan_numbers, .int c_plan_there, .int c_plan_size]]
noncomputable def X9_needPlan (c_plan_there : Int32) : Option (Nat ⊕ Unit) :=
  if c_plan_there = 0 then (some (.inl 4)) else (rmap <| some ())
set_option maxHeartbeats 4000000 in
set_option maxRecDepth 100000 in
theorem t_X9_needPlan (l : Launch) (g : G9) (a_t a_plan a_rings a_land a_ways a_rows a_turns a_planner a_slants a_reaper a_plan_numbers : Nat) (c_plan_there c_plan_size : Int32) (h : X9_needPlan c_plan_there = some (.inr ())) : CtV l g yX9_needPlan cX9_needPlan 1 6 90 [.ref a_t] (w_X9_needPlan g a_t a_plan a_rings a_land a_ways a_rows a_turns a_planner a_slants a_reaper a_plan_numbers c_plan_there c_plan_size) (w_X9_needPlan g a_t a_plan a_rings a_land a_ways a_rows a_turns a_planner a_slants a_reaper a_plan_numbers c_plan_there c_plan_size) := by
  refine startV (by decide) (Nat.le_of_ble_eq_true rfl) ?_
  intro p e s m below meth c A Q ls args M hW hl ret
  have hx := M.1
  have hb := M.2.1
  have hown := M.2.2.2.1
  have hu := M.2.2.2.2.1
  have hl : lv_has ls 1 [(0, .ref a_t)] := hl
  unfold X9_needPlan at h
  obtain ⟨H, eH⟩ : ∃ z, z = s.heap := ⟨_, rfl⟩
  obtain ⟨locs, eL⟩ : ∃ z, z = ([] : List Loc) := ⟨_, rfl⟩
  rw [← eL] at hW ⊢
  suffices hS9 : WD g s A (w_X9_needPlan g a_t a_plan a_rings a_land a_ways a_rows a_turns a_planner a_slants a_reaper a_plan_numbers c_plan_there c_plan_size) H locs → W p l e (rm9 6 90) s m args below meth c H locs 0 0 Q (F0 m 0 ls []) by
    rw [← eH] at hW ⊢
    exact hS9 hW
  clear hW eH eL
  intro hW
  refine lv_aload_n (pc := 0) hx hb (dd dX9_needPlan 0 rfl) rfl (lv_at hl 0 rfl) ?_
  refine rGet (pc := 1) M hW 0 5 iU9 rfl rfl (by decide) (uw2 55 rfl rfl) rfl (dd dX9_needPlan 1 rfl) ?_
  refine rGet (pc := 4) M hW 1 2 iU2 rfl rfl (by decide) (uw1 219 rfl rfl) rfl (dd dX9_needPlan 2 rfl) ?_
  refine lv_if_ne (pc := 7) (tgt := 21) hx hb (dd dX9_needPlan 3 rfl) (by decide) (fun hc => ?_) (fun hc => ?_)
  · have h := it_f hc h
    have h := rmap_ex h
    have hW9 := hW
    cases h
    exact ret _ _ _ 21 hW9 (dd dX9_needPlan 9 rfl)
  · have h := it_t hc h
    cases h
set_option maxHeartbeats 4000000 in
set_option maxRecDepth 100000 in
theorem x_X9_needPlan (l : Launch) (hl9 : l.stackTraces = false) (g : G9) (a_t a_plan a_rings a_land a_ways a_rows a_turns a_planner a_slants a_reaper a_plan_numbers : Nat) (c_plan_there c_plan_size : Int32) (k0 : Nat) (h : X9_needPlan c_plan_there = some (.inl k0)) : CtX QnV l g yX9_needPlan cX9_needPlan 1 none 6 90 [.ref a_t] (w_X9_needPlan g a_t a_plan a_rings a_land a_ways a_rows a_turns a_planner a_slants a_reaper a_plan_numbers c_plan_there c_plan_size) (excN k0) := by
  refine startX (by decide) (Nat.le_of_ble_eq_true rfl) ?_
  intro p e s m below meth c A Q ls args M hW hl hlk hex hA9 hQ
  have hx := M.1
  have hb := M.2.1
  have hown := M.2.2.2.1
  have hu := M.2.2.2.2.1
  have hl : lv_has ls 1 [(0, .ref a_t)] := hl
  unfold X9_needPlan at h
  obtain ⟨H, eH⟩ : ∃ z, z = s.heap := ⟨_, rfl⟩
  obtain ⟨locs, eL⟩ : ∃ z, z = ([] : List Loc) := ⟨_, rfl⟩
  rw [← eL] at hW ⊢
  suffices hS9 : WD g s A (w_X9_needPlan g a_t a_plan a_rings a_land a_ways a_rows a_turns a_planner a_slants a_reaper a_plan_numbers c_plan_there c_plan_size) H locs → W p l e (rm9x 6 90) s m args below meth c H locs 0 0 Q (F0 m 0 ls []) by
    rw [← eH] at hW ⊢
    exact hS9 hW
  clear hW eL
  intro hW
  refine lv_aload_n (pc := 0) hx hb (dd dX9_needPlan 0 rfl) rfl (lv_at hl 0 rfl) ?_
  refine rGet (pc := 1) M hW 0 5 iU9 rfl rfl (by decide) (uw2 55 rfl rfl) rfl (dd dX9_needPlan 1 rfl) ?_
  refine rGet (pc := 4) M hW 1 2 iU2 rfl rfl (by decide) (uw1 219 rfl rfl) rfl (dd dX9_needPlan 2 rfl) ?_
  refine lv_if_ne (pc := 7) (tgt := 21) hx hb (dd dX9_needPlan 3 rfl) (by decide) (fun hc => ?_) (fun hc => ?_)
  · have h := it_f hc h
    exact (rmap_no h).elim
  · have h := it_t hc h
    have hW9 := hW
    cases h
    exact rThrowSW (pc := 10) (text := "there is no plan") hl9 M hl.1 hW9 hlk hex hA9 hQ (by decide) (by decide) (uw3 115 rfl rfl) (uw1 20 rfl rfl) (by decide) xg4 xb4 xo4 ⟨by decide, by decide⟩ (Nat.le_of_ble_eq_true rfl) ⟨by decide, by decide⟩ (dd dX9_needPlan 4 rfl) (dd dX9_needPlan 5 rfl) (dd dX9_needPlan 6 rfl) (dd dX9_needPlan 7 rfl) (dd dX9_needPlan 8 rfl)
abbrev w_X9_swing (g : G9) (a_t a_plan a_turns a_plan_numbers a_turns_lengths a_rings a_land a_ways a_rows a_planner a_slants a_reaper a_turns_known : Nat) (c_plan_there c_plan_size : Int32) (c_plan_numbers c_turns_lengths : Ar) : va_W := [ob a_t 9 [.ref a_rings, .ref a_land, .ref a_ways, .ref a_rows, .ref a_turns, .ref a_plan, .ref a_planner, .ref a_slants, .ref a_reaper], ob a_plan 2 [.ref a_turns, .ref a_plan_numbers, .int c_plan_there, .int c_plan_size], ob a_turns 7 [.ref a_ways, .ref a_rows, .ref a_turns_lengths, .ref a_turns_known], ia g a_plan_numbers 60 c_plan_numbers, ia g a_turns_lengths 14400 c_turns_lengths]
noncomputable def X9_swing (c_plan_there c_plan_size : Int32) (c_plan_numbers c_turns_lengths : Ar) (v1 v2 : Int32) : Option (Nat ⊕ (Int32 × Ar)) :=
  bnd (X9_needPlan c_plan_there) <| Sum.elim (fun x9 => some (.inl x9)) fun (_ : Unit) => if v1 < 0 then (some (.inl 2)) else (if v2 < v1 then (some (.inl 2)) else (if v2 < c_plan_size then (rmap <| bnd (X2_turnRound c_plan_numbers v1 v2) <| fun c_plan_numbers_40 => bnd (X2_sum c_plan_size c_plan_numbers_40 c_turns_lengths) <| fun r_47 => bnd (X9_orNone r_47) <| fun r_50 => some (r_50, c_plan_numbers_40)) else (some (.inl 2))))
set_option maxHeartbeats 4000000 in
set_option maxRecDepth 100000 in
theorem t_X9_swing (l : Launch) (g : G9) (a_t a_plan a_turns a_plan_numbers a_turns_lengths a_rings a_land a_ways a_rows a_planner a_slants a_reaper a_turns_known : Nat) (c_plan_there c_plan_size : Int32) (c_plan_numbers c_turns_lengths : Ar) (v1 v2 r0 : Int32) (o_plan_numbers : Ar) (h : X9_swing c_plan_there c_plan_size c_plan_numbers c_turns_lengths v1 v2 = some (.inr (r0, o_plan_numbers))) : CtI l g yX9_swing cX9_swing 3 .int 7 110 [.ref a_t, .int v1, .int v2] (w_X9_swing g a_t a_plan a_turns a_plan_numbers a_turns_lengths a_rings a_land a_ways a_rows a_planner a_slants a_reaper a_turns_known c_plan_there c_plan_size c_plan_numbers c_turns_lengths) r0 (w_X9_swing g a_t a_plan a_turns a_plan_numbers a_turns_lengths a_rings a_land a_ways a_rows a_planner a_slants a_reaper a_turns_known c_plan_there c_plan_size o_plan_numbers c_turns_lengths) := by
  refine startI (by decide) (Nat.le_of_ble_eq_true rfl) ?_
  intro p e s m below meth c A Q ls args M hW hl ret
  have hx := M.1
  have hb := M.2.1
  have hown := M.2.2.2.1
  have hu := M.2.2.2.2.1
  have hl : lv_has ls 3 [(0, .ref a_t), (1, .int v1), (2, .int v2)] := hl
  unfold X9_swing at h
  obtain ⟨H, eH⟩ : ∃ z, z = s.heap := ⟨_, rfl⟩
  obtain ⟨locs, eL⟩ : ∃ z, z = ([] : List Loc) := ⟨_, rfl⟩
  rw [← eL] at hW ⊢
  suffices hS9 : WD g s A (w_X9_swing g a_t a_plan a_turns a_plan_numbers a_turns_lengths a_rings a_land a_ways a_rows a_planner a_slants a_reaper a_turns_known c_plan_there c_plan_size c_plan_numbers c_turns_lengths) H locs → W p l e (rm9 7 110) s m args below meth c H locs 0 0 Q (F0 m 0 ls []) by
    rw [← eH] at hW ⊢
    exact hS9 hW
  clear hW eH eL
  intro hW
  refine lv_aload_n (pc := 0) hx hb (dd dX9_swing 0 rfl) rfl (lv_at hl 0 rfl) ?_
  obtain ⟨ex9, hr, h⟩ := bnd_ex h
  rcases ex9 with x9 | u9
  · have h := sE_l h
    cases h
  have h := sE_r h
  refine callVV (pc := 1) (na := 0) (As := []) (rest := []) (ws2 := (w_X9_swing g a_t a_plan a_turns a_plan_numbers a_turns_lengths a_rings a_land a_ways a_rows a_planner a_slants a_reaper a_turns_known c_plan_there c_plan_size c_plan_numbers c_turns_lengths)) M hl.1 hW (t_X9_needPlan l g a_t a_plan a_rings a_land a_ways a_rows a_turns a_planner a_slants a_reaper a_plan_numbers c_plan_there c_plan_size hr) rfl [0, 1] [2, 3, 4] [3, 4, 0, 1, 2] rfl rfl rfl rfl rfl rfl rfl 0 9 rfl rfl rfl (uw4 121 rfl rfl) (uw4 118 rfl rfl) (uw4 120 rfl rfl) (uwp 35 rfl rfl) (uw1 1 rfl rfl) ⟨by decide, by decide, by decide⟩ rfl ⟨by decide, by decide⟩ (Nat.le_of_ble_eq_true rfl)  ⟨Nat.zero_le _, Nat.zero_le _⟩ (dd dX9_swing 1 rfl) (fun H locs hW => ?_)
  refine lv_iload_n (pc := 4) hx hb (dd dX9_swing 2 rfl) rfl (lv_at hl 1 rfl) ?_
  refine lv_if_lt (pc := 5) (tgt := 24) hx hb (dd dX9_swing 3 rfl) (by decide) (fun hc => ?_) (fun hc => ?_)
  · have h := it_t hc h
    cases h
  · have h := it_f hc h
    refine lv_iload_n (pc := 8) hx hb (dd dX9_swing 4 rfl) rfl (lv_at hl 2 rfl) ?_
    refine lv_iload_n (pc := 9) hx hb (dd dX9_swing 5 rfl) rfl (lv_at hl 1 rfl) ?_
    refine lv_icmp_lt (pc := 10) (tgt := 24) hx hb (dd dX9_swing 6 rfl) (by decide) (fun hc => ?_) (fun hc => ?_)
    · have h := it_t hc h
      cases h
    · have h := it_f hc h
      refine lv_iload_n (pc := 13) hx hb (dd dX9_swing 7 rfl) rfl (lv_at hl 2 rfl) ?_
      refine lv_aload_n (pc := 14) hx hb (dd dX9_swing 8 rfl) rfl (lv_at hl 0 rfl) ?_
      refine rGet (pc := 15) M hW 0 5 iU9 rfl rfl (by decide) (uw2 55 rfl rfl) rfl (dd dX9_swing 9 rfl) ?_
      refine rGet (pc := 18) M hW 1 3 iU2 rfl rfl (by decide) (uw1 223 rfl rfl) rfl (dd dX9_swing 10 rfl) ?_
      refine lv_icmp_lt (pc := 21) (tgt := 34) hx hb (dd dX9_swing 11 rfl) (by decide) (fun hc => ?_) (fun hc => ?_)
      · have h := it_t hc h
        have h := rmap_ex h
        refine lv_aload_n (pc := 34) hx hb (dd dX9_swing 17 rfl) rfl (lv_at hl 0 rfl) ?_
        refine rGet (pc := 35) M hW 0 5 iU9 rfl rfl (by decide) (uw2 55 rfl rfl) rfl (dd dX9_swing 18 rfl) ?_
        refine lv_iload_n (pc := 38) hx hb (dd dX9_swing 19 rfl) rfl (lv_at hl 1 rfl) ?_
        refine lv_iload_n (pc := 39) hx hb (dd dX9_swing 20 rfl) rfl (lv_at hl 2 rfl) ?_
        obtain ⟨c_plan_numbers_40, hr, h⟩ := bnd_ex h
        refine callVV (pc := 40) (na := 2) (As := [.int v1, .int v2]) (rest := []) (ws2 := (w_X9_swing g a_t a_plan a_turns a_plan_numbers a_turns_lengths a_rings a_land a_ways a_rows a_planner a_slants a_reaper a_turns_known c_plan_there c_plan_size c_plan_numbers_40 c_turns_lengths)) M hl.1 hW (t_X2_turnRound l g a_plan a_plan_numbers a_turns c_plan_there c_plan_size c_plan_numbers v1 v2 c_plan_numbers_40 hr) rfl [1, 3] [0, 2, 4] [0, 3, 1, 4, 2] rfl rfl rfl rfl rfl rfl rfl 1 2 rfl rfl rfl (uw4 85 rfl rfl) (uw4 124 rfl rfl) (uw4 83 rfl rfl) (uw4 84 rfl rfl) (uw1 9 rfl rfl) ⟨by decide, by decide, by decide⟩ rfl ⟨by decide, by decide⟩ (Nat.le_of_ble_eq_true rfl) ⟨Nat.zero_le _, Nat.zero_le _⟩ (dd dX9_swing 21 rfl) (fun H locs hW => ?_)
        refine lv_aload_n (pc := 43) hx hb (dd dX9_swing 22 rfl) rfl (lv_at hl 0 rfl) ?_
        refine rGet (pc := 44) M hW 0 5 iU9 rfl rfl (by decide) (uw2 55 rfl rfl) rfl (dd dX9_swing 23 rfl) ?_
        obtain ⟨r_47, hr, h⟩ := bnd_ex h
        refine callVI (pc := 47) (na := 0) (As := []) (rest := []) (ws2 := (w_X9_swing g a_t a_plan a_turns a_plan_numbers a_turns_lengths a_rings a_land a_ways a_rows a_planner a_slants a_reaper a_turns_known c_plan_there c_plan_size c_plan_numbers_40 c_turns_lengths)) M hl.1 hW (t_X2_sum l g a_plan a_plan_numbers a_turns a_turns_lengths a_ways a_rows a_turns_known c_plan_there c_plan_size c_plan_numbers_40 c_turns_lengths r_47 hr) rfl [1, 3, 2, 4] [0] [0, 1, 3, 2, 4] rfl rfl rfl rfl rfl rfl rfl 1 2 rfl rfl rfl (uw4 89 rfl rfl) (uw4 125 rfl rfl) (uw4 87 rfl rfl) (uw4 88 rfl rfl) (uw1 9 rfl rfl) ⟨by decide, by decide, by decide⟩ rfl ⟨by decide, by decide⟩ (Nat.le_of_ble_eq_true rfl) ⟨Nat.zero_le _, Nat.zero_le _⟩ (dd dX9_swing 24 rfl) (fun H locs hW => ?_)
        obtain ⟨r_50, hr, h⟩ := bnd_ex h
        refine callSI (pc := 50) (na := 1) (As := [.int r_47]) (rest := []) (ws2 := (w_X9_swing g a_t a_plan a_turns a_plan_numbers a_turns_lengths a_rings a_land a_ways a_rows a_planner a_slants a_reaper a_turns_known c_plan_there c_plan_size c_plan_numbers_40 c_turns_lengths)) M hl.1 hW (t_X9_orNone l g r_47 r_50 hr) [] [0, 1, 2, 3, 4] [0, 1, 2, 3, 4] rfl rfl rfl rfl rfl rfl rfl (uw4 1 rfl rfl) (uw3 239 rfl rfl) (uw4 0 rfl rfl) (uw1 1 rfl rfl) ⟨by decide, by decide, by decide⟩ rfl ⟨by decide, by decide⟩ (Nat.le_of_ble_eq_true rfl) ⟨Nat.zero_le _, Nat.zero_le _⟩ (dd dX9_swing 25 rfl) (fun H locs hW => ?_)
        have hW9 := hW
        cases h
        exact ret _ _ _ 53 hW9 rfl (dd dX9_swing 26 rfl)
      · have h := it_f hc h
        cases h
set_option maxHeartbeats 4000000 in
set_option maxRecDepth 100000 in
theorem x_X9_swing (l : Launch) (hl9 : l.stackTraces = false) (g : G9) (a_t a_plan a_turns a_plan_numbers a_turns_lengths a_rings a_land a_ways a_rows a_planner a_slants a_reaper a_turns_known : Nat) (c_plan_there c_plan_size : Int32) (c_plan_numbers c_turns_lengths : Ar) (v1 v2 : Int32) (k0 : Nat) (h : X9_swing c_plan_there c_plan_size c_plan_numbers c_turns_lengths v1 v2 = some (.inl k0)) : CtX QnI l g yX9_swing cX9_swing 3 (some .int) 7 110 [.ref a_t, .int v1, .int v2] (w_X9_swing g a_t a_plan a_turns a_plan_numbers a_turns_lengths a_rings a_land a_ways a_rows a_planner a_slants a_reaper a_turns_known c_plan_there c_plan_size c_plan_numbers c_turns_lengths) (excN k0) := by
  refine startX (by decide) (Nat.le_of_ble_eq_true rfl) ?_
  intro p e s m below meth c A Q ls args M hW hl hlk hex hA9 hQ
  have hx := M.1
  have hb := M.2.1
  have hown := M.2.2.2.1
  have hu := M.2.2.2.2.1
  have hl : lv_has ls 3 [(0, .ref a_t), (1, .int v1), (2, .int v2)] := hl
  unfold X9_swing at h
  obtain ⟨H, eH⟩ : ∃ z, z = s.heap := ⟨_, rfl⟩
  obtain ⟨locs, eL⟩ : ∃ z, z = ([] : List Loc) := ⟨_, rfl⟩
  rw [← eL] at hW ⊢
  suffices hS9 : WD g s A (w_X9_swing g a_t a_plan a_turns a_plan_numbers a_turns_lengths a_rings a_land a_ways a_rows a_planner a_slants a_reaper a_turns_known c_plan_there c_plan_size c_plan_numbers c_turns_lengths) H locs → W p l e (rm9x 7 110) s m args below meth c H locs 0 0 Q (F0 m 0 ls []) by
    rw [← eH] at hW ⊢
    exact hS9 hW
  clear hW eL
  intro hW
  refine lv_aload_n (pc := 0) hx hb (dd dX9_swing 0 rfl) rfl (lv_at hl 0 rfl) ?_
  obtain ⟨ex9, hr, h⟩ := bnd_ex h
  rcases ex9 with x9 | u9
  · have h := sE_l h
    have hW9 := hW
    cases h
    exact callXV (pc := 1) (na := 0) (As := []) (rest := []) M hl.1 hW9 hlk hex hA9 hQ (x_X9_needPlan l hl9 g a_t a_plan a_rings a_land a_ways a_rows a_turns a_planner a_slants a_reaper a_plan_numbers c_plan_there c_plan_size _ hr) rfl [0, 1] [2, 3, 4] [3, 4, 0, 1, 2] rfl rfl rfl rfl rfl rfl rfl 0 9 rfl rfl rfl (uw4 121 rfl rfl) (uw4 118 rfl rfl) (uw4 120 rfl rfl) (uwp 35 rfl rfl) (uw1 1 rfl rfl) ⟨by decide, by decide, by decide⟩ rfl ⟨by decide, by decide⟩ (Nat.le_of_ble_eq_true rfl)  ⟨by decide, by decide⟩ (dd dX9_swing 1 rfl)
  have h := sE_r h
  refine callVV (pc := 1) (na := 0) (As := []) (rest := []) (ws2 := (w_X9_swing g a_t a_plan a_turns a_plan_numbers a_turns_lengths a_rings a_land a_ways a_rows a_planner a_slants a_reaper a_turns_known c_plan_there c_plan_size c_plan_numbers c_turns_lengths)) M hl.1 hW (t_X9_needPlan l g a_t a_plan a_rings a_land a_ways a_rows a_turns a_planner a_slants a_reaper a_plan_numbers c_plan_there c_plan_size hr) rfl [0, 1] [2, 3, 4] [3, 4, 0, 1, 2] rfl rfl rfl rfl rfl rfl rfl 0 9 rfl rfl rfl (uw4 121 rfl rfl) (uw4 118 rfl rfl) (uw4 120 rfl rfl) (uwp 35 rfl rfl) (uw1 1 rfl rfl) ⟨by decide, by decide, by decide⟩ rfl ⟨by decide, by decide⟩ (Nat.le_of_ble_eq_true rfl)  ⟨Nat.zero_le _, Nat.zero_le _⟩ (dd dX9_swing 1 rfl) (fun H locs hW => ?_)
  refine lv_iload_n (pc := 4) hx hb (dd dX9_swing 2 rfl) rfl (lv_at hl 1 rfl) ?_
  refine lv_if_lt (pc := 5) (tgt := 24) hx hb (dd dX9_swing 3 rfl) (by decide) (fun hc => ?_) (fun hc => ?_)
  · have h := it_t hc h
    have hW9 := hW
    cases h
    exact rThrowS (pc := 24) (text := "no such stretch of the plan") hl9 M hl.1 hW9 hlk hex hA9 hQ (by decide) (by decide) (uw2 198 rfl rfl) (uw1 18 rfl rfl) (by decide) xg2 xb2 xo2 ⟨by decide, by decide⟩ (Nat.le_of_ble_eq_true rfl) ⟨by decide, by decide⟩ (dd dX9_swing 12 rfl) (dd dX9_swing 13 rfl) (dd dX9_swing 14 rfl) (dd dX9_swing 15 rfl) (dd dX9_swing 16 rfl)
  · have h := it_f hc h
    refine lv_iload_n (pc := 8) hx hb (dd dX9_swing 4 rfl) rfl (lv_at hl 2 rfl) ?_
    refine lv_iload_n (pc := 9) hx hb (dd dX9_swing 5 rfl) rfl (lv_at hl 1 rfl) ?_
    refine lv_icmp_lt (pc := 10) (tgt := 24) hx hb (dd dX9_swing 6 rfl) (by decide) (fun hc => ?_) (fun hc => ?_)
    · have h := it_t hc h
      have hW9 := hW
      cases h
      exact rThrowS (pc := 24) (text := "no such stretch of the plan") hl9 M hl.1 hW9 hlk hex hA9 hQ (by decide) (by decide) (uw2 198 rfl rfl) (uw1 18 rfl rfl) (by decide) xg2 xb2 xo2 ⟨by decide, by decide⟩ (Nat.le_of_ble_eq_true rfl) ⟨by decide, by decide⟩ (dd dX9_swing 12 rfl) (dd dX9_swing 13 rfl) (dd dX9_swing 14 rfl) (dd dX9_swing 15 rfl) (dd dX9_swing 16 rfl)
    · have h := it_f hc h
      refine lv_iload_n (pc := 13) hx hb (dd dX9_swing 7 rfl) rfl (lv_at hl 2 rfl) ?_
      refine lv_aload_n (pc := 14) hx hb (dd dX9_swing 8 rfl) rfl (lv_at hl 0 rfl) ?_
      refine rGet (pc := 15) M hW 0 5 iU9 rfl rfl (by decide) (uw2 55 rfl rfl) rfl (dd dX9_swing 9 rfl) ?_
      refine rGet (pc := 18) M hW 1 3 iU2 rfl rfl (by decide) (uw1 223 rfl rfl) rfl (dd dX9_swing 10 rfl) ?_
      refine lv_icmp_lt (pc := 21) (tgt := 34) hx hb (dd dX9_swing 11 rfl) (by decide) (fun hc => ?_) (fun hc => ?_)
      · have h := it_t hc h
        exact (rmap_no h).elim
      · have h := it_f hc h
        have hW9 := hW
        cases h
        exact rThrowS (pc := 24) (text := "no such stretch of the plan") hl9 M hl.1 hW9 hlk hex hA9 hQ (by decide) (by decide) (uw2 198 rfl rfl) (uw1 18 rfl rfl) (by decide) xg2 xb2 xo2 ⟨by decide, by decide⟩ (Nat.le_of_ble_eq_true rfl) ⟨by decide, by decide⟩ (dd dX9_swing 12 rfl) (dd dX9_swing 13 rfl) (dd dX9_swing 14 rfl) (dd dX9_swing 15 rfl) (dd dX9_swing 16 rfl)
abbrev w_X9_slant (g : G9) (a_t a_slants a_slants_firsts a_slants_seconds a_rings a_land a_ways a_rows a_turns a_plan a_planner a_reaper : Nat) (c_slants_size : Int32) (c_slants_firsts c_slants_seconds : Ar) : va_W := [ob a_t 9 [.ref a_rings, .ref a_land, .ref a_ways, .ref a_rows, .ref a_turns, .ref a_plan, .ref a_planner, .ref a_slants, .ref a_reaper], ob a_slants 1 [.ref a_slants_firsts, .ref a_slants_seconds, .int c_slants_size], ia g a_slants_firsts 5 c_slants_firsts, ia g a_slants_seconds 5 c_slants_seconds]
noncomputable def X9_slant (c_slants_size : Int32) (c_slants_firsts c_slants_seconds : Ar) (v1 v2 : Int32) : Option (Int32 × Int32 × Ar × Ar) :=
  bnd (X9_isSlant v1 v2) <| fun r_2 => if r_2 = 0 then (some ((-1), c_slants_size, c_slants_firsts, c_slants_seconds)) else (bnd (X1_isFull 5 c_slants_size) <| fun r_12 => if r_12 = 0 then (bnd (X1_add 5 c_slants_size c_slants_firsts c_slants_seconds v1 v2) <| un4 fun r_24 c_slants_size_24 c_slants_firsts_24 c_slants_seconds_24 => some (r_24, c_slants_size_24, c_slants_firsts_24, c_slants_seconds_24)) else (some ((-1), c_slants_size, c_slants_firsts, c_slants_seconds)))
set_option maxHeartbeats 4000000 in
set_option maxRecDepth 100000 in
theorem t_X9_slant (l : Launch) (g : G9) (a_t a_slants a_slants_firsts a_slants_seconds a_rings a_land a_ways a_rows a_turns a_plan a_planner a_reaper : Nat) (c_slants_size : Int32) (c_slants_firsts c_slants_seconds : Ar) (v1 v2 r0 o_slants_size : Int32) (o_slants_firsts o_slants_seconds : Ar) (h : X9_slant c_slants_size c_slants_firsts c_slants_seconds v1 v2 = some (r0, o_slants_size, o_slants_firsts, o_slants_seconds)) : CtI l g yX9_slant cX9_slant 3 .int 2 42 [.ref a_t, .int v1, .int v2] (w_X9_slant g a_t a_slants a_slants_firsts a_slants_seconds a_rings a_land a_ways a_rows a_turns a_plan a_planner a_reaper c_slants_size c_slants_firsts c_slants_seconds) r0 (w_X9_slant g a_t a_slants a_slants_firsts a_slants_seconds a_rings a_land a_ways a_rows a_turns a_plan a_planner a_reaper o_slants_size o_slants_firsts o_slants_seconds) := by
  refine startI (by decide) (Nat.le_of_ble_eq_true rfl) ?_
  intro p e s m below meth c A Q ls args M hW hl ret
  have hx := M.1
  have hb := M.2.1
  have hown := M.2.2.2.1
  have hu := M.2.2.2.2.1
  have hl : lv_has ls 3 [(0, .ref a_t), (1, .int v1), (2, .int v2)] := hl
  unfold X9_slant at h
  obtain ⟨H, eH⟩ : ∃ z, z = s.heap := ⟨_, rfl⟩
  obtain ⟨locs, eL⟩ : ∃ z, z = ([] : List Loc) := ⟨_, rfl⟩
  rw [← eL] at hW ⊢
  suffices hS9 : WD g s A (w_X9_slant g a_t a_slants a_slants_firsts a_slants_seconds a_rings a_land a_ways a_rows a_turns a_plan a_planner a_reaper c_slants_size c_slants_firsts c_slants_seconds) H locs → W p l e (rm9 2 42) s m args below meth c H locs 0 0 Q (F0 m 0 ls []) by
    rw [← eH] at hW ⊢
    exact hS9 hW
  clear hW eH eL
  intro hW
  refine lv_iload_n (pc := 0) hx hb (dd dX9_slant 0 rfl) rfl (lv_at hl 1 rfl) ?_
  refine lv_iload_n (pc := 1) hx hb (dd dX9_slant 1 rfl) rfl (lv_at hl 2 rfl) ?_
  obtain ⟨r_2, hr, h⟩ := bnd_ex h
  refine callSI (pc := 2) (na := 2) (As := [.int v1, .int v2]) (rest := []) (ws2 := (w_X9_slant g a_t a_slants a_slants_firsts a_slants_seconds a_rings a_land a_ways a_rows a_turns a_plan a_planner a_reaper c_slants_size c_slants_firsts c_slants_seconds)) M hl.1 hW (t_X9_isSlant l g v1 v2 r_2 hr) [] [0, 1, 2, 3] [0, 1, 2, 3] rfl rfl rfl rfl rfl rfl rfl (uw2 88 rfl rfl) (uw2 86 rfl rfl) (uw2 87 rfl rfl) (uw1 1 rfl rfl) ⟨by decide, by decide, by decide⟩ rfl ⟨by decide, by decide⟩ (Nat.le_of_ble_eq_true rfl) ⟨Nat.zero_le _, Nat.zero_le _⟩ (dd dX9_slant 2 rfl) (fun H locs hW => ?_)
  refine lv_if_eq (pc := 5) (tgt := 30) hx hb (dd dX9_slant 3 rfl) (by decide) (fun hc => ?_) (fun hc => ?_)
  · have h := it_t hc h
    refine lv_iconst (pc := 30) (v := (-1)) hx hb (dd dX9_slant 14 rfl) (by decide) ?_
    have hW9 := hW
    cases h
    exact ret _ _ _ 31 hW9 rfl (dd dX9_slant 15 rfl)
  · have h := it_f hc h
    refine lv_aload_n (pc := 8) hx hb (dd dX9_slant 4 rfl) rfl (lv_at hl 0 rfl) ?_
    refine rGet (pc := 9) M hW 0 7 iU9 rfl rfl (by decide) (uw2 57 rfl rfl) rfl (dd dX9_slant 5 rfl) ?_
    obtain ⟨r_12, hr, h⟩ := bnd_ex h
    refine callVI (pc := 12) (na := 0) (As := []) (rest := []) (ws2 := (w_X9_slant g a_t a_slants a_slants_firsts a_slants_seconds a_rings a_land a_ways a_rows a_turns a_plan a_planner a_reaper c_slants_size c_slants_firsts c_slants_seconds)) M hl.1 hW (t_X1_isFull l g a_slants a_slants_firsts a_slants_seconds 5 c_slants_size c_slants_firsts r_12 hr) rfl [1, 2] [0, 3] [0, 2, 3, 1] rfl rfl rfl rfl rfl rfl rfl 1 1 rfl rfl rfl (uw2 92 rfl rfl) (uw2 89 rfl rfl) (uw2 90 rfl rfl) (uw2 91 rfl rfl) (uw1 3 rfl rfl) ⟨by decide, by decide, by decide⟩ rfl ⟨by decide, by decide⟩ (Nat.le_of_ble_eq_true rfl) ⟨Nat.zero_le _, Nat.zero_le _⟩ (dd dX9_slant 6 rfl) (fun H locs hW => ?_)
    refine lv_if_ne (pc := 15) (tgt := 30) hx hb (dd dX9_slant 7 rfl) (by decide) (fun hc => ?_) (fun hc => ?_)
    · have h := it_f hc h
      refine lv_iconst (pc := 30) (v := (-1)) hx hb (dd dX9_slant 14 rfl) (by decide) ?_
      have hW9 := hW
      cases h
      exact ret _ _ _ 31 hW9 rfl (dd dX9_slant 15 rfl)
    · have h := it_t hc h
      refine lv_aload_n (pc := 18) hx hb (dd dX9_slant 8 rfl) rfl (lv_at hl 0 rfl) ?_
      refine rGet (pc := 19) M hW 0 7 iU9 rfl rfl (by decide) (uw2 57 rfl rfl) rfl (dd dX9_slant 9 rfl) ?_
      refine lv_iload_n (pc := 22) hx hb (dd dX9_slant 10 rfl) rfl (lv_at hl 1 rfl) ?_
      refine lv_iload_n (pc := 23) hx hb (dd dX9_slant 11 rfl) rfl (lv_at hl 2 rfl) ?_
      obtain ⟨⟨r_24, c_slants_size_24, c_slants_firsts_24, c_slants_seconds_24⟩, hr, h⟩ := bnd_ex h
      have h := un4_at h
      refine callVI (pc := 24) (na := 2) (As := [.int v1, .int v2]) (rest := []) (ws2 := (w_X9_slant g a_t a_slants a_slants_firsts a_slants_seconds a_rings a_land a_ways a_rows a_turns a_plan a_planner a_reaper c_slants_size_24 c_slants_firsts_24 c_slants_seconds_24)) M hl.1 hW (t_X1_add l g a_slants a_slants_firsts a_slants_seconds 5 c_slants_size c_slants_firsts c_slants_seconds v1 v2 r_24 c_slants_size_24 c_slants_firsts_24 c_slants_seconds_24 hr) rfl [1, 2, 3] [0] [0, 1, 2, 3] rfl rfl rfl rfl rfl rfl rfl 1 1 rfl rfl rfl (uw2 96 rfl rfl) (uw2 93 rfl rfl) (uw2 94 rfl rfl) (uw2 95 rfl rfl) (uw1 3 rfl rfl) ⟨by decide, by decide, by decide⟩ rfl ⟨by decide, by decide⟩ (Nat.le_of_ble_eq_true rfl) ⟨Nat.zero_le _, Nat.zero_le _⟩ (dd dX9_slant 12 rfl) (fun H locs hW => ?_)
      refine lv_goto (pc := 27) (tgt := 31) hx hb (dd dX9_slant 13 rfl) (by decide) ?_
      have hW9 := hW
      cases h
      exact ret _ _ _ 31 hW9 rfl (dd dX9_slant 15 rfl)
abbrev w_X9_unslant (g : G9) (a_t a_slants a_rings a_land a_ways a_rows a_turns a_plan a_planner a_reaper a_slants_firsts a_slants_seconds : Nat) (c_slants_size : Int32) : va_W := [ob a_t 9 [.ref a_rings, .ref a_land, .ref a_ways, .ref a_rows, .ref a_turns, .ref a_plan, .ref a_planner, .ref a_slants, .ref a_reaper], ob a_slants 1 [.ref a_slants_firsts, .ref a_slants_seconds, .int c_slants_size]]
noncomputable def X9_unslant (c_slants_size : Int32) : Option (Int32 × Int32) :=
  bnd (X1_drop c_slants_size) <| un2 fun r_4 c_slants_size_4 => some (r_4, c_slants_size_4)
set_option maxHeartbeats 4000000 in
set_option maxRecDepth 100000 in
theorem t_X9_unslant (l : Launch) (g : G9) (a_t a_slants a_rings a_land a_ways a_rows a_turns a_plan a_planner a_reaper a_slants_firsts a_slants_seconds : Nat) (c_slants_size r0 o_slants_size : Int32) (h : X9_unslant c_slants_size = some (r0, o_slants_size)) : CtI l g yX9_unslant cX9_unslant 1 .int 1 21 [.ref a_t] (w_X9_unslant g a_t a_slants a_rings a_land a_ways a_rows a_turns a_plan a_planner a_reaper a_slants_firsts a_slants_seconds c_slants_size) r0 (w_X9_unslant g a_t a_slants a_rings a_land a_ways a_rows a_turns a_plan a_planner a_reaper a_slants_firsts a_slants_seconds o_slants_size) := by
  refine startI (by decide) (Nat.le_of_ble_eq_true rfl) ?_
  intro p e s m below meth c A Q ls args M hW hl ret
  have hx := M.1
  have hb := M.2.1
  have hown := M.2.2.2.1
  have hu := M.2.2.2.2.1
  have hl : lv_has ls 1 [(0, .ref a_t)] := hl
  unfold X9_unslant at h
  obtain ⟨H, eH⟩ : ∃ z, z = s.heap := ⟨_, rfl⟩
  obtain ⟨locs, eL⟩ : ∃ z, z = ([] : List Loc) := ⟨_, rfl⟩
  rw [← eL] at hW ⊢
  suffices hS9 : WD g s A (w_X9_unslant g a_t a_slants a_rings a_land a_ways a_rows a_turns a_plan a_planner a_reaper a_slants_firsts a_slants_seconds c_slants_size) H locs → W p l e (rm9 1 21) s m args below meth c H locs 0 0 Q (F0 m 0 ls []) by
    rw [← eH] at hW ⊢
    exact hS9 hW
  clear hW eH eL
  intro hW
  refine lv_aload_n (pc := 0) hx hb (dd dX9_unslant 0 rfl) rfl (lv_at hl 0 rfl) ?_
  refine rGet (pc := 1) M hW 0 7 iU9 rfl rfl (by decide) (uw2 57 rfl rfl) rfl (dd dX9_unslant 1 rfl) ?_
  obtain ⟨⟨r_4, c_slants_size_4⟩, hr, h⟩ := bnd_ex h
  have h := un2_at h
  refine callVI (pc := 4) (na := 0) (As := []) (rest := []) (ws2 := (w_X9_unslant g a_t a_slants a_rings a_land a_ways a_rows a_turns a_plan a_planner a_reaper a_slants_firsts a_slants_seconds c_slants_size_4)) M hl.1 hW (t_X1_drop l g a_slants a_slants_firsts a_slants_seconds c_slants_size r_4 c_slants_size_4 hr) rfl [1] [0] [0, 1] rfl rfl rfl rfl rfl rfl rfl 1 1 rfl rfl rfl (uw2 105 rfl rfl) (uw2 102 rfl rfl) (uw2 103 rfl rfl) (uw2 104 rfl rfl) (uw1 3 rfl rfl) ⟨by decide, by decide, by decide⟩ rfl ⟨by decide, by decide⟩ (Nat.le_of_ble_eq_true rfl) ⟨Nat.zero_le _, Nat.zero_le _⟩ (dd dX9_unslant 2 rfl) (fun H locs hW => ?_)
  have hW9 := hW
  cases h
  exact ret _ _ _ 7 hW9 rfl (dd dX9_unslant 3 rfl)
abbrev w_X9_tryOut (g : G9) (a_t a_land a_plan a_planner a_rows a_slants a_turns a_ways a_land_kinds a_land_nears a_plan_numbers a_planner_rests a_rows_alongs a_rows_ends a_rows_numbers a_rows_sorted a_rows_spare a_rows_squares a_rows_starts a_rows_strips a_rows_tally a_slants_firsts a_slants_seconds a_turns_known a_turns_lengths a_ways_lengths a_ways_slantwises a_ways_straights a_rings a_reaper a_land_depths : Nat) (c_land_laid c_land_head c_land_fieldCount c_land_innerCount c_plan_there c_plan_size c_rows_there c_rows_size c_slants_size c_ways_straightSize c_ways_slantwiseSize : Int32) (c_land_kinds c_land_nears c_plan_numbers c_planner_rests c_rows_alongs c_rows_ends c_rows_numbers c_rows_sorted c_rows_spare c_rows_squares c_rows_starts c_rows_strips c_rows_tally c_slants_firsts c_slants_seconds c_turns_known c_turns_lengths c_ways_lengths c_ways_slantwises c_ways_straights : Ar) : va_W := [ob a_t 9 [.ref a_rings, .ref a_land, .ref a_ways, .ref a_rows, .ref a_turns, .ref a_plan, .ref a_planner, .ref a_slants, .ref a_reaper], ob a_land 0 [.ref a_land_kinds, .ref a_land_nears, .ref a_land_depths, .int c_land_laid, .int c_land_head, .int c_land_fieldCount, .int c_land_innerCount], ob a_plan 2 [.ref a_turns, .ref a_plan_numbers, .int c_plan_there, .int c_plan_size], ob a_planner 3 [.ref a_plan, .ref a_turns, .ref a_planner_rests], ob a_rows 6 [.ref a_land, .ref a_rows_strips, .ref a_rows_alongs, .ref a_rows_numbers, .ref a_rows_sorted, .ref a_rows_spare, .ref a_rows_tally, .ref a_rows_squares, .ref a_rows_starts, .ref a_rows_ends, .int c_rows_there, .int c_rows_size], ob a_slants 1 [.ref a_slants_firsts, .ref a_slants_seconds, .int c_slants_size], ob a_turns 7 [.ref a_ways, .ref a_rows, .ref a_turns_lengths, .ref a_turns_known], ob a_ways 8 [.ref a_land, .ref a_ways_lengths, .ref a_ways_straights, .ref a_ways_slantwises, .int c_ways_straightSize, .int c_ways_slantwiseSize], ia g a_land_kinds 1200 c_land_kinds, ia g a_land_nears 1200 c_land_nears, ia g a_plan_numbers 60 c_plan_numbers, ia g a_planner_rests 9216 c_planner_rests, ia g a_rows_alongs 1200 c_rows_alongs, ia g a_rows_ends 120 c_rows_ends, ia g a_rows_numbers 1200 c_rows_numbers, ia g a_rows_sorted 1200 c_rows_sorted, ia g a_rows_spare 1200 c_rows_spare, ia g a_rows_squares 1200 c_rows_squares, ia g a_rows_starts 61 c_rows_starts, ia g a_rows_strips 1200 c_rows_strips, ia g a_rows_tally 2486 c_rows_tally, ia g a_slants_firsts 5 c_slants_firsts, ia g a_slants_seconds 5 c_slants_seconds, za g a_turns_known 120 c_turns_known, ia g a_turns_lengths 14400 c_turns_lengths, ia g a_ways_lengths 1200 c_ways_lengths, ia g a_ways_slantwises 1200 c_ways_slantwises, ia g a_ways_straights 1200 c_ways_straights]
noncomputable def X9_tryOut (c_land_innerCount c_plan_there c_plan_size c_rows_there c_rows_size c_ways_straightSize c_ways_slantwiseSize : Int32) (c_land_kinds c_land_nears c_plan_numbers c_planner_rests c_rows_alongs c_rows_ends c_rows_numbers c_rows_sorted c_rows_spare c_rows_squares c_rows_starts c_rows_strips c_rows_tally c_slants_firsts c_slants_seconds c_turns_known c_turns_lengths c_ways_lengths c_ways_slantwises c_ways_straights : Ar) (v1 v2 : Int32) : Option (Int32 × Int32 × Int32 × Int32 × Int32 × Int32 × Int32 × Ar × Ar × Ar × Ar × Ar × Ar × Ar × Ar × Ar × Ar × Ar × Ar × Ar × Ar × Ar × Ar) :=
  bnd (X9_forgetRows c_plan_there c_plan_size c_rows_there c_rows_size c_turns_known) <| un5 fun c_plan_there_1 c_plan_size_1 c_rows_there_1 c_rows_size_1 c_turns_known_1 => ck (ix v1 5) <| ck (ix v1 5) <| bnd (X6_make c_rows_there_1 c_rows_size_1 c_rows_alongs c_rows_ends c_land_innerCount c_rows_numbers c_rows_sorted c_rows_spare c_rows_squares c_rows_starts c_rows_strips c_rows_tally c_land_kinds c_land_nears (ag c_slants_firsts v1) (ag c_slants_seconds v1) v2) <| un12 fun r_27 c_rows_there_27 c_rows_size_27 c_rows_alongs_27 c_rows_ends_27 c_rows_numbers_27 c_rows_sorted_27 c_rows_spare_27 c_rows_squares_27 c_rows_starts_27 c_rows_strips_27 c_rows_tally_27 => if r_27 = (-1) then (some ((-1), c_plan_there_1, c_plan_size_1, c_rows_there_27, c_rows_size_27, c_ways_straightSize, c_ways_slantwiseSize, c_plan_numbers, c_planner_rests, c_rows_alongs_27, c_rows_ends_27, c_rows_numbers_27, c_rows_sorted_27, c_rows_spare_27, c_rows_squares_27, c_rows_starts_27, c_rows_strips_27, c_rows_tally_27, c_turns_known_1, c_turns_lengths, c_ways_lengths, c_ways_slantwises, c_ways_straights)) else (bnd (X7_learnAll c_turns_known_1 c_turns_lengths c_rows_size_27 c_ways_straightSize c_ways_slantwiseSize c_rows_ends_27 c_ways_lengths c_ways_slantwises c_ways_straights c_land_kinds c_land_nears) <| un7 fun c_turns_known_40 c_turns_lengths_40 c_ways_straightSize_40 c_ways_slantwiseSize_40 c_ways_lengths_40 c_ways_slantwises_40 c_ways_straights_40 => bnd (X3_make c_plan_there_1 c_plan_size_1 c_planner_rests c_plan_numbers c_turns_lengths_40 c_rows_size_27) <| un5 fun r_54 c_plan_there_54 c_plan_size_54 c_planner_rests_54 c_plan_numbers_54 => some (r_54, c_plan_there_54, c_plan_size_54, c_rows_there_27, c_rows_size_27, c_ways_straightSize_40, c_ways_slantwiseSize_40, c_plan_numbers_54, c_planner_rests_54, c_rows_alongs_27, c_rows_ends_27, c_rows_numbers_27, c_rows_sorted_27, c_rows_spare_27, c_rows_squares_27, c_rows_starts_27, c_rows_strips_27, c_rows_tally_27, c_turns_known_40, c_turns_lengths_40, c_ways_lengths_40, c_ways_slantwises_40, c_ways_straights_40))
set_option maxHeartbeats 4000000 in
set_option maxRecDepth 100000 in
theorem t_X9_tryOut (l : Launch) (g : G9) (a_t a_land a_plan a_planner a_rows a_slants a_turns a_ways a_land_kinds a_land_nears a_plan_numbers a_planner_rests a_rows_alongs a_rows_ends a_rows_numbers a_rows_sorted a_rows_spare a_rows_squares a_rows_starts a_rows_strips a_rows_tally a_slants_firsts a_slants_seconds a_turns_known a_turns_lengths a_ways_lengths a_ways_slantwises a_ways_straights a_rings a_reaper a_land_depths : Nat) (c_land_laid c_land_head c_land_fieldCount c_land_innerCount c_plan_there c_plan_size c_rows_there c_rows_size c_slants_size c_ways_straightSize c_ways_slantwiseSize : Int32) (c_land_kinds c_land_nears c_plan_numbers c_planner_rests c_rows_alongs c_rows_ends c_rows_numbers c_rows_sorted c_rows_spare c_rows_squares c_rows_starts c_rows_strips c_rows_tally c_slants_firsts c_slants_seconds c_turns_known c_turns_lengths c_ways_lengths c_ways_slantwises c_ways_straights : Ar) (v1 v2 r0 o_plan_there o_plan_size o_rows_there o_rows_size o_ways_straightSize o_ways_slantwiseSize : Int32) (o_plan_numbers o_planner_rests o_rows_alongs o_rows_ends o_rows_numbers o_rows_sorted o_rows_spare o_rows_squares o_rows_starts o_rows_strips o_rows_tally o_turns_known o_turns_lengths o_ways_lengths o_ways_slantwises o_ways_straights : Ar) (h : X9_tryOut c_land_innerCount c_plan_there c_plan_size c_rows_there c_rows_size c_ways_straightSize c_ways_slantwiseSize c_land_kinds c_land_nears c_plan_numbers c_planner_rests c_rows_alongs c_rows_ends c_rows_numbers c_rows_sorted c_rows_spare c_rows_squares c_rows_starts c_rows_strips c_rows_tally c_slants_firsts c_slants_seconds c_turns_known c_turns_lengths c_ways_lengths c_ways_slantwises c_ways_straights v1 v2 = some (r0, o_plan_there, o_plan_size, o_rows_there, o_rows_size, o_ways_straightSize, o_ways_slantwiseSize, o_plan_numbers, o_planner_rests, o_rows_alongs, o_rows_ends, o_rows_numbers, o_rows_sorted, o_rows_spare, o_rows_squares, o_rows_starts, o_rows_strips, o_rows_tally, o_turns_known, o_turns_lengths, o_ways_lengths, o_ways_slantwises, o_ways_straights)) : CtI l g yX9_tryOut cX9_tryOut 3 .int 5 120 [.ref a_t, .int v1, .int v2] (w_X9_tryOut g a_t a_land a_plan a_planner a_rows a_slants a_turns a_ways a_land_kinds a_land_nears a_plan_numbers a_planner_rests a_rows_alongs a_rows_ends a_rows_numbers a_rows_sorted a_rows_spare a_rows_squares a_rows_starts a_rows_strips a_rows_tally a_slants_firsts a_slants_seconds a_turns_known a_turns_lengths a_ways_lengths a_ways_slantwises a_ways_straights a_rings a_reaper a_land_depths c_land_laid c_land_head c_land_fieldCount c_land_innerCount c_plan_there c_plan_size c_rows_there c_rows_size c_slants_size c_ways_straightSize c_ways_slantwiseSize c_land_kinds c_land_nears c_plan_numbers c_planner_rests c_rows_alongs c_rows_ends c_rows_numbers c_rows_sorted c_rows_spare c_rows_squares c_rows_starts c_rows_strips c_rows_tally c_slants_firsts c_slants_seconds c_turns_known c_turns_lengths c_ways_lengths c_ways_slantwises c_ways_straights) r0 (w_X9_tryOut g a_t a_land a_plan a_planner a_rows a_slants a_turns a_ways a_land_kinds a_land_nears a_plan_numbers a_planner_rests a_rows_alongs a_rows_ends a_rows_numbers a_rows_sorted a_rows_spare a_rows_squares a_rows_starts a_rows_strips a_rows_tally a_slants_firsts a_slants_seconds a_turns_known a_turns_lengths a_ways_lengths a_ways_slantwises a_ways_straights a_rings a_reaper a_land_depths c_land_laid c_land_head c_land_fieldCount c_land_innerCount o_plan_there o_plan_size o_rows_there o_rows_size c_slants_size o_ways_straightSize o_ways_slantwiseSize c_land_kinds c_land_nears o_plan_numbers o_planner_rests o_rows_alongs o_rows_ends o_rows_numbers o_rows_sorted o_rows_spare o_rows_squares o_rows_starts o_rows_strips o_rows_tally c_slants_firsts c_slants_seconds o_turns_known o_turns_lengths o_ways_lengths o_ways_slantwises o_ways_straights) := by
  refine startI (by decide) (Nat.le_of_ble_eq_true rfl) ?_
  intro p e s m below meth c A Q ls args M hW hl ret
  have hx := M.1
  have hb := M.2.1
  have hown := M.2.2.2.1
  have hu := M.2.2.2.2.1
  have hl : lv_has ls 3 [(0, .ref a_t), (1, .int v1), (2, .int v2)] := hl
  unfold X9_tryOut at h
  obtain ⟨H, eH⟩ : ∃ z, z = s.heap := ⟨_, rfl⟩
  obtain ⟨locs, eL⟩ : ∃ z, z = ([] : List Loc) := ⟨_, rfl⟩
  rw [← eL] at hW ⊢
  suffices hS9 : WD g s A (w_X9_tryOut g a_t a_land a_plan a_planner a_rows a_slants a_turns a_ways a_land_kinds a_land_nears a_plan_numbers a_planner_rests a_rows_alongs a_rows_ends a_rows_numbers a_rows_sorted a_rows_spare a_rows_squares a_rows_starts a_rows_strips a_rows_tally a_slants_firsts a_slants_seconds a_turns_known a_turns_lengths a_ways_lengths a_ways_slantwises a_ways_straights a_rings a_reaper a_land_depths c_land_laid c_land_head c_land_fieldCount c_land_innerCount c_plan_there c_plan_size c_rows_there c_rows_size c_slants_size c_ways_straightSize c_ways_slantwiseSize c_land_kinds c_land_nears c_plan_numbers c_planner_rests c_rows_alongs c_rows_ends c_rows_numbers c_rows_sorted c_rows_spare c_rows_squares c_rows_starts c_rows_strips c_rows_tally c_slants_firsts c_slants_seconds c_turns_known c_turns_lengths c_ways_lengths c_ways_slantwises c_ways_straights) H locs → W p l e (rm9 5 120) s m args below meth c H locs 0 0 Q (F0 m 0 ls []) by
    rw [← eH] at hW ⊢
    exact hS9 hW
  clear hW eH eL
  intro hW
  refine lv_aload_n (pc := 0) hx hb (dd dX9_tryOut 0 rfl) rfl (lv_at hl 0 rfl) ?_
  obtain ⟨⟨c_plan_there_1, c_plan_size_1, c_rows_there_1, c_rows_size_1, c_turns_known_1⟩, hr, h⟩ := bnd_ex h
  have h := un5_at h
  refine callVV (pc := 1) (na := 0) (As := []) (rest := []) (ws2 := (w_X9_tryOut g a_t a_land a_plan a_planner a_rows a_slants a_turns a_ways a_land_kinds a_land_nears a_plan_numbers a_planner_rests a_rows_alongs a_rows_ends a_rows_numbers a_rows_sorted a_rows_spare a_rows_squares a_rows_starts a_rows_strips a_rows_tally a_slants_firsts a_slants_seconds a_turns_known a_turns_lengths a_ways_lengths a_ways_slantwises a_ways_straights a_rings a_reaper a_land_depths c_land_laid c_land_head c_land_fieldCount c_land_innerCount c_plan_there_1 c_plan_size_1 c_rows_there_1 c_rows_size_1 c_slants_size c_ways_straightSize c_ways_slantwiseSize c_land_kinds c_land_nears c_plan_numbers c_planner_rests c_rows_alongs c_rows_ends c_rows_numbers c_rows_sorted c_rows_spare c_rows_squares c_rows_starts c_rows_strips c_rows_tally c_slants_firsts c_slants_seconds c_turns_known_1 c_turns_lengths c_ways_lengths c_ways_slantwises c_ways_straights)) M hl.1 hW (t_X9_forgetRows l g a_t a_plan a_rows a_turns a_turns_known a_rings a_land a_ways a_planner a_slants a_reaper a_plan_numbers a_rows_strips a_rows_alongs a_rows_numbers a_rows_sorted a_rows_spare a_rows_tally a_rows_squares a_rows_starts a_rows_ends a_turns_lengths c_plan_there c_plan_size c_rows_there c_rows_size c_turns_known c_plan_there_1 c_plan_size_1 c_rows_there_1 c_rows_size_1 c_turns_known_1 hr) rfl [0, 2, 4, 6, 23] [1, 3, 5, 7, 8, 9, 10, 11, 12, 13, 14, 15, 16, 17, 18, 19, 20, 21, 22, 24, 25, 26, 27] [23, 0, 24, 1, 25, 2, 26, 3, 4, 5, 6, 7, 8, 9, 10, 11, 12, 13, 14, 15, 16, 17, 18, 27, 19, 20, 21, 22] rfl rfl rfl rfl rfl rfl rfl 0 9 rfl rfl rfl (uw2 237 rfl rfl) (uw2 234 rfl rfl) (uw2 236 rfl rfl) (uwp 3 rfl rfl) (uw1 1 rfl rfl) ⟨by decide, by decide, by decide⟩ rfl ⟨by decide, by decide⟩ (Nat.le_of_ble_eq_true rfl) ⟨Nat.zero_le _, Nat.zero_le _⟩ (dd dX9_tryOut 1 rfl) (fun H locs hW => ?_)
  refine lv_aload_n (pc := 4) hx hb (dd dX9_tryOut 2 rfl) rfl (lv_at hl 0 rfl) ?_
  refine rGet (pc := 5) M hW 0 3 iU9 rfl rfl (by decide) (uw2 53 rfl rfl) rfl (dd dX9_tryOut 3 rfl) ?_
  refine lv_aload_n (pc := 8) hx hb (dd dX9_tryOut 4 rfl) rfl (lv_at hl 0 rfl) ?_
  refine rGet (pc := 9) M hW 0 7 iU9 rfl rfl (by decide) (uw2 57 rfl rfl) rfl (dd dX9_tryOut 5 rfl) ?_
  refine rGet (pc := 12) M hW 5 0 iU1 rfl rfl (by decide) (uw1 48 rfl rfl) rfl (dd dX9_tryOut 6 rfl) ?_
  refine lv_iload_n (pc := 15) hx hb (dd dX9_tryOut 7 rfl) rfl (lv_at hl 1 rfl) ?_
  obtain ⟨hi, h⟩ := ck_ex h
  refine rIald (pc := 16) M hW 21 rfl hi (dd dX9_tryOut 8 rfl) ?_
  refine lv_aload_n (pc := 17) hx hb (dd dX9_tryOut 9 rfl) rfl (lv_at hl 0 rfl) ?_
  refine rGet (pc := 18) M hW 0 7 iU9 rfl rfl (by decide) (uw2 57 rfl rfl) rfl (dd dX9_tryOut 10 rfl) ?_
  refine rGet (pc := 21) M hW 5 1 iU1 rfl rfl (by decide) (uw1 51 rfl rfl) rfl (dd dX9_tryOut 11 rfl) ?_
  refine lv_iload_n (pc := 24) hx hb (dd dX9_tryOut 12 rfl) rfl (lv_at hl 1 rfl) ?_
  obtain ⟨hi, h⟩ := ck_ex h
  refine rIald (pc := 25) M hW 22 rfl hi (dd dX9_tryOut 13 rfl) ?_
  refine lv_iload_n (pc := 26) hx hb (dd dX9_tryOut 14 rfl) rfl (lv_at hl 2 rfl) ?_
  obtain ⟨⟨r_27, c_rows_there_27, c_rows_size_27, c_rows_alongs_27, c_rows_ends_27, c_rows_numbers_27, c_rows_sorted_27, c_rows_spare_27, c_rows_squares_27, c_rows_starts_27, c_rows_strips_27, c_rows_tally_27⟩, hr, h⟩ := bnd_ex h
  have h := un12_at h
  refine callVI (pc := 27) (na := 3) (As := [.int (ag c_slants_firsts v1), .int (ag c_slants_seconds v1), .int v2]) (rest := []) (ws2 := (w_X9_tryOut g a_t a_land a_plan a_planner a_rows a_slants a_turns a_ways a_land_kinds a_land_nears a_plan_numbers a_planner_rests a_rows_alongs a_rows_ends a_rows_numbers a_rows_sorted a_rows_spare a_rows_squares a_rows_starts a_rows_strips a_rows_tally a_slants_firsts a_slants_seconds a_turns_known a_turns_lengths a_ways_lengths a_ways_slantwises a_ways_straights a_rings a_reaper a_land_depths c_land_laid c_land_head c_land_fieldCount c_land_innerCount c_plan_there_1 c_plan_size_1 c_rows_there_27 c_rows_size_27 c_slants_size c_ways_straightSize c_ways_slantwiseSize c_land_kinds c_land_nears c_plan_numbers c_planner_rests c_rows_alongs_27 c_rows_ends_27 c_rows_numbers_27 c_rows_sorted_27 c_rows_spare_27 c_rows_squares_27 c_rows_starts_27 c_rows_strips_27 c_rows_tally_27 c_slants_firsts c_slants_seconds c_turns_known_1 c_turns_lengths c_ways_lengths c_ways_slantwises c_ways_straights)) M hl.1 hW (t_X6_make l g a_rows a_rows_alongs a_rows_ends a_land a_rows_numbers a_rows_sorted a_rows_spare a_rows_squares a_rows_starts a_rows_strips a_rows_tally a_land_kinds a_land_nears a_land_depths c_rows_there_1 c_rows_size_1 c_rows_alongs c_rows_ends c_land_laid c_land_head c_land_fieldCount c_land_innerCount c_rows_numbers c_rows_sorted c_rows_spare c_rows_squares c_rows_starts c_rows_strips c_rows_tally c_land_kinds c_land_nears (ag c_slants_firsts v1) (ag c_slants_seconds v1) v2 r_27 c_rows_there_27 c_rows_size_27 c_rows_alongs_27 c_rows_ends_27 c_rows_numbers_27 c_rows_sorted_27 c_rows_spare_27 c_rows_squares_27 c_rows_starts_27 c_rows_strips_27 c_rows_tally_27 hr) rfl [4, 12, 13, 1, 14, 15, 16, 17, 18, 19, 20, 8, 9] [0, 2, 3, 5, 6, 7, 10, 11, 21, 22, 23, 24, 25, 26, 27] [0, 18, 1, 2, 15, 3, 4, 5, 26, 27, 6, 7, 16, 17, 19, 20, 21, 22, 23, 24, 25, 8, 9, 10, 11, 12, 13, 14] rfl rfl rfl rfl rfl rfl rfl 4 6 rfl rfl rfl (uw3 149 rfl rfl) (uw3 146 rfl rfl) (uw3 147 rfl rfl) (uw3 148 rfl rfl) (uw1 7 rfl rfl) ⟨by decide, by decide, by decide⟩ rfl ⟨by decide, by decide⟩ (Nat.le_of_ble_eq_true rfl) ⟨Nat.zero_le _, Nat.zero_le _⟩ (dd dX9_tryOut 15 rfl) (fun H locs hW => ?_)
  refine lv_iconst (pc := 30) (v := (-1)) hx hb (dd dX9_tryOut 16 rfl) (by decide) ?_
  refine lv_icmp_ne (pc := 31) (tgt := 36) hx hb (dd dX9_tryOut 17 rfl) (by decide) (fun hc => ?_) (fun hc => ?_)
  · have h := it_f hc h
    refine lv_aload_n (pc := 36) hx hb (dd dX9_tryOut 20 rfl) rfl (lv_at hl 0 rfl) ?_
    refine rGet (pc := 37) M hW 0 4 iU9 rfl rfl (by decide) (uw2 54 rfl rfl) rfl (dd dX9_tryOut 21 rfl) ?_
    obtain ⟨⟨c_turns_known_40, c_turns_lengths_40, c_ways_straightSize_40, c_ways_slantwiseSize_40, c_ways_lengths_40, c_ways_slantwises_40, c_ways_straights_40⟩, hr, h⟩ := bnd_ex h
    have h := un7_at h
    refine callVV (pc := 40) (na := 0) (As := []) (rest := []) (ws2 := (w_X9_tryOut g a_t a_land a_plan a_planner a_rows a_slants a_turns a_ways a_land_kinds a_land_nears a_plan_numbers a_planner_rests a_rows_alongs a_rows_ends a_rows_numbers a_rows_sorted a_rows_spare a_rows_squares a_rows_starts a_rows_strips a_rows_tally a_slants_firsts a_slants_seconds a_turns_known a_turns_lengths a_ways_lengths a_ways_slantwises a_ways_straights a_rings a_reaper a_land_depths c_land_laid c_land_head c_land_fieldCount c_land_innerCount c_plan_there_1 c_plan_size_1 c_rows_there_27 c_rows_size_27 c_slants_size c_ways_straightSize_40 c_ways_slantwiseSize_40 c_land_kinds c_land_nears c_plan_numbers c_planner_rests c_rows_alongs_27 c_rows_ends_27 c_rows_numbers_27 c_rows_sorted_27 c_rows_spare_27 c_rows_squares_27 c_rows_starts_27 c_rows_strips_27 c_rows_tally_27 c_slants_firsts c_slants_seconds c_turns_known_40 c_turns_lengths_40 c_ways_lengths_40 c_ways_slantwises_40 c_ways_straights_40)) M hl.1 hW (t_X7_learnAll l g a_turns a_turns_known a_turns_lengths a_rows a_ways a_rows_ends a_land a_ways_lengths a_ways_slantwises a_ways_straights a_land_kinds a_land_nears a_rows_strips a_rows_alongs a_rows_numbers a_rows_sorted a_rows_spare a_rows_tally a_rows_squares a_rows_starts a_land_depths c_turns_known_1 c_turns_lengths c_rows_there_27 c_rows_size_27 c_ways_straightSize c_ways_slantwiseSize c_rows_ends_27 c_land_laid c_land_head c_land_fieldCount c_land_innerCount c_ways_lengths c_ways_slantwises c_ways_straights c_land_kinds c_land_nears c_turns_known_40 c_turns_lengths_40 c_ways_straightSize_40 c_ways_slantwiseSize_40 c_ways_lengths_40 c_ways_slantwises_40 c_ways_straights_40 hr) rfl [6, 23, 24, 4, 7, 13, 1, 25, 26, 27, 8, 9] [0, 2, 3, 5, 10, 11, 12, 14, 15, 16, 17, 18, 19, 20, 21, 22] [0, 22, 1, 2, 19, 3, 16, 20, 26, 27, 4, 5, 6, 21, 7, 8, 9, 10, 11, 12, 13, 14, 15, 17, 18, 23, 24, 25] rfl rfl rfl rfl rfl rfl rfl 6 7 rfl rfl rfl (uw4 30 rfl rfl) (uw4 27 rfl rfl) (uw4 28 rfl rfl) (uw4 29 rfl rfl) (uw1 8 rfl rfl) ⟨by decide, by decide, by decide⟩ rfl ⟨by decide, by decide⟩ (Nat.le_of_ble_eq_true rfl) ⟨Nat.zero_le _, Nat.zero_le _⟩ (dd dX9_tryOut 22 rfl) (fun H locs hW => ?_)
    refine lv_aload_n (pc := 43) hx hb (dd dX9_tryOut 23 rfl) rfl (lv_at hl 0 rfl) ?_
    refine rGet (pc := 44) M hW 0 6 iU9 rfl rfl (by decide) (uw2 56 rfl rfl) rfl (dd dX9_tryOut 24 rfl) ?_
    refine lv_aload_n (pc := 47) hx hb (dd dX9_tryOut 25 rfl) rfl (lv_at hl 0 rfl) ?_
    refine rGet (pc := 48) M hW 0 3 iU9 rfl rfl (by decide) (uw2 53 rfl rfl) rfl (dd dX9_tryOut 26 rfl) ?_
    refine rGet (pc := 51) M hW 4 11 iU6 rfl rfl (by decide) (uw1 160 rfl rfl) rfl (dd dX9_tryOut 27 rfl) ?_
    obtain ⟨⟨r_54, c_plan_there_54, c_plan_size_54, c_planner_rests_54, c_plan_numbers_54⟩, hr, h⟩ := bnd_ex h
    have h := un5_at h
    refine callVI (pc := 54) (na := 1) (As := [.int c_rows_size_27]) (rest := []) (ws2 := (w_X9_tryOut g a_t a_land a_plan a_planner a_rows a_slants a_turns a_ways a_land_kinds a_land_nears a_plan_numbers a_planner_rests a_rows_alongs a_rows_ends a_rows_numbers a_rows_sorted a_rows_spare a_rows_squares a_rows_starts a_rows_strips a_rows_tally a_slants_firsts a_slants_seconds a_turns_known a_turns_lengths a_ways_lengths a_ways_slantwises a_ways_straights a_rings a_reaper a_land_depths c_land_laid c_land_head c_land_fieldCount c_land_innerCount c_plan_there_54 c_plan_size_54 c_rows_there_27 c_rows_size_27 c_slants_size c_ways_straightSize_40 c_ways_slantwiseSize_40 c_land_kinds c_land_nears c_plan_numbers_54 c_planner_rests_54 c_rows_alongs_27 c_rows_ends_27 c_rows_numbers_27 c_rows_sorted_27 c_rows_spare_27 c_rows_squares_27 c_rows_starts_27 c_rows_strips_27 c_rows_tally_27 c_slants_firsts c_slants_seconds c_turns_known_40 c_turns_lengths_40 c_ways_lengths_40 c_ways_slantwises_40 c_ways_straights_40)) M hl.1 hW (t_X3_make l g a_planner a_plan a_planner_rests a_turns a_plan_numbers a_turns_lengths a_ways a_rows a_turns_known c_plan_there_1 c_plan_size_1 c_planner_rests c_plan_numbers c_turns_lengths_40 c_rows_size_27 r_54 c_plan_there_54 c_plan_size_54 c_planner_rests_54 c_plan_numbers_54 hr) rfl [3, 2, 11, 6, 10, 24] [0, 1, 4, 5, 7, 8, 9, 12, 13, 14, 15, 16, 17, 18, 19, 20, 21, 22, 23, 25, 26, 27] [0, 1, 23, 22, 2, 3, 25, 4, 5, 6, 26, 24, 7, 8, 9, 10, 11, 12, 13, 14, 15, 16, 17, 18, 27, 19, 20, 21] rfl rfl rfl rfl rfl rfl rfl 3 3 rfl rfl rfl (uw4 35 rfl rfl) (uw4 32 rfl rfl) (uw4 33 rfl rfl) (uw4 34 rfl rfl) (uw1 10 rfl rfl) ⟨by decide, by decide, by decide⟩ rfl ⟨by decide, by decide⟩ (Nat.le_of_ble_eq_true rfl) ⟨Nat.zero_le _, Nat.zero_le _⟩ (dd dX9_tryOut 28 rfl) (fun H locs hW => ?_)
    have hW9 := hW
    cases h
    exact ret _ _ _ 57 hW9 rfl (dd dX9_tryOut 29 rfl)
  · have h := it_t hc h
    refine lv_iconst (pc := 34) (v := (-1)) hx hb (dd dX9_tryOut 18 rfl) (by decide) ?_
    have hW9 := hW
    cases h
    exact ret _ _ _ 35 hW9 rfl (dd dX9_tryOut 19 rfl)
abbrev w_X9_choose (g : G9) (a_t a_land a_plan a_planner a_rows a_slants a_turns a_ways a_land_kinds a_land_nears a_plan_numbers a_planner_rests a_rows_alongs a_rows_ends a_rows_numbers a_rows_sorted a_rows_spare a_rows_squares a_rows_starts a_rows_strips a_rows_tally a_slants_firsts a_slants_seconds a_turns_known a_turns_lengths a_ways_lengths a_ways_slantwises a_ways_straights a_rings a_reaper a_land_depths : Nat) (c_land_laid c_land_head c_land_fieldCount c_land_innerCount c_plan_there c_plan_size c_rows_there c_rows_size c_slants_size c_ways_straightSize c_ways_slantwiseSize : Int32) (c_land_kinds c_land_nears c_plan_numbers c_planner_rests c_rows_alongs c_rows_ends c_rows_numbers c_rows_sorted c_rows_spare c_rows_squares c_rows_starts c_rows_strips c_rows_tally c_slants_firsts c_slants_seconds c_turns_known c_turns_lengths c_ways_lengths c_ways_slantwises c_ways_straights : Ar) : va_W := [ob a_t 9 [.ref a_rings, .ref a_land, .ref a_ways, .ref a_rows, .ref a_turns, .ref a_plan, .ref a_planner, .ref a_slants, .ref a_reaper], ob a_land 0 [.ref a_land_kinds, .ref a_land_nears, .ref a_land_depths, .int c_land_laid, .int c_land_head, .int c_land_fieldCount, .int c_land_innerCount], ob a_plan 2 [.ref a_turns, .ref a_plan_numbers, .int c_plan_there, .int c_plan_size], ob a_planner 3 [.ref a_plan, .ref a_turns, .ref a_planner_rests], ob a_rows 6 [.ref a_land, .ref a_rows_strips, .ref a_rows_alongs, .ref a_rows_numbers, .ref a_rows_sorted, .ref a_rows_spare, .ref a_rows_tally, .ref a_rows_squares, .ref a_rows_starts, .ref a_rows_ends, .int c_rows_there, .int c_rows_size], ob a_slants 1 [.ref a_slants_firsts, .ref a_slants_seconds, .int c_slants_size], ob a_turns 7 [.ref a_ways, .ref a_rows, .ref a_turns_lengths, .ref a_turns_known], ob a_ways 8 [.ref a_land, .ref a_ways_lengths, .ref a_ways_straights, .ref a_ways_slantwises, .int c_ways_straightSize, .int c_ways_slantwiseSize], ia g a_land_kinds 1200 c_land_kinds, ia g a_land_nears 1200 c_land_nears, ia g a_plan_numbers 60 c_plan_numbers, ia g a_planner_rests 9216 c_planner_rests, ia g a_rows_alongs 1200 c_rows_alongs, ia g a_rows_ends 120 c_rows_ends, ia g a_rows_numbers 1200 c_rows_numbers, ia g a_rows_sorted 1200 c_rows_sorted, ia g a_rows_spare 1200 c_rows_spare, ia g a_rows_squares 1200 c_rows_squares, ia g a_rows_starts 61 c_rows_starts, ia g a_rows_strips 1200 c_rows_strips, ia g a_rows_tally 2486 c_rows_tally, ia g a_slants_firsts 5 c_slants_firsts, ia g a_slants_seconds 5 c_slants_seconds, za g a_turns_known 120 c_turns_known, ia g a_turns_lengths 14400 c_turns_lengths, ia g a_ways_lengths 1200 c_ways_lengths, ia g a_ways_slantwises 1200 c_ways_slantwises, ia g a_ways_straights 1200 c_ways_straights]
noncomputable def X9_choose_b16_76 (c_plan_there c_plan_size c_rows_there c_rows_size c_ways_straightSize c_ways_slantwiseSize : Int32) (c_plan_numbers c_planner_rests c_rows_alongs c_rows_ends c_rows_numbers c_rows_sorted c_rows_spare c_rows_squares c_rows_starts c_rows_strips c_rows_tally c_turns_known c_turns_lengths c_ways_lengths c_ways_slantwises c_ways_straights : Ar) (v1 v2 v3 v4 : Int32) : Option ((Int32 × Int32 × Int32 × Int32 × Int32 × Int32 × Ar × Ar × Ar × Ar × Ar × Ar × Ar × Ar × Ar × Ar × Ar × Ar × Ar × Ar × Ar × Ar × Int32 × Int32 × Int32) ⊕ (Int32 × Int32 × Int32 × Int32 × Int32 × Int32 × Ar × Ar × Ar × Ar × Ar × Ar × Ar × Ar × Ar × Ar × Ar × Ar × Ar × Ar × Ar × Ar × Int32)) :=
  nm (v4 + 1) fun v4_76 => some (.inl (c_plan_there, c_plan_size, c_rows_there, c_rows_size, c_ways_straightSize, c_ways_slantwiseSize, c_plan_numbers, c_planner_rests, c_rows_alongs, c_rows_ends, c_rows_numbers, c_rows_sorted, c_rows_spare, c_rows_squares, c_rows_starts, c_rows_strips, c_rows_tally, c_turns_known, c_turns_lengths, c_ways_lengths, c_ways_slantwises, c_ways_straights, v2, v3, v4_76))
noncomputable def X9_choose_b16_62 (c_land_innerCount c_plan_there c_plan_size c_rows_there c_rows_size c_ways_straightSize c_ways_slantwiseSize : Int32) (c_plan_numbers c_planner_rests c_rows_alongs c_rows_ends c_rows_numbers c_rows_sorted c_rows_spare c_rows_squares c_rows_starts c_rows_strips c_rows_tally c_turns_known c_turns_lengths c_ways_lengths c_ways_slantwises c_ways_straights : Ar) (v1 v4 v5 : Int32) : Option ((Int32 × Int32 × Int32 × Int32 × Int32 × Int32 × Ar × Ar × Ar × Ar × Ar × Ar × Ar × Ar × Ar × Ar × Ar × Ar × Ar × Ar × Ar × Ar × Int32 × Int32 × Int32) ⊕ (Int32 × Int32 × Int32 × Int32 × Int32 × Int32 × Ar × Ar × Ar × Ar × Ar × Ar × Ar × Ar × Ar × Ar × Ar × Ar × Ar × Ar × Ar × Ar × Int32)) :=
  nm ((c_land_innerCount + v5)) fun v3_75 => X9_choose_b16_76 c_plan_there c_plan_size c_rows_there c_rows_size c_ways_straightSize c_ways_slantwiseSize c_plan_numbers c_planner_rests c_rows_alongs c_rows_ends c_rows_numbers c_rows_sorted c_rows_spare c_rows_squares c_rows_starts c_rows_strips c_rows_tally c_turns_known c_turns_lengths c_ways_lengths c_ways_slantwises c_ways_straights v1 v4 v3_75 v4
noncomputable def X9_choose_L16 (c_land_innerCount c_slants_size : Int32) (c_land_kinds c_land_nears c_slants_firsts c_slants_seconds : Ar) (v1 c_plan_there c_plan_size c_rows_there c_rows_size c_ways_straightSize c_ways_slantwiseSize : Int32) (c_plan_numbers c_planner_rests c_rows_alongs c_rows_ends c_rows_numbers c_rows_sorted c_rows_spare c_rows_squares c_rows_starts c_rows_strips c_rows_tally c_turns_known c_turns_lengths c_ways_lengths c_ways_slantwises c_ways_straights : Ar) (v2 v3 v4 : Int32) : Option ((Int32 × Int32 × Int32 × Int32 × Int32 × Int32 × Ar × Ar × Ar × Ar × Ar × Ar × Ar × Ar × Ar × Ar × Ar × Ar × Ar × Ar × Ar × Ar × Int32 × Int32 × Int32) ⊕ (Int32 × Int32 × Int32 × Int32 × Int32 × Int32 × Ar × Ar × Ar × Ar × Ar × Ar × Ar × Ar × Ar × Ar × Ar × Ar × Ar × Ar × Ar × Ar × Int32)) :=
  if c_slants_size ≤ v4 then (some (.inr (c_plan_there, c_plan_size, c_rows_there, c_rows_size, c_ways_straightSize, c_ways_slantwiseSize, c_plan_numbers, c_planner_rests, c_rows_alongs, c_rows_ends, c_rows_numbers, c_rows_sorted, c_rows_spare, c_rows_squares, c_rows_starts, c_rows_strips, c_rows_tally, c_turns_known, c_turns_lengths, c_ways_lengths, c_ways_slantwises, c_ways_straights, v2))) else (bnd (X9_tryOut c_land_innerCount c_plan_there c_plan_size c_rows_there c_rows_size c_ways_straightSize c_ways_slantwiseSize c_land_kinds c_land_nears c_plan_numbers c_planner_rests c_rows_alongs c_rows_ends c_rows_numbers c_rows_sorted c_rows_spare c_rows_squares c_rows_starts c_rows_strips c_rows_tally c_slants_firsts c_slants_seconds c_turns_known c_turns_lengths c_ways_lengths c_ways_slantwises c_ways_straights v4 v1) <| un23 fun r_32 c_plan_there_32 c_plan_size_32 c_rows_there_32 c_rows_size_32 c_ways_straightSize_32 c_ways_slantwiseSize_32 c_plan_numbers_32 c_planner_rests_32 c_rows_alongs_32 c_rows_ends_32 c_rows_numbers_32 c_rows_sorted_32 c_rows_spare_32 c_rows_squares_32 c_rows_starts_32 c_rows_strips_32 c_rows_tally_32 c_turns_known_32 c_turns_lengths_32 c_ways_lengths_32 c_ways_slantwises_32 c_ways_straights_32 => if r_32 = (-1) then (X9_choose_b16_76 c_plan_there_32 c_plan_size_32 c_rows_there_32 c_rows_size_32 c_ways_straightSize_32 c_ways_slantwiseSize_32 c_plan_numbers_32 c_planner_rests_32 c_rows_alongs_32 c_rows_ends_32 c_rows_numbers_32 c_rows_sorted_32 c_rows_spare_32 c_rows_squares_32 c_rows_starts_32 c_rows_strips_32 c_rows_tally_32 c_turns_known_32 c_turns_lengths_32 c_ways_lengths_32 c_ways_slantwises_32 c_ways_straights_32 v1 v2 v3 v4) else (if v2 = (-1) then (X9_choose_b16_62 c_land_innerCount c_plan_there_32 c_plan_size_32 c_rows_there_32 c_rows_size_32 c_ways_straightSize_32 c_ways_slantwiseSize_32 c_plan_numbers_32 c_planner_rests_32 c_rows_alongs_32 c_rows_ends_32 c_rows_numbers_32 c_rows_sorted_32 c_rows_spare_32 c_rows_squares_32 c_rows_starts_32 c_rows_strips_32 c_rows_tally_32 c_turns_known_32 c_turns_lengths_32 c_ways_lengths_32 c_ways_slantwises_32 c_ways_straights_32 v1 v4 r_32) else (if v3 ≤ (c_land_innerCount + r_32) then (X9_choose_b16_76 c_plan_there_32 c_plan_size_32 c_rows_there_32 c_rows_size_32 c_ways_straightSize_32 c_ways_slantwiseSize_32 c_plan_numbers_32 c_planner_rests_32 c_rows_alongs_32 c_rows_ends_32 c_rows_numbers_32 c_rows_sorted_32 c_rows_spare_32 c_rows_squares_32 c_rows_starts_32 c_rows_strips_32 c_rows_tally_32 c_turns_known_32 c_turns_lengths_32 c_ways_lengths_32 c_ways_slantwises_32 c_ways_straights_32 v1 v2 v3 v4) else (X9_choose_b16_62 c_land_innerCount c_plan_there_32 c_plan_size_32 c_rows_there_32 c_rows_size_32 c_ways_straightSize_32 c_ways_slantwiseSize_32 c_plan_numbers_32 c_planner_rests_32 c_rows_alongs_32 c_rows_ends_32 c_rows_numbers_32 c_rows_sorted_32 c_rows_spare_32 c_rows_squares_32 c_rows_starts_32 c_rows_strips_32 c_rows_tally_32 c_turns_known_32 c_turns_lengths_32 c_ways_lengths_32 c_ways_slantwises_32 c_ways_straights_32 v1 v4 r_32))))
noncomputable def X9_choose (c_land_laid c_land_innerCount c_plan_there c_plan_size c_rows_there c_rows_size c_slants_size c_ways_straightSize c_ways_slantwiseSize : Int32) (c_land_kinds c_land_nears c_plan_numbers c_planner_rests c_rows_alongs c_rows_ends c_rows_numbers c_rows_sorted c_rows_spare c_rows_squares c_rows_starts c_rows_strips c_rows_tally c_slants_firsts c_slants_seconds c_turns_known c_turns_lengths c_ways_lengths c_ways_slantwises c_ways_straights : Ar) (v1 : Int32) : Option (Nat ⊕ (Int32 × Int32 × Int32 × Int32 × Int32 × Int32 × Int32 × Ar × Ar × Ar × Ar × Ar × Ar × Ar × Ar × Ar × Ar × Ar × Ar × Ar × Ar × Ar × Ar)) :=
  bnd (X9_needLaid c_land_laid) <| Sum.elim (fun x9 => some (.inl x9)) fun (_ : Unit) => bnd (X9_needWidth v1) <| Sum.elim (fun x9 => some (.inl x9)) fun (_ : Unit) => rmap <| bnd (whileV (fun st => X9_choose_L16 c_land_innerCount c_slants_size c_land_kinds c_land_nears c_slants_firsts c_slants_seconds v1 st.1 st.2.1 st.2.2.1 st.2.2.2.1 st.2.2.2.2.1 st.2.2.2.2.2.1 st.2.2.2.2.2.2.1 st.2.2.2.2.2.2.2.1 st.2.2.2.2.2.2.2.2.1 st.2.2.2.2.2.2.2.2.2.1 st.2.2.2.2.2.2.2.2.2.2.1 st.2.2.2.2.2.2.2.2.2.2.2.1 st.2.2.2.2.2.2.2.2.2.2.2.2.1 st.2.2.2.2.2.2.2.2.2.2.2.2.2.1 st.2.2.2.2.2.2.2.2.2.2.2.2.2.2.1 st.2.2.2.2.2.2.2.2.2.2.2.2.2.2.2.1 st.2.2.2.2.2.2.2.2.2.2.2.2.2.2.2.2.1 st.2.2.2.2.2.2.2.2.2.2.2.2.2.2.2.2.2.1 st.2.2.2.2.2.2.2.2.2.2.2.2.2.2.2.2.2.2.1 st.2.2.2.2.2.2.2.2.2.2.2.2.2.2.2.2.2.2.2.1 st.2.2.2.2.2.2.2.2.2.2.2.2.2.2.2.2.2.2.2.2.1 st.2.2.2.2.2.2.2.2.2.2.2.2.2.2.2.2.2.2.2.2.2.1 st.2.2.2.2.2.2.2.2.2.2.2.2.2.2.2.2.2.2.2.2.2.2.1 st.2.2.2.2.2.2.2.2.2.2.2.2.2.2.2.2.2.2.2.2.2.2.2.1 st.2.2.2.2.2.2.2.2.2.2.2.2.2.2.2.2.2.2.2.2.2.2.2.2) (c_plan_there, c_plan_size, c_rows_there, c_rows_size, c_ways_straightSize, c_ways_slantwiseSize, c_plan_numbers, c_planner_rests, c_rows_alongs, c_rows_ends, c_rows_numbers, c_rows_sorted, c_rows_spare, c_rows_squares, c_rows_starts, c_rows_strips, c_rows_tally, c_turns_known, c_turns_lengths, c_ways_lengths, c_ways_slantwises, c_ways_straights, (-1), 0, 0)) <| (un23 fun c_plan_there_82 c_plan_size_82 c_rows_there_82 c_rows_size_82 c_ways_straightSize_82 c_ways_slantwiseSize_82 c_plan_numbers_82 c_planner_rests_82 c_rows_alongs_82 c_rows_ends_82 c_rows_numbers_82 c_rows_sorted_82 c_rows_spare_82 c_rows_squares_82 c_rows_starts_82 c_rows_strips_82 c_rows_tally_82 c_turns_known_82 c_turns_lengths_82 c_ways_lengths_82 c_ways_slantwises_82 c_ways_straights_82 v2_82 => if v2_82 = (-1) then (bnd (X9_forgetRows c_plan_there_82 c_plan_size_82 c_rows_there_82 c_rows_size_82 c_turns_known_82) <| un5 fun c_plan_there_88 c_plan_size_88 c_rows_there_88 c_rows_size_88 c_turns_known_88 => some (v2_82, c_plan_there_88, c_plan_size_88, c_rows_there_88, c_rows_size_88, c_ways_straightSize_82, c_ways_slantwiseSize_82, c_plan_numbers_82, c_planner_rests_82, c_rows_alongs_82, c_rows_ends_82, c_rows_numbers_82, c_rows_sorted_82, c_rows_spare_82, c_rows_squares_82, c_rows_starts_82, c_rows_strips_82, c_rows_tally_82, c_turns_known_88, c_turns_lengths_82, c_ways_lengths_82, c_ways_slantwises_82, c_ways_straights_82)) else (if v2_82 = (c_slants_size - 1) then (some (v2_82, c_plan_there_82, c_plan_size_82, c_rows_there_82, c_rows_size_82, c_ways_straightSize_82, c_ways_slantwiseSize_82, c_plan_numbers_82, c_planner_rests_82, c_rows_alongs_82, c_rows_ends_82, c_rows_numbers_82, c_rows_sorted_82, c_rows_spare_82, c_rows_squares_82, c_rows_starts_82, c_rows_strips_82, c_rows_tally_82, c_turns_known_82, c_turns_lengths_82, c_ways_lengths_82, c_ways_slantwises_82, c_ways_straights_82)) else (bnd (X9_tryOut c_land_innerCount c_plan_there_82 c_plan_size_82 c_rows_there_82 c_rows_size_82 c_ways_straightSize_82 c_ways_slantwiseSize_82 c_land_kinds c_land_nears c_plan_numbers_82 c_planner_rests_82 c_rows_alongs_82 c_rows_ends_82 c_rows_numbers_82 c_rows_sorted_82 c_rows_spare_82 c_rows_squares_82 c_rows_starts_82 c_rows_strips_82 c_rows_tally_82 c_slants_firsts c_slants_seconds c_turns_known_82 c_turns_lengths_82 c_ways_lengths_82 c_ways_slantwises_82 c_ways_straights_82 v2_82 v1) <| un23 fun r_110 c_plan_there_110 c_plan_size_110 c_rows_there_110 c_rows_size_110 c_ways_straightSize_110 c_ways_slantwiseSize_110 c_plan_numbers_110 c_planner_rests_110 c_rows_alongs_110 c_rows_ends_110 c_rows_numbers_110 c_rows_sorted_110 c_rows_spare_110 c_rows_squares_110 c_rows_starts_110 c_rows_strips_110 c_rows_tally_110 c_turns_known_110 c_turns_lengths_110 c_ways_lengths_110 c_ways_slantwises_110 c_ways_straights_110 => some (v2_82, c_plan_there_110, c_plan_size_110, c_rows_there_110, c_rows_size_110, c_ways_straightSize_110, c_ways_slantwiseSize_110, c_plan_numbers_110, c_planner_rests_110, c_rows_alongs_110, c_rows_ends_110, c_rows_numbers_110, c_rows_sorted_110, c_rows_spare_110, c_rows_squares_110, c_rows_starts_110, c_rows_strips_110, c_rows_tally_110, c_turns_known_110, c_turns_lengths_110, c_ways_lengths_110, c_ways_slantwises_110, c_ways_straights_110))))
set_option maxHeartbeats 4000000 in
set_option maxRecDepth 100000 in
theorem t_X9_choose (l : Launch) (g : G9) (a_t a_land a_plan a_planner a_rows a_slants a_turns a_ways a_land_kinds a_land_nears a_plan_numbers a_planner_rests a_rows_alongs a_rows_ends a_rows_numbers a_rows_sorted a_rows_spare a_rows_squares a_rows_starts a_rows_strips a_rows_tally a_slants_firsts a_slants_seconds a_turns_known a_turns_lengths a_ways_lengths a_ways_slantwises a_ways_straights a_rings a_reaper a_land_depths : Nat) (c_land_laid c_land_head c_land_fieldCount c_land_innerCount c_plan_there c_plan_size c_rows_there c_rows_size c_slants_size c_ways_straightSize c_ways_slantwiseSize : Int32) (c_land_kinds c_land_nears c_plan_numbers c_planner_rests c_rows_alongs c_rows_ends c_rows_numbers c_rows_sorted c_rows_spare c_rows_squares c_rows_starts c_rows_strips c_rows_tally c_slants_firsts c_slants_seconds c_turns_known c_turns_lengths c_ways_lengths c_ways_slantwises c_ways_straights : Ar) (v1 r0 o_plan_there o_plan_size o_rows_there o_rows_size o_ways_straightSize o_ways_slantwiseSize : Int32) (o_plan_numbers o_planner_rests o_rows_alongs o_rows_ends o_rows_numbers o_rows_sorted o_rows_spare o_rows_squares o_rows_starts o_rows_strips o_rows_tally o_turns_known o_turns_lengths o_ways_lengths o_ways_slantwises o_ways_straights : Ar) (h : X9_choose c_land_laid c_land_innerCount c_plan_there c_plan_size c_rows_there c_rows_size c_slants_size c_ways_straightSize c_ways_slantwiseSize c_land_kinds c_land_nears c_plan_numbers c_planner_rests c_rows_alongs c_rows_ends c_rows_numbers c_rows_sorted c_rows_spare c_rows_squares c_rows_starts c_rows_strips c_rows_tally c_slants_firsts c_slants_seconds c_turns_known c_turns_lengths c_ways_lengths c_ways_slantwises c_ways_straights v1 = some (.inr (r0, o_plan_there, o_plan_size, o_rows_there, o_rows_size, o_ways_straightSize, o_ways_slantwiseSize, o_plan_numbers, o_planner_rests, o_rows_alongs, o_rows_ends, o_rows_numbers, o_rows_sorted, o_rows_spare, o_rows_squares, o_rows_starts, o_rows_strips, o_rows_tally, o_turns_known, o_turns_lengths, o_ways_lengths, o_ways_slantwises, o_ways_straights))) : CtI l g yX9_choose cX9_choose 6 .int 7 142 [.ref a_t, .int v1] (w_X9_choose g a_t a_land a_plan a_planner a_rows a_slants a_turns a_ways a_land_kinds a_land_nears a_plan_numbers a_planner_rests a_rows_alongs a_rows_ends a_rows_numbers a_rows_sorted a_rows_spare a_rows_squares a_rows_starts a_rows_strips a_rows_tally a_slants_firsts a_slants_seconds a_turns_known a_turns_lengths a_ways_lengths a_ways_slantwises a_ways_straights a_rings a_reaper a_land_depths c_land_laid c_land_head c_land_fieldCount c_land_innerCount c_plan_there c_plan_size c_rows_there c_rows_size c_slants_size c_ways_straightSize c_ways_slantwiseSize c_land_kinds c_land_nears c_plan_numbers c_planner_rests c_rows_alongs c_rows_ends c_rows_numbers c_rows_sorted c_rows_spare c_rows_squares c_rows_starts c_rows_strips c_rows_tally c_slants_firsts c_slants_seconds c_turns_known c_turns_lengths c_ways_lengths c_ways_slantwises c_ways_straights) r0 (w_X9_choose g a_t a_land a_plan a_planner a_rows a_slants a_turns a_ways a_land_kinds a_land_nears a_plan_numbers a_planner_rests a_rows_alongs a_rows_ends a_rows_numbers a_rows_sorted a_rows_spare a_rows_squares a_rows_starts a_rows_strips a_rows_tally a_slants_firsts a_slants_seconds a_turns_known a_turns_lengths a_ways_lengths a_ways_slantwises a_ways_straights a_rings a_reaper a_land_depths c_land_laid c_land_head c_land_fieldCount c_land_innerCount o_plan_there o_plan_size o_rows_there o_rows_size c_slants_size o_ways_straightSize o_ways_slantwiseSize c_land_kinds c_land_nears o_plan_numbers o_planner_rests o_rows_alongs o_rows_ends o_rows_numbers o_rows_sorted o_rows_spare o_rows_squares o_rows_starts o_rows_strips o_rows_tally c_slants_firsts c_slants_seconds o_turns_known o_turns_lengths o_ways_lengths o_ways_slantwises o_ways_straights) := by
  refine startI (by decide) (Nat.le_of_ble_eq_true rfl) ?_
  intro p e s m below meth c A Q ls args M hW hl ret
  have hx := M.1
  have hb := M.2.1
  have hown := M.2.2.2.1
  have hu := M.2.2.2.2.1
  have hl : lv_has ls 6 [(0, .ref a_t), (1, .int v1)] := hl
  unfold X9_choose at h
  obtain ⟨H, eH⟩ : ∃ z, z = s.heap := ⟨_, rfl⟩
  obtain ⟨locs, eL⟩ : ∃ z, z = ([] : List Loc) := ⟨_, rfl⟩
  rw [← eL] at hW ⊢
  suffices hS9 : WD g s A (w_X9_choose g a_t a_land a_plan a_planner a_rows a_slants a_turns a_ways a_land_kinds a_land_nears a_plan_numbers a_planner_rests a_rows_alongs a_rows_ends a_rows_numbers a_rows_sorted a_rows_spare a_rows_squares a_rows_starts a_rows_strips a_rows_tally a_slants_firsts a_slants_seconds a_turns_known a_turns_lengths a_ways_lengths a_ways_slantwises a_ways_straights a_rings a_reaper a_land_depths c_land_laid c_land_head c_land_fieldCount c_land_innerCount c_plan_there c_plan_size c_rows_there c_rows_size c_slants_size c_ways_straightSize c_ways_slantwiseSize c_land_kinds c_land_nears c_plan_numbers c_planner_rests c_rows_alongs c_rows_ends c_rows_numbers c_rows_sorted c_rows_spare c_rows_squares c_rows_starts c_rows_strips c_rows_tally c_slants_firsts c_slants_seconds c_turns_known c_turns_lengths c_ways_lengths c_ways_slantwises c_ways_straights) H locs → W p l e (rm9 7 142) s m args below meth c H locs 0 0 Q (F0 m 0 ls []) by
    rw [← eH] at hW ⊢
    exact hS9 hW
  clear hW eH eL
  intro hW
  refine lv_aload_n (pc := 0) hx hb (dd dX9_choose_p0 0 rfl) rfl (lv_at hl 0 rfl) ?_
  obtain ⟨ex9, hr, h⟩ := bnd_ex h
  rcases ex9 with x9 | u9
  · have h := sE_l h
    cases h
  have h := sE_r h
  refine callVV (pc := 1) (na := 0) (As := []) (rest := []) (ws2 := (w_X9_choose g a_t a_land a_plan a_planner a_rows a_slants a_turns a_ways a_land_kinds a_land_nears a_plan_numbers a_planner_rests a_rows_alongs a_rows_ends a_rows_numbers a_rows_sorted a_rows_spare a_rows_squares a_rows_starts a_rows_strips a_rows_tally a_slants_firsts a_slants_seconds a_turns_known a_turns_lengths a_ways_lengths a_ways_slantwises a_ways_straights a_rings a_reaper a_land_depths c_land_laid c_land_head c_land_fieldCount c_land_innerCount c_plan_there c_plan_size c_rows_there c_rows_size c_slants_size c_ways_straightSize c_ways_slantwiseSize c_land_kinds c_land_nears c_plan_numbers c_planner_rests c_rows_alongs c_rows_ends c_rows_numbers c_rows_sorted c_rows_spare c_rows_squares c_rows_starts c_rows_strips c_rows_tally c_slants_firsts c_slants_seconds c_turns_known c_turns_lengths c_ways_lengths c_ways_slantwises c_ways_straights)) M hl.1 hW (t_X9_needLaid l g a_t a_land a_rings a_ways a_rows a_turns a_plan a_planner a_slants a_reaper a_land_kinds a_land_nears a_land_depths c_land_laid c_land_head c_land_fieldCount c_land_innerCount hr) rfl [0, 1] [2, 3, 4, 5, 6, 7, 8, 9, 10, 11, 12, 13, 14, 15, 16, 17, 18, 19, 20, 21, 22, 23, 24, 25, 26, 27] [26, 27, 0, 1, 2, 3, 4, 5, 6, 7, 8, 9, 10, 11, 12, 13, 14, 15, 16, 17, 18, 19, 20, 21, 22, 23, 24, 25] rfl rfl rfl rfl rfl rfl rfl 0 9 rfl rfl rfl (uw3 114 rfl rfl) (uw3 111 rfl rfl) (uw3 113 rfl rfl) (uwp 14 rfl rfl) (uw1 1 rfl rfl) ⟨by decide, by decide, by decide⟩ rfl ⟨by decide, by decide⟩ (Nat.le_of_ble_eq_true rfl)  ⟨Nat.zero_le _, Nat.zero_le _⟩ (dd dX9_choose_p0 1 rfl) (fun H locs hW => ?_)
  refine lv_aload_n (pc := 4) hx hb (dd dX9_choose_p0 2 rfl) rfl (lv_at hl 0 rfl) ?_
  refine lv_iload_n (pc := 5) hx hb (dd dX9_choose_p0 3 rfl) rfl (lv_at hl 1 rfl) ?_
  obtain ⟨ex9, hr, h⟩ := bnd_ex h
  rcases ex9 with x9 | u9
  · have h := sE_l h
    cases h
  have h := sE_r h
  refine callVV (pc := 6) (na := 1) (As := [.int v1]) (rest := []) (ws2 := (w_X9_choose g a_t a_land a_plan a_planner a_rows a_slants a_turns a_ways a_land_kinds a_land_nears a_plan_numbers a_planner_rests a_rows_alongs a_rows_ends a_rows_numbers a_rows_sorted a_rows_spare a_rows_squares a_rows_starts a_rows_strips a_rows_tally a_slants_firsts a_slants_seconds a_turns_known a_turns_lengths a_ways_lengths a_ways_slantwises a_ways_straights a_rings a_reaper a_land_depths c_land_laid c_land_head c_land_fieldCount c_land_innerCount c_plan_there c_plan_size c_rows_there c_rows_size c_slants_size c_ways_straightSize c_ways_slantwiseSize c_land_kinds c_land_nears c_plan_numbers c_planner_rests c_rows_alongs c_rows_ends c_rows_numbers c_rows_sorted c_rows_spare c_rows_squares c_rows_starts c_rows_strips c_rows_tally c_slants_firsts c_slants_seconds c_turns_known c_turns_lengths c_ways_lengths c_ways_slantwises c_ways_straights)) M hl.1 hW (t_X9_needWidth l g a_t a_rings a_land a_ways a_rows a_turns a_plan a_planner a_slants a_reaper v1 hr) rfl [0] [1, 2, 3, 4, 5, 6, 7, 8, 9, 10, 11, 12, 13, 14, 15, 16, 17, 18, 19, 20, 21, 22, 23, 24, 25, 26, 27] [27, 0, 1, 2, 3, 4, 5, 6, 7, 8, 9, 10, 11, 12, 13, 14, 15, 16, 17, 18, 19, 20, 21, 22, 23, 24, 25, 26] rfl rfl rfl rfl rfl rfl rfl 0 9 rfl rfl rfl (uw3 144 rfl rfl) (uw3 141 rfl rfl) (uw3 143 rfl rfl) (uwp 15 rfl rfl) (uw1 1 rfl rfl) ⟨by decide, by decide, by decide⟩ rfl ⟨by decide, by decide⟩ (Nat.le_of_ble_eq_true rfl)  ⟨Nat.zero_le _, Nat.zero_le _⟩ (dd dX9_choose_p0 4 rfl) (fun H locs hW => ?_)
  have h := rmap_ex h
  refine lv_iconst (pc := 9) (v := (-1)) hx hb (dd dX9_choose_p0 5 rfl) (by decide) ?_
  refine lv_istore_n (pc := 10) (lv' := [(2, .int (-1)), (0, .ref a_t), (1, .int v1)]) hx hb (dd dX9_choose_p0 6 rfl) rfl hl (by decide) rfl (fun ls hl => ?_)
  refine lv_iconst (pc := 11) (v := 0) hx hb (dd dX9_choose_p0 7 rfl) (by decide) ?_
  refine lv_istore_n (pc := 12) (lv' := [(3, .int 0), (2, .int (-1)), (0, .ref a_t), (1, .int v1)]) hx hb (dd dX9_choose_p0 8 rfl) rfl hl (by decide) rfl (fun ls hl => ?_)
  refine lv_iconst (pc := 13) (v := 0) hx hb (dd dX9_choose_p0 9 rfl) (by decide) ?_
  refine lv_istore (pc := 14) (lv' := [(4, .int 0), (3, .int 0), (2, .int (-1)), (0, .ref a_t), (1, .int v1)]) hx hb (dd dX9_choose_p0 10 rfl) hl (by decide) rfl (fun ls hl => ?_)
  obtain ⟨ex, hw, h⟩ := bnd_ex h
  refine loopW (fun st => ∀ (H : Heap) (locs : List Loc) (ls : Array Slot), WD g s A (w_X9_choose g a_t a_land a_plan a_planner a_rows a_slants a_turns a_ways a_land_kinds a_land_nears a_plan_numbers a_planner_rests a_rows_alongs a_rows_ends a_rows_numbers a_rows_sorted a_rows_spare a_rows_squares a_rows_starts a_rows_strips a_rows_tally a_slants_firsts a_slants_seconds a_turns_known a_turns_lengths a_ways_lengths a_ways_slantwises a_ways_straights a_rings a_reaper a_land_depths c_land_laid c_land_head c_land_fieldCount c_land_innerCount (st.1) (st.2.1) (st.2.2.1) (st.2.2.2.1) c_slants_size (st.2.2.2.2.1) (st.2.2.2.2.2.1) c_land_kinds c_land_nears (st.2.2.2.2.2.2.1) (st.2.2.2.2.2.2.2.1) (st.2.2.2.2.2.2.2.2.1) (st.2.2.2.2.2.2.2.2.2.1) (st.2.2.2.2.2.2.2.2.2.2.1) (st.2.2.2.2.2.2.2.2.2.2.2.1) (st.2.2.2.2.2.2.2.2.2.2.2.2.1) (st.2.2.2.2.2.2.2.2.2.2.2.2.2.1) (st.2.2.2.2.2.2.2.2.2.2.2.2.2.2.1) (st.2.2.2.2.2.2.2.2.2.2.2.2.2.2.2.1) (st.2.2.2.2.2.2.2.2.2.2.2.2.2.2.2.2.1) c_slants_firsts c_slants_seconds (st.2.2.2.2.2.2.2.2.2.2.2.2.2.2.2.2.2.1) (st.2.2.2.2.2.2.2.2.2.2.2.2.2.2.2.2.2.2.1) (st.2.2.2.2.2.2.2.2.2.2.2.2.2.2.2.2.2.2.2.1) (st.2.2.2.2.2.2.2.2.2.2.2.2.2.2.2.2.2.2.2.2.1) (st.2.2.2.2.2.2.2.2.2.2.2.2.2.2.2.2.2.2.2.2.2.1)) H locs → lv_has ls 6 [(0, .ref a_t), (1, .int v1), (2, .int (st.2.2.2.2.2.2.2.2.2.2.2.2.2.2.2.2.2.2.2.2.2.2.1)), (3, .int (st.2.2.2.2.2.2.2.2.2.2.2.2.2.2.2.2.2.2.2.2.2.2.2.1)), (4, .int (st.2.2.2.2.2.2.2.2.2.2.2.2.2.2.2.2.2.2.2.2.2.2.2.2))] → W p l e (rm9 7 142) s m args below meth c H locs 0 0 Q (F0 m 16 ls [])) (fun (ex : (Int32 × Int32 × Int32 × Int32 × Int32 × Int32 × Ar × Ar × Ar × Ar × Ar × Ar × Ar × Ar × Ar × Ar × Ar × Ar × Ar × Ar × Ar × Ar × Int32)) => ∀ (H : Heap) (locs : List Loc) (ls : Array Slot), WD g s A (w_X9_choose g a_t a_land a_plan a_planner a_rows a_slants a_turns a_ways a_land_kinds a_land_nears a_plan_numbers a_planner_rests a_rows_alongs a_rows_ends a_rows_numbers a_rows_sorted a_rows_spare a_rows_squares a_rows_starts a_rows_strips a_rows_tally a_slants_firsts a_slants_seconds a_turns_known a_turns_lengths a_ways_lengths a_ways_slantwises a_ways_straights a_rings a_reaper a_land_depths c_land_laid c_land_head c_land_fieldCount c_land_innerCount (ex.1) (ex.2.1) (ex.2.2.1) (ex.2.2.2.1) c_slants_size (ex.2.2.2.2.1) (ex.2.2.2.2.2.1) c_land_kinds c_land_nears (ex.2.2.2.2.2.2.1) (ex.2.2.2.2.2.2.2.1) (ex.2.2.2.2.2.2.2.2.1) (ex.2.2.2.2.2.2.2.2.2.1) (ex.2.2.2.2.2.2.2.2.2.2.1) (ex.2.2.2.2.2.2.2.2.2.2.2.1) (ex.2.2.2.2.2.2.2.2.2.2.2.2.1) (ex.2.2.2.2.2.2.2.2.2.2.2.2.2.1) (ex.2.2.2.2.2.2.2.2.2.2.2.2.2.2.1) (ex.2.2.2.2.2.2.2.2.2.2.2.2.2.2.2.1) (ex.2.2.2.2.2.2.2.2.2.2.2.2.2.2.2.2.1) c_slants_firsts c_slants_seconds (ex.2.2.2.2.2.2.2.2.2.2.2.2.2.2.2.2.2.1) (ex.2.2.2.2.2.2.2.2.2.2.2.2.2.2.2.2.2.2.1) (ex.2.2.2.2.2.2.2.2.2.2.2.2.2.2.2.2.2.2.2.1) (ex.2.2.2.2.2.2.2.2.2.2.2.2.2.2.2.2.2.2.2.2.1) (ex.2.2.2.2.2.2.2.2.2.2.2.2.2.2.2.2.2.2.2.2.2.1)) H locs → lv_has ls 6 [(0, .ref a_t), (1, .int v1), (2, .int (ex.2.2.2.2.2.2.2.2.2.2.2.2.2.2.2.2.2.2.2.2.2.2))] → W p l e (rm9 7 142) s m args below meth c H locs 0 0 Q (F0 m 82 ls [])) ?_ hw ?_ H locs ls hW (lv_sub hl [3, 4, 2, 1, 0] rfl)
  · rintro ⟨c_plan_there, c_plan_size, c_rows_there, c_rows_size, c_ways_straightSize, c_ways_slantwiseSize, c_plan_numbers, c_planner_rests, c_rows_alongs, c_rows_ends, c_rows_numbers, c_rows_sorted, c_rows_spare, c_rows_squares, c_rows_starts, c_rows_strips, c_rows_tally, c_turns_known, c_turns_lengths, c_ways_lengths, c_ways_slantwises, c_ways_straights, v2, v3, v4⟩ o hb9 hk H locs ls hW hl
    have h : X9_choose_L16 c_land_innerCount c_slants_size c_land_kinds c_land_nears c_slants_firsts c_slants_seconds v1 c_plan_there c_plan_size c_rows_there c_rows_size c_ways_straightSize c_ways_slantwiseSize c_plan_numbers c_planner_rests c_rows_alongs c_rows_ends c_rows_numbers c_rows_sorted c_rows_spare c_rows_squares c_rows_starts c_rows_strips c_rows_tally c_turns_known c_turns_lengths c_ways_lengths c_ways_slantwises c_ways_straights v2 v3 v4 = some o := hb9
    clear hb9
    unfold X9_choose_L16 at h
    have J76 : ∀ (c_plan_there c_plan_size c_rows_there c_rows_size c_ways_straightSize c_ways_slantwiseSize : Int32) (c_plan_numbers c_planner_rests c_rows_alongs c_rows_ends c_rows_numbers c_rows_sorted c_rows_spare c_rows_squares c_rows_starts c_rows_strips c_rows_tally c_turns_known c_turns_lengths c_ways_lengths c_ways_slantwises c_ways_straights : Ar) (v2 v3 v4 : Int32) (H : Heap) (locs : List Loc) (ls : Array Slot), X9_choose_b16_76 c_plan_there c_plan_size c_rows_there c_rows_size c_ways_straightSize c_ways_slantwiseSize c_plan_numbers c_planner_rests c_rows_alongs c_rows_ends c_rows_numbers c_rows_sorted c_rows_spare c_rows_squares c_rows_starts c_rows_strips c_rows_tally c_turns_known c_turns_lengths c_ways_lengths c_ways_slantwises c_ways_straights v1 v2 v3 v4 = some o → WD g s A (w_X9_choose g a_t a_land a_plan a_planner a_rows a_slants a_turns a_ways a_land_kinds a_land_nears a_plan_numbers a_planner_rests a_rows_alongs a_rows_ends a_rows_numbers a_rows_sorted a_rows_spare a_rows_squares a_rows_starts a_rows_strips a_rows_tally a_slants_firsts a_slants_seconds a_turns_known a_turns_lengths a_ways_lengths a_ways_slantwises a_ways_straights a_rings a_reaper a_land_depths c_land_laid c_land_head c_land_fieldCount c_land_innerCount c_plan_there c_plan_size c_rows_there c_rows_size c_slants_size c_ways_straightSize c_ways_slantwiseSize c_land_kinds c_land_nears c_plan_numbers c_planner_rests c_rows_alongs c_rows_ends c_rows_numbers c_rows_sorted c_rows_spare c_rows_squares c_rows_starts c_rows_strips c_rows_tally c_slants_firsts c_slants_seconds c_turns_known c_turns_lengths c_ways_lengths c_ways_slantwises c_ways_straights) H locs → lv_has ls 6 [(0, .ref a_t), (1, .int v1), (2, .int v2), (3, .int v3), (4, .int v4)] → W p l e (rm9 7 142) s m args below meth c H locs 0 0 Q (F0 m 76 ls []) := by
      intro c_plan_there c_plan_size c_rows_there c_rows_size c_ways_straightSize c_ways_slantwiseSize c_plan_numbers c_planner_rests c_rows_alongs c_rows_ends c_rows_numbers c_rows_sorted c_rows_spare c_rows_squares c_rows_starts c_rows_strips c_rows_tally c_turns_known c_turns_lengths c_ways_lengths c_ways_slantwises c_ways_straights v2 v3 v4 H locs ls h hW hl
      unfold X9_choose_b16_76 at h
      obtain ⟨v4_76, ev4_76, h⟩ := nm_ex h
      refine lv_iinc (pc := 76) (v := v4_76) (lv' := [(4, .int v4_76), (0, .ref a_t), (1, .int v1), (2, .int v2), (3, .int v3)]) hx hb (dd dX9_choose_p0 42 rfl) hl (k := 4) rfl (by rw [ev4_76]; rfl) (by decide) rfl (fun ls hl => ?_)
      refine lv_goto (pc := 79) (tgt := 16) hx hb (dd dX9_choose_p0 43 rfl) (by decide) ?_
      obtain rfl := Option.some.inj h
      exact hk _ _ _ hW (lv_sub hl [1, 2, 3, 4, 0] rfl)
    have J62 : ∀ (c_plan_there c_plan_size c_rows_there c_rows_size c_ways_straightSize c_ways_slantwiseSize : Int32) (c_plan_numbers c_planner_rests c_rows_alongs c_rows_ends c_rows_numbers c_rows_sorted c_rows_spare c_rows_squares c_rows_starts c_rows_strips c_rows_tally c_turns_known c_turns_lengths c_ways_lengths c_ways_slantwises c_ways_straights : Ar) (v4 v5 : Int32) (H : Heap) (locs : List Loc) (ls : Array Slot), X9_choose_b16_62 c_land_innerCount c_plan_there c_plan_size c_rows_there c_rows_size c_ways_straightSize c_ways_slantwiseSize c_plan_numbers c_planner_rests c_rows_alongs c_rows_ends c_rows_numbers c_rows_sorted c_rows_spare c_rows_squares c_rows_starts c_rows_strips c_rows_tally c_turns_known c_turns_lengths c_ways_lengths c_ways_slantwises c_ways_straights v1 v4 v5 = some o → WD g s A (w_X9_choose g a_t a_land a_plan a_planner a_rows a_slants a_turns a_ways a_land_kinds a_land_nears a_plan_numbers a_planner_rests a_rows_alongs a_rows_ends a_rows_numbers a_rows_sorted a_rows_spare a_rows_squares a_rows_starts a_rows_strips a_rows_tally a_slants_firsts a_slants_seconds a_turns_known a_turns_lengths a_ways_lengths a_ways_slantwises a_ways_straights a_rings a_reaper a_land_depths c_land_laid c_land_head c_land_fieldCount c_land_innerCount c_plan_there c_plan_size c_rows_there c_rows_size c_slants_size c_ways_straightSize c_ways_slantwiseSize c_land_kinds c_land_nears c_plan_numbers c_planner_rests c_rows_alongs c_rows_ends c_rows_numbers c_rows_sorted c_rows_spare c_rows_squares c_rows_starts c_rows_strips c_rows_tally c_slants_firsts c_slants_seconds c_turns_known c_turns_lengths c_ways_lengths c_ways_slantwises c_ways_straights) H locs → lv_has ls 6 [(0, .ref a_t), (1, .int v1), (4, .int v4), (5, .int v5)] → W p l e (rm9 7 142) s m args below meth c H locs 0 0 Q (F0 m 62 ls []) := by
      intro c_plan_there c_plan_size c_rows_there c_rows_size c_ways_straightSize c_ways_slantwiseSize c_plan_numbers c_planner_rests c_rows_alongs c_rows_ends c_rows_numbers c_rows_sorted c_rows_spare c_rows_squares c_rows_starts c_rows_strips c_rows_tally c_turns_known c_turns_lengths c_ways_lengths c_ways_slantwises c_ways_straights v4 v5 H locs ls h hW hl
      unfold X9_choose_b16_62 at h
      refine lv_iload (pc := 62) hx hb (dd dX9_choose_p0 34 rfl) (lv_at hl 2 rfl) ?_
      refine lv_istore_n (pc := 64) (lv' := [(2, .int v4), (0, .ref a_t), (1, .int v1), (4, .int v4), (5, .int v5)]) hx hb (dd dX9_choose_p0 35 rfl) rfl hl (by decide) rfl (fun ls hl => ?_)
      refine lv_aload_n (pc := 65) hx hb (dd dX9_choose_p0 36 rfl) rfl (lv_at hl 1 rfl) ?_
      refine rGet (pc := 66) M hW 0 1 iU9 rfl rfl (by decide) (uw2 51 rfl rfl) rfl (dd dX9_choose_p0 37 rfl) ?_
      refine rGet (pc := 69) M hW 1 6 iU0 rfl rfl (by decide) (uw1 90 rfl rfl) rfl (dd dX9_choose_p0 38 rfl) ?_
      refine lv_iload (pc := 72) hx hb (dd dX9_choose_p0 39 rfl) (lv_at hl 4 rfl) ?_
      refine lv_iadd (pc := 74) hx hb (dd dX9_choose_p0 40 rfl) ?_
      obtain ⟨v3_75, ev3_75, h⟩ := nm_ex h
      refine rTopi (pc := 75) ev3_75 ?_
      refine lv_istore_n (pc := 75) (lv' := [(3, .int v3_75), (2, .int v4), (0, .ref a_t), (1, .int v1), (4, .int v4), (5, .int v5)]) hx hb (dd dX9_choose_p0 41 rfl) rfl hl (by decide) rfl (fun ls hl => ?_)
      exact J76 _ _ _ _ _ _ _ _ _ _ _ _ _ _ _ _ _ _ _ _ _ _ _ _ _ _ _ _ h hW (lv_sub hl [2, 3, 1, 0, 4] rfl)
    refine lv_iload (pc := 16) hx hb (dd dX9_choose_p0 11 rfl) (lv_at hl 4 rfl) ?_
    refine lv_aload_n (pc := 18) hx hb (dd dX9_choose_p0 12 rfl) rfl (lv_at hl 0 rfl) ?_
    refine rGet (pc := 19) M hW 0 7 iU9 rfl rfl (by decide) (uw2 57 rfl rfl) rfl (dd dX9_choose_p0 13 rfl) ?_
    refine rGet (pc := 22) M hW 5 2 iU1 rfl rfl (by decide) (uw1 54 rfl rfl) rfl (dd dX9_choose_p0 14 rfl) ?_
    refine lv_icmp_ge (pc := 25) (tgt := 82) hx hb (dd dX9_choose_p0 15 rfl) (by decide) (fun hc => ?_) (fun hc => ?_)
    · have h := it_t hc h
      obtain rfl := Option.some.inj h
      exact hk _ _ _ hW (lv_sub hl [0, 1, 2] rfl)
    · have h := it_f hc h
      refine lv_aload_n (pc := 28) hx hb (dd dX9_choose_p0 16 rfl) rfl (lv_at hl 0 rfl) ?_
      refine lv_iload (pc := 29) hx hb (dd dX9_choose_p0 17 rfl) (lv_at hl 4 rfl) ?_
      refine lv_iload_n (pc := 31) hx hb (dd dX9_choose_p0 18 rfl) rfl (lv_at hl 1 rfl) ?_
      obtain ⟨⟨r_32, c_plan_there_32, c_plan_size_32, c_rows_there_32, c_rows_size_32, c_ways_straightSize_32, c_ways_slantwiseSize_32, c_plan_numbers_32, c_planner_rests_32, c_rows_alongs_32, c_rows_ends_32, c_rows_numbers_32, c_rows_sorted_32, c_rows_spare_32, c_rows_squares_32, c_rows_starts_32, c_rows_strips_32, c_rows_tally_32, c_turns_known_32, c_turns_lengths_32, c_ways_lengths_32, c_ways_slantwises_32, c_ways_straights_32⟩, hr, h⟩ := bnd_ex h
      have h := un23_at h
      refine callVI (pc := 32) (na := 2) (As := [.int v4, .int v1]) (rest := []) (ws2 := (w_X9_choose g a_t a_land a_plan a_planner a_rows a_slants a_turns a_ways a_land_kinds a_land_nears a_plan_numbers a_planner_rests a_rows_alongs a_rows_ends a_rows_numbers a_rows_sorted a_rows_spare a_rows_squares a_rows_starts a_rows_strips a_rows_tally a_slants_firsts a_slants_seconds a_turns_known a_turns_lengths a_ways_lengths a_ways_slantwises a_ways_straights a_rings a_reaper a_land_depths c_land_laid c_land_head c_land_fieldCount c_land_innerCount c_plan_there_32 c_plan_size_32 c_rows_there_32 c_rows_size_32 c_slants_size c_ways_straightSize_32 c_ways_slantwiseSize_32 c_land_kinds c_land_nears c_plan_numbers_32 c_planner_rests_32 c_rows_alongs_32 c_rows_ends_32 c_rows_numbers_32 c_rows_sorted_32 c_rows_spare_32 c_rows_squares_32 c_rows_starts_32 c_rows_strips_32 c_rows_tally_32 c_slants_firsts c_slants_seconds c_turns_known_32 c_turns_lengths_32 c_ways_lengths_32 c_ways_slantwises_32 c_ways_straights_32)) M hl.1 hW (t_X9_tryOut l g a_t a_land a_plan a_planner a_rows a_slants a_turns a_ways a_land_kinds a_land_nears a_plan_numbers a_planner_rests a_rows_alongs a_rows_ends a_rows_numbers a_rows_sorted a_rows_spare a_rows_squares a_rows_starts a_rows_strips a_rows_tally a_slants_firsts a_slants_seconds a_turns_known a_turns_lengths a_ways_lengths a_ways_slantwises a_ways_straights a_rings a_reaper a_land_depths c_land_laid c_land_head c_land_fieldCount c_land_innerCount c_plan_there c_plan_size c_rows_there c_rows_size c_slants_size c_ways_straightSize c_ways_slantwiseSize c_land_kinds c_land_nears c_plan_numbers c_planner_rests c_rows_alongs c_rows_ends c_rows_numbers c_rows_sorted c_rows_spare c_rows_squares c_rows_starts c_rows_strips c_rows_tally c_slants_firsts c_slants_seconds c_turns_known c_turns_lengths c_ways_lengths c_ways_slantwises c_ways_straights v4 v1 r_32 c_plan_there_32 c_plan_size_32 c_rows_there_32 c_rows_size_32 c_ways_straightSize_32 c_ways_slantwiseSize_32 c_plan_numbers_32 c_planner_rests_32 c_rows_alongs_32 c_rows_ends_32 c_rows_numbers_32 c_rows_sorted_32 c_rows_spare_32 c_rows_squares_32 c_rows_starts_32 c_rows_strips_32 c_rows_tally_32 c_turns_known_32 c_turns_lengths_32 c_ways_lengths_32 c_ways_slantwises_32 c_ways_straights_32 hr) rfl [0, 1, 2, 3, 4, 5, 6, 7, 8, 9, 10, 11, 12, 13, 14, 15, 16, 17, 18, 19, 20, 21, 22, 23, 24, 25, 26, 27] [] [0, 1, 2, 3, 4, 5, 6, 7, 8, 9, 10, 11, 12, 13, 14, 15, 16, 17, 18, 19, 20, 21, 22, 23, 24, 25, 26, 27] rfl rfl rfl rfl rfl rfl rfl 0 9 rfl rfl rfl (uw4 136 rfl rfl) (uw4 133 rfl rfl) (uw4 135 rfl rfl) (uwp 36 rfl rfl) (uw1 1 rfl rfl) ⟨by decide, by decide, by decide⟩ rfl ⟨by decide, by decide⟩ (Nat.le_of_ble_eq_true rfl) ⟨Nat.zero_le _, Nat.zero_le _⟩ (dd dX9_choose_p0 19 rfl) (fun H locs hW => ?_)
      refine lv_istore (pc := 35) (lv' := [(5, .int r_32), (0, .ref a_t), (1, .int v1), (2, .int v2), (3, .int v3), (4, .int v4)]) hx hb (dd dX9_choose_p0 20 rfl) hl (by decide) rfl (fun ls hl => ?_)
      refine lv_iload (pc := 37) hx hb (dd dX9_choose_p0 21 rfl) (lv_at hl 0 rfl) ?_
      refine lv_iconst (pc := 39) (v := (-1)) hx hb (dd dX9_choose_p0 22 rfl) (by decide) ?_
      refine lv_icmp_eq (pc := 40) (tgt := 76) hx hb (dd dX9_choose_p0 23 rfl) (by decide) (fun hc => ?_) (fun hc => ?_)
      · have h := it_t hc h
        exact J76 _ _ _ _ _ _ _ _ _ _ _ _ _ _ _ _ _ _ _ _ _ _ _ _ _ _ _ _ h hW (lv_sub hl [1, 2, 3, 4, 5] rfl)
      · have h := it_f hc h
        refine lv_iload_n (pc := 43) hx hb (dd dX9_choose_p0 24 rfl) rfl (lv_at hl 3 rfl) ?_
        refine lv_iconst (pc := 44) (v := (-1)) hx hb (dd dX9_choose_p0 25 rfl) (by decide) ?_
        refine lv_icmp_eq (pc := 45) (tgt := 62) hx hb (dd dX9_choose_p0 26 rfl) (by decide) (fun hc => ?_) (fun hc => ?_)
        · have h := it_t hc h
          exact J62 _ _ _ _ _ _ _ _ _ _ _ _ _ _ _ _ _ _ _ _ _ _ _ _ _ _ _ h hW (lv_sub hl [1, 2, 5, 0] rfl)
        · have h := it_f hc h
          refine lv_aload_n (pc := 48) hx hb (dd dX9_choose_p0 27 rfl) rfl (lv_at hl 1 rfl) ?_
          refine rGet (pc := 49) M hW 0 1 iU9 rfl rfl (by decide) (uw2 51 rfl rfl) rfl (dd dX9_choose_p0 28 rfl) ?_
          refine rGet (pc := 52) M hW 1 6 iU0 rfl rfl (by decide) (uw1 90 rfl rfl) rfl (dd dX9_choose_p0 29 rfl) ?_
          refine lv_iload (pc := 55) hx hb (dd dX9_choose_p0 30 rfl) (lv_at hl 0 rfl) ?_
          refine lv_iadd (pc := 57) hx hb (dd dX9_choose_p0 31 rfl) ?_
          refine lv_iload_n (pc := 58) hx hb (dd dX9_choose_p0 32 rfl) rfl (lv_at hl 4 rfl) ?_
          refine lv_icmp_ge (pc := 59) (tgt := 76) hx hb (dd dX9_choose_p0 33 rfl) (by decide) (fun hc => ?_) (fun hc => ?_)
          · have h := it_t hc h
            exact J76 _ _ _ _ _ _ _ _ _ _ _ _ _ _ _ _ _ _ _ _ _ _ _ _ _ _ _ _ h hW (lv_sub hl [1, 2, 3, 4, 5] rfl)
          · have h := it_f hc h
            exact J62 _ _ _ _ _ _ _ _ _ _ _ _ _ _ _ _ _ _ _ _ _ _ _ _ _ _ _ h hW (lv_sub hl [1, 2, 5, 0] rfl)
  · obtain ⟨c_plan_there_82, c_plan_size_82, c_rows_there_82, c_rows_size_82, c_ways_straightSize_82, c_ways_slantwiseSize_82, c_plan_numbers_82, c_planner_rests_82, c_rows_alongs_82, c_rows_ends_82, c_rows_numbers_82, c_rows_sorted_82, c_rows_spare_82, c_rows_squares_82, c_rows_starts_82, c_rows_strips_82, c_rows_tally_82, c_turns_known_82, c_turns_lengths_82, c_ways_lengths_82, c_ways_slantwises_82, c_ways_straights_82, v2_82⟩ := ex
    have h := un23_at h
    intro H locs ls hW hl
    refine lv_iload_n (pc := 82) hx hb (dd dX9_choose_p0 44 rfl) rfl (lv_at hl 2 rfl) ?_
    refine lv_iconst (pc := 83) (v := (-1)) hx hb (dd dX9_choose_p0 45 rfl) (by decide) ?_
    refine lv_icmp_ne (pc := 84) (tgt := 94) hx hb (dd dX9_choose_p0 46 rfl) (by decide) (fun hc => ?_) (fun hc => ?_)
    · have h := it_f hc h
      refine lv_iload_n (pc := 94) hx hb (dd dX9_choose_p0 50 rfl) rfl (lv_at hl 2 rfl) ?_
      refine lv_aload_n (pc := 95) hx hb (dd dX9_choose_p0 51 rfl) rfl (lv_at hl 0 rfl) ?_
      refine rGet (pc := 96) M hW 0 7 iU9 rfl rfl (by decide) (uw2 57 rfl rfl) rfl (dd dX9_choose_p0 52 rfl) ?_
      refine rGet (pc := 99) M hW 5 2 iU1 rfl rfl (by decide) (uw1 54 rfl rfl) rfl (dd dX9_choose_p0 53 rfl) ?_
      refine lv_iconst (pc := 102) (v := 1) hx hb (dd dX9_choose_p0 54 rfl) (by decide) ?_
      refine lv_isub (pc := 103) hx hb (dd dX9_choose_p0 55 rfl) ?_
      refine lv_icmp_eq (pc := 104) (tgt := 114) hx hb (dd dX9_choose_p0 56 rfl) (by decide) (fun hc => ?_) (fun hc => ?_)
      · have h := it_t hc h
        refine lv_iload_n (pc := 114) hx hb (dd dX9_choose_p1 2 rfl) rfl (lv_at hl 2 rfl) ?_
        have hW9 := hW
        cases h
        exact ret _ _ _ 115 hW9 rfl (dd dX9_choose_p1 3 rfl)
      · have h := it_f hc h
        refine lv_aload_n (pc := 107) hx hb (dd dX9_choose_p0 57 rfl) rfl (lv_at hl 0 rfl) ?_
        refine lv_iload_n (pc := 108) hx hb (dd dX9_choose_p0 58 rfl) rfl (lv_at hl 2 rfl) ?_
        refine lv_iload_n (pc := 109) hx hb (dd dX9_choose_p0 59 rfl) rfl (lv_at hl 1 rfl) ?_
        obtain ⟨⟨r_110, c_plan_there_110, c_plan_size_110, c_rows_there_110, c_rows_size_110, c_ways_straightSize_110, c_ways_slantwiseSize_110, c_plan_numbers_110, c_planner_rests_110, c_rows_alongs_110, c_rows_ends_110, c_rows_numbers_110, c_rows_sorted_110, c_rows_spare_110, c_rows_squares_110, c_rows_starts_110, c_rows_strips_110, c_rows_tally_110, c_turns_known_110, c_turns_lengths_110, c_ways_lengths_110, c_ways_slantwises_110, c_ways_straights_110⟩, hr, h⟩ := bnd_ex h
        have h := un23_at h
        refine callVI (pc := 110) (na := 2) (As := [.int v2_82, .int v1]) (rest := []) (ws2 := (w_X9_choose g a_t a_land a_plan a_planner a_rows a_slants a_turns a_ways a_land_kinds a_land_nears a_plan_numbers a_planner_rests a_rows_alongs a_rows_ends a_rows_numbers a_rows_sorted a_rows_spare a_rows_squares a_rows_starts a_rows_strips a_rows_tally a_slants_firsts a_slants_seconds a_turns_known a_turns_lengths a_ways_lengths a_ways_slantwises a_ways_straights a_rings a_reaper a_land_depths c_land_laid c_land_head c_land_fieldCount c_land_innerCount c_plan_there_110 c_plan_size_110 c_rows_there_110 c_rows_size_110 c_slants_size c_ways_straightSize_110 c_ways_slantwiseSize_110 c_land_kinds c_land_nears c_plan_numbers_110 c_planner_rests_110 c_rows_alongs_110 c_rows_ends_110 c_rows_numbers_110 c_rows_sorted_110 c_rows_spare_110 c_rows_squares_110 c_rows_starts_110 c_rows_strips_110 c_rows_tally_110 c_slants_firsts c_slants_seconds c_turns_known_110 c_turns_lengths_110 c_ways_lengths_110 c_ways_slantwises_110 c_ways_straights_110)) M hl.1 hW (t_X9_tryOut l g a_t a_land a_plan a_planner a_rows a_slants a_turns a_ways a_land_kinds a_land_nears a_plan_numbers a_planner_rests a_rows_alongs a_rows_ends a_rows_numbers a_rows_sorted a_rows_spare a_rows_squares a_rows_starts a_rows_strips a_rows_tally a_slants_firsts a_slants_seconds a_turns_known a_turns_lengths a_ways_lengths a_ways_slantwises a_ways_straights a_rings a_reaper a_land_depths c_land_laid c_land_head c_land_fieldCount c_land_innerCount c_plan_there_82 c_plan_size_82 c_rows_there_82 c_rows_size_82 c_slants_size c_ways_straightSize_82 c_ways_slantwiseSize_82 c_land_kinds c_land_nears c_plan_numbers_82 c_planner_rests_82 c_rows_alongs_82 c_rows_ends_82 c_rows_numbers_82 c_rows_sorted_82 c_rows_spare_82 c_rows_squares_82 c_rows_starts_82 c_rows_strips_82 c_rows_tally_82 c_slants_firsts c_slants_seconds c_turns_known_82 c_turns_lengths_82 c_ways_lengths_82 c_ways_slantwises_82 c_ways_straights_82 v2_82 v1 r_110 c_plan_there_110 c_plan_size_110 c_rows_there_110 c_rows_size_110 c_ways_straightSize_110 c_ways_slantwiseSize_110 c_plan_numbers_110 c_planner_rests_110 c_rows_alongs_110 c_rows_ends_110 c_rows_numbers_110 c_rows_sorted_110 c_rows_spare_110 c_rows_squares_110 c_rows_starts_110 c_rows_strips_110 c_rows_tally_110 c_turns_known_110 c_turns_lengths_110 c_ways_lengths_110 c_ways_slantwises_110 c_ways_straights_110 hr) rfl [0, 1, 2, 3, 4, 5, 6, 7, 8, 9, 10, 11, 12, 13, 14, 15, 16, 17, 18, 19, 20, 21, 22, 23, 24, 25, 26, 27] [] [0, 1, 2, 3, 4, 5, 6, 7, 8, 9, 10, 11, 12, 13, 14, 15, 16, 17, 18, 19, 20, 21, 22, 23, 24, 25, 26, 27] rfl rfl rfl rfl rfl rfl rfl 0 9 rfl rfl rfl (uw4 136 rfl rfl) (uw4 133 rfl rfl) (uw4 135 rfl rfl) (uwp 36 rfl rfl) (uw1 1 rfl rfl) ⟨by decide, by decide, by decide⟩ rfl ⟨by decide, by decide⟩ (Nat.le_of_ble_eq_true rfl) ⟨Nat.zero_le _, Nat.zero_le _⟩ (dd dX9_choose_p1 0 rfl) (fun H locs hW => ?_)
        refine lv_pop (pc := 113) hx hb (dd dX9_choose_p1 1 rfl) rfl ?_
        refine lv_iload_n (pc := 114) hx hb (dd dX9_choose_p1 2 rfl) rfl (lv_at hl 2 rfl) ?_
        have hW9 := hW
        cases h
        exact ret _ _ _ 115 hW9 rfl (dd dX9_choose_p1 3 rfl)
    · have h := it_t hc h
      refine lv_aload_n (pc := 87) hx hb (dd dX9_choose_p0 47 rfl) rfl (lv_at hl 0 rfl) ?_
      obtain ⟨⟨c_plan_there_88, c_plan_size_88, c_rows_there_88, c_rows_size_88, c_turns_known_88⟩, hr, h⟩ := bnd_ex h
      have h := un5_at h
      refine callVV (pc := 88) (na := 0) (As := []) (rest := []) (ws2 := (w_X9_choose g a_t a_land a_plan a_planner a_rows a_slants a_turns a_ways a_land_kinds a_land_nears a_plan_numbers a_planner_rests a_rows_alongs a_rows_ends a_rows_numbers a_rows_sorted a_rows_spare a_rows_squares a_rows_starts a_rows_strips a_rows_tally a_slants_firsts a_slants_seconds a_turns_known a_turns_lengths a_ways_lengths a_ways_slantwises a_ways_straights a_rings a_reaper a_land_depths c_land_laid c_land_head c_land_fieldCount c_land_innerCount c_plan_there_88 c_plan_size_88 c_rows_there_88 c_rows_size_88 c_slants_size c_ways_straightSize_82 c_ways_slantwiseSize_82 c_land_kinds c_land_nears c_plan_numbers_82 c_planner_rests_82 c_rows_alongs_82 c_rows_ends_82 c_rows_numbers_82 c_rows_sorted_82 c_rows_spare_82 c_rows_squares_82 c_rows_starts_82 c_rows_strips_82 c_rows_tally_82 c_slants_firsts c_slants_seconds c_turns_known_88 c_turns_lengths_82 c_ways_lengths_82 c_ways_slantwises_82 c_ways_straights_82)) M hl.1 hW (t_X9_forgetRows l g a_t a_plan a_rows a_turns a_turns_known a_rings a_land a_ways a_planner a_slants a_reaper a_plan_numbers a_rows_strips a_rows_alongs a_rows_numbers a_rows_sorted a_rows_spare a_rows_tally a_rows_squares a_rows_starts a_rows_ends a_turns_lengths c_plan_there_82 c_plan_size_82 c_rows_there_82 c_rows_size_82 c_turns_known_82 c_plan_there_88 c_plan_size_88 c_rows_there_88 c_rows_size_88 c_turns_known_88 hr) rfl [0, 2, 4, 6, 23] [1, 3, 5, 7, 8, 9, 10, 11, 12, 13, 14, 15, 16, 17, 18, 19, 20, 21, 22, 24, 25, 26, 27] [23, 0, 24, 1, 25, 2, 26, 3, 4, 5, 6, 7, 8, 9, 10, 11, 12, 13, 14, 15, 16, 17, 18, 27, 19, 20, 21, 22] rfl rfl rfl rfl rfl rfl rfl 0 9 rfl rfl rfl (uw2 237 rfl rfl) (uw2 234 rfl rfl) (uw2 236 rfl rfl) (uwp 3 rfl rfl) (uw1 1 rfl rfl) ⟨by decide, by decide, by decide⟩ rfl ⟨by decide, by decide⟩ (Nat.le_of_ble_eq_true rfl) ⟨Nat.zero_le _, Nat.zero_le _⟩ (dd dX9_choose_p0 48 rfl) (fun H locs hW => ?_)
      refine lv_goto (pc := 91) (tgt := 114) hx hb (dd dX9_choose_p0 49 rfl) (by decide) ?_
      refine lv_iload_n (pc := 114) hx hb (dd dX9_choose_p1 2 rfl) rfl (lv_at hl 2 rfl) ?_
      have hW9 := hW
      cases h
      exact ret _ _ _ 115 hW9 rfl (dd dX9_choose_p1 3 rfl)
set_option maxHeartbeats 4000000 in
set_option maxRecDepth 100000 in
theorem x_X9_choose (l : Launch) (hl9 : l.stackTraces = false) (g : G9) (a_t a_land a_plan a_planner a_rows a_slants a_turns a_ways a_land_kinds a_land_nears a_plan_numbers a_planner_rests a_rows_alongs a_rows_ends a_rows_numbers a_rows_sorted a_rows_spare a_rows_squares a_rows_starts a_rows_strips a_rows_tally a_slants_firsts a_slants_seconds a_turns_known a_turns_lengths a_ways_lengths a_ways_slantwises a_ways_straights a_rings a_reaper a_land_depths : Nat) (c_land_laid c_land_head c_land_fieldCount c_land_innerCount c_plan_there c_plan_size c_rows_there c_rows_size c_slants_size c_ways_straightSize c_ways_slantwiseSize : Int32) (c_land_kinds c_land_nears c_plan_numbers c_planner_rests c_rows_alongs c_rows_ends c_rows_numbers c_rows_sorted c_rows_spare c_rows_squares c_rows_starts c_rows_strips c_rows_tally c_slants_firsts c_slants_seconds c_turns_known c_turns_lengths c_ways_lengths c_ways_slantwises c_ways_straights : Ar) (v1 : Int32) (k0 : Nat) (h : X9_choose c_land_laid c_land_innerCount c_plan_there c_plan_size c_rows_there c_rows_size c_slants_size c_ways_straightSize c_ways_slantwiseSize c_land_kinds c_land_nears c_plan_numbers c_planner_rests c_rows_alongs c_rows_ends c_rows_numbers c_rows_sorted c_rows_spare c_rows_squares c_rows_starts c_rows_strips c_rows_tally c_slants_firsts c_slants_seconds c_turns_known c_turns_lengths c_ways_lengths c_ways_slantwises c_ways_straights v1 = some (.inl k0)) : CtX QnI l g yX9_choose cX9_choose 6 (some .int) 7 142 [.ref a_t, .int v1] (w_X9_choose g a_t a_land a_plan a_planner a_rows a_slants a_turns a_ways a_land_kinds a_land_nears a_plan_numbers a_planner_rests a_rows_alongs a_rows_ends a_rows_numbers a_rows_sorted a_rows_spare a_rows_squares a_rows_starts a_rows_strips a_rows_tally a_slants_firsts a_slants_seconds a_turns_known a_turns_lengths a_ways_lengths a_ways_slantwises a_ways_straights a_rings a_reaper a_land_depths c_land_laid c_land_head c_land_fieldCount c_land_innerCount c_plan_there c_plan_size c_rows_there c_rows_size c_slants_size c_ways_straightSize c_ways_slantwiseSize c_land_kinds c_land_nears c_plan_numbers c_planner_rests c_rows_alongs c_rows_ends c_rows_numbers c_rows_sorted c_rows_spare c_rows_squares c_rows_starts c_rows_strips c_rows_tally c_slants_firsts c_slants_seconds c_turns_known c_turns_lengths c_ways_lengths c_ways_slantwises c_ways_straights) (excN k0) := by
  refine startX (by decide) (Nat.le_of_ble_eq_true rfl) ?_
  intro p e s m below meth c A Q ls args M hW hl hlk hex hA9 hQ
  have hx := M.1
  have hb := M.2.1
  have hown := M.2.2.2.1
  have hu := M.2.2.2.2.1
  have hl : lv_has ls 6 [(0, .ref a_t), (1, .int v1)] := hl
  unfold X9_choose at h
  obtain ⟨H, eH⟩ : ∃ z, z = s.heap := ⟨_, rfl⟩
  obtain ⟨locs, eL⟩ : ∃ z, z = ([] : List Loc) := ⟨_, rfl⟩
  rw [← eL] at hW ⊢
  suffices hS9 : WD g s A (w_X9_choose g a_t a_land a_plan a_planner a_rows a_slants a_turns a_ways a_land_kinds a_land_nears a_plan_numbers a_planner_rests a_rows_alongs a_rows_ends a_rows_numbers a_rows_sorted a_rows_spare a_rows_squares a_rows_starts a_rows_strips a_rows_tally a_slants_firsts a_slants_seconds a_turns_known a_turns_lengths a_ways_lengths a_ways_slantwises a_ways_straights a_rings a_reaper a_land_depths c_land_laid c_land_head c_land_fieldCount c_land_innerCount c_plan_there c_plan_size c_rows_there c_rows_size c_slants_size c_ways_straightSize c_ways_slantwiseSize c_land_kinds c_land_nears c_plan_numbers c_planner_rests c_rows_alongs c_rows_ends c_rows_numbers c_rows_sorted c_rows_spare c_rows_squares c_rows_starts c_rows_strips c_rows_tally c_slants_firsts c_slants_seconds c_turns_known c_turns_lengths c_ways_lengths c_ways_slantwises c_ways_straights) H locs → W p l e (rm9x 7 142) s m args below meth c H locs 0 0 Q (F0 m 0 ls []) by
    rw [← eH] at hW ⊢
    exact hS9 hW
  clear hW eL
  intro hW
  refine lv_aload_n (pc := 0) hx hb (dd dX9_choose_p0 0 rfl) rfl (lv_at hl 0 rfl) ?_
  obtain ⟨ex9, hr, h⟩ := bnd_ex h
  rcases ex9 with x9 | u9
  · have h := sE_l h
    have hW9 := hW
    cases h
    exact callXV (pc := 1) (na := 0) (As := []) (rest := []) M hl.1 hW9 hlk hex hA9 hQ (x_X9_needLaid l hl9 g a_t a_land a_rings a_ways a_rows a_turns a_plan a_planner a_slants a_reaper a_land_kinds a_land_nears a_land_depths c_land_laid c_land_head c_land_fieldCount c_land_innerCount _ hr) rfl [0, 1] [2, 3, 4, 5, 6, 7, 8, 9, 10, 11, 12, 13, 14, 15, 16, 17, 18, 19, 20, 21, 22, 23, 24, 25, 26, 27] [26, 27, 0, 1, 2, 3, 4, 5, 6, 7, 8, 9, 10, 11, 12, 13, 14, 15, 16, 17, 18, 19, 20, 21, 22, 23, 24, 25] rfl rfl rfl rfl rfl rfl rfl 0 9 rfl rfl rfl (uw3 114 rfl rfl) (uw3 111 rfl rfl) (uw3 113 rfl rfl) (uwp 14 rfl rfl) (uw1 1 rfl rfl) ⟨by decide, by decide, by decide⟩ rfl ⟨by decide, by decide⟩ (Nat.le_of_ble_eq_true rfl)  ⟨by decide, by decide⟩ (dd dX9_choose_p0 1 rfl)
  have h := sE_r h
  refine callVV (pc := 1) (na := 0) (As := []) (rest := []) (ws2 := (w_X9_choose g a_t a_land a_plan a_planner a_rows a_slants a_turns a_ways a_land_kinds a_land_nears a_plan_numbers a_planner_rests a_rows_alongs a_rows_ends a_rows_numbers a_rows_sorted a_rows_spare a_rows_squares a_rows_starts a_rows_strips a_rows_tally a_slants_firsts a_slants_seconds a_turns_known a_turns_lengths a_ways_lengths a_ways_slantwises a_ways_straights a_rings a_reaper a_land_depths c_land_laid c_land_head c_land_fieldCount c_land_innerCount c_plan_there c_plan_size c_rows_there c_rows_size c_slants_size c_ways_straightSize c_ways_slantwiseSize c_land_kinds c_land_nears c_plan_numbers c_planner_rests c_rows_alongs c_rows_ends c_rows_numbers c_rows_sorted c_rows_spare c_rows_squares c_rows_starts c_rows_strips c_rows_tally c_slants_firsts c_slants_seconds c_turns_known c_turns_lengths c_ways_lengths c_ways_slantwises c_ways_straights)) M hl.1 hW (t_X9_needLaid l g a_t a_land a_rings a_ways a_rows a_turns a_plan a_planner a_slants a_reaper a_land_kinds a_land_nears a_land_depths c_land_laid c_land_head c_land_fieldCount c_land_innerCount hr) rfl [0, 1] [2, 3, 4, 5, 6, 7, 8, 9, 10, 11, 12, 13, 14, 15, 16, 17, 18, 19, 20, 21, 22, 23, 24, 25, 26, 27] [26, 27, 0, 1, 2, 3, 4, 5, 6, 7, 8, 9, 10, 11, 12, 13, 14, 15, 16, 17, 18, 19, 20, 21, 22, 23, 24, 25] rfl rfl rfl rfl rfl rfl rfl 0 9 rfl rfl rfl (uw3 114 rfl rfl) (uw3 111 rfl rfl) (uw3 113 rfl rfl) (uwp 14 rfl rfl) (uw1 1 rfl rfl) ⟨by decide, by decide, by decide⟩ rfl ⟨by decide, by decide⟩ (Nat.le_of_ble_eq_true rfl)  ⟨Nat.zero_le _, Nat.zero_le _⟩ (dd dX9_choose_p0 1 rfl) (fun H locs hW => ?_)
  refine lv_aload_n (pc := 4) hx hb (dd dX9_choose_p0 2 rfl) rfl (lv_at hl 0 rfl) ?_
  refine lv_iload_n (pc := 5) hx hb (dd dX9_choose_p0 3 rfl) rfl (lv_at hl 1 rfl) ?_
  obtain ⟨ex9, hr, h⟩ := bnd_ex h
  rcases ex9 with x9 | u9
  · have h := sE_l h
    have hW9 := hW
    cases h
    exact callXV (pc := 6) (na := 1) (As := [.int v1]) (rest := []) M hl.1 hW9 hlk hex hA9 hQ (x_X9_needWidth l hl9 g a_t a_rings a_land a_ways a_rows a_turns a_plan a_planner a_slants a_reaper v1 _ hr) rfl [0] [1, 2, 3, 4, 5, 6, 7, 8, 9, 10, 11, 12, 13, 14, 15, 16, 17, 18, 19, 20, 21, 22, 23, 24, 25, 26, 27] [27, 0, 1, 2, 3, 4, 5, 6, 7, 8, 9, 10, 11, 12, 13, 14, 15, 16, 17, 18, 19, 20, 21, 22, 23, 24, 25, 26] rfl rfl rfl rfl rfl rfl rfl 0 9 rfl rfl rfl (uw3 144 rfl rfl) (uw3 141 rfl rfl) (uw3 143 rfl rfl) (uwp 15 rfl rfl) (uw1 1 rfl rfl) ⟨by decide, by decide, by decide⟩ rfl ⟨by decide, by decide⟩ (Nat.le_of_ble_eq_true rfl)  ⟨by decide, by decide⟩ (dd dX9_choose_p0 4 rfl)
  have h := sE_r h
  refine callVV (pc := 6) (na := 1) (As := [.int v1]) (rest := []) (ws2 := (w_X9_choose g a_t a_land a_plan a_planner a_rows a_slants a_turns a_ways a_land_kinds a_land_nears a_plan_numbers a_planner_rests a_rows_alongs a_rows_ends a_rows_numbers a_rows_sorted a_rows_spare a_rows_squares a_rows_starts a_rows_strips a_rows_tally a_slants_firsts a_slants_seconds a_turns_known a_turns_lengths a_ways_lengths a_ways_slantwises a_ways_straights a_rings a_reaper a_land_depths c_land_laid c_land_head c_land_fieldCount c_land_innerCount c_plan_there c_plan_size c_rows_there c_rows_size c_slants_size c_ways_straightSize c_ways_slantwiseSize c_land_kinds c_land_nears c_plan_numbers c_planner_rests c_rows_alongs c_rows_ends c_rows_numbers c_rows_sorted c_rows_spare c_rows_squares c_rows_starts c_rows_strips c_rows_tally c_slants_firsts c_slants_seconds c_turns_known c_turns_lengths c_ways_lengths c_ways_slantwises c_ways_straights)) M hl.1 hW (t_X9_needWidth l g a_t a_rings a_land a_ways a_rows a_turns a_plan a_planner a_slants a_reaper v1 hr) rfl [0] [1, 2, 3, 4, 5, 6, 7, 8, 9, 10, 11, 12, 13, 14, 15, 16, 17, 18, 19, 20, 21, 22, 23, 24, 25, 26, 27] [27, 0, 1, 2, 3, 4, 5, 6, 7, 8, 9, 10, 11, 12, 13, 14, 15, 16, 17, 18, 19, 20, 21, 22, 23, 24, 25, 26] rfl rfl rfl rfl rfl rfl rfl 0 9 rfl rfl rfl (uw3 144 rfl rfl) (uw3 141 rfl rfl) (uw3 143 rfl rfl) (uwp 15 rfl rfl) (uw1 1 rfl rfl) ⟨by decide, by decide, by decide⟩ rfl ⟨by decide, by decide⟩ (Nat.le_of_ble_eq_true rfl)  ⟨Nat.zero_le _, Nat.zero_le _⟩ (dd dX9_choose_p0 4 rfl) (fun H locs hW => ?_)
  exact (rmap_no h).elim
abbrev w_X9_yields (g : G9) (a_t a_reaper a_reaper_crop a_rings a_land a_ways a_rows a_turns a_plan a_planner a_slants a_reaper_bearing a_reaper_findings a_reaper_places : Nat) (c_reaper_capacity c_reaper_weight c_reaper_unload : Int32) (c_reaper_crop : Ar) : va_W := [ob a_t 9 [.ref a_rings, .ref a_land, .ref a_ways, .ref a_rows, .ref a_turns, .ref a_plan, .ref a_planner, .ref a_slants, .ref a_reaper], ob a_reaper 4 [.ref a_reaper_crop, .ref a_reaper_bearing, .ref a_reaper_findings, .ref a_reaper_places, .int c_reaper_capacity, .int c_reaper_weight, .int c_reaper_unload], ia g a_reaper_crop 1200 c_reaper_crop]
noncomputable def X9_yields (c_reaper_crop : Ar) (v1 v2 v3 : Int32) : Option (Nat ⊕ Ar) :=
  bnd (X9_needSquare v1 v2) <| Sum.elim (fun x9 => some (.inl x9)) fun (_ : Unit) => if v3 < 0 then (some (.inl 2)) else (if v3 ≤ 1000 then (rmap <| bnd (X9_squareAt v1 v2) <| fun r_36 => ck (ix r_36 1200) <| nm (au c_reaper_crop r_36 v3) fun c_reaper_crop_40 => some c_reaper_crop_40) else (some (.inl 2)))
set_option maxHeartbeats 4000000 in
set_option maxRecDepth 100000 in
theorem t_X9_yields (l : Launch) (g : G9) (a_t a_reaper a_reaper_crop a_rings a_land a_ways a_rows a_turns a_plan a_planner a_slants a_reaper_bearing a_reaper_findings a_reaper_places : Nat) (c_reaper_capacity c_reaper_weight c_reaper_unload : Int32) (c_reaper_crop : Ar) (v1 v2 v3 : Int32) (o_reaper_crop : Ar) (h : X9_yields c_reaper_crop v1 v2 v3 = some (.inr o_reaper_crop)) : CtV l g yX9_yields cX9_yields 4 7 112 [.ref a_t, .int v1, .int v2, .int v3] (w_X9_yields g a_t a_reaper a_reaper_crop a_rings a_land a_ways a_rows a_turns a_plan a_planner a_slants a_reaper_bearing a_reaper_findings a_reaper_places c_reaper_capacity c_reaper_weight c_reaper_unload c_reaper_crop) (w_X9_yields g a_t a_reaper a_reaper_crop a_rings a_land a_ways a_rows a_turns a_plan a_planner a_slants a_reaper_bearing a_reaper_findings a_reaper_places c_reaper_capacity c_reaper_weight c_reaper_unload o_reaper_crop) := by
  refine startV (by decide) (Nat.le_of_ble_eq_true rfl) ?_
  intro p e s m below meth c A Q ls args M hW hl ret
  have hx := M.1
  have hb := M.2.1
  have hown := M.2.2.2.1
  have hu := M.2.2.2.2.1
  have hl : lv_has ls 4 [(0, .ref a_t), (1, .int v1), (2, .int v2), (3, .int v3)] := hl
  unfold X9_yields at h
  obtain ⟨H, eH⟩ : ∃ z, z = s.heap := ⟨_, rfl⟩
  obtain ⟨locs, eL⟩ : ∃ z, z = ([] : List Loc) := ⟨_, rfl⟩
  rw [← eL] at hW ⊢
  suffices hS9 : WD g s A (w_X9_yields g a_t a_reaper a_reaper_crop a_rings a_land a_ways a_rows a_turns a_plan a_planner a_slants a_reaper_bearing a_reaper_findings a_reaper_places c_reaper_capacity c_reaper_weight c_reaper_unload c_reaper_crop) H locs → W p l e (rm9 7 112) s m args below meth c H locs 0 0 Q (F0 m 0 ls []) by
    rw [← eH] at hW ⊢
    exact hS9 hW
  clear hW eH eL
  intro hW
  refine lv_aload_n (pc := 0) hx hb (dd dX9_yields 0 rfl) rfl (lv_at hl 0 rfl) ?_
  refine lv_iload_n (pc := 1) hx hb (dd dX9_yields 1 rfl) rfl (lv_at hl 1 rfl) ?_
  refine lv_iload_n (pc := 2) hx hb (dd dX9_yields 2 rfl) rfl (lv_at hl 2 rfl) ?_
  obtain ⟨ex9, hr, h⟩ := bnd_ex h
  rcases ex9 with x9 | u9
  · have h := sE_l h
    cases h
  have h := sE_r h
  refine callVV (pc := 3) (na := 2) (As := [.int v1, .int v2]) (rest := []) (ws2 := (w_X9_yields g a_t a_reaper a_reaper_crop a_rings a_land a_ways a_rows a_turns a_plan a_planner a_slants a_reaper_bearing a_reaper_findings a_reaper_places c_reaper_capacity c_reaper_weight c_reaper_unload c_reaper_crop)) M hl.1 hW (t_X9_needSquare l g a_t a_rings a_land a_ways a_rows a_turns a_plan a_planner a_slants a_reaper v1 v2 hr) rfl [0] [1, 2] [2, 0, 1] rfl rfl rfl rfl rfl rfl rfl 0 9 rfl rfl rfl (uw4 147 rfl rfl) (uw4 144 rfl rfl) (uw4 146 rfl rfl) (uwp 37 rfl rfl) (uw1 1 rfl rfl) ⟨by decide, by decide, by decide⟩ rfl ⟨by decide, by decide⟩ (Nat.le_of_ble_eq_true rfl)  ⟨Nat.zero_le _, Nat.zero_le _⟩ (dd dX9_yields 3 rfl) (fun H locs hW => ?_)
  refine lv_iload_n (pc := 6) hx hb (dd dX9_yields 4 rfl) rfl (lv_at hl 3 rfl) ?_
  refine lv_if_lt (pc := 7) (tgt := 17) hx hb (dd dX9_yields 5 rfl) (by decide) (fun hc => ?_) (fun hc => ?_)
  · have h := it_t hc h
    cases h
  · have h := it_f hc h
    refine lv_iload_n (pc := 10) hx hb (dd dX9_yields 6 rfl) rfl (lv_at hl 3 rfl) ?_
    refine lv_sipush (pc := 11) (v := 1000) hx hb (dd dX9_yields 7 rfl) (by decide) ?_
    refine lv_icmp_le (pc := 14) (tgt := 27) hx hb (dd dX9_yields 8 rfl) (by decide) (fun hc => ?_) (fun hc => ?_)
    · have h := it_t hc h
      have h := rmap_ex h
      refine lv_aload_n (pc := 27) hx hb (dd dX9_yields 14 rfl) rfl (lv_at hl 0 rfl) ?_
      refine rGet (pc := 28) M hW 0 8 iU9 rfl rfl (by decide) (uw2 58 rfl rfl) rfl (dd dX9_yields 15 rfl) ?_
      refine rGet (pc := 31) M hW 1 0 iU4 rfl rfl (by decide) (uw2 22 rfl rfl) rfl (dd dX9_yields 16 rfl) ?_
      refine lv_iload_n (pc := 34) hx hb (dd dX9_yields 17 rfl) rfl (lv_at hl 1 rfl) ?_
      refine lv_iload_n (pc := 35) hx hb (dd dX9_yields 18 rfl) rfl (lv_at hl 2 rfl) ?_
      obtain ⟨r_36, hr, h⟩ := bnd_ex h
      refine callSI (pc := 36) (na := 2) (As := [.int v1, .int v2]) (rest := [.ref a_reaper_crop]) (ws2 := (w_X9_yields g a_t a_reaper a_reaper_crop a_rings a_land a_ways a_rows a_turns a_plan a_planner a_slants a_reaper_bearing a_reaper_findings a_reaper_places c_reaper_capacity c_reaper_weight c_reaper_unload c_reaper_crop)) M hl.1 hW (t_X9_squareAt l g v1 v2 r_36 hr) [] [0, 1, 2] [0, 1, 2] rfl rfl rfl rfl rfl rfl rfl (uw3 95 rfl rfl) (uw3 132 rfl rfl) (uw3 94 rfl rfl) (uw1 1 rfl rfl) ⟨by decide, by decide, by decide⟩ rfl ⟨by decide, by decide⟩ (Nat.le_of_ble_eq_true rfl) ⟨Nat.zero_le _, Nat.zero_le _⟩ (dd dX9_yields 19 rfl) (fun H locs hW => ?_)
      refine lv_iload_n (pc := 39) hx hb (dd dX9_yields 20 rfl) rfl (lv_at hl 3 rfl) ?_
      obtain ⟨hi, h⟩ := ck_ex h
      obtain ⟨c_reaper_crop_40, ec_reaper_crop_40, h⟩ := nm_ex h
      refine rIast (pc := 40) M hW 2 rfl hi ec_reaper_crop_40 (ws' := (w_X9_yields g a_t a_reaper a_reaper_crop a_rings a_land a_ways a_rows a_turns a_plan a_planner a_slants a_reaper_bearing a_reaper_findings a_reaper_places c_reaper_capacity c_reaper_weight c_reaper_unload c_reaper_crop_40)) rfl (dd dX9_yields 21 rfl) (fun H locs hW => ?_)
      have hW9 := hW
      cases h
      exact ret _ _ _ 41 hW9 (dd dX9_yields 22 rfl)
    · have h := it_f hc h
      cases h
set_option maxHeartbeats 4000000 in
set_option maxRecDepth 100000 in
theorem x_X9_yields (l : Launch) (hl9 : l.stackTraces = false) (g : G9) (a_t a_reaper a_reaper_crop a_rings a_land a_ways a_rows a_turns a_plan a_planner a_slants a_reaper_bearing a_reaper_findings a_reaper_places : Nat) (c_reaper_capacity c_reaper_weight c_reaper_unload : Int32) (c_reaper_crop : Ar) (v1 v2 v3 : Int32) (k0 : Nat) (h : X9_yields c_reaper_crop v1 v2 v3 = some (.inl k0)) : CtX QnV l g yX9_yields cX9_yields 4 none 7 112 [.ref a_t, .int v1, .int v2, .int v3] (w_X9_yields g a_t a_reaper a_reaper_crop a_rings a_land a_ways a_rows a_turns a_plan a_planner a_slants a_reaper_bearing a_reaper_findings a_reaper_places c_reaper_capacity c_reaper_weight c_reaper_unload c_reaper_crop) (excN k0) := by
  refine startX (by decide) (Nat.le_of_ble_eq_true rfl) ?_
  intro p e s m below meth c A Q ls args M hW hl hlk hex hA9 hQ
  have hx := M.1
  have hb := M.2.1
  have hown := M.2.2.2.1
  have hu := M.2.2.2.2.1
  have hl : lv_has ls 4 [(0, .ref a_t), (1, .int v1), (2, .int v2), (3, .int v3)] := hl
  unfold X9_yields at h
  obtain ⟨H, eH⟩ : ∃ z, z = s.heap := ⟨_, rfl⟩
  obtain ⟨locs, eL⟩ : ∃ z, z = ([] : List Loc) := ⟨_, rfl⟩
  rw [← eL] at hW ⊢
  suffices hS9 : WD g s A (w_X9_yields g a_t a_reaper a_reaper_crop a_rings a_land a_ways a_rows a_turns a_plan a_planner a_slants a_reaper_bearing a_reaper_findings a_reaper_places c_reaper_capacity c_reaper_weight c_reaper_unload c_reaper_crop) H locs → W p l e (rm9x 7 112) s m args below meth c H locs 0 0 Q (F0 m 0 ls []) by
    rw [← eH] at hW ⊢
    exact hS9 hW
  clear hW eL
  intro hW
  refine lv_aload_n (pc := 0) hx hb (dd dX9_yields 0 rfl) rfl (lv_at hl 0 rfl) ?_
  refine lv_iload_n (pc := 1) hx hb (dd dX9_yields 1 rfl) rfl (lv_at hl 1 rfl) ?_
  refine lv_iload_n (pc := 2) hx hb (dd dX9_yields 2 rfl) rfl (lv_at hl 2 rfl) ?_
  obtain ⟨ex9, hr, h⟩ := bnd_ex h
  rcases ex9 with x9 | u9
  · have h := sE_l h
    have hW9 := hW
    cases h
    exact callXV (pc := 3) (na := 2) (As := [.int v1, .int v2]) (rest := []) M hl.1 hW9 hlk hex hA9 hQ (x_X9_needSquare l hl9 g a_t a_rings a_land a_ways a_rows a_turns a_plan a_planner a_slants a_reaper v1 v2 _ hr) rfl [0] [1, 2] [2, 0, 1] rfl rfl rfl rfl rfl rfl rfl 0 9 rfl rfl rfl (uw4 147 rfl rfl) (uw4 144 rfl rfl) (uw4 146 rfl rfl) (uwp 37 rfl rfl) (uw1 1 rfl rfl) ⟨by decide, by decide, by decide⟩ rfl ⟨by decide, by decide⟩ (Nat.le_of_ble_eq_true rfl)  ⟨by decide, by decide⟩ (dd dX9_yields 3 rfl)
  have h := sE_r h
  refine callVV (pc := 3) (na := 2) (As := [.int v1, .int v2]) (rest := []) (ws2 := (w_X9_yields g a_t a_reaper a_reaper_crop a_rings a_land a_ways a_rows a_turns a_plan a_planner a_slants a_reaper_bearing a_reaper_findings a_reaper_places c_reaper_capacity c_reaper_weight c_reaper_unload c_reaper_crop)) M hl.1 hW (t_X9_needSquare l g a_t a_rings a_land a_ways a_rows a_turns a_plan a_planner a_slants a_reaper v1 v2 hr) rfl [0] [1, 2] [2, 0, 1] rfl rfl rfl rfl rfl rfl rfl 0 9 rfl rfl rfl (uw4 147 rfl rfl) (uw4 144 rfl rfl) (uw4 146 rfl rfl) (uwp 37 rfl rfl) (uw1 1 rfl rfl) ⟨by decide, by decide, by decide⟩ rfl ⟨by decide, by decide⟩ (Nat.le_of_ble_eq_true rfl)  ⟨Nat.zero_le _, Nat.zero_le _⟩ (dd dX9_yields 3 rfl) (fun H locs hW => ?_)
  refine lv_iload_n (pc := 6) hx hb (dd dX9_yields 4 rfl) rfl (lv_at hl 3 rfl) ?_
  refine lv_if_lt (pc := 7) (tgt := 17) hx hb (dd dX9_yields 5 rfl) (by decide) (fun hc => ?_) (fun hc => ?_)
  · have h := it_t hc h
    have hW9 := hW
    cases h
    exact rThrowS (pc := 17) (text := "no such yield") hl9 M hl.1 hW9 hlk hex hA9 hQ (by decide) (by decide) (uw2 198 rfl rfl) (uw1 18 rfl rfl) (by decide) xg2 xb2 xo2 ⟨by decide, by decide⟩ (Nat.le_of_ble_eq_true rfl) ⟨by decide, by decide⟩ (dd dX9_yields 9 rfl) (dd dX9_yields 10 rfl) (dd dX9_yields 11 rfl) (dd dX9_yields 12 rfl) (dd dX9_yields 13 rfl)
  · have h := it_f hc h
    refine lv_iload_n (pc := 10) hx hb (dd dX9_yields 6 rfl) rfl (lv_at hl 3 rfl) ?_
    refine lv_sipush (pc := 11) (v := 1000) hx hb (dd dX9_yields 7 rfl) (by decide) ?_
    refine lv_icmp_le (pc := 14) (tgt := 27) hx hb (dd dX9_yields 8 rfl) (by decide) (fun hc => ?_) (fun hc => ?_)
    · have h := it_t hc h
      exact (rmap_no h).elim
    · have h := it_f hc h
      have hW9 := hW
      cases h
      exact rThrowS (pc := 17) (text := "no such yield") hl9 M hl.1 hW9 hlk hex hA9 hQ (by decide) (by decide) (uw2 198 rfl rfl) (uw1 18 rfl rfl) (by decide) xg2 xb2 xo2 ⟨by decide, by decide⟩ (Nat.le_of_ble_eq_true rfl) ⟨by decide, by decide⟩ (dd dX9_yields 9 rfl) (dd dX9_yields 10 rfl) (dd dX9_yields 11 rfl) (dd dX9_yields 12 rfl) (dd dX9_yields 13 rfl)
abbrev w_X9_bears (g : G9) (a_t a_reaper a_reaper_bearing a_rings a_land a_ways a_rows a_turns a_plan a_planner a_slants a_reaper_crop a_reaper_findings a_reaper_places : Nat) (c_reaper_capacity c_reaper_weight c_reaper_unload : Int32) (c_reaper_bearing : Ar) : va_W := [ob a_t 9 [.ref a_rings, .ref a_land, .ref a_ways, .ref a_rows, .ref a_turns, .ref a_plan, .ref a_planner, .ref a_slants, .ref a_reaper], ob a_reaper 4 [.ref a_reaper_crop, .ref a_reaper_bearing, .ref a_reaper_findings, .ref a_reaper_places, .int c_reaper_capacity, .int c_reaper_weight, .int c_reaper_unload], ia g a_reaper_bearing 1200 c_reaper_bearing]
noncomputable def X9_bears (c_reaper_bearing : Ar) (v1 v2 v3 : Int32) : Option (Nat ⊕ Ar) :=
  bnd (X9_needSquare v1 v2) <| Sum.elim (fun x9 => some (.inl x9)) fun (_ : Unit) => if v3 < 0 then (some (.inl 2)) else (if v3 ≤ 1000000 then (rmap <| bnd (X9_squareAt v1 v2) <| fun r_35 => ck (ix r_35 1200) <| nm (au c_reaper_bearing r_35 v3) fun c_reaper_bearing_39 => some c_reaper_bearing_39) else (some (.inl 2)))
set_option maxHeartbeats 4000000 in
set_option maxRecDepth 100000 in
theorem t_X9_bears (l : Launch) (g : G9) (a_t a_reaper a_reaper_bearing a_rings a_land a_ways a_rows a_turns a_plan a_planner a_slants a_reaper_crop a_reaper_findings a_reaper_places : Nat) (c_reaper_capacity c_reaper_weight c_reaper_unload : Int32) (c_reaper_bearing : Ar) (v1 v2 v3 : Int32) (o_reaper_bearing : Ar) (h : X9_bears c_reaper_bearing v1 v2 v3 = some (.inr o_reaper_bearing)) : CtV l g yX9_bears cX9_bears 4 7 112 [.ref a_t, .int v1, .int v2, .int v3] (w_X9_bears g a_t a_reaper a_reaper_bearing a_rings a_land a_ways a_rows a_turns a_plan a_planner a_slants a_reaper_crop a_reaper_findings a_reaper_places c_reaper_capacity c_reaper_weight c_reaper_unload c_reaper_bearing) (w_X9_bears g a_t a_reaper a_reaper_bearing a_rings a_land a_ways a_rows a_turns a_plan a_planner a_slants a_reaper_crop a_reaper_findings a_reaper_places c_reaper_capacity c_reaper_weight c_reaper_unload o_reaper_bearing) := by
  refine startV (by decide) (Nat.le_of_ble_eq_true rfl) ?_
  intro p e s m below meth c A Q ls args M hW hl ret
  have hx := M.1
  have hb := M.2.1
  have hown := M.2.2.2.1
  have hu := M.2.2.2.2.1
  have hl : lv_has ls 4 [(0, .ref a_t), (1, .int v1), (2, .int v2), (3, .int v3)] := hl
  unfold X9_bears at h
  obtain ⟨H, eH⟩ : ∃ z, z = s.heap := ⟨_, rfl⟩
  obtain ⟨locs, eL⟩ : ∃ z, z = ([] : List Loc) := ⟨_, rfl⟩
  rw [← eL] at hW ⊢
  suffices hS9 : WD g s A (w_X9_bears g a_t a_reaper a_reaper_bearing a_rings a_land a_ways a_rows a_turns a_plan a_planner a_slants a_reaper_crop a_reaper_findings a_reaper_places c_reaper_capacity c_reaper_weight c_reaper_unload c_reaper_bearing) H locs → W p l e (rm9 7 112) s m args below meth c H locs 0 0 Q (F0 m 0 ls []) by
    rw [← eH] at hW ⊢
    exact hS9 hW
  clear hW eH eL
  intro hW
  refine lv_aload_n (pc := 0) hx hb (dd dX9_bears 0 rfl) rfl (lv_at hl 0 rfl) ?_
  refine lv_iload_n (pc := 1) hx hb (dd dX9_bears 1 rfl) rfl (lv_at hl 1 rfl) ?_
  refine lv_iload_n (pc := 2) hx hb (dd dX9_bears 2 rfl) rfl (lv_at hl 2 rfl) ?_
  obtain ⟨ex9, hr, h⟩ := bnd_ex h
  rcases ex9 with x9 | u9
  · have h := sE_l h
    cases h
  have h := sE_r h
  refine callVV (pc := 3) (na := 2) (As := [.int v1, .int v2]) (rest := []) (ws2 := (w_X9_bears g a_t a_reaper a_reaper_bearing a_rings a_land a_ways a_rows a_turns a_plan a_planner a_slants a_reaper_crop a_reaper_findings a_reaper_places c_reaper_capacity c_reaper_weight c_reaper_unload c_reaper_bearing)) M hl.1 hW (t_X9_needSquare l g a_t a_rings a_land a_ways a_rows a_turns a_plan a_planner a_slants a_reaper v1 v2 hr) rfl [0] [1, 2] [2, 0, 1] rfl rfl rfl rfl rfl rfl rfl 0 9 rfl rfl rfl (uw4 147 rfl rfl) (uw4 144 rfl rfl) (uw4 146 rfl rfl) (uwp 37 rfl rfl) (uw1 1 rfl rfl) ⟨by decide, by decide, by decide⟩ rfl ⟨by decide, by decide⟩ (Nat.le_of_ble_eq_true rfl)  ⟨Nat.zero_le _, Nat.zero_le _⟩ (dd dX9_bears 3 rfl) (fun H locs hW => ?_)
  refine lv_iload_n (pc := 6) hx hb (dd dX9_bears 4 rfl) rfl (lv_at hl 3 rfl) ?_
  refine lv_if_lt (pc := 7) (tgt := 16) hx hb (dd dX9_bears 5 rfl) (by decide) (fun hc => ?_) (fun hc => ?_)
  · have h := it_t hc h
    cases h
  · have h := it_f hc h
    refine lv_iload_n (pc := 10) hx hb (dd dX9_bears 6 rfl) rfl (lv_at hl 3 rfl) ?_
    refine lv_ldc (pc := 11) (v := 1000000) hx hb hown (hu _ (uw4 2 rfl rfl)) (dd dX9_bears 7 rfl) ?_
    refine lv_icmp_le (pc := 13) (tgt := 26) hx hb (dd dX9_bears 8 rfl) (by decide) (fun hc => ?_) (fun hc => ?_)
    · have h := it_t hc h
      have h := rmap_ex h
      refine lv_aload_n (pc := 26) hx hb (dd dX9_bears 14 rfl) rfl (lv_at hl 0 rfl) ?_
      refine rGet (pc := 27) M hW 0 8 iU9 rfl rfl (by decide) (uw2 58 rfl rfl) rfl (dd dX9_bears 15 rfl) ?_
      refine rGet (pc := 30) M hW 1 1 iU4 rfl rfl (by decide) (uw2 24 rfl rfl) rfl (dd dX9_bears 16 rfl) ?_
      refine lv_iload_n (pc := 33) hx hb (dd dX9_bears 17 rfl) rfl (lv_at hl 1 rfl) ?_
      refine lv_iload_n (pc := 34) hx hb (dd dX9_bears 18 rfl) rfl (lv_at hl 2 rfl) ?_
      obtain ⟨r_35, hr, h⟩ := bnd_ex h
      refine callSI (pc := 35) (na := 2) (As := [.int v1, .int v2]) (rest := [.ref a_reaper_bearing]) (ws2 := (w_X9_bears g a_t a_reaper a_reaper_bearing a_rings a_land a_ways a_rows a_turns a_plan a_planner a_slants a_reaper_crop a_reaper_findings a_reaper_places c_reaper_capacity c_reaper_weight c_reaper_unload c_reaper_bearing)) M hl.1 hW (t_X9_squareAt l g v1 v2 r_35 hr) [] [0, 1, 2] [0, 1, 2] rfl rfl rfl rfl rfl rfl rfl (uw3 95 rfl rfl) (uw3 132 rfl rfl) (uw3 94 rfl rfl) (uw1 1 rfl rfl) ⟨by decide, by decide, by decide⟩ rfl ⟨by decide, by decide⟩ (Nat.le_of_ble_eq_true rfl) ⟨Nat.zero_le _, Nat.zero_le _⟩ (dd dX9_bears 19 rfl) (fun H locs hW => ?_)
      refine lv_iload_n (pc := 38) hx hb (dd dX9_bears 20 rfl) rfl (lv_at hl 3 rfl) ?_
      obtain ⟨hi, h⟩ := ck_ex h
      obtain ⟨c_reaper_bearing_39, ec_reaper_bearing_39, h⟩ := nm_ex h
      refine rIast (pc := 39) M hW 2 rfl hi ec_reaper_bearing_39 (ws' := (w_X9_bears g a_t a_reaper a_reaper_bearing a_rings a_land a_ways a_rows a_turns a_plan a_planner a_slants a_reaper_crop a_reaper_findings a_reaper_places c_reaper_capacity c_reaper_weight c_reaper_unload c_reaper_bearing_39)) rfl (dd dX9_bears 21 rfl) (fun H locs hW => ?_)
      have hW9 := hW
      cases h
      exact ret _ _ _ 40 hW9 (dd dX9_bears 22 rfl)
    · have h := it_f hc h
      cases h
set_option maxHeartbeats 4000000 in
set_option maxRecDepth 100000 in
theorem x_X9_bears (l : Launch) (hl9 : l.stackTraces = false) (g : G9) (a_t a_reaper a_reaper_bearing a_rings a_land a_ways a_rows a_turns a_plan a_planner a_slants a_reaper_crop a_reaper_findings a_reaper_places : Nat) (c_reaper_capacity c_reaper_weight c_reaper_unload : Int32) (c_reaper_bearing : Ar) (v1 v2 v3 : Int32) (k0 : Nat) (h : X9_bears c_reaper_bearing v1 v2 v3 = some (.inl k0)) : CtX QnV l g yX9_bears cX9_bears 4 none 7 112 [.ref a_t, .int v1, .int v2, .int v3] (w_X9_bears g a_t a_reaper a_reaper_bearing a_rings a_land a_ways a_rows a_turns a_plan a_planner a_slants a_reaper_crop a_reaper_findings a_reaper_places c_reaper_capacity c_reaper_weight c_reaper_unload c_reaper_bearing) (excN k0) := by
  refine startX (by decide) (Nat.le_of_ble_eq_true rfl) ?_
  intro p e s m below meth c A Q ls args M hW hl hlk hex hA9 hQ
  have hx := M.1
  have hb := M.2.1
  have hown := M.2.2.2.1
  have hu := M.2.2.2.2.1
  have hl : lv_has ls 4 [(0, .ref a_t), (1, .int v1), (2, .int v2), (3, .int v3)] := hl
  unfold X9_bears at h
  obtain ⟨H, eH⟩ : ∃ z, z = s.heap := ⟨_, rfl⟩
  obtain ⟨locs, eL⟩ : ∃ z, z = ([] : List Loc) := ⟨_, rfl⟩
  rw [← eL] at hW ⊢
  suffices hS9 : WD g s A (w_X9_bears g a_t a_reaper a_reaper_bearing a_rings a_land a_ways a_rows a_turns a_plan a_planner a_slants a_reaper_crop a_reaper_findings a_reaper_places c_reaper_capacity c_reaper_weight c_reaper_unload c_reaper_bearing) H locs → W p l e (rm9x 7 112) s m args below meth c H locs 0 0 Q (F0 m 0 ls []) by
    rw [← eH] at hW ⊢
    exact hS9 hW
  clear hW eL
  intro hW
  refine lv_aload_n (pc := 0) hx hb (dd dX9_bears 0 rfl) rfl (lv_at hl 0 rfl) ?_
  refine lv_iload_n (pc := 1) hx hb (dd dX9_bears 1 rfl) rfl (lv_at hl 1 rfl) ?_
  refine lv_iload_n (pc := 2) hx hb (dd dX9_bears 2 rfl) rfl (lv_at hl 2 rfl) ?_
  obtain ⟨ex9, hr, h⟩ := bnd_ex h
  rcases ex9 with x9 | u9
  · have h := sE_l h
    have hW9 := hW
    cases h
    exact callXV (pc := 3) (na := 2) (As := [.int v1, .int v2]) (rest := []) M hl.1 hW9 hlk hex hA9 hQ (x_X9_needSquare l hl9 g a_t a_rings a_land a_ways a_rows a_turns a_plan a_planner a_slants a_reaper v1 v2 _ hr) rfl [0] [1, 2] [2, 0, 1] rfl rfl rfl rfl rfl rfl rfl 0 9 rfl rfl rfl (uw4 147 rfl rfl) (uw4 144 rfl rfl) (uw4 146 rfl rfl) (uwp 37 rfl rfl) (uw1 1 rfl rfl) ⟨by decide, by decide, by decide⟩ rfl ⟨by decide, by decide⟩ (Nat.le_of_ble_eq_true rfl)  ⟨by decide, by decide⟩ (dd dX9_bears 3 rfl)
  have h := sE_r h
  refine callVV (pc := 3) (na := 2) (As := [.int v1, .int v2]) (rest := []) (ws2 := (w_X9_bears g a_t a_reaper a_reaper_bearing a_rings a_land a_ways a_rows a_turns a_plan a_planner a_slants a_reaper_crop a_reaper_findings a_reaper_places c_reaper_capacity c_reaper_weight c_reaper_unload c_reaper_bearing)) M hl.1 hW (t_X9_needSquare l g a_t a_rings a_land a_ways a_rows a_turns a_plan a_planner a_slants a_reaper v1 v2 hr) rfl [0] [1, 2] [2, 0, 1] rfl rfl rfl rfl rfl rfl rfl 0 9 rfl rfl rfl (uw4 147 rfl rfl) (uw4 144 rfl rfl) (uw4 146 rfl rfl) (uwp 37 rfl rfl) (uw1 1 rfl rfl) ⟨by decide, by decide, by decide⟩ rfl ⟨by decide, by decide⟩ (Nat.le_of_ble_eq_true rfl)  ⟨Nat.zero_le _, Nat.zero_le _⟩ (dd dX9_bears 3 rfl) (fun H locs hW => ?_)
  refine lv_iload_n (pc := 6) hx hb (dd dX9_bears 4 rfl) rfl (lv_at hl 3 rfl) ?_
  refine lv_if_lt (pc := 7) (tgt := 16) hx hb (dd dX9_bears 5 rfl) (by decide) (fun hc => ?_) (fun hc => ?_)
  · have h := it_t hc h
    have hW9 := hW
    cases h
    exact rThrowS (pc := 16) (text := "no such bearing") hl9 M hl.1 hW9 hlk hex hA9 hQ (by decide) (by decide) (uw2 198 rfl rfl) (uw1 18 rfl rfl) (by decide) xg2 xb2 xo2 ⟨by decide, by decide⟩ (Nat.le_of_ble_eq_true rfl) ⟨by decide, by decide⟩ (dd dX9_bears 9 rfl) (dd dX9_bears 10 rfl) (dd dX9_bears 11 rfl) (dd dX9_bears 12 rfl) (dd dX9_bears 13 rfl)
  · have h := it_f hc h
    refine lv_iload_n (pc := 10) hx hb (dd dX9_bears 6 rfl) rfl (lv_at hl 3 rfl) ?_
    refine lv_ldc (pc := 11) (v := 1000000) hx hb hown (hu _ (uw4 2 rfl rfl)) (dd dX9_bears 7 rfl) ?_
    refine lv_icmp_le (pc := 13) (tgt := 26) hx hb (dd dX9_bears 8 rfl) (by decide) (fun hc => ?_) (fun hc => ?_)
    · have h := it_t hc h
      exact (rmap_no h).elim
    · have h := it_f hc h
      have hW9 := hW
      cases h
      exact rThrowS (pc := 16) (text := "no such bearing") hl9 M hl.1 hW9 hlk hex hA9 hQ (by decide) (by decide) (uw2 198 rfl rfl) (uw1 18 rfl rfl) (by decide) xg2 xb2 xo2 ⟨by decide, by decide⟩ (Nat.le_of_ble_eq_true rfl) ⟨by decide, by decide⟩ (dd dX9_bears 9 rfl) (dd dX9_bears 10 rfl) (dd dX9_bears 11 rfl) (dd dX9_bears 12 rfl) (dd dX9_bears 13 rfl)
abbrev w_X9_reaper (g : G9) (a_t a_reaper a_rings a_land a_ways a_rows a_turns a_plan a_planner a_slants a_reaper_crop a_reaper_bearing a_reaper_findings a_reaper_places : Nat) (c_reaper_capacity c_reaper_weight c_reaper_unload : Int32) : va_W := [ob a_t 9 [.ref a_rings, .ref a_land, .ref a_ways, .ref a_rows, .ref a_turns, .ref a_plan, .ref a_planner, .ref a_slants, .ref a_reaper], ob a_reaper 4 [.ref a_reaper_crop, .ref a_reaper_bearing, .ref a_reaper_findings, .ref a_reaper_places, .int c_reaper_capacity, .int c_reaper_weight, .int c_reaper_unload]]
noncomputable def X9_reaper (c_reaper_capacity c_reaper_weight c_reaper_unload v1 v2 v3 : Int32) : Option (Nat ⊕ (Int32 × Int32 × Int32)) :=
  if v1 < 1 then (some (.inl 2)) else (if v1 ≤ 100000 then (if v2 < 0 then (some (.inl 2)) else (if v2 ≤ 1000000 then (if v3 < 0 then (some (.inl 2)) else (if v3 ≤ 1000 then (rmap <| some (v1, v2, v3)) else (some (.inl 2)))) else (some (.inl 2)))) else (some (.inl 2)))
set_option maxHeartbeats 4000000 in
set_option maxRecDepth 100000 in
theorem t_X9_reaper (l : Launch) (g : G9) (a_t a_reaper a_rings a_land a_ways a_rows a_turns a_plan a_planner a_slants a_reaper_crop a_reaper_bearing a_reaper_findings a_reaper_places : Nat) (c_reaper_capacity c_reaper_weight c_reaper_unload v1 v2 v3 o_reaper_capacity o_reaper_weight o_reaper_unload : Int32) (h : X9_reaper c_reaper_capacity c_reaper_weight c_reaper_unload v1 v2 v3 = some (.inr (o_reaper_capacity, o_reaper_weight, o_reaper_unload))) : CtV l g yX9_reaper cX9_reaper 4 6 90 [.ref a_t, .int v1, .int v2, .int v3] (w_X9_reaper g a_t a_reaper a_rings a_land a_ways a_rows a_turns a_plan a_planner a_slants a_reaper_crop a_reaper_bearing a_reaper_findings a_reaper_places c_reaper_capacity c_reaper_weight c_reaper_unload) (w_X9_reaper g a_t a_reaper a_rings a_land a_ways a_rows a_turns a_plan a_planner a_slants a_reaper_crop a_reaper_bearing a_reaper_findings a_reaper_places o_reaper_capacity o_reaper_weight o_reaper_unload) := by
  refine startV (by decide) (Nat.le_of_ble_eq_true rfl) ?_
  intro p e s m below meth c A Q ls args M hW hl ret
  have hx := M.1
  have hb := M.2.1
  have hown := M.2.2.2.1
  have hu := M.2.2.2.2.1
  have hl : lv_has ls 4 [(0, .ref a_t), (1, .int v1), (2, .int v2), (3, .int v3)] := hl
  unfold X9_reaper at h
  obtain ⟨H, eH⟩ : ∃ z, z = s.heap := ⟨_, rfl⟩
  obtain ⟨locs, eL⟩ : ∃ z, z = ([] : List Loc) := ⟨_, rfl⟩
  rw [← eL] at hW ⊢
  suffices hS9 : WD g s A (w_X9_reaper g a_t a_reaper a_rings a_land a_ways a_rows a_turns a_plan a_planner a_slants a_reaper_crop a_reaper_bearing a_reaper_findings a_reaper_places c_reaper_capacity c_reaper_weight c_reaper_unload) H locs → W p l e (rm9 6 90) s m args below meth c H locs 0 0 Q (F0 m 0 ls []) by
    rw [← eH] at hW ⊢
    exact hS9 hW
  clear hW eH eL
  intro hW
  refine lv_iload_n (pc := 0) hx hb (dd dX9_reaper 0 rfl) rfl (lv_at hl 1 rfl) ?_
  refine lv_iconst (pc := 1) (v := 1) hx hb (dd dX9_reaper 1 rfl) (by decide) ?_
  refine lv_icmp_lt (pc := 2) (tgt := 11) hx hb (dd dX9_reaper 2 rfl) (by decide) (fun hc => ?_) (fun hc => ?_)
  · have h := it_t hc h
    cases h
  · have h := it_f hc h
    refine lv_iload_n (pc := 5) hx hb (dd dX9_reaper 3 rfl) rfl (lv_at hl 1 rfl) ?_
    refine lv_ldc (pc := 6) (v := 100000) hx hb hown (hu _ (uw4 165 rfl rfl)) (dd dX9_reaper 4 rfl) ?_
    refine lv_icmp_le (pc := 8) (tgt := 21) hx hb (dd dX9_reaper 5 rfl) (by decide) (fun hc => ?_) (fun hc => ?_)
    · have h := it_t hc h
      refine lv_iload_n (pc := 21) hx hb (dd dX9_reaper 11 rfl) rfl (lv_at hl 2 rfl) ?_
      refine lv_if_lt (pc := 22) (tgt := 31) hx hb (dd dX9_reaper 12 rfl) (by decide) (fun hc => ?_) (fun hc => ?_)
      · have h := it_t hc h
        cases h
      · have h := it_f hc h
        refine lv_iload_n (pc := 25) hx hb (dd dX9_reaper 13 rfl) rfl (lv_at hl 2 rfl) ?_
        refine lv_ldc (pc := 26) (v := 1000000) hx hb hown (hu _ (uw4 2 rfl rfl)) (dd dX9_reaper 14 rfl) ?_
        refine lv_icmp_le (pc := 28) (tgt := 41) hx hb (dd dX9_reaper 15 rfl) (by decide) (fun hc => ?_) (fun hc => ?_)
        · have h := it_t hc h
          refine lv_iload_n (pc := 41) hx hb (dd dX9_reaper 21 rfl) rfl (lv_at hl 3 rfl) ?_
          refine lv_if_lt (pc := 42) (tgt := 52) hx hb (dd dX9_reaper 22 rfl) (by decide) (fun hc => ?_) (fun hc => ?_)
          · have h := it_t hc h
            cases h
          · have h := it_f hc h
            refine lv_iload_n (pc := 45) hx hb (dd dX9_reaper 23 rfl) rfl (lv_at hl 3 rfl) ?_
            refine lv_sipush (pc := 46) (v := 1000) hx hb (dd dX9_reaper 24 rfl) (by decide) ?_
            refine lv_icmp_le (pc := 49) (tgt := 62) hx hb (dd dX9_reaper 25 rfl) (by decide) (fun hc => ?_) (fun hc => ?_)
            · have h := it_t hc h
              have h := rmap_ex h
              refine lv_aload_n (pc := 62) hx hb (dd dX9_reaper 31 rfl) rfl (lv_at hl 0 rfl) ?_
              refine rGet (pc := 63) M hW 0 8 iU9 rfl rfl (by decide) (uw2 58 rfl rfl) rfl (dd dX9_reaper 32 rfl) ?_
              refine lv_iload_n (pc := 66) hx hb (dd dX9_reaper 33 rfl) rfl (lv_at hl 1 rfl) ?_
              refine rPut (pc := 67) M hW 1 4 tyX4 tyX4_ok nmX4 iU4 rfl rfl (by decide) (uw2 30 rfl rfl) rfl rfl rfl (Nat.le_of_ble_eq_true rfl) (dd dX9_reaper 34 rfl) (ws' := (w_X9_reaper g a_t a_reaper a_rings a_land a_ways a_rows a_turns a_plan a_planner a_slants a_reaper_crop a_reaper_bearing a_reaper_findings a_reaper_places v1 c_reaper_weight c_reaper_unload)) rfl (fun H locs hW => ?_)
              refine lv_aload_n (pc := 70) hx hb (dd dX9_reaper 35 rfl) rfl (lv_at hl 0 rfl) ?_
              refine rGet (pc := 71) M hW 0 8 iU9 rfl rfl (by decide) (uw2 58 rfl rfl) rfl (dd dX9_reaper 36 rfl) ?_
              refine lv_iload_n (pc := 74) hx hb (dd dX9_reaper 37 rfl) rfl (lv_at hl 2 rfl) ?_
              refine rPut (pc := 75) M hW 1 5 tyX4 tyX4_ok nmX4 iU4 rfl rfl (by decide) (uw2 32 rfl rfl) rfl rfl rfl (Nat.le_of_ble_eq_true rfl) (dd dX9_reaper 38 rfl) (ws' := (w_X9_reaper g a_t a_reaper a_rings a_land a_ways a_rows a_turns a_plan a_planner a_slants a_reaper_crop a_reaper_bearing a_reaper_findings a_reaper_places v1 v2 c_reaper_unload)) rfl (fun H locs hW => ?_)
              refine lv_aload_n (pc := 78) hx hb (dd dX9_reaper 39 rfl) rfl (lv_at hl 0 rfl) ?_
              refine rGet (pc := 79) M hW 0 8 iU9 rfl rfl (by decide) (uw2 58 rfl rfl) rfl (dd dX9_reaper 40 rfl) ?_
              refine lv_iload_n (pc := 82) hx hb (dd dX9_reaper 41 rfl) rfl (lv_at hl 3 rfl) ?_
              refine rPut (pc := 83) M hW 1 6 tyX4 tyX4_ok nmX4 iU4 rfl rfl (by decide) (uw2 34 rfl rfl) rfl rfl rfl (Nat.le_of_ble_eq_true rfl) (dd dX9_reaper 42 rfl) (ws' := (w_X9_reaper g a_t a_reaper a_rings a_land a_ways a_rows a_turns a_plan a_planner a_slants a_reaper_crop a_reaper_bearing a_reaper_findings a_reaper_places v1 v2 v3)) rfl (fun H locs hW => ?_)
              have hW9 := hW
              cases h
              exact ret _ _ _ 86 hW9 (dd dX9_reaper 43 rfl)
            · have h := it_f hc h
              cases h
        · have h := it_f hc h
          cases h
    · have h := it_f hc h
      cases h
set_option maxHeartbeats 4000000 in
set_option maxRecDepth 100000 in
theorem x_X9_reaper (l : Launch) (hl9 : l.stackTraces = false) (g : G9) (a_t a_reaper a_rings a_land a_ways a_rows a_turns a_plan a_planner a_slants a_reaper_crop a_reaper_bearing a_reaper_findings a_reaper_places : Nat) (c_reaper_capacity c_reaper_weight c_reaper_unload v1 v2 v3 : Int32) (k0 : Nat) (h : X9_reaper c_reaper_capacity c_reaper_weight c_reaper_unload v1 v2 v3 = some (.inl k0)) : CtX QnV l g yX9_reaper cX9_reaper 4 none 6 90 [.ref a_t, .int v1, .int v2, .int v3] (w_X9_reaper g a_t a_reaper a_rings a_land a_ways a_rows a_turns a_plan a_planner a_slants a_reaper_crop a_reaper_bearing a_reaper_findings a_reaper_places c_reaper_capacity c_reaper_weight c_reaper_unload) (excN k0) := by
  refine startX (by decide) (Nat.le_of_ble_eq_true rfl) ?_
  intro p e s m below meth c A Q ls args M hW hl hlk hex hA9 hQ
  have hx := M.1
  have hb := M.2.1
  have hown := M.2.2.2.1
  have hu := M.2.2.2.2.1
  have hl : lv_has ls 4 [(0, .ref a_t), (1, .int v1), (2, .int v2), (3, .int v3)] := hl
  unfold X9_reaper at h
  obtain ⟨H, eH⟩ : ∃ z, z = s.heap := ⟨_, rfl⟩
  obtain ⟨locs, eL⟩ : ∃ z, z = ([] : List Loc) := ⟨_, rfl⟩
  rw [← eL] at hW ⊢
  suffices hS9 : WD g s A (w_X9_reaper g a_t a_reaper a_rings a_land a_ways a_rows a_turns a_plan a_planner a_slants a_reaper_crop a_reaper_bearing a_reaper_findings a_reaper_places c_reaper_capacity c_reaper_weight c_reaper_unload) H locs → W p l e (rm9x 6 90) s m args below meth c H locs 0 0 Q (F0 m 0 ls []) by
    rw [← eH] at hW ⊢
    exact hS9 hW
  clear hW eL
  intro hW
  refine lv_iload_n (pc := 0) hx hb (dd dX9_reaper 0 rfl) rfl (lv_at hl 1 rfl) ?_
  refine lv_iconst (pc := 1) (v := 1) hx hb (dd dX9_reaper 1 rfl) (by decide) ?_
  refine lv_icmp_lt (pc := 2) (tgt := 11) hx hb (dd dX9_reaper 2 rfl) (by decide) (fun hc => ?_) (fun hc => ?_)
  · have h := it_t hc h
    have hW9 := hW
    cases h
    exact rThrowS (pc := 11) (text := "no such capacity") hl9 M hl.1 hW9 hlk hex hA9 hQ (by decide) (by decide) (uw2 198 rfl rfl) (uw1 18 rfl rfl) (by decide) xg2 xb2 xo2 ⟨by decide, by decide⟩ (Nat.le_of_ble_eq_true rfl) ⟨by decide, by decide⟩ (dd dX9_reaper 6 rfl) (dd dX9_reaper 7 rfl) (dd dX9_reaper 8 rfl) (dd dX9_reaper 9 rfl) (dd dX9_reaper 10 rfl)
  · have h := it_f hc h
    refine lv_iload_n (pc := 5) hx hb (dd dX9_reaper 3 rfl) rfl (lv_at hl 1 rfl) ?_
    refine lv_ldc (pc := 6) (v := 100000) hx hb hown (hu _ (uw4 165 rfl rfl)) (dd dX9_reaper 4 rfl) ?_
    refine lv_icmp_le (pc := 8) (tgt := 21) hx hb (dd dX9_reaper 5 rfl) (by decide) (fun hc => ?_) (fun hc => ?_)
    · have h := it_t hc h
      refine lv_iload_n (pc := 21) hx hb (dd dX9_reaper 11 rfl) rfl (lv_at hl 2 rfl) ?_
      refine lv_if_lt (pc := 22) (tgt := 31) hx hb (dd dX9_reaper 12 rfl) (by decide) (fun hc => ?_) (fun hc => ?_)
      · have h := it_t hc h
        have hW9 := hW
        cases h
        exact rThrowS (pc := 31) (text := "no such weight") hl9 M hl.1 hW9 hlk hex hA9 hQ (by decide) (by decide) (uw2 198 rfl rfl) (uw1 18 rfl rfl) (by decide) xg2 xb2 xo2 ⟨by decide, by decide⟩ (Nat.le_of_ble_eq_true rfl) ⟨by decide, by decide⟩ (dd dX9_reaper 16 rfl) (dd dX9_reaper 17 rfl) (dd dX9_reaper 18 rfl) (dd dX9_reaper 19 rfl) (dd dX9_reaper 20 rfl)
      · have h := it_f hc h
        refine lv_iload_n (pc := 25) hx hb (dd dX9_reaper 13 rfl) rfl (lv_at hl 2 rfl) ?_
        refine lv_ldc (pc := 26) (v := 1000000) hx hb hown (hu _ (uw4 2 rfl rfl)) (dd dX9_reaper 14 rfl) ?_
        refine lv_icmp_le (pc := 28) (tgt := 41) hx hb (dd dX9_reaper 15 rfl) (by decide) (fun hc => ?_) (fun hc => ?_)
        · have h := it_t hc h
          refine lv_iload_n (pc := 41) hx hb (dd dX9_reaper 21 rfl) rfl (lv_at hl 3 rfl) ?_
          refine lv_if_lt (pc := 42) (tgt := 52) hx hb (dd dX9_reaper 22 rfl) (by decide) (fun hc => ?_) (fun hc => ?_)
          · have h := it_t hc h
            have hW9 := hW
            cases h
            exact rThrowS (pc := 52) (text := "no such time to unload") hl9 M hl.1 hW9 hlk hex hA9 hQ (by decide) (by decide) (uw2 198 rfl rfl) (uw1 18 rfl rfl) (by decide) xg2 xb2 xo2 ⟨by decide, by decide⟩ (Nat.le_of_ble_eq_true rfl) ⟨by decide, by decide⟩ (dd dX9_reaper 26 rfl) (dd dX9_reaper 27 rfl) (dd dX9_reaper 28 rfl) (dd dX9_reaper 29 rfl) (dd dX9_reaper 30 rfl)
          · have h := it_f hc h
            refine lv_iload_n (pc := 45) hx hb (dd dX9_reaper 23 rfl) rfl (lv_at hl 3 rfl) ?_
            refine lv_sipush (pc := 46) (v := 1000) hx hb (dd dX9_reaper 24 rfl) (by decide) ?_
            refine lv_icmp_le (pc := 49) (tgt := 62) hx hb (dd dX9_reaper 25 rfl) (by decide) (fun hc => ?_) (fun hc => ?_)
            · have h := it_t hc h
              exact (rmap_no h).elim
            · have h := it_f hc h
              have hW9 := hW
              cases h
              exact rThrowS (pc := 52) (text := "no such time to unload") hl9 M hl.1 hW9 hlk hex hA9 hQ (by decide) (by decide) (uw2 198 rfl rfl) (uw1 18 rfl rfl) (by decide) xg2 xb2 xo2 ⟨by decide, by decide⟩ (Nat.le_of_ble_eq_true rfl) ⟨by decide, by decide⟩ (dd dX9_reaper 26 rfl) (dd dX9_reaper 27 rfl) (dd dX9_reaper 28 rfl) (dd dX9_reaper 29 rfl) (dd dX9_reaper 30 rfl)
        · have h := it_f hc h
          have hW9 := hW
          cases h
          exact rThrowS (pc := 31) (text := "no such weight") hl9 M hl.1 hW9 hlk hex hA9 hQ (by decide) (by decide) (uw2 198 rfl rfl) (uw1 18 rfl rfl) (by decide) xg2 xb2 xo2 ⟨by decide, by decide⟩ (Nat.le_of_ble_eq_true rfl) ⟨by decide, by decide⟩ (dd dX9_reaper 16 rfl) (dd dX9_reaper 17 rfl) (dd dX9_reaper 18 rfl) (dd dX9_reaper 19 rfl) (dd dX9_reaper 20 rfl)
    · have h := it_f hc h
      have hW9 := hW
      cases h
      exact rThrowS (pc := 11) (text := "no such capacity") hl9 M hl.1 hW9 hlk hex hA9 hQ (by decide) (by decide) (uw2 198 rfl rfl) (uw1 18 rfl rfl) (by decide) xg2 xb2 xo2 ⟨by decide, by decide⟩ (Nat.le_of_ble_eq_true rfl) ⟨by decide, by decide⟩ (dd dX9_reaper 6 rfl) (dd dX9_reaper 7 rfl) (dd dX9_reaper 8 rfl) (dd dX9_reaper 9 rfl) (dd dX9_reaper 10 rfl)
abbrev w_X9_run (g : G9) (a_t a_plan a_reaper a_rows a_turns a_plan_numbers a_reaper_bearing a_reaper_crop a_reaper_findings a_reaper_places a_rows_squares a_rows_starts a_turns_lengths a_rings a_land a_ways a_planner a_slants a_rows_strips a_rows_alongs a_rows_numbers a_rows_sorted a_rows_spare a_rows_tally a_rows_ends a_turns_known : Nat) (c_plan_there c_plan_size c_reaper_capacity c_reaper_weight c_reaper_unload c_rows_there c_rows_size : Int32) (c_plan_numbers c_reaper_bearing c_reaper_crop c_reaper_findings c_reaper_places c_rows_squares c_rows_starts c_turns_lengths : Ar) : va_W := [ob a_t 9 [.ref a_rings, .ref a_land, .ref a_ways, .ref a_rows, .ref a_turns, .ref a_plan, .ref a_planner, .ref a_slants, .ref a_reaper], ob a_plan 2 [.ref a_turns, .ref a_plan_numbers, .int c_plan_there, .int c_plan_size], ob a_reaper 4 [.ref a_reaper_crop, .ref a_reaper_bearing, .ref a_reaper_findings, .ref a_reaper_places, .int c_reaper_capacity, .int c_reaper_weight, .int c_reaper_unload], ob a_rows 6 [.ref a_land, .ref a_rows_strips, .ref a_rows_alongs, .ref a_rows_numbers, .ref a_rows_sorted, .ref a_rows_spare, .ref a_rows_tally, .ref a_rows_squares, .ref a_rows_starts, .ref a_rows_ends, .int c_rows_there, .int c_rows_size], ob a_turns 7 [.ref a_ways, .ref a_rows, .ref a_turns_lengths, .ref a_turns_known], ia g a_plan_numbers 60 c_plan_numbers, ia g a_reaper_bearing 1200 c_reaper_bearing, ia g a_reaper_crop 1200 c_reaper_crop, ia g a_reaper_findings 8 c_reaper_findings, ia g a_reaper_places 1200 c_reaper_places, ia g a_rows_squares 1200 c_rows_squares, ia g a_rows_starts 61 c_rows_starts, ia g a_turns_lengths 14400 c_turns_lengths]
noncomputable def X9_run (c_plan_there c_plan_size c_reaper_capacity c_reaper_weight c_reaper_unload : Int32) (c_plan_numbers c_reaper_bearing c_reaper_crop c_reaper_findings c_reaper_places c_rows_squares c_rows_starts c_turns_lengths : Ar) : Option (Nat ⊕ (Int32 × Ar × Ar)) :=
  bnd (X9_needPlan c_plan_there) <| Sum.elim (fun x9 => some (.inl x9)) fun (_ : Unit) => bnd (X2_sum c_plan_size c_plan_numbers c_turns_lengths) <| fun r_8 => if r_8 < 1000000 then (rmap <| bnd (X4_work c_plan_size c_reaper_capacity c_reaper_weight c_reaper_unload c_plan_numbers c_rows_squares c_rows_starts c_reaper_bearing c_reaper_crop c_reaper_findings c_reaper_places r_8) <| un3 fun r_42 c_reaper_findings_42 c_reaper_places_42 => some (r_42, c_reaper_findings_42, c_reaper_places_42)) else (some (.inl 4))
set_option maxHeartbeats 4000000 in
set_option maxRecDepth 100000 in
theorem t_X9_run (l : Launch) (g : G9) (a_t a_plan a_reaper a_rows a_turns a_plan_numbers a_reaper_bearing a_reaper_crop a_reaper_findings a_reaper_places a_rows_squares a_rows_starts a_turns_lengths a_rings a_land a_ways a_planner a_slants a_rows_strips a_rows_alongs a_rows_numbers a_rows_sorted a_rows_spare a_rows_tally a_rows_ends a_turns_known : Nat) (c_plan_there c_plan_size c_reaper_capacity c_reaper_weight c_reaper_unload c_rows_there c_rows_size : Int32) (c_plan_numbers c_reaper_bearing c_reaper_crop c_reaper_findings c_reaper_places c_rows_squares c_rows_starts c_turns_lengths : Ar) (r0 : Int32) (o_reaper_findings o_reaper_places : Ar) (h : X9_run c_plan_there c_plan_size c_reaper_capacity c_reaper_weight c_reaper_unload c_plan_numbers c_reaper_bearing c_reaper_crop c_reaper_findings c_reaper_places c_rows_squares c_rows_starts c_turns_lengths = some (.inr (r0, o_reaper_findings, o_reaper_places))) : CtI l g yX9_run cX9_run 2 .int 7 110 [.ref a_t] (w_X9_run g a_t a_plan a_reaper a_rows a_turns a_plan_numbers a_reaper_bearing a_reaper_crop a_reaper_findings a_reaper_places a_rows_squares a_rows_starts a_turns_lengths a_rings a_land a_ways a_planner a_slants a_rows_strips a_rows_alongs a_rows_numbers a_rows_sorted a_rows_spare a_rows_tally a_rows_ends a_turns_known c_plan_there c_plan_size c_reaper_capacity c_reaper_weight c_reaper_unload c_rows_there c_rows_size c_plan_numbers c_reaper_bearing c_reaper_crop c_reaper_findings c_reaper_places c_rows_squares c_rows_starts c_turns_lengths) r0 (w_X9_run g a_t a_plan a_reaper a_rows a_turns a_plan_numbers a_reaper_bearing a_reaper_crop a_reaper_findings a_reaper_places a_rows_squares a_rows_starts a_turns_lengths a_rings a_land a_ways a_planner a_slants a_rows_strips a_rows_alongs a_rows_numbers a_rows_sorted a_rows_spare a_rows_tally a_rows_ends a_turns_known c_plan_there c_plan_size c_reaper_capacity c_reaper_weight c_reaper_unload c_rows_there c_rows_size c_plan_numbers c_reaper_bearing c_reaper_crop o_reaper_findings o_reaper_places c_rows_squares c_rows_starts c_turns_lengths) := by
  refine startI (by decide) (Nat.le_of_ble_eq_true rfl) ?_
  intro p e s m below meth c A Q ls args M hW hl ret
  have hx := M.1
  have hb := M.2.1
  have hown := M.2.2.2.1
  have hu := M.2.2.2.2.1
  have hl : lv_has ls 2 [(0, .ref a_t)] := hl
  unfold X9_run at h
  obtain ⟨H, eH⟩ : ∃ z, z = s.heap := ⟨_, rfl⟩
  obtain ⟨locs, eL⟩ : ∃ z, z = ([] : List Loc) := ⟨_, rfl⟩
  rw [← eL] at hW ⊢
  suffices hS9 : WD g s A (w_X9_run g a_t a_plan a_reaper a_rows a_turns a_plan_numbers a_reaper_bearing a_reaper_crop a_reaper_findings a_reaper_places a_rows_squares a_rows_starts a_turns_lengths a_rings a_land a_ways a_planner a_slants a_rows_strips a_rows_alongs a_rows_numbers a_rows_sorted a_rows_spare a_rows_tally a_rows_ends a_turns_known c_plan_there c_plan_size c_reaper_capacity c_reaper_weight c_reaper_unload c_rows_there c_rows_size c_plan_numbers c_reaper_bearing c_reaper_crop c_reaper_findings c_reaper_places c_rows_squares c_rows_starts c_turns_lengths) H locs → W p l e (rm9 7 110) s m args below meth c H locs 0 0 Q (F0 m 0 ls []) by
    rw [← eH] at hW ⊢
    exact hS9 hW
  clear hW eH eL
  intro hW
  refine lv_aload_n (pc := 0) hx hb (dd dX9_run 0 rfl) rfl (lv_at hl 0 rfl) ?_
  obtain ⟨ex9, hr, h⟩ := bnd_ex h
  rcases ex9 with x9 | u9
  · have h := sE_l h
    cases h
  have h := sE_r h
  refine callVV (pc := 1) (na := 0) (As := []) (rest := []) (ws2 := (w_X9_run g a_t a_plan a_reaper a_rows a_turns a_plan_numbers a_reaper_bearing a_reaper_crop a_reaper_findings a_reaper_places a_rows_squares a_rows_starts a_turns_lengths a_rings a_land a_ways a_planner a_slants a_rows_strips a_rows_alongs a_rows_numbers a_rows_sorted a_rows_spare a_rows_tally a_rows_ends a_turns_known c_plan_there c_plan_size c_reaper_capacity c_reaper_weight c_reaper_unload c_rows_there c_rows_size c_plan_numbers c_reaper_bearing c_reaper_crop c_reaper_findings c_reaper_places c_rows_squares c_rows_starts c_turns_lengths)) M hl.1 hW (t_X9_needPlan l g a_t a_plan a_rings a_land a_ways a_rows a_turns a_planner a_slants a_reaper a_plan_numbers c_plan_there c_plan_size hr) rfl [0, 1] [2, 3, 4, 5, 6, 7, 8, 9, 10, 11, 12] [11, 12, 0, 1, 2, 3, 4, 5, 6, 7, 8, 9, 10] rfl rfl rfl rfl rfl rfl rfl 0 9 rfl rfl rfl (uw4 121 rfl rfl) (uw4 118 rfl rfl) (uw4 120 rfl rfl) (uwp 35 rfl rfl) (uw1 1 rfl rfl) ⟨by decide, by decide, by decide⟩ rfl ⟨by decide, by decide⟩ (Nat.le_of_ble_eq_true rfl)  ⟨Nat.zero_le _, Nat.zero_le _⟩ (dd dX9_run 1 rfl) (fun H locs hW => ?_)
  refine lv_aload_n (pc := 4) hx hb (dd dX9_run 2 rfl) rfl (lv_at hl 0 rfl) ?_
  refine rGet (pc := 5) M hW 0 5 iU9 rfl rfl (by decide) (uw2 55 rfl rfl) rfl (dd dX9_run 3 rfl) ?_
  obtain ⟨r_8, hr, h⟩ := bnd_ex h
  refine callVI (pc := 8) (na := 0) (As := []) (rest := []) (ws2 := (w_X9_run g a_t a_plan a_reaper a_rows a_turns a_plan_numbers a_reaper_bearing a_reaper_crop a_reaper_findings a_reaper_places a_rows_squares a_rows_starts a_turns_lengths a_rings a_land a_ways a_planner a_slants a_rows_strips a_rows_alongs a_rows_numbers a_rows_sorted a_rows_spare a_rows_tally a_rows_ends a_turns_known c_plan_there c_plan_size c_reaper_capacity c_reaper_weight c_reaper_unload c_rows_there c_rows_size c_plan_numbers c_reaper_bearing c_reaper_crop c_reaper_findings c_reaper_places c_rows_squares c_rows_starts c_turns_lengths)) M hl.1 hW (t_X2_sum l g a_plan a_plan_numbers a_turns a_turns_lengths a_ways a_rows a_turns_known c_plan_there c_plan_size c_plan_numbers c_turns_lengths r_8 hr) rfl [1, 5, 4, 12] [0, 2, 3, 6, 7, 8, 9, 10, 11] [0, 9, 1, 2, 11, 10, 3, 4, 5, 6, 7, 8, 12] rfl rfl rfl rfl rfl rfl rfl 1 2 rfl rfl rfl (uw4 89 rfl rfl) (uw4 125 rfl rfl) (uw4 87 rfl rfl) (uw4 88 rfl rfl) (uw1 9 rfl rfl) ⟨by decide, by decide, by decide⟩ rfl ⟨by decide, by decide⟩ (Nat.le_of_ble_eq_true rfl) ⟨Nat.zero_le _, Nat.zero_le _⟩ (dd dX9_run 4 rfl) (fun H locs hW => ?_)
  refine lv_istore_n (pc := 11) (lv' := [(1, .int r_8), (0, .ref a_t)]) hx hb (dd dX9_run 5 rfl) rfl hl (by decide) rfl (fun ls hl => ?_)
  refine lv_iload_n (pc := 12) hx hb (dd dX9_run 6 rfl) rfl (lv_at hl 0 rfl) ?_
  refine lv_ldc (pc := 13) (v := 1000000) hx hb hown (hu _ (uw4 2 rfl rfl)) (dd dX9_run 7 rfl) ?_
  refine lv_icmp_lt (pc := 15) (tgt := 29) hx hb (dd dX9_run 8 rfl) (by decide) (fun hc => ?_) (fun hc => ?_)
  · have h := it_t hc h
    have h := rmap_ex h
    refine lv_aload_n (pc := 29) hx hb (dd dX9_run 14 rfl) rfl (lv_at hl 1 rfl) ?_
    refine rGet (pc := 30) M hW 0 8 iU9 rfl rfl (by decide) (uw2 58 rfl rfl) rfl (dd dX9_run 15 rfl) ?_
    refine lv_aload_n (pc := 33) hx hb (dd dX9_run 16 rfl) rfl (lv_at hl 1 rfl) ?_
    refine rGet (pc := 34) M hW 0 5 iU9 rfl rfl (by decide) (uw2 55 rfl rfl) rfl (dd dX9_run 17 rfl) ?_
    refine lv_aload_n (pc := 37) hx hb (dd dX9_run 18 rfl) rfl (lv_at hl 1 rfl) ?_
    refine rGet (pc := 38) M hW 0 3 iU9 rfl rfl (by decide) (uw2 53 rfl rfl) rfl (dd dX9_run 19 rfl) ?_
    refine lv_iload_n (pc := 41) hx hb (dd dX9_run 20 rfl) rfl (lv_at hl 0 rfl) ?_
    obtain ⟨⟨r_42, c_reaper_findings_42, c_reaper_places_42⟩, hr, h⟩ := bnd_ex h
    have h := un3_at h
    refine callVI (pc := 42) (na := 3) (As := [.ref a_plan, .ref a_rows, .int r_8]) (rest := []) (ws2 := (w_X9_run g a_t a_plan a_reaper a_rows a_turns a_plan_numbers a_reaper_bearing a_reaper_crop a_reaper_findings a_reaper_places a_rows_squares a_rows_starts a_turns_lengths a_rings a_land a_ways a_planner a_slants a_rows_strips a_rows_alongs a_rows_numbers a_rows_sorted a_rows_spare a_rows_tally a_rows_ends a_turns_known c_plan_there c_plan_size c_reaper_capacity c_reaper_weight c_reaper_unload c_rows_there c_rows_size c_plan_numbers c_reaper_bearing c_reaper_crop c_reaper_findings_42 c_reaper_places_42 c_rows_squares c_rows_starts c_turns_lengths)) M hl.1 hW (t_X4_work l g a_plan a_rows a_reaper a_plan_numbers a_rows_squares a_rows_starts a_reaper_bearing a_reaper_crop a_reaper_findings a_reaper_places a_turns a_land a_rows_strips a_rows_alongs a_rows_numbers a_rows_sorted a_rows_spare a_rows_tally a_rows_ends c_plan_there c_plan_size c_rows_there c_rows_size c_reaper_capacity c_reaper_weight c_reaper_unload c_plan_numbers c_rows_squares c_rows_starts c_reaper_bearing c_reaper_crop c_reaper_findings c_reaper_places r_8 r_42 c_reaper_findings_42 c_reaper_places_42 hr) rfl [1, 3, 2, 5, 10, 11, 6, 7, 8, 9] [0, 4, 12] [0, 3, 5, 4, 1, 6, 9, 10, 11, 12, 7, 8, 2] rfl rfl rfl rfl rfl rfl rfl 2 4 rfl rfl rfl (uw4 180 rfl rfl) (uw4 177 rfl rfl) (uw4 178 rfl rfl) (uw4 179 rfl rfl) (uw1 11 rfl rfl) ⟨by decide, by decide, by decide⟩ rfl ⟨by decide, by decide⟩ (Nat.le_of_ble_eq_true rfl) ⟨Nat.zero_le _, Nat.zero_le _⟩ (dd dX9_run 21 rfl) (fun H locs hW => ?_)
    have hW9 := hW
    cases h
    exact ret _ _ _ 45 hW9 rfl (dd dX9_run 22 rfl)
  · have h := it_f hc h
    cases h
set_option maxHeartbeats 4000000 in
set_option maxRecDepth 100000 in
theorem x_X9_run (l : Launch) (hl9 : l.stackTraces = false) (g : G9) (a_t a_plan a_reaper a_rows a_turns a_plan_numbers a_reaper_bearing a_reaper_crop a_reaper_findings a_reaper_places a_rows_squares a_rows_starts a_turns_lengths a_rings a_land a_ways a_planner a_slants a_rows_strips a_rows_alongs a_rows_numbers a_rows_sorted a_rows_spare a_rows_tally a_rows_ends a_turns_known : Nat) (c_plan_there c_plan_size c_reaper_capacity c_reaper_weight c_reaper_unload c_rows_there c_rows_size : Int32) (c_plan_numbers c_reaper_bearing c_reaper_crop c_reaper_findings c_reaper_places c_rows_squares c_rows_starts c_turns_lengths : Ar) (k0 : Nat) (h : X9_run c_plan_there c_plan_size c_reaper_capacity c_reaper_weight c_reaper_unload c_plan_numbers c_reaper_bearing c_reaper_crop c_reaper_findings c_reaper_places c_rows_squares c_rows_starts c_turns_lengths = some (.inl k0)) : CtX QnI l g yX9_run cX9_run 2 (some .int) 7 110 [.ref a_t] (w_X9_run g a_t a_plan a_reaper a_rows a_turns a_plan_numbers a_reaper_bearing a_reaper_crop a_reaper_findings a_reaper_places a_rows_squares a_rows_starts a_turns_lengths a_rings a_land a_ways a_planner a_slants a_rows_strips a_rows_alongs a_rows_numbers a_rows_sorted a_rows_spare a_rows_tally a_rows_ends a_turns_known c_plan_there c_plan_size c_reaper_capacity c_reaper_weight c_reaper_unload c_rows_there c_rows_size c_plan_numbers c_reaper_bearing c_reaper_crop c_reaper_findings c_reaper_places c_rows_squares c_rows_starts c_turns_lengths) (excN k0) := by
  refine startX (by decide) (Nat.le_of_ble_eq_true rfl) ?_
  intro p e s m below meth c A Q ls args M hW hl hlk hex hA9 hQ
  have hx := M.1
  have hb := M.2.1
  have hown := M.2.2.2.1
  have hu := M.2.2.2.2.1
  have hl : lv_has ls 2 [(0, .ref a_t)] := hl
  unfold X9_run at h
  obtain ⟨H, eH⟩ : ∃ z, z = s.heap := ⟨_, rfl⟩
  obtain ⟨locs, eL⟩ : ∃ z, z = ([] : List Loc) := ⟨_, rfl⟩
  rw [← eL] at hW ⊢
  suffices hS9 : WD g s A (w_X9_run g a_t a_plan a_reaper a_rows a_turns a_plan_numbers a_reaper_bearing a_reaper_crop a_reaper_findings a_reaper_places a_rows_squares a_rows_starts a_turns_lengths a_rings a_land a_ways a_planner a_slants a_rows_strips a_rows_alongs a_rows_numbers a_rows_sorted a_rows_spare a_rows_tally a_rows_ends a_turns_known c_plan_there c_plan_size c_reaper_capacity c_reaper_weight c_reaper_unload c_rows_there c_rows_size c_plan_numbers c_reaper_bearing c_reaper_crop c_reaper_findings c_reaper_places c_rows_squares c_rows_starts c_turns_lengths) H locs → W p l e (rm9x 7 110) s m args below meth c H locs 0 0 Q (F0 m 0 ls []) by
    rw [← eH] at hW ⊢
    exact hS9 hW
  clear hW eL
  intro hW
  refine lv_aload_n (pc := 0) hx hb (dd dX9_run 0 rfl) rfl (lv_at hl 0 rfl) ?_
  obtain ⟨ex9, hr, h⟩ := bnd_ex h
  rcases ex9 with x9 | u9
  · have h := sE_l h
    have hW9 := hW
    cases h
    exact callXV (pc := 1) (na := 0) (As := []) (rest := []) M hl.1 hW9 hlk hex hA9 hQ (x_X9_needPlan l hl9 g a_t a_plan a_rings a_land a_ways a_rows a_turns a_planner a_slants a_reaper a_plan_numbers c_plan_there c_plan_size _ hr) rfl [0, 1] [2, 3, 4, 5, 6, 7, 8, 9, 10, 11, 12] [11, 12, 0, 1, 2, 3, 4, 5, 6, 7, 8, 9, 10] rfl rfl rfl rfl rfl rfl rfl 0 9 rfl rfl rfl (uw4 121 rfl rfl) (uw4 118 rfl rfl) (uw4 120 rfl rfl) (uwp 35 rfl rfl) (uw1 1 rfl rfl) ⟨by decide, by decide, by decide⟩ rfl ⟨by decide, by decide⟩ (Nat.le_of_ble_eq_true rfl)  ⟨by decide, by decide⟩ (dd dX9_run 1 rfl)
  have h := sE_r h
  refine callVV (pc := 1) (na := 0) (As := []) (rest := []) (ws2 := (w_X9_run g a_t a_plan a_reaper a_rows a_turns a_plan_numbers a_reaper_bearing a_reaper_crop a_reaper_findings a_reaper_places a_rows_squares a_rows_starts a_turns_lengths a_rings a_land a_ways a_planner a_slants a_rows_strips a_rows_alongs a_rows_numbers a_rows_sorted a_rows_spare a_rows_tally a_rows_ends a_turns_known c_plan_there c_plan_size c_reaper_capacity c_reaper_weight c_reaper_unload c_rows_there c_rows_size c_plan_numbers c_reaper_bearing c_reaper_crop c_reaper_findings c_reaper_places c_rows_squares c_rows_starts c_turns_lengths)) M hl.1 hW (t_X9_needPlan l g a_t a_plan a_rings a_land a_ways a_rows a_turns a_planner a_slants a_reaper a_plan_numbers c_plan_there c_plan_size hr) rfl [0, 1] [2, 3, 4, 5, 6, 7, 8, 9, 10, 11, 12] [11, 12, 0, 1, 2, 3, 4, 5, 6, 7, 8, 9, 10] rfl rfl rfl rfl rfl rfl rfl 0 9 rfl rfl rfl (uw4 121 rfl rfl) (uw4 118 rfl rfl) (uw4 120 rfl rfl) (uwp 35 rfl rfl) (uw1 1 rfl rfl) ⟨by decide, by decide, by decide⟩ rfl ⟨by decide, by decide⟩ (Nat.le_of_ble_eq_true rfl)  ⟨Nat.zero_le _, Nat.zero_le _⟩ (dd dX9_run 1 rfl) (fun H locs hW => ?_)
  refine lv_aload_n (pc := 4) hx hb (dd dX9_run 2 rfl) rfl (lv_at hl 0 rfl) ?_
  refine rGet (pc := 5) M hW 0 5 iU9 rfl rfl (by decide) (uw2 55 rfl rfl) rfl (dd dX9_run 3 rfl) ?_
  obtain ⟨r_8, hr, h⟩ := bnd_ex h
  refine callVI (pc := 8) (na := 0) (As := []) (rest := []) (ws2 := (w_X9_run g a_t a_plan a_reaper a_rows a_turns a_plan_numbers a_reaper_bearing a_reaper_crop a_reaper_findings a_reaper_places a_rows_squares a_rows_starts a_turns_lengths a_rings a_land a_ways a_planner a_slants a_rows_strips a_rows_alongs a_rows_numbers a_rows_sorted a_rows_spare a_rows_tally a_rows_ends a_turns_known c_plan_there c_plan_size c_reaper_capacity c_reaper_weight c_reaper_unload c_rows_there c_rows_size c_plan_numbers c_reaper_bearing c_reaper_crop c_reaper_findings c_reaper_places c_rows_squares c_rows_starts c_turns_lengths)) M hl.1 hW (t_X2_sum l g a_plan a_plan_numbers a_turns a_turns_lengths a_ways a_rows a_turns_known c_plan_there c_plan_size c_plan_numbers c_turns_lengths r_8 hr) rfl [1, 5, 4, 12] [0, 2, 3, 6, 7, 8, 9, 10, 11] [0, 9, 1, 2, 11, 10, 3, 4, 5, 6, 7, 8, 12] rfl rfl rfl rfl rfl rfl rfl 1 2 rfl rfl rfl (uw4 89 rfl rfl) (uw4 125 rfl rfl) (uw4 87 rfl rfl) (uw4 88 rfl rfl) (uw1 9 rfl rfl) ⟨by decide, by decide, by decide⟩ rfl ⟨by decide, by decide⟩ (Nat.le_of_ble_eq_true rfl) ⟨Nat.zero_le _, Nat.zero_le _⟩ (dd dX9_run 4 rfl) (fun H locs hW => ?_)
  refine lv_istore_n (pc := 11) (lv' := [(1, .int r_8), (0, .ref a_t)]) hx hb (dd dX9_run 5 rfl) rfl hl (by decide) rfl (fun ls hl => ?_)
  refine lv_iload_n (pc := 12) hx hb (dd dX9_run 6 rfl) rfl (lv_at hl 0 rfl) ?_
  refine lv_ldc (pc := 13) (v := 1000000) hx hb hown (hu _ (uw4 2 rfl rfl)) (dd dX9_run 7 rfl) ?_
  refine lv_icmp_lt (pc := 15) (tgt := 29) hx hb (dd dX9_run 8 rfl) (by decide) (fun hc => ?_) (fun hc => ?_)
  · have h := it_t hc h
    exact (rmap_no h).elim
  · have h := it_f hc h
    have hW9 := hW
    cases h
    exact rThrowSW (pc := 18) (text := "the plan has no sum") hl9 M hl.1 hW9 hlk hex hA9 hQ (by decide) (by decide) (uw3 115 rfl rfl) (uw1 20 rfl rfl) (by decide) xg4 xb4 xo4 ⟨by decide, by decide⟩ (Nat.le_of_ble_eq_true rfl) ⟨by decide, by decide⟩ (dd dX9_run 9 rfl) (dd dX9_run 10 rfl) (dd dX9_run 11 rfl) (dd dX9_run 12 rfl) (dd dX9_run 13 rfl)
abbrev w_X9_look (g : G9) (a_t a_reaper a_reaper_findings a_rings a_land a_ways a_rows a_turns a_plan a_planner a_slants a_reaper_crop a_reaper_bearing a_reaper_places : Nat) (c_reaper_capacity c_reaper_weight c_reaper_unload : Int32) (c_reaper_findings : Ar) : va_W := [ob a_t 9 [.ref a_rings, .ref a_land, .ref a_ways, .ref a_rows, .ref a_turns, .ref a_plan, .ref a_planner, .ref a_slants, .ref a_reaper], ob a_reaper 4 [.ref a_reaper_crop, .ref a_reaper_bearing, .ref a_reaper_findings, .ref a_reaper_places, .int c_reaper_capacity, .int c_reaper_weight, .int c_reaper_unload], ia g a_reaper_findings 8 c_reaper_findings]
noncomputable def X9_look (c_reaper_findings : Ar) (v1 : Int32) : Option (Nat ⊕ Int32) :=
  if v1 < 0 then (some (.inl 5)) else (if v1 < 8 then (rmap <| ck (ix v1 8) <| some (ag c_reaper_findings v1)) else (some (.inl 5)))
set_option maxHeartbeats 4000000 in
set_option maxRecDepth 100000 in
theorem t_X9_look (l : Launch) (g : G9) (a_t a_reaper a_reaper_findings a_rings a_land a_ways a_rows a_turns a_plan a_planner a_slants a_reaper_crop a_reaper_bearing a_reaper_places : Nat) (c_reaper_capacity c_reaper_weight c_reaper_unload : Int32) (c_reaper_findings : Ar) (v1 r0 : Int32) (h : X9_look c_reaper_findings v1 = some (.inr r0)) : CtI l g yX9_look cX9_look 2 .int 6 90 [.ref a_t, .int v1] (w_X9_look g a_t a_reaper a_reaper_findings a_rings a_land a_ways a_rows a_turns a_plan a_planner a_slants a_reaper_crop a_reaper_bearing a_reaper_places c_reaper_capacity c_reaper_weight c_reaper_unload c_reaper_findings) r0 (w_X9_look g a_t a_reaper a_reaper_findings a_rings a_land a_ways a_rows a_turns a_plan a_planner a_slants a_reaper_crop a_reaper_bearing a_reaper_places c_reaper_capacity c_reaper_weight c_reaper_unload c_reaper_findings) := by
  refine startI (by decide) (Nat.le_of_ble_eq_true rfl) ?_
  intro p e s m below meth c A Q ls args M hW hl ret
  have hx := M.1
  have hb := M.2.1
  have hown := M.2.2.2.1
  have hu := M.2.2.2.2.1
  have hl : lv_has ls 2 [(0, .ref a_t), (1, .int v1)] := hl
  unfold X9_look at h
  obtain ⟨H, eH⟩ : ∃ z, z = s.heap := ⟨_, rfl⟩
  obtain ⟨locs, eL⟩ : ∃ z, z = ([] : List Loc) := ⟨_, rfl⟩
  rw [← eL] at hW ⊢
  suffices hS9 : WD g s A (w_X9_look g a_t a_reaper a_reaper_findings a_rings a_land a_ways a_rows a_turns a_plan a_planner a_slants a_reaper_crop a_reaper_bearing a_reaper_places c_reaper_capacity c_reaper_weight c_reaper_unload c_reaper_findings) H locs → W p l e (rm9 6 90) s m args below meth c H locs 0 0 Q (F0 m 0 ls []) by
    rw [← eH] at hW ⊢
    exact hS9 hW
  clear hW eH eL
  intro hW
  refine lv_iload_n (pc := 0) hx hb (dd dX9_look 0 rfl) rfl (lv_at hl 1 rfl) ?_
  refine lv_if_lt (pc := 1) (tgt := 10) hx hb (dd dX9_look 1 rfl) (by decide) (fun hc => ?_) (fun hc => ?_)
  · have h := it_t hc h
    cases h
  · have h := it_f hc h
    refine lv_iload_n (pc := 4) hx hb (dd dX9_look 2 rfl) rfl (lv_at hl 1 rfl) ?_
    refine lv_bipush (pc := 5) (v := 8) hx hb (dd dX9_look 3 rfl) (by decide) ?_
    refine lv_icmp_lt (pc := 7) (tgt := 21) hx hb (dd dX9_look 4 rfl) (by decide) (fun hc => ?_) (fun hc => ?_)
    · have h := it_t hc h
      have h := rmap_ex h
      refine lv_aload_n (pc := 21) hx hb (dd dX9_look 10 rfl) rfl (lv_at hl 0 rfl) ?_
      refine rGet (pc := 22) M hW 0 8 iU9 rfl rfl (by decide) (uw2 58 rfl rfl) rfl (dd dX9_look 11 rfl) ?_
      refine rGet (pc := 25) M hW 1 2 iU4 rfl rfl (by decide) (uw2 26 rfl rfl) rfl (dd dX9_look 12 rfl) ?_
      refine lv_iload_n (pc := 28) hx hb (dd dX9_look 13 rfl) rfl (lv_at hl 1 rfl) ?_
      obtain ⟨hi, h⟩ := ck_ex h
      refine rIald (pc := 29) M hW 2 rfl hi (dd dX9_look 14 rfl) ?_
      have hW9 := hW
      cases h
      exact ret _ _ _ 30 hW9 rfl (dd dX9_look 15 rfl)
    · have h := it_f hc h
      cases h
set_option maxHeartbeats 4000000 in
set_option maxRecDepth 100000 in
theorem x_X9_look (l : Launch) (hl9 : l.stackTraces = false) (g : G9) (a_t a_reaper a_reaper_findings a_rings a_land a_ways a_rows a_turns a_plan a_planner a_slants a_reaper_crop a_reaper_bearing a_reaper_places : Nat) (c_reaper_capacity c_reaper_weight c_reaper_unload : Int32) (c_reaper_findings : Ar) (v1 : Int32) (k0 : Nat) (h : X9_look c_reaper_findings v1 = some (.inl k0)) : CtX QnI l g yX9_look cX9_look 2 (some .int) 6 90 [.ref a_t, .int v1] (w_X9_look g a_t a_reaper a_reaper_findings a_rings a_land a_ways a_rows a_turns a_plan a_planner a_slants a_reaper_crop a_reaper_bearing a_reaper_places c_reaper_capacity c_reaper_weight c_reaper_unload c_reaper_findings) (excN k0) := by
  refine startX (by decide) (Nat.le_of_ble_eq_true rfl) ?_
  intro p e s m below meth c A Q ls args M hW hl hlk hex hA9 hQ
  have hx := M.1
  have hb := M.2.1
  have hown := M.2.2.2.1
  have hu := M.2.2.2.2.1
  have hl : lv_has ls 2 [(0, .ref a_t), (1, .int v1)] := hl
  unfold X9_look at h
  obtain ⟨H, eH⟩ : ∃ z, z = s.heap := ⟨_, rfl⟩
  obtain ⟨locs, eL⟩ : ∃ z, z = ([] : List Loc) := ⟨_, rfl⟩
  rw [← eL] at hW ⊢
  suffices hS9 : WD g s A (w_X9_look g a_t a_reaper a_reaper_findings a_rings a_land a_ways a_rows a_turns a_plan a_planner a_slants a_reaper_crop a_reaper_bearing a_reaper_places c_reaper_capacity c_reaper_weight c_reaper_unload c_reaper_findings) H locs → W p l e (rm9x 6 90) s m args below meth c H locs 0 0 Q (F0 m 0 ls []) by
    rw [← eH] at hW ⊢
    exact hS9 hW
  clear hW eL
  intro hW
  refine lv_iload_n (pc := 0) hx hb (dd dX9_look 0 rfl) rfl (lv_at hl 1 rfl) ?_
  refine lv_if_lt (pc := 1) (tgt := 10) hx hb (dd dX9_look 1 rfl) (by decide) (fun hc => ?_) (fun hc => ?_)
  · have h := it_t hc h
    have hW9 := hW
    cases h
    exact rThrowNW (pc := 10) (text := "no such thing of a run") hl9 M hl.1 hW9 hlk hex hA9 hQ (uw3 193 rfl rfl) (uw1 21 rfl rfl) (by decide) xg5 xb5 xo5 ⟨by decide, by decide⟩ (Nat.le_of_ble_eq_true rfl) ⟨by decide, by decide⟩ (dd dX9_look 5 rfl) (dd dX9_look 6 rfl) (dd dX9_look 7 rfl) (dd dX9_look 8 rfl) (dd dX9_look 9 rfl)
  · have h := it_f hc h
    refine lv_iload_n (pc := 4) hx hb (dd dX9_look 2 rfl) rfl (lv_at hl 1 rfl) ?_
    refine lv_bipush (pc := 5) (v := 8) hx hb (dd dX9_look 3 rfl) (by decide) ?_
    refine lv_icmp_lt (pc := 7) (tgt := 21) hx hb (dd dX9_look 4 rfl) (by decide) (fun hc => ?_) (fun hc => ?_)
    · have h := it_t hc h
      exact (rmap_no h).elim
    · have h := it_f hc h
      have hW9 := hW
      cases h
      exact rThrowNW (pc := 10) (text := "no such thing of a run") hl9 M hl.1 hW9 hlk hex hA9 hQ (uw3 193 rfl rfl) (uw1 21 rfl rfl) (by decide) xg5 xb5 xo5 ⟨by decide, by decide⟩ (Nat.le_of_ble_eq_true rfl) ⟨by decide, by decide⟩ (dd dX9_look 5 rfl) (dd dX9_look 6 rfl) (dd dX9_look 7 rfl) (dd dX9_look 8 rfl) (dd dX9_look 9 rfl)
abbrev w_X9_wagon (g : G9) (a_t a_reaper a_reaper_findings a_reaper_places a_rings a_land a_ways a_rows a_turns a_plan a_planner a_slants a_reaper_crop a_reaper_bearing : Nat) (c_reaper_capacity c_reaper_weight c_reaper_unload : Int32) (c_reaper_findings c_reaper_places : Ar) : va_W := [ob a_t 9 [.ref a_rings, .ref a_land, .ref a_ways, .ref a_rows, .ref a_turns, .ref a_plan, .ref a_planner, .ref a_slants, .ref a_reaper], ob a_reaper 4 [.ref a_reaper_crop, .ref a_reaper_bearing, .ref a_reaper_findings, .ref a_reaper_places, .int c_reaper_capacity, .int c_reaper_weight, .int c_reaper_unload], ia g a_reaper_findings 8 c_reaper_findings, ia g a_reaper_places 1200 c_reaper_places]
noncomputable def X9_wagon (c_reaper_findings c_reaper_places : Ar) (v1 : Int32) : Option Int32 :=
  if v1 < 0 then (some (-1)) else (ck (ix 4 8) <| if (ag c_reaper_findings 4) ≤ v1 then (some (-1)) else (ck (ix v1 1200) <| some (ag c_reaper_places v1)))
set_option maxHeartbeats 4000000 in
set_option maxRecDepth 100000 in
theorem t_X9_wagon (l : Launch) (g : G9) (a_t a_reaper a_reaper_findings a_reaper_places a_rings a_land a_ways a_rows a_turns a_plan a_planner a_slants a_reaper_crop a_reaper_bearing : Nat) (c_reaper_capacity c_reaper_weight c_reaper_unload : Int32) (c_reaper_findings c_reaper_places : Ar) (v1 r0 : Int32) (h : X9_wagon c_reaper_findings c_reaper_places v1 = some r0) : CtI l g yX9_wagon cX9_wagon 2 .int 0 0 [.ref a_t, .int v1] (w_X9_wagon g a_t a_reaper a_reaper_findings a_reaper_places a_rings a_land a_ways a_rows a_turns a_plan a_planner a_slants a_reaper_crop a_reaper_bearing c_reaper_capacity c_reaper_weight c_reaper_unload c_reaper_findings c_reaper_places) r0 (w_X9_wagon g a_t a_reaper a_reaper_findings a_reaper_places a_rings a_land a_ways a_rows a_turns a_plan a_planner a_slants a_reaper_crop a_reaper_bearing c_reaper_capacity c_reaper_weight c_reaper_unload c_reaper_findings c_reaper_places) := by
  refine startI (by decide) (Nat.le_of_ble_eq_true rfl) ?_
  intro p e s m below meth c A Q ls args M hW hl ret
  have hx := M.1
  have hb := M.2.1
  have hown := M.2.2.2.1
  have hu := M.2.2.2.2.1
  have hl : lv_has ls 2 [(0, .ref a_t), (1, .int v1)] := hl
  unfold X9_wagon at h
  obtain ⟨H, eH⟩ : ∃ z, z = s.heap := ⟨_, rfl⟩
  obtain ⟨locs, eL⟩ : ∃ z, z = ([] : List Loc) := ⟨_, rfl⟩
  rw [← eL] at hW ⊢
  suffices hS9 : WD g s A (w_X9_wagon g a_t a_reaper a_reaper_findings a_reaper_places a_rings a_land a_ways a_rows a_turns a_plan a_planner a_slants a_reaper_crop a_reaper_bearing c_reaper_capacity c_reaper_weight c_reaper_unload c_reaper_findings c_reaper_places) H locs → W p l e (rm9 0 0) s m args below meth c H locs 0 0 Q (F0 m 0 ls []) by
    rw [← eH] at hW ⊢
    exact hS9 hW
  clear hW eH eL
  intro hW
  refine lv_iload_n (pc := 0) hx hb (dd dX9_wagon 0 rfl) rfl (lv_at hl 1 rfl) ?_
  refine lv_if_lt (pc := 1) (tgt := 29) hx hb (dd dX9_wagon 1 rfl) (by decide) (fun hc => ?_) (fun hc => ?_)
  · have h := it_t hc h
    refine lv_iconst (pc := 29) (v := (-1)) hx hb (dd dX9_wagon 15 rfl) (by decide) ?_
    have hW9 := hW
    cases h
    exact ret _ _ _ 30 hW9 rfl (dd dX9_wagon 16 rfl)
  · have h := it_f hc h
    refine lv_iload_n (pc := 4) hx hb (dd dX9_wagon 2 rfl) rfl (lv_at hl 1 rfl) ?_
    refine lv_aload_n (pc := 5) hx hb (dd dX9_wagon 3 rfl) rfl (lv_at hl 0 rfl) ?_
    refine rGet (pc := 6) M hW 0 8 iU9 rfl rfl (by decide) (uw2 58 rfl rfl) rfl (dd dX9_wagon 4 rfl) ?_
    refine rGet (pc := 9) M hW 1 2 iU4 rfl rfl (by decide) (uw2 26 rfl rfl) rfl (dd dX9_wagon 5 rfl) ?_
    refine lv_iconst (pc := 12) (v := 4) hx hb (dd dX9_wagon 6 rfl) (by decide) ?_
    obtain ⟨hi, h⟩ := ck_ex h
    refine rIald (pc := 13) M hW 2 rfl hi (dd dX9_wagon 7 rfl) ?_
    refine lv_icmp_ge (pc := 14) (tgt := 29) hx hb (dd dX9_wagon 8 rfl) (by decide) (fun hc => ?_) (fun hc => ?_)
    · have h := it_t hc h
      refine lv_iconst (pc := 29) (v := (-1)) hx hb (dd dX9_wagon 15 rfl) (by decide) ?_
      have hW9 := hW
      cases h
      exact ret _ _ _ 30 hW9 rfl (dd dX9_wagon 16 rfl)
    · have h := it_f hc h
      refine lv_aload_n (pc := 17) hx hb (dd dX9_wagon 9 rfl) rfl (lv_at hl 0 rfl) ?_
      refine rGet (pc := 18) M hW 0 8 iU9 rfl rfl (by decide) (uw2 58 rfl rfl) rfl (dd dX9_wagon 10 rfl) ?_
      refine rGet (pc := 21) M hW 1 3 iU4 rfl rfl (by decide) (uw2 28 rfl rfl) rfl (dd dX9_wagon 11 rfl) ?_
      refine lv_iload_n (pc := 24) hx hb (dd dX9_wagon 12 rfl) rfl (lv_at hl 1 rfl) ?_
      obtain ⟨hi, h⟩ := ck_ex h
      refine rIald (pc := 25) M hW 3 rfl hi (dd dX9_wagon 13 rfl) ?_
      refine lv_goto (pc := 26) (tgt := 30) hx hb (dd dX9_wagon 14 rfl) (by decide) ?_
      have hW9 := hW
      cases h
      exact ret _ _ _ 30 hW9 rfl (dd dX9_wagon 16 rfl)
abbrev w_X9_count (g : G9) (a_t a_land a_plan a_rows a_slants a_rings a_ways a_turns a_planner a_reaper a_land_kinds a_land_nears a_land_depths a_plan_numbers a_rows_strips a_rows_alongs a_rows_numbers a_rows_sorted a_rows_spare a_rows_tally a_rows_squares a_rows_starts a_rows_ends a_slants_firsts a_slants_seconds : Nat) (c_land_laid c_land_head c_land_fieldCount c_land_innerCount c_plan_there c_plan_size c_rows_there c_rows_size c_slants_size : Int32) : va_W := [ob a_t 9 [.ref a_rings, .ref a_land, .ref a_ways, .ref a_rows, .ref a_turns, .ref a_plan, .ref a_planner, .ref a_slants, .ref a_reaper], ob a_land 0 [.ref a_land_kinds, .ref a_land_nears, .ref a_land_depths, .int c_land_laid, .int c_land_head, .int c_land_fieldCount, .int c_land_innerCount], ob a_plan 2 [.ref a_turns, .ref a_plan_numbers, .int c_plan_there, .int c_plan_size], ob a_rows 6 [.ref a_land, .ref a_rows_strips, .ref a_rows_alongs, .ref a_rows_numbers, .ref a_rows_sorted, .ref a_rows_spare, .ref a_rows_tally, .ref a_rows_squares, .ref a_rows_starts, .ref a_rows_ends, .int c_rows_there, .int c_rows_size], ob a_slants 1 [.ref a_slants_firsts, .ref a_slants_seconds, .int c_slants_size]]
noncomputable def X9_count (c_land_laid c_land_head c_land_fieldCount c_land_innerCount c_plan_there c_rows_size c_slants_size v1 : Int32) : Option Int32 :=
  (if v1 = 0 then (if c_land_laid = 0 then (some 0) else (some 1)) else (if v1 = 1 then (some c_land_fieldCount) else (if v1 = 2 then (some (c_land_fieldCount - c_land_innerCount)) else (if v1 = 3 then (some c_land_innerCount) else (if v1 = 4 then (some c_rows_size) else (if v1 = 5 then (if c_plan_there = 0 then (some 0) else (some 1)) else (if v1 = 6 then (some c_slants_size) else (if v1 = 7 then (some c_land_head) else (some (-1))))))))))
set_option maxHeartbeats 4000000 in
set_option maxRecDepth 100000 in
theorem t_X9_count (l : Launch) (g : G9) (a_t a_land a_plan a_rows a_slants a_rings a_ways a_turns a_planner a_reaper a_land_kinds a_land_nears a_land_depths a_plan_numbers a_rows_strips a_rows_alongs a_rows_numbers a_rows_sorted a_rows_spare a_rows_tally a_rows_squares a_rows_starts a_rows_ends a_slants_firsts a_slants_seconds : Nat) (c_land_laid c_land_head c_land_fieldCount c_land_innerCount c_plan_there c_plan_size c_rows_there c_rows_size c_slants_size v1 r0 : Int32) (h : X9_count c_land_laid c_land_head c_land_fieldCount c_land_innerCount c_plan_there c_rows_size c_slants_size v1 = some r0) : CtI l g yX9_count cX9_count 2 .int 0 0 [.ref a_t, .int v1] (w_X9_count g a_t a_land a_plan a_rows a_slants a_rings a_ways a_turns a_planner a_reaper a_land_kinds a_land_nears a_land_depths a_plan_numbers a_rows_strips a_rows_alongs a_rows_numbers a_rows_sorted a_rows_spare a_rows_tally a_rows_squares a_rows_starts a_rows_ends a_slants_firsts a_slants_seconds c_land_laid c_land_head c_land_fieldCount c_land_innerCount c_plan_there c_plan_size c_rows_there c_rows_size c_slants_size) r0 (w_X9_count g a_t a_land a_plan a_rows a_slants a_rings a_ways a_turns a_planner a_reaper a_land_kinds a_land_nears a_land_depths a_plan_numbers a_rows_strips a_rows_alongs a_rows_numbers a_rows_sorted a_rows_spare a_rows_tally a_rows_squares a_rows_starts a_rows_ends a_slants_firsts a_slants_seconds c_land_laid c_land_head c_land_fieldCount c_land_innerCount c_plan_there c_plan_size c_rows_there c_rows_size c_slants_size) := by
  refine startI (by decide) (Nat.le_of_ble_eq_true rfl) ?_
  intro p e s m below meth c A Q ls args M hW hl ret
  have hx := M.1
  have hb := M.2.1
  have hown := M.2.2.2.1
  have hu := M.2.2.2.2.1
  have hl : lv_has ls 2 [(0, .ref a_t), (1, .int v1)] := hl
  unfold X9_count at h
  obtain ⟨H, eH⟩ : ∃ z, z = s.heap := ⟨_, rfl⟩
  obtain ⟨locs, eL⟩ : ∃ z, z = ([] : List Loc) := ⟨_, rfl⟩
  rw [← eL] at hW ⊢
  suffices hS9 : WD g s A (w_X9_count g a_t a_land a_plan a_rows a_slants a_rings a_ways a_turns a_planner a_reaper a_land_kinds a_land_nears a_land_depths a_plan_numbers a_rows_strips a_rows_alongs a_rows_numbers a_rows_sorted a_rows_spare a_rows_tally a_rows_squares a_rows_starts a_rows_ends a_slants_firsts a_slants_seconds c_land_laid c_land_head c_land_fieldCount c_land_innerCount c_plan_there c_plan_size c_rows_there c_rows_size c_slants_size) H locs → W p l e (rm9 0 0) s m args below meth c H locs 0 0 Q (F0 m 0 ls []) by
    rw [← eH] at hW ⊢
    exact hS9 hW
  clear hW eH eL
  intro hW
  refine lv_iload_n (pc := 0) hx hb (dd dX9_count 0 rfl) rfl (lv_at hl 1 rfl) ?_
  by_cases hc0 : v1 = 0
  · have h := it_t hc0 h
    refine lv_tableIn (pc := 1) (tgt := 48) hx hb (dd dX9_count 1 rfl) (by rw [hc0]; decide) (by rw [hc0]; decide) (by rw [hc0]; rfl) (by decide) ?_
    refine lv_aload_n (pc := 48) hx hb (dd dX9_count 2 rfl) rfl (lv_at hl 0 rfl) ?_
    refine rGet (pc := 49) M hW 0 1 iU9 rfl rfl (by decide) (uw2 51 rfl rfl) rfl (dd dX9_count 3 rfl) ?_
    refine rGet (pc := 52) M hW 1 3 iU0 rfl rfl (by decide) (uw1 83 rfl rfl) rfl (dd dX9_count 4 rfl) ?_
    refine lv_if_eq (pc := 55) (tgt := 62) hx hb (dd dX9_count 5 rfl) (by decide) (fun hc => ?_) (fun hc => ?_)
    · have h := it_t hc h
      refine lv_iconst (pc := 62) (v := 0) hx hb (dd dX9_count 8 rfl) (by decide) ?_
      have hW9 := hW
      cases h
      exact ret _ _ _ 63 hW9 rfl (dd dX9_count 9 rfl)
    · have h := it_f hc h
      refine lv_iconst (pc := 58) (v := 1) hx hb (dd dX9_count 6 rfl) (by decide) ?_
      refine lv_goto (pc := 59) (tgt := 63) hx hb (dd dX9_count 7 rfl) (by decide) ?_
      have hW9 := hW
      cases h
      exact ret _ _ _ 63 hW9 rfl (dd dX9_count 9 rfl)
  have h := it_f hc0 h
  by_cases hc1 : v1 = 1
  · have h := it_t hc1 h
    refine lv_tableIn (pc := 1) (tgt := 64) hx hb (dd dX9_count 1 rfl) (by rw [hc1]; decide) (by rw [hc1]; decide) (by rw [hc1]; rfl) (by decide) ?_
    refine lv_aload_n (pc := 64) hx hb (dd dX9_count 10 rfl) rfl (lv_at hl 0 rfl) ?_
    refine rGet (pc := 65) M hW 0 1 iU9 rfl rfl (by decide) (uw2 51 rfl rfl) rfl (dd dX9_count 11 rfl) ?_
    refine rGet (pc := 68) M hW 1 5 iU0 rfl rfl (by decide) (uw1 87 rfl rfl) rfl (dd dX9_count 12 rfl) ?_
    have hW9 := hW
    cases h
    exact ret _ _ _ 71 hW9 rfl (dd dX9_count 13 rfl)
  have h := it_f hc1 h
  by_cases hc2 : v1 = 2
  · have h := it_t hc2 h
    refine lv_tableIn (pc := 1) (tgt := 72) hx hb (dd dX9_count 1 rfl) (by rw [hc2]; decide) (by rw [hc2]; decide) (by rw [hc2]; rfl) (by decide) ?_
    refine lv_aload_n (pc := 72) hx hb (dd dX9_count 14 rfl) rfl (lv_at hl 0 rfl) ?_
    refine rGet (pc := 73) M hW 0 1 iU9 rfl rfl (by decide) (uw2 51 rfl rfl) rfl (dd dX9_count 15 rfl) ?_
    refine rGet (pc := 76) M hW 1 5 iU0 rfl rfl (by decide) (uw1 87 rfl rfl) rfl (dd dX9_count 16 rfl) ?_
    refine lv_aload_n (pc := 79) hx hb (dd dX9_count 17 rfl) rfl (lv_at hl 0 rfl) ?_
    refine rGet (pc := 80) M hW 0 1 iU9 rfl rfl (by decide) (uw2 51 rfl rfl) rfl (dd dX9_count 18 rfl) ?_
    refine rGet (pc := 83) M hW 1 6 iU0 rfl rfl (by decide) (uw1 90 rfl rfl) rfl (dd dX9_count 19 rfl) ?_
    refine lv_isub (pc := 86) hx hb (dd dX9_count 20 rfl) ?_
    have hW9 := hW
    cases h
    exact ret _ _ _ 87 hW9 rfl (dd dX9_count 21 rfl)
  have h := it_f hc2 h
  by_cases hc3 : v1 = 3
  · have h := it_t hc3 h
    refine lv_tableIn (pc := 1) (tgt := 88) hx hb (dd dX9_count 1 rfl) (by rw [hc3]; decide) (by rw [hc3]; decide) (by rw [hc3]; rfl) (by decide) ?_
    refine lv_aload_n (pc := 88) hx hb (dd dX9_count 22 rfl) rfl (lv_at hl 0 rfl) ?_
    refine rGet (pc := 89) M hW 0 1 iU9 rfl rfl (by decide) (uw2 51 rfl rfl) rfl (dd dX9_count 23 rfl) ?_
    refine rGet (pc := 92) M hW 1 6 iU0 rfl rfl (by decide) (uw1 90 rfl rfl) rfl (dd dX9_count 24 rfl) ?_
    have hW9 := hW
    cases h
    exact ret _ _ _ 95 hW9 rfl (dd dX9_count 25 rfl)
  have h := it_f hc3 h
  by_cases hc4 : v1 = 4
  · have h := it_t hc4 h
    refine lv_tableIn (pc := 1) (tgt := 96) hx hb (dd dX9_count 1 rfl) (by rw [hc4]; decide) (by rw [hc4]; decide) (by rw [hc4]; rfl) (by decide) ?_
    refine lv_aload_n (pc := 96) hx hb (dd dX9_count 26 rfl) rfl (lv_at hl 0 rfl) ?_
    refine rGet (pc := 97) M hW 0 3 iU9 rfl rfl (by decide) (uw2 53 rfl rfl) rfl (dd dX9_count 27 rfl) ?_
    refine rGet (pc := 100) M hW 3 11 iU6 rfl rfl (by decide) (uw1 160 rfl rfl) rfl (dd dX9_count 28 rfl) ?_
    have hW9 := hW
    cases h
    exact ret _ _ _ 103 hW9 rfl (dd dX9_count 29 rfl)
  have h := it_f hc4 h
  by_cases hc5 : v1 = 5
  · have h := it_t hc5 h
    refine lv_tableIn (pc := 1) (tgt := 104) hx hb (dd dX9_count 1 rfl) (by rw [hc5]; decide) (by rw [hc5]; decide) (by rw [hc5]; rfl) (by decide) ?_
    refine lv_aload_n (pc := 104) hx hb (dd dX9_count 30 rfl) rfl (lv_at hl 0 rfl) ?_
    refine rGet (pc := 105) M hW 0 5 iU9 rfl rfl (by decide) (uw2 55 rfl rfl) rfl (dd dX9_count 31 rfl) ?_
    refine rGet (pc := 108) M hW 2 2 iU2 rfl rfl (by decide) (uw1 219 rfl rfl) rfl (dd dX9_count 32 rfl) ?_
    refine lv_if_eq (pc := 111) (tgt := 118) hx hb (dd dX9_count 33 rfl) (by decide) (fun hc => ?_) (fun hc => ?_)
    · have h := it_t hc h
      refine lv_iconst (pc := 118) (v := 0) hx hb (dd dX9_count 36 rfl) (by decide) ?_
      have hW9 := hW
      cases h
      exact ret _ _ _ 119 hW9 rfl (dd dX9_count 37 rfl)
    · have h := it_f hc h
      refine lv_iconst (pc := 114) (v := 1) hx hb (dd dX9_count 34 rfl) (by decide) ?_
      refine lv_goto (pc := 115) (tgt := 119) hx hb (dd dX9_count 35 rfl) (by decide) ?_
      have hW9 := hW
      cases h
      exact ret _ _ _ 119 hW9 rfl (dd dX9_count 37 rfl)
  have h := it_f hc5 h
  by_cases hc6 : v1 = 6
  · have h := it_t hc6 h
    refine lv_tableIn (pc := 1) (tgt := 120) hx hb (dd dX9_count 1 rfl) (by rw [hc6]; decide) (by rw [hc6]; decide) (by rw [hc6]; rfl) (by decide) ?_
    refine lv_aload_n (pc := 120) hx hb (dd dX9_count 38 rfl) rfl (lv_at hl 0 rfl) ?_
    refine rGet (pc := 121) M hW 0 7 iU9 rfl rfl (by decide) (uw2 57 rfl rfl) rfl (dd dX9_count 39 rfl) ?_
    refine rGet (pc := 124) M hW 4 2 iU1 rfl rfl (by decide) (uw1 54 rfl rfl) rfl (dd dX9_count 40 rfl) ?_
    have hW9 := hW
    cases h
    exact ret _ _ _ 127 hW9 rfl (dd dX9_count 41 rfl)
  have h := it_f hc6 h
  by_cases hc7 : v1 = 7
  · have h := it_t hc7 h
    refine lv_tableIn (pc := 1) (tgt := 128) hx hb (dd dX9_count 1 rfl) (by rw [hc7]; decide) (by rw [hc7]; decide) (by rw [hc7]; rfl) (by decide) ?_
    refine lv_aload_n (pc := 128) hx hb (dd dX9_count 42 rfl) rfl (lv_at hl 0 rfl) ?_
    refine rGet (pc := 129) M hW 0 1 iU9 rfl rfl (by decide) (uw2 51 rfl rfl) rfl (dd dX9_count 43 rfl) ?_
    refine rGet (pc := 132) M hW 1 4 iU0 rfl rfl (by decide) (uw1 85 rfl rfl) rfl (dd dX9_count 44 rfl) ?_
    have hW9 := hW
    cases h
    exact ret _ _ _ 135 hW9 rfl (dd dX9_count 45 rfl)
  have h := it_f hc7 h
  have hd0 := ne_toInt hc0 (a := 0) (by decide)
  have hd1 := ne_toInt hc1 (a := 1) (by decide)
  have hd2 := ne_toInt hc2 (a := 2) (by decide)
  have hd3 := ne_toInt hc3 (a := 3) (by decide)
  have hd4 := ne_toInt hc4 (a := 4) (by decide)
  have hd5 := ne_toInt hc5 (a := 5) (by decide)
  have hd6 := ne_toInt hc6 (a := 6) (by decide)
  have hd7 := ne_toInt hc7 (a := 7) (by decide)
  refine lv_tableOut (pc := 1) (tgt := 136) hx hb (dd dX9_count 1 rfl) (by omega) (by decide) ?_
  refine lv_iconst (pc := 136) (v := (-1)) hx hb (dd dX9_count 46 rfl) (by decide) ?_
  have hW9 := hW
  cases h
  exact ret _ _ _ 137 hW9 rfl (dd dX9_count 47 rfl)
