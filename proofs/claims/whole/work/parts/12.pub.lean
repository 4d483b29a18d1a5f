abbrev w_X9_needRing (g : G9) (a_t a_rings a_land a_ways a_rows a_turns a_plan a_planner a_slants a_reaper : Nat) : va_W := [ob a_t 9 [.ref a_rings, .ref a_land, .ref a_ways, .ref a_rows, .ref a_turns, .ref a_plan, .ref a_planner, .ref a_slants, .ref a_reaper]]
noncomputable def X9_needRing (v1 : Int32) : Option (Nat ⊕ Unit) :=
  if v1 < 0 then (some (.inl 1)) else (if v1 < 4 then (rmap <| some ()) else (some (.inl 1)))
set_option maxHeartbeats 4000000 in
set_option maxRecDepth 100000 in
theorem t_X9_needRing (l : Launch) (g : G9) (a_t a_rings a_land a_ways a_rows a_turns a_plan a_planner a_slants a_reaper : Nat) (v1 : Int32) (h : X9_needRing v1 = some (.inr ())) : CtV l g yX9_needRing cX9_needRing 2 6 90 [.ref a_t, .int v1] (w_X9_needRing g a_t a_rings a_land a_ways a_rows a_turns a_plan a_planner a_slants a_reaper) (w_X9_needRing g a_t a_rings a_land a_ways a_rows a_turns a_plan a_planner a_slants a_reaper) := by
  refine startV (by decide) (Nat.le_of_ble_eq_true rfl) ?_
  intro p e s m below meth c A Q ls args M hW hl ret
  have hx := M.1
  have hb := M.2.1
  have hown := M.2.2.2.1
  have hu := M.2.2.2.2.1
  have hl : lv_has ls 2 [(0, .ref a_t), (1, .int v1)] := hl
  unfold X9_needRing at h
  obtain ⟨H, eH⟩ : ∃ z, z = s.heap := ⟨_, rfl⟩
  obtain ⟨locs, eL⟩ : ∃ z, z = ([] : List Loc) := ⟨_, rfl⟩
  rw [← eL] at hW ⊢
  suffices hS9 : WD g s A (w_X9_needRing g a_t a_rings a_land a_ways a_rows a_turns a_plan a_planner a_slants a_reaper) H locs → W p l e (rm9 6 90) s m args below meth c H locs 0 0 Q (F0 m 0 ls []) by
    rw [← eH] at hW ⊢
    exact hS9 hW
  clear hW eH eL
  intro hW
  refine lv_iload_n (pc := 0) hx hb (dd dX9_needRing 0 rfl) rfl (lv_at hl 1 rfl) ?_
  refine lv_if_lt (pc := 1) (tgt := 9) hx hb (dd dX9_needRing 1 rfl) (by decide) (fun hc => ?_) (fun hc => ?_)
  · have h := it_t hc h
    cases h
  · have h := it_f hc h
    refine lv_iload_n (pc := 4) hx hb (dd dX9_needRing 2 rfl) rfl (lv_at hl 1 rfl) ?_
    refine lv_iconst (pc := 5) (v := 4) hx hb (dd dX9_needRing 3 rfl) (by decide) ?_
    refine lv_icmp_lt (pc := 6) (tgt := 20) hx hb (dd dX9_needRing 4 rfl) (by decide) (fun hc => ?_) (fun hc => ?_)
    · have h := it_t hc h
      have h := rmap_ex h
      have hW9 := hW
      cases h
      exact ret _ _ _ 20 hW9 (dd dX9_needRing 10 rfl)
    · have h := it_f hc h
      cases h
set_option maxHeartbeats 4000000 in
set_option maxRecDepth 100000 in
theorem x_X9_needRing (l : Launch) (hl9 : l.stackTraces = false) (g : G9) (a_t a_rings a_land a_ways a_rows a_turns a_plan a_planner a_slants a_reaper : Nat) (v1 : Int32) (k0 : Nat) (h : X9_needRing v1 = some (.inl k0)) : CtX QnV l g yX9_needRing cX9_needRing 2 none 6 90 [.ref a_t, .int v1] (w_X9_needRing g a_t a_rings a_land a_ways a_rows a_turns a_plan a_planner a_slants a_reaper) (excN k0) := by
  refine startX (by decide) (Nat.le_of_ble_eq_true rfl) ?_
  intro p e s m below meth c A Q ls args M hW hl hlk hex hA9 hQ
  have hx := M.1
  have hb := M.2.1
  have hown := M.2.2.2.1
  have hu := M.2.2.2.2.1
  have hl : lv_has ls 2 [(0, .ref a_t), (1, .int v1)] := hl
  unfold X9_needRing at h
  obtain ⟨H, eH⟩ : ∃ z, z = s.heap := ⟨_, rfl⟩
  obtain ⟨locs, eL⟩ : ∃ z, z = ([] : List Loc) := ⟨_, rfl⟩
  rw [← eL] at hW ⊢
  suffices hS9 : WD g s A (w_X9_needRing g a_t a_rings a_land a_ways a_rows a_turns a_plan a_planner a_slants a_reaper) H locs → W p l e (rm9x 6 90) s m args below meth c H locs 0 0 Q (F0 m 0 ls []) by
    rw [← eH] at hW ⊢
    exact hS9 hW
  clear hW eL
  intro hW
  refine lv_iload_n (pc := 0) hx hb (dd dX9_needRing 0 rfl) rfl (lv_at hl 1 rfl) ?_
  refine lv_if_lt (pc := 1) (tgt := 9) hx hb (dd dX9_needRing 1 rfl) (by decide) (fun hc => ?_) (fun hc => ?_)
  · have h := it_t hc h
    have hW9 := hW
    cases h
    exact rThrowSW (pc := 9) (text := "no such ring") hl9 M hl.1 hW9 hlk hex hA9 hQ (by decide) (by decide) (uw2 128 rfl rfl) (uw1 17 rfl rfl) (by decide) xg1 xb1 xo1 ⟨by decide, by decide⟩ (Nat.le_of_ble_eq_true rfl) ⟨by decide, by decide⟩ (dd dX9_needRing 5 rfl) (dd dX9_needRing 6 rfl) (dd dX9_needRing 7 rfl) (dd dX9_needRing 8 rfl) (dd dX9_needRing 9 rfl)
  · have h := it_f hc h
    refine lv_iload_n (pc := 4) hx hb (dd dX9_needRing 2 rfl) rfl (lv_at hl 1 rfl) ?_
    refine lv_iconst (pc := 5) (v := 4) hx hb (dd dX9_needRing 3 rfl) (by decide) ?_
    refine lv_icmp_lt (pc := 6) (tgt := 20) hx hb (dd dX9_needRing 4 rfl) (by decide) (fun hc => ?_) (fun hc => ?_)
    · have h := it_t hc h
      exact (rmap_no h).elim
    · have h := it_f hc h
      have hW9 := hW
      cases h
      exact rThrowSW (pc := 9) (text := "no such ring") hl9 M hl.1 hW9 hlk hex hA9 hQ (by decide) (by decide) (uw2 128 rfl rfl) (uw1 17 rfl rfl) (by decide) xg1 xb1 xo1 ⟨by decide, by decide⟩ (Nat.le_of_ble_eq_true rfl) ⟨by decide, by decide⟩ (dd dX9_needRing 5 rfl) (dd dX9_needRing 6 rfl) (dd dX9_needRing 7 rfl) (dd dX9_needRing 8 rfl) (dd dX9_needRing 9 rfl)
abbrev w_X9_needSquare (g : G9) (a_t a_rings a_land a_ways a_rows a_turns a_plan a_planner a_slants a_reaper : Nat) : va_W := [ob a_t 9 [.ref a_rings, .ref a_land, .ref a_ways, .ref a_rows, .ref a_turns, .ref a_plan, .ref a_planner, .ref a_slants, .ref a_reaper]]
noncomputable def X9_needSquare (v1 v2 : Int32) : Option (Nat ⊕ Unit) :=
  bnd (X9_isSquare v1 v2) <| fun r_2 => if r_2 = 0 then (some (.inl 1)) else (rmap <| some ())
set_option maxHeartbeats 4000000 in
set_option maxRecDepth 100000 in
theorem t_X9_needSquare (l : Launch) (g : G9) (a_t a_rings a_land a_ways a_rows a_turns a_plan a_planner a_slants a_reaper : Nat) (v1 v2 : Int32) (h : X9_needSquare v1 v2 = some (.inr ())) : CtV l g yX9_needSquare cX9_needSquare 3 6 90 [.ref a_t, .int v1, .int v2] (w_X9_needSquare g a_t a_rings a_land a_ways a_rows a_turns a_plan a_planner a_slants a_reaper) (w_X9_needSquare g a_t a_rings a_land a_ways a_rows a_turns a_plan a_planner a_slants a_reaper) := by
  refine startV (by decide) (Nat.le_of_ble_eq_true rfl) ?_
  intro p e s m below meth c A Q ls args M hW hl ret
  have hx := M.1
  have hb := M.2.1
  have hown := M.2.2.2.1
  have hu := M.2.2.2.2.1
  have hl : lv_has ls 3 [(0, .ref a_t), (1, .int v1), (2, .int v2)] := hl
  unfold X9_needSquare at h
  obtain ⟨H, eH⟩ : ∃ z, z = s.heap := ⟨_, rfl⟩
  obtain ⟨locs, eL⟩ : ∃ z, z = ([] : List Loc) := ⟨_, rfl⟩
  rw [← eL] at hW ⊢
  suffices hS9 : WD g s A (w_X9_needSquare g a_t a_rings a_land a_ways a_rows a_turns a_plan a_planner a_slants a_reaper) H locs → W p l e (rm9 6 90) s m args below meth c H locs 0 0 Q (F0 m 0 ls []) by
    rw [← eH] at hW ⊢
    exact hS9 hW
  clear hW eH eL
  intro hW
  refine lv_iload_n (pc := 0) hx hb (dd dX9_needSquare 0 rfl) rfl (lv_at hl 1 rfl) ?_
  refine lv_iload_n (pc := 1) hx hb (dd dX9_needSquare 1 rfl) rfl (lv_at hl 2 rfl) ?_
  obtain ⟨r_2, hr, h⟩ := bnd_ex h
  refine callSI (pc := 2) (na := 2) (As := [.int v1, .int v2]) (rest := []) (ws2 := (w_X9_needSquare g a_t a_rings a_land a_ways a_rows a_turns a_plan a_planner a_slants a_reaper)) M hl.1 hW (t_X9_isSquare l g v1 v2 r_2 hr) [] [0] [0] rfl rfl rfl rfl rfl rfl rfl (uw3 92 rfl rfl) (uw3 131 rfl rfl) (uw3 91 rfl rfl) (uw1 1 rfl rfl) ⟨by decide, by decide, by decide⟩ rfl ⟨by decide, by decide⟩ (Nat.le_of_ble_eq_true rfl) ⟨Nat.zero_le _, Nat.zero_le _⟩ (dd dX9_needSquare 2 rfl) (fun H locs hW => ?_)
  refine lv_if_ne (pc := 5) (tgt := 19) hx hb (dd dX9_needSquare 3 rfl) (by decide) (fun hc => ?_) (fun hc => ?_)
  · have h := it_f hc h
    have h := rmap_ex h
    have hW9 := hW
    cases h
    exact ret _ _ _ 19 hW9 (dd dX9_needSquare 9 rfl)
  · have h := it_t hc h
    cases h
set_option maxHeartbeats 4000000 in
set_option maxRecDepth 100000 in
theorem x_X9_needSquare (l : Launch) (hl9 : l.stackTraces = false) (g : G9) (a_t a_rings a_land a_ways a_rows a_turns a_plan a_planner a_slants a_reaper : Nat) (v1 v2 : Int32) (k0 : Nat) (h : X9_needSquare v1 v2 = some (.inl k0)) : CtX QnV l g yX9_needSquare cX9_needSquare 3 none 6 90 [.ref a_t, .int v1, .int v2] (w_X9_needSquare g a_t a_rings a_land a_ways a_rows a_turns a_plan a_planner a_slants a_reaper) (excN k0) := by
  refine startX (by decide) (Nat.le_of_ble_eq_true rfl) ?_
  intro p e s m below meth c A Q ls args M hW hl hlk hex hA9 hQ
  have hx := M.1
  have hb := M.2.1
  have hown := M.2.2.2.1
  have hu := M.2.2.2.2.1
  have hl : lv_has ls 3 [(0, .ref a_t), (1, .int v1), (2, .int v2)] := hl
  unfold X9_needSquare at h
  obtain ⟨H, eH⟩ : ∃ z, z = s.heap := ⟨_, rfl⟩
  obtain ⟨locs, eL⟩ : ∃ z, z = ([] : List Loc) := ⟨_, rfl⟩
  rw [← eL] at hW ⊢
  suffices hS9 : WD g s A (w_X9_needSquare g a_t a_rings a_land a_ways a_rows a_turns a_plan a_planner a_slants a_reaper) H locs → W p l e (rm9x 6 90) s m args below meth c H locs 0 0 Q (F0 m 0 ls []) by
    rw [← eH] at hW ⊢
    exact hS9 hW
  clear hW eL
  intro hW
  refine lv_iload_n (pc := 0) hx hb (dd dX9_needSquare 0 rfl) rfl (lv_at hl 1 rfl) ?_
  refine lv_iload_n (pc := 1) hx hb (dd dX9_needSquare 1 rfl) rfl (lv_at hl 2 rfl) ?_
  obtain ⟨r_2, hr, h⟩ := bnd_ex h
  refine callSI (pc := 2) (na := 2) (As := [.int v1, .int v2]) (rest := []) (ws2 := (w_X9_needSquare g a_t a_rings a_land a_ways a_rows a_turns a_plan a_planner a_slants a_reaper)) M hl.1 hW (t_X9_isSquare l g v1 v2 r_2 hr) [] [0] [0] rfl rfl rfl rfl rfl rfl rfl (uw3 92 rfl rfl) (uw3 131 rfl rfl) (uw3 91 rfl rfl) (uw1 1 rfl rfl) ⟨by decide, by decide, by decide⟩ rfl ⟨by decide, by decide⟩ (Nat.le_of_ble_eq_true rfl) ⟨Nat.zero_le _, Nat.zero_le _⟩ (dd dX9_needSquare 2 rfl) (fun H locs hW => ?_)
  refine lv_if_ne (pc := 5) (tgt := 19) hx hb (dd dX9_needSquare 3 rfl) (by decide) (fun hc => ?_) (fun hc => ?_)
  · have h := it_f hc h
    exact (rmap_no h).elim
  · have h := it_t hc h
    have hW9 := hW
    cases h
    exact rThrowSW (pc := 8) (text := "no such square") hl9 M hl.1 hW9 hlk hex hA9 hQ (by decide) (by decide) (uw2 128 rfl rfl) (uw1 17 rfl rfl) (by decide) xg1 xb1 xo1 ⟨by decide, by decide⟩ (Nat.le_of_ble_eq_true rfl) ⟨by decide, by decide⟩ (dd dX9_needSquare 4 rfl) (dd dX9_needSquare 5 rfl) (dd dX9_needSquare 6 rfl) (dd dX9_needSquare 7 rfl) (dd dX9_needSquare 8 rfl)
abbrev w_X9_forgetRows (g : G9) (a_t a_plan a_rows a_turns a_turns_known a_rings a_land a_ways a_planner a_slants a_reaper a_plan_numbers a_rows_strips a_rows_alongs a_rows_numbers a_rows_sorted a_rows_spare a_rows_tally a_rows_squares a_rows_starts a_rows_ends a_turns_lengths : Nat) (c_plan_there c_plan_size c_rows_there c_rows_size : Int32) (c_turns_known : Ar) : va_W := [ob a_t 9 [.ref a_rings, .ref a_land, .ref a_ways, .ref a_rows, .ref a_turns, .ref a_plan, .ref a_planner, .ref a_slants, .ref a_reaper], ob a_plan 2 [.ref a_turns, .ref a_plan_numbers, .int c_plan_there, .int c_plan_size], ob a_rows 6 [.ref a_land, .ref a_rows_strips, .ref a_rows_alongs, .ref a_rows_numbers, .ref a_rows_sorted, .ref a_rows_spare, .ref a_rows_tally, .ref a_rows_squares, .ref a_rows_starts, .ref a_rows_ends, .int c_rows_there, .int c_rows_size], ob a_turns 7 [.ref a_ways, .ref a_rows, .ref a_turns_lengths, .ref a_turns_known], za g a_turns_known 120 c_turns_known]
noncomputable def X9_forgetRows (c_plan_there c_plan_size c_rows_there c_rows_size : Int32) (c_turns_known : Ar) : Option (Int32 × Int32 × Int32 × Int32 × Ar) :=
  bnd (X2_forget c_plan_there c_plan_size) <| un2 fun c_plan_there_4 c_plan_size_4 => bnd (X7_forget c_turns_known) <| fun c_turns_known_11 => bnd (X6_forget c_rows_there c_rows_size) <| un2 fun c_rows_there_18 c_rows_size_18 => some (c_plan_there_4, c_plan_size_4, c_rows_there_18, c_rows_size_18, c_turns_known_11)
set_option maxHeartbeats 4000000 in
set_option maxRecDepth 100000 in
theorem t_X9_forgetRows (l : Launch) (g : G9) (a_t a_plan a_rows a_turns a_turns_known a_rings a_land a_ways a_planner a_slants a_reaper a_plan_numbers a_rows_strips a_rows_alongs a_rows_numbers a_rows_sorted a_rows_spare a_rows_tally a_rows_squares a_rows_starts a_rows_ends a_turns_lengths : Nat) (c_plan_there c_plan_size c_rows_there c_rows_size : Int32) (c_turns_known : Ar) (o_plan_there o_plan_size o_rows_there o_rows_size : Int32) (o_turns_known : Ar) (h : X9_forgetRows c_plan_there c_plan_size c_rows_there c_rows_size c_turns_known = some (o_plan_there, o_plan_size, o_rows_there, o_rows_size, o_turns_known)) : CtV l g yX9_forgetRows cX9_forgetRows 1 1 21 [.ref a_t] (w_X9_forgetRows g a_t a_plan a_rows a_turns a_turns_known a_rings a_land a_ways a_planner a_slants a_reaper a_plan_numbers a_rows_strips a_rows_alongs a_rows_numbers a_rows_sorted a_rows_spare a_rows_tally a_rows_squares a_rows_starts a_rows_ends a_turns_lengths c_plan_there c_plan_size c_rows_there c_rows_size c_turns_known) (w_X9_forgetRows g a_t a_plan a_rows a_turns a_turns_known a_rings a_land a_ways a_planner a_slants a_reaper a_plan_numbers a_rows_strips a_rows_alongs a_rows_numbers a_rows_sorted a_rows_spare a_rows_tally a_rows_squares a_rows_starts a_rows_ends a_turns_lengths o_plan_there o_plan_size o_rows_there o_rows_size o_turns_known) := by
  refine startV (by decide) (Nat.le_of_ble_eq_true rfl) ?_
  intro p e s m below meth c A Q ls args M hW hl ret
  have hx := M.1
  have hb := M.2.1
  have hown := M.2.2.2.1
  have hu := M.2.2.2.2.1
  have hl : lv_has ls 1 [(0, .ref a_t)] := hl
  unfold X9_forgetRows at h
  obtain ⟨H, eH⟩ : ∃ z, z = s.heap := ⟨_, rfl⟩
  obtain ⟨locs, eL⟩ : ∃ z, z = ([] : List Loc) := ⟨_, rfl⟩
  rw [← eL] at hW ⊢
  suffices hS9 : WD g s A (w_X9_forgetRows g a_t a_plan a_rows a_turns a_turns_known a_rings a_land a_ways a_planner a_slants a_reaper a_plan_numbers a_rows_strips a_rows_alongs a_rows_numbers a_rows_sorted a_rows_spare a_rows_tally a_rows_squares a_rows_starts a_rows_ends a_turns_lengths c_plan_there c_plan_size c_rows_there c_rows_size c_turns_known) H locs → W p l e (rm9 1 21) s m args below meth c H locs 0 0 Q (F0 m 0 ls []) by
    rw [← eH] at hW ⊢
    exact hS9 hW
  clear hW eH eL
  intro hW
  refine lv_aload_n (pc := 0) hx hb (dd dX9_forgetRows 0 rfl) rfl (lv_at hl 0 rfl) ?_
  refine rGet (pc := 1) M hW 0 5 iU9 rfl rfl (by decide) (uw2 55 rfl rfl) rfl (dd dX9_forgetRows 1 rfl) ?_
  obtain ⟨⟨c_plan_there_4, c_plan_size_4⟩, hr, h⟩ := bnd_ex h
  have h := un2_at h
  refine callVV (pc := 4) (na := 0) (As := []) (rest := []) (ws2 := (w_X9_forgetRows g a_t a_plan a_rows a_turns a_turns_known a_rings a_land a_ways a_planner a_slants a_reaper a_plan_numbers a_rows_strips a_rows_alongs a_rows_numbers a_rows_sorted a_rows_spare a_rows_tally a_rows_squares a_rows_starts a_rows_ends a_turns_lengths c_plan_there_4 c_plan_size_4 c_rows_there c_rows_size c_turns_known)) M hl.1 hW (t_X2_forget l g a_plan a_turns a_plan_numbers c_plan_there c_plan_size c_plan_there_4 c_plan_size_4 hr) rfl [1] [0, 2, 3, 4] [0, 4, 1, 2, 3] rfl rfl rfl rfl rfl rfl rfl 1 2 rfl rfl rfl (uw3 1 rfl rfl) (uw2 238 rfl rfl) (uw2 239 rfl rfl) (uw3 0 rfl rfl) (uw1 9 rfl rfl) ⟨by decide, by decide, by decide⟩ rfl ⟨by decide, by decide⟩ (Nat.le_of_ble_eq_true rfl) ⟨Nat.zero_le _, Nat.zero_le _⟩ (dd dX9_forgetRows 2 rfl) (fun H locs hW => ?_)
  refine lv_aload_n (pc := 7) hx hb (dd dX9_forgetRows 3 rfl) rfl (lv_at hl 0 rfl) ?_
  refine rGet (pc := 8) M hW 0 4 iU9 rfl rfl (by decide) (uw2 54 rfl rfl) rfl (dd dX9_forgetRows 4 rfl) ?_
  obtain ⟨c_turns_known_11, hr, h⟩ := bnd_ex h
  refine callVV (pc := 11) (na := 0) (As := []) (rest := []) (ws2 := (w_X9_forgetRows g a_t a_plan a_rows a_turns a_turns_known a_rings a_land a_ways a_planner a_slants a_reaper a_plan_numbers a_rows_strips a_rows_alongs a_rows_numbers a_rows_sorted a_rows_spare a_rows_tally a_rows_squares a_rows_starts a_rows_ends a_turns_lengths c_plan_there_4 c_plan_size_4 c_rows_there c_rows_size c_turns_known_11)) M hl.1 hW (t_X7_forget l g a_turns a_turns_known a_ways a_rows a_turns_lengths c_turns_known c_turns_known_11 hr) rfl [3, 4] [0, 1, 2] [0, 1, 2, 3, 4] rfl rfl rfl rfl rfl rfl rfl 3 7 rfl rfl rfl (uw3 5 rfl rfl) (uw3 2 rfl rfl) (uw3 3 rfl rfl) (uw3 4 rfl rfl) (uw1 8 rfl rfl) ⟨by decide, by decide, by decide⟩ rfl ⟨by decide, by decide⟩ (Nat.le_of_ble_eq_true rfl) ⟨Nat.zero_le _, Nat.zero_le _⟩ (dd dX9_forgetRows 5 rfl) (fun H locs hW => ?_)
  refine lv_aload_n (pc := 14) hx hb (dd dX9_forgetRows 6 rfl) rfl (lv_at hl 0 rfl) ?_
  refine rGet (pc := 15) M hW 0 3 iU9 rfl rfl (by decide) (uw2 53 rfl rfl) rfl (dd dX9_forgetRows 7 rfl) ?_
  obtain ⟨⟨c_rows_there_18, c_rows_size_18⟩, hr, h⟩ := bnd_ex h
  have h := un2_at h
  refine callVV (pc := 18) (na := 0) (As := []) (rest := []) (ws2 := (w_X9_forgetRows g a_t a_plan a_rows a_turns a_turns_known a_rings a_land a_ways a_planner a_slants a_reaper a_plan_numbers a_rows_strips a_rows_alongs a_rows_numbers a_rows_sorted a_rows_spare a_rows_tally a_rows_squares a_rows_starts a_rows_ends a_turns_lengths c_plan_there_4 c_plan_size_4 c_rows_there_18 c_rows_size_18 c_turns_known_11)) M hl.1 hW (t_X6_forget l g a_rows a_land a_rows_strips a_rows_alongs a_rows_numbers a_rows_sorted a_rows_spare a_rows_tally a_rows_squares a_rows_starts a_rows_ends c_rows_there c_rows_size c_rows_there_18 c_rows_size_18 hr) rfl [2] [0, 1, 3, 4] [0, 1, 4, 2, 3] rfl rfl rfl rfl rfl rfl rfl 2 6 rfl rfl rfl (uw3 9 rfl rfl) (uw3 6 rfl rfl) (uw3 7 rfl rfl) (uw3 8 rfl rfl) (uw1 7 rfl rfl) ⟨by decide, by decide, by decide⟩ rfl ⟨by decide, by decide⟩ (Nat.le_of_ble_eq_true rfl) ⟨Nat.zero_le _, Nat.zero_le _⟩ (dd dX9_forgetRows 8 rfl) (fun H locs hW => ?_)
  have hW9 := hW
  cases h
  exact ret _ _ _ 21 hW9 (dd dX9_forgetRows 9 rfl)
abbrev w_X9_forgetLand (g : G9) (a_t a_land a_plan a_rows a_turns a_turns_known a_rings a_ways a_planner a_slants a_reaper a_land_kinds a_land_nears a_land_depths a_plan_numbers a_rows_strips a_rows_alongs a_rows_numbers a_rows_sorted a_rows_spare a_rows_tally a_rows_squares a_rows_starts a_rows_ends a_turns_lengths : Nat) (c_land_laid c_land_head c_land_fieldCount c_land_innerCount c_plan_there c_plan_size c_rows_there c_rows_size : Int32) (c_turns_known : Ar) : va_W := [ob a_t 9 [.ref a_rings, .ref a_land, .ref a_ways, .ref a_rows, .ref a_turns, .ref a_plan, .ref a_planner, .ref a_slants, .ref a_reaper], ob a_land 0 [.ref a_land_kinds, .ref a_land_nears, .ref a_land_depths, .int c_land_laid, .int c_land_head, .int c_land_fieldCount, .int c_land_innerCount], ob a_plan 2 [.ref a_turns, .ref a_plan_numbers, .int c_plan_there, .int c_plan_size], ob a_rows 6 [.ref a_land, .ref a_rows_strips, .ref a_rows_alongs, .ref a_rows_numbers, .ref a_rows_sorted, .ref a_rows_spare, .ref a_rows_tally, .ref a_rows_squares, .ref a_rows_starts, .ref a_rows_ends, .int c_rows_there, .int c_rows_size], ob a_turns 7 [.ref a_ways, .ref a_rows, .ref a_turns_lengths, .ref a_turns_known], za g a_turns_known 120 c_turns_known]
noncomputable def X9_forgetLand (c_land_laid c_land_head c_land_fieldCount c_land_innerCount c_plan_there c_plan_size c_rows_there c_rows_size : Int32) (c_turns_known : Ar) : Option (Int32 × Int32 × Int32 × Int32 × Int32 × Int32 × Int32 × Int32 × Ar) :=
  bnd (X9_forgetRows c_plan_there c_plan_size c_rows_there c_rows_size c_turns_known) <| un5 fun c_plan_there_1 c_plan_size_1 c_rows_there_1 c_rows_size_1 c_turns_known_1 => bnd (X0_forget c_land_laid c_land_head c_land_fieldCount c_land_innerCount) <| un4 fun c_land_laid_8 c_land_head_8 c_land_fieldCount_8 c_land_innerCount_8 => some (c_land_laid_8, c_land_head_8, c_land_fieldCount_8, c_land_innerCount_8, c_plan_there_1, c_plan_size_1, c_rows_there_1, c_rows_size_1, c_turns_known_1)
set_option maxHeartbeats 4000000 in
set_option maxRecDepth 100000 in
theorem t_X9_forgetLand (l : Launch) (g : G9) (a_t a_land a_plan a_rows a_turns a_turns_known a_rings a_ways a_planner a_slants a_reaper a_land_kinds a_land_nears a_land_depths a_plan_numbers a_rows_strips a_rows_alongs a_rows_numbers a_rows_sorted a_rows_spare a_rows_tally a_rows_squares a_rows_starts a_rows_ends a_turns_lengths : Nat) (c_land_laid c_land_head c_land_fieldCount c_land_innerCount c_plan_there c_plan_size c_rows_there c_rows_size : Int32) (c_turns_known : Ar) (o_land_laid o_land_head o_land_fieldCount o_land_innerCount o_plan_there o_plan_size o_rows_there o_rows_size : Int32) (o_turns_known : Ar) (h : X9_forgetLand c_land_laid c_land_head c_land_fieldCount c_land_innerCount c_plan_there c_plan_size c_rows_there c_rows_size c_turns_known = some (o_land_laid, o_land_head, o_land_fieldCount, o_land_innerCount, o_plan_there, o_plan_size, o_rows_there, o_rows_size, o_turns_known)) : CtV l g yX9_forgetLand cX9_forgetLand 1 2 41 [.ref a_t] (w_X9_forgetLand g a_t a_land a_plan a_rows a_turns a_turns_known a_rings a_ways a_planner a_slants a_reaper a_land_kinds a_land_nears a_land_depths a_plan_numbers a_rows_strips a_rows_alongs a_rows_numbers a_rows_sorted a_rows_spare a_rows_tally a_rows_squares a_rows_starts a_rows_ends a_turns_lengths c_land_laid c_land_head c_land_fieldCount c_land_innerCount c_plan_there c_plan_size c_rows_there c_rows_size c_turns_known) (w_X9_forgetLand g a_t a_land a_plan a_rows a_turns a_turns_known a_rings a_ways a_planner a_slants a_reaper a_land_kinds a_land_nears a_land_depths a_plan_numbers a_rows_strips a_rows_alongs a_rows_numbers a_rows_sorted a_rows_spare a_rows_tally a_rows_squares a_rows_starts a_rows_ends a_turns_lengths o_land_laid o_land_head o_land_fieldCount o_land_innerCount o_plan_there o_plan_size o_rows_there o_rows_size o_turns_known) := by
  refine startV (by decide) (Nat.le_of_ble_eq_true rfl) ?_
  intro p e s m below meth c A Q ls args M hW hl ret
  have hx := M.1
  have hb := M.2.1
  have hown := M.2.2.2.1
  have hu := M.2.2.2.2.1
  have hl : lv_has ls 1 [(0, .ref a_t)] := hl
  unfold X9_forgetLand at h
  obtain ⟨H, eH⟩ : ∃ z, z = s.heap := ⟨_, rfl⟩
  obtain ⟨locs, eL⟩ : ∃ z, z = ([] : List Loc) := ⟨_, rfl⟩
  rw [← eL] at hW ⊢
  suffices hS9 : WD g s A (w_X9_forgetLand g a_t a_land a_plan a_rows a_turns a_turns_known a_rings a_ways a_planner a_slants a_reaper a_land_kinds a_land_nears a_land_depths a_plan_numbers a_rows_strips a_rows_alongs a_rows_numbers a_rows_sorted a_rows_spare a_rows_tally a_rows_squares a_rows_starts a_rows_ends a_turns_lengths c_land_laid c_land_head c_land_fieldCount c_land_innerCount c_plan_there c_plan_size c_rows_there c_rows_size c_turns_known) H locs → W p l e (rm9 2 41) s m args below meth c H locs 0 0 Q (F0 m 0 ls []) by
    rw [← eH] at hW ⊢
    exact hS9 hW
  clear hW eH eL
  intro hW
  refine lv_aload_n (pc := 0) hx hb (dd dX9_forgetLand 0 rfl) rfl (lv_at hl 0 rfl) ?_
  obtain ⟨⟨c_plan_there_1, c_plan_size_1, c_rows_there_1, c_rows_size_1, c_turns_known_1⟩, hr, h⟩ := bnd_ex h
  have h := un5_at h
  refine callVV (pc := 1) (na := 0) (As := []) (rest := []) (ws2 := (w_X9_forgetLand g a_t a_land a_plan a_rows a_turns a_turns_known a_rings a_ways a_planner a_slants a_reaper a_land_kinds a_land_nears a_land_depths a_plan_numbers a_rows_strips a_rows_alongs a_rows_numbers a_rows_sorted a_rows_spare a_rows_tally a_rows_squares a_rows_starts a_rows_ends a_turns_lengths c_land_laid c_land_head c_land_fieldCount c_land_innerCount c_plan_there_1 c_plan_size_1 c_rows_there_1 c_rows_size_1 c_turns_known_1)) M hl.1 hW (t_X9_forgetRows l g a_t a_plan a_rows a_turns a_turns_known a_rings a_land a_ways a_planner a_slants a_reaper a_plan_numbers a_rows_strips a_rows_alongs a_rows_numbers a_rows_sorted a_rows_spare a_rows_tally a_rows_squares a_rows_starts a_rows_ends a_turns_lengths c_plan_there c_plan_size c_rows_there c_rows_size c_turns_known c_plan_there_1 c_plan_size_1 c_rows_there_1 c_rows_size_1 c_turns_known_1 hr) rfl [0, 2, 3, 4, 5] [1] [1, 0, 2, 3, 4, 5] rfl rfl rfl rfl rfl rfl rfl 0 9 rfl rfl rfl (uw2 237 rfl rfl) (uw2 234 rfl rfl) (uw2 236 rfl rfl) (uwp 3 rfl rfl) (uw1 1 rfl rfl) ⟨by decide, by decide, by decide⟩ rfl ⟨by decide, by decide⟩ (Nat.le_of_ble_eq_true rfl) ⟨Nat.zero_le _, Nat.zero_le _⟩ (dd dX9_forgetLand 1 rfl) (fun H locs hW => ?_)
  refine lv_aload_n (pc := 4) hx hb (dd dX9_forgetLand 2 rfl) rfl (lv_at hl 0 rfl) ?_
  refine rGet (pc := 5) M hW 0 1 iU9 rfl rfl (by decide) (uw2 51 rfl rfl) rfl (dd dX9_forgetLand 3 rfl) ?_
  obtain ⟨⟨c_land_laid_8, c_land_head_8, c_land_fieldCount_8, c_land_innerCount_8⟩, hr, h⟩ := bnd_ex h
  have h := un4_at h
  refine callVV (pc := 8) (na := 0) (As := []) (rest := []) (ws2 := (w_X9_forgetLand g a_t a_land a_plan a_rows a_turns a_turns_known a_rings a_ways a_planner a_slants a_reaper a_land_kinds a_land_nears a_land_depths a_plan_numbers a_rows_strips a_rows_alongs a_rows_numbers a_rows_sorted a_rows_spare a_rows_tally a_rows_squares a_rows_starts a_rows_ends a_turns_lengths c_land_laid_8 c_land_head_8 c_land_fieldCount_8 c_land_innerCount_8 c_plan_there_1 c_plan_size_1 c_rows_there_1 c_rows_size_1 c_turns_known_1)) M hl.1 hW (t_X0_forget l g a_land a_land_kinds a_land_nears a_land_depths c_land_laid c_land_head c_land_fieldCount c_land_innerCount c_land_laid_8 c_land_head_8 c_land_fieldCount_8 c_land_innerCount_8 hr) rfl [1] [0, 2, 3, 4, 5] [0, 5, 1, 2, 3, 4] rfl rfl rfl rfl rfl rfl rfl 1 0 rfl rfl rfl (uw3 13 rfl rfl) (uw3 10 rfl rfl) (uw3 11 rfl rfl) (uw3 12 rfl rfl) (uw1 5 rfl rfl) ⟨by decide, by decide, by decide⟩ rfl ⟨by decide, by decide⟩ (Nat.le_of_ble_eq_true rfl) ⟨Nat.zero_le _, Nat.zero_le _⟩ (dd dX9_forgetLand 4 rfl) (fun H locs hW => ?_)
  have hW9 := hW
  cases h
  exact ret _ _ _ 11 hW9 (dd dX9_forgetLand 5 rfl)
abbrev w_X9_corner (g : G9) (a_t a_land a_plan a_rings a_rows a_turns a_rings_0 a_rings_1 a_rings_2 a_rings_3 a_turns_known a_rings_0_corners a_rings_1_corners a_rings_2_corners a_rings_3_corners a_rings_0_corners_firsts a_rings_0_corners_seconds a_rings_1_corners_firsts a_rings_1_corners_seconds a_rings_2_corners_firsts a_rings_2_corners_seconds a_rings_3_corners_firsts a_rings_3_corners_seconds a_ways a_planner a_slants a_reaper a_land_kinds a_land_nears a_land_depths a_plan_numbers a_rows_strips a_rows_alongs a_rows_numbers a_rows_sorted a_rows_spare a_rows_tally a_rows_squares a_rows_starts a_rows_ends a_turns_lengths : Nat) (c_land_laid c_land_head c_land_fieldCount c_land_innerCount c_plan_there c_plan_size c_rows_there c_rows_size : Int32) (c_turns_known : Ar) (c_rings_0_corners_size c_rings_1_corners_size c_rings_2_corners_size c_rings_3_corners_size : Int32) (c_rings_0_corners_firsts c_rings_0_corners_seconds c_rings_1_corners_firsts c_rings_1_corners_seconds c_rings_2_corners_firsts c_rings_2_corners_seconds c_rings_3_corners_firsts c_rings_3_corners_seconds : Ar) : va_W := [ob a_t 9 [.ref a_rings, .ref a_land, .ref a_ways, .ref a_rows, .ref a_turns, .ref a_plan, .ref a_planner, .ref a_slants, .ref a_reaper], ob a_land 0 [.ref a_land_kinds, .ref a_land_nears, .ref a_land_depths, .int c_land_laid, .int c_land_head, .int c_land_fieldCount, .int c_land_innerCount], ob a_plan 2 [.ref a_turns, .ref a_plan_numbers, .int c_plan_there, .int c_plan_size], ra g a_rings 4 (rg a_rings_0 a_rings_1 a_rings_2 a_rings_3), ob a_rows 6 [.ref a_land, .ref a_rows_strips, .ref a_rows_alongs, .ref a_rows_numbers, .ref a_rows_sorted, .ref a_rows_spare, .ref a_rows_tally, .ref a_rows_squares, .ref a_rows_starts, .ref a_rows_ends, .int c_rows_there, .int c_rows_size], ob a_turns 7 [.ref a_ways, .ref a_rows, .ref a_turns_lengths, .ref a_turns_known], ob a_rings_0 5 [.ref a_rings_0_corners], ob a_rings_1 5 [.ref a_rings_1_corners], ob a_rings_2 5 [.ref a_rings_2_corners], ob a_rings_3 5 [.ref a_rings_3_corners], za g a_turns_known 120 c_turns_known, ob a_rings_0_corners 1 [.ref a_rings_0_corners_firsts, .ref a_rings_0_corners_seconds, .int c_rings_0_corners_size], ob a_rings_1_corners 1 [.ref a_rings_1_corners_firsts, .ref a_rings_1_corners_seconds, .int c_rings_1_corners_size], ob a_rings_2_corners 1 [.ref a_rings_2_corners_firsts, .ref a_rings_2_corners_seconds, .int c_rings_2_corners_size], ob a_rings_3_corners 1 [.ref a_rings_3_corners_firsts, .ref a_rings_3_corners_seconds, .int c_rings_3_corners_size], ia g a_rings_0_corners_firsts 12 c_rings_0_corners_firsts, ia g a_rings_0_corners_seconds 12 c_rings_0_corners_seconds, ia g a_rings_1_corners_firsts 12 c_rings_1_corners_firsts, ia g a_rings_1_corners_seconds 12 c_rings_1_corners_seconds, ia g a_rings_2_corners_firsts 12 c_rings_2_corners_firsts, ia g a_rings_2_corners_seconds 12 c_rings_2_corners_seconds, ia g a_rings_3_corners_firsts 12 c_rings_3_corners_firsts, ia g a_rings_3_corners_seconds 12 c_rings_3_corners_seconds]
noncomputable def X9_corner (c_land_laid c_land_head c_land_fieldCount c_land_innerCount c_plan_there c_plan_size c_rows_there c_rows_size : Int32) (c_turns_known : Ar) (c_rings_0_corners_size c_rings_1_corners_size c_rings_2_corners_size c_rings_3_corners_size : Int32) (c_rings_0_corners_firsts c_rings_0_corners_seconds c_rings_1_corners_firsts c_rings_1_corners_seconds c_rings_2_corners_firsts c_rings_2_corners_seconds c_rings_3_corners_firsts c_rings_3_corners_seconds : Ar) (v1 v2 v3 : Int32) : Option (Nat ⊕ (Int32 × Int32 × Int32 × Int32 × Int32 × Int32 × Int32 × Int32 × Int32 × Ar × Int32 × Int32 × Int32 × Int32 × Ar × Ar × Ar × Ar × Ar × Ar × Ar × Ar)) :=
  bnd (X9_needRing v1) <| Sum.elim (fun x9 => some (.inl x9)) fun (_ : Unit) => if v2 < 0 then (some (.inl 2)) else (if 40 < v2 then (some (.inl 2)) else (if v3 < 0 then (some (.inl 2)) else (if v3 ≤ 30 then (if v1 = 0 then (bnd (X1_isFull 12 c_rings_0_corners_size) <| fun r_44 => if r_44 = 0 then (rmap <| bnd (X9_forgetLand c_land_laid c_land_head c_land_fieldCount c_land_innerCount c_plan_there c_plan_size c_rows_there c_rows_size c_turns_known) <| un9 fun c_land_laid_61 c_land_head_61 c_land_fieldCount_61 c_land_innerCount_61 c_plan_there_61 c_plan_size_61 c_rows_there_61 c_rows_size_61 c_turns_known_61 => if v1 = 0 then (bnd (X1_add 12 c_rings_0_corners_size c_rings_0_corners_firsts c_rings_0_corners_seconds v2 v3) <| un4 fun r_75 c_rings_0_corners_size_75 c_rings_0_corners_firsts_75 c_rings_0_corners_seconds_75 => some (r_75, c_land_laid_61, c_land_head_61, c_land_fieldCount_61, c_land_innerCount_61, c_plan_there_61, c_plan_size_61, c_rows_there_61, c_rows_size_61, c_turns_known_61, c_rings_0_corners_size_75, c_rings_1_corners_size, c_rings_2_corners_size, c_rings_3_corners_size, c_rings_0_corners_firsts_75, c_rings_0_corners_seconds_75, c_rings_1_corners_firsts, c_rings_1_corners_seconds, c_rings_2_corners_firsts, c_rings_2_corners_seconds, c_rings_3_corners_firsts, c_rings_3_corners_seconds)) else (if v1 = 1 then (bnd (X1_add 12 c_rings_1_corners_size c_rings_1_corners_firsts c_rings_1_corners_seconds v2 v3) <| un4 fun r_75 c_rings_1_corners_size_75 c_rings_1_corners_firsts_75 c_rings_1_corners_seconds_75 => some (r_75, c_land_laid_61, c_land_head_61, c_land_fieldCount_61, c_land_innerCount_61, c_plan_there_61, c_plan_size_61, c_rows_there_61, c_rows_size_61, c_turns_known_61, c_rings_0_corners_size, c_rings_1_corners_size_75, c_rings_2_corners_size, c_rings_3_corners_size, c_rings_0_corners_firsts, c_rings_0_corners_seconds, c_rings_1_corners_firsts_75, c_rings_1_corners_seconds_75, c_rings_2_corners_firsts, c_rings_2_corners_seconds, c_rings_3_corners_firsts, c_rings_3_corners_seconds)) else (if v1 = 2 then (bnd (X1_add 12 c_rings_2_corners_size c_rings_2_corners_firsts c_rings_2_corners_seconds v2 v3) <| un4 fun r_75 c_rings_2_corners_size_75 c_rings_2_corners_firsts_75 c_rings_2_corners_seconds_75 => some (r_75, c_land_laid_61, c_land_head_61, c_land_fieldCount_61, c_land_innerCount_61, c_plan_there_61, c_plan_size_61, c_rows_there_61, c_rows_size_61, c_turns_known_61, c_rings_0_corners_size, c_rings_1_corners_size, c_rings_2_corners_size_75, c_rings_3_corners_size, c_rings_0_corners_firsts, c_rings_0_corners_seconds, c_rings_1_corners_firsts, c_rings_1_corners_seconds, c_rings_2_corners_firsts_75, c_rings_2_corners_seconds_75, c_rings_3_corners_firsts, c_rings_3_corners_seconds)) else (if v1 = 3 then (bnd (X1_add 12 c_rings_3_corners_size c_rings_3_corners_firsts c_rings_3_corners_seconds v2 v3) <| un4 fun r_75 c_rings_3_corners_size_75 c_rings_3_corners_firsts_75 c_rings_3_corners_seconds_75 => some (r_75, c_land_laid_61, c_land_head_61, c_land_fieldCount_61, c_land_innerCount_61, c_plan_there_61, c_plan_size_61, c_rows_there_61, c_rows_size_61, c_turns_known_61, c_rings_0_corners_size, c_rings_1_corners_size, c_rings_2_corners_size, c_rings_3_corners_size_75, c_rings_0_corners_firsts, c_rings_0_corners_seconds, c_rings_1_corners_firsts, c_rings_1_corners_seconds, c_rings_2_corners_firsts, c_rings_2_corners_seconds, c_rings_3_corners_firsts_75, c_rings_3_corners_seconds_75)) else none)))) else (some (.inl 3))) else (if v1 = 1 then (bnd (X1_isFull 12 c_rings_1_corners_size) <| fun r_44 => if r_44 = 0 then (rmap <| bnd (X9_forgetLand c_land_laid c_land_head c_land_fieldCount c_land_innerCount c_plan_there c_plan_size c_rows_there c_rows_size c_turns_known) <| un9 fun c_land_laid_61 c_land_head_61 c_land_fieldCount_61 c_land_innerCount_61 c_plan_there_61 c_plan_size_61 c_rows_there_61 c_rows_size_61 c_turns_known_61 => if v1 = 0 then (bnd (X1_add 12 c_rings_0_corners_size c_rings_0_corners_firsts c_rings_0_corners_seconds v2 v3) <| un4 fun r_75 c_rings_0_corners_size_75 c_rings_0_corners_firsts_75 c_rings_0_corners_seconds_75 => some (r_75, c_land_laid_61, c_land_head_61, c_land_fieldCount_61, c_land_innerCount_61, c_plan_there_61, c_plan_size_61, c_rows_there_61, c_rows_size_61, c_turns_known_61, c_rings_0_corners_size_75, c_rings_1_corners_size, c_rings_2_corners_size, c_rings_3_corners_size, c_rings_0_corners_firsts_75, c_rings_0_corners_seconds_75, c_rings_1_corners_firsts, c_rings_1_corners_seconds, c_rings_2_corners_firsts, c_rings_2_corners_seconds, c_rings_3_corners_firsts, c_rings_3_corners_seconds)) else (if v1 = 1 then (bnd (X1_add 12 c_rings_1_corners_size c_rings_1_corners_firsts c_rings_1_corners_seconds v2 v3) <| un4 fun r_75 c_rings_1_corners_size_75 c_rings_1_corners_firsts_75 c_rings_1_corners_seconds_75 => some (r_75, c_land_laid_61, c_land_head_61, c_land_fieldCount_61, c_land_innerCount_61, c_plan_there_61, c_plan_size_61, c_rows_there_61, c_rows_size_61, c_turns_known_61, c_rings_0_corners_size, c_rings_1_corners_size_75, c_rings_2_corners_size, c_rings_3_corners_size, c_rings_0_corners_firsts, c_rings_0_corners_seconds, c_rings_1_corners_firsts_75, c_rings_1_corners_seconds_75, c_rings_2_corners_firsts, c_rings_2_corners_seconds, c_rings_3_corners_firsts, c_rings_3_corners_seconds)) else (if v1 = 2 then (bnd (X1_add 12 c_rings_2_corners_size c_rings_2_corners_firsts c_rings_2_corners_seconds v2 v3) <| un4 fun r_75 c_rings_2_corners_size_75 c_rings_2_corners_firsts_75 c_rings_2_corners_seconds_75 => some (r_75, c_land_laid_61, c_land_head_61, c_land_fieldCount_61, c_land_innerCount_61, c_plan_there_61, c_plan_size_61, c_rows_there_61, c_rows_size_61, c_turns_known_61, c_rings_0_corners_size, c_rings_1_corners_size, c_rings_2_corners_size_75, c_rings_3_corners_size, c_rings_0_corners_firsts, c_rings_0_corners_seconds, c_rings_1_corners_firsts, c_rings_1_corners_seconds, c_rings_2_corners_firsts_75, c_rings_2_corners_seconds_75, c_rings_3_corners_firsts, c_rings_3_corners_seconds)) else (if v1 = 3 then (bnd (X1_add 12 c_rings_3_corners_size c_rings_3_corners_firsts c_rings_3_corners_seconds v2 v3) <| un4 fun r_75 c_rings_3_corners_size_75 c_rings_3_corners_firsts_75 c_rings_3_corners_seconds_75 => some (r_75, c_land_laid_61, c_land_head_61, c_land_fieldCount_61, c_land_innerCount_61, c_plan_there_61, c_plan_size_61, c_rows_there_61, c_rows_size_61, c_turns_known_61, c_rings_0_corners_size, c_rings_1_corners_size, c_rings_2_corners_size, c_rings_3_corners_size_75, c_rings_0_corners_firsts, c_rings_0_corners_seconds, c_rings_1_corners_firsts, c_rings_1_corners_seconds, c_rings_2_corners_firsts, c_rings_2_corners_seconds, c_rings_3_corners_firsts_75, c_rings_3_corners_seconds_75)) else none)))) else (some (.inl 3))) else (if v1 = 2 then (bnd (X1_isFull 12 c_rings_2_corners_size) <| fun r_44 => if r_44 = 0 then (rmap <| bnd (X9_forgetLand c_land_laid c_land_head c_land_fieldCount c_land_innerCount c_plan_there c_plan_size c_rows_there c_rows_size c_turns_known) <| un9 fun c_land_laid_61 c_land_head_61 c_land_fieldCount_61 c_land_innerCount_61 c_plan_there_61 c_plan_size_61 c_rows_there_61 c_rows_size_61 c_turns_known_61 => if v1 = 0 then (bnd (X1_add 12 c_rings_0_corners_size c_rings_0_corners_firsts c_rings_0_corners_seconds v2 v3) <| un4 fun r_75 c_rings_0_corners_size_75 c_rings_0_corners_firsts_75 c_rings_0_corners_seconds_75 => some (r_75, c_land_laid_61, c_land_head_61, c_land_fieldCount_61, c_land_innerCount_61, c_plan_there_61, c_plan_size_61, c_rows_there_61, c_rows_size_61, c_turns_known_61, c_rings_0_corners_size_75, c_rings_1_corners_size, c_rings_2_corners_size, c_rings_3_corners_size, c_rings_0_corners_firsts_75, c_rings_0_corners_seconds_75, c_rings_1_corners_firsts, c_rings_1_corners_seconds, c_rings_2_corners_firsts, c_rings_2_corners_seconds, c_rings_3_corners_firsts, c_rings_3_corners_seconds)) else (if v1 = 1 then (bnd (X1_add 12 c_rings_1_corners_size c_rings_1_corners_firsts c_rings_1_corners_seconds v2 v3) <| un4 fun r_75 c_rings_1_corners_size_75 c_rings_1_corners_firsts_75 c_rings_1_corners_seconds_75 => some (r_75, c_land_laid_61, c_land_head_61, c_land_fieldCount_61, c_land_innerCount_61, c_plan_there_61, c_plan_size_61, c_rows_there_61, c_rows_size_61, c_turns_known_61, c_rings_0_corners_size, c_rings_1_corners_size_75, c_rings_2_corners_size, c_rings_3_corners_size, c_rings_0_corners_firsts, c_rings_0_corners_seconds, c_rings_1_corners_firsts_75, c_rings_1_corners_seconds_75, c_rings_2_corners_firsts, c_rings_2_corners_seconds, c_rings_3_corners_firsts, c_rings_3_corners_seconds)) else (if v1 = 2 then (bnd (X1_add 12 c_rings_2_corners_size c_rings_2_corners_firsts c_rings_2_corners_seconds v2 v3) <| un4 fun r_75 c_rings_2_corners_size_75 c_rings_2_corners_firsts_75 c_rings_2_corners_seconds_75 => some (r_75, c_land_laid_61, c_land_head_61, c_land_fieldCount_61, c_land_innerCount_61, c_plan_there_61, c_plan_size_61, c_rows_there_61, c_rows_size_61, c_turns_known_61, c_rings_0_corners_size, c_rings_1_corners_size, c_rings_2_corners_size_75, c_rings_3_corners_size, c_rings_0_corners_firsts, c_rings_0_corners_seconds, c_rings_1_corners_firsts, c_rings_1_corners_seconds, c_rings_2_corners_firsts_75, c_rings_2_corners_seconds_75, c_rings_3_corners_firsts, c_rings_3_corners_seconds)) else (if v1 = 3 then (bnd (X1_add 12 c_rings_3_corners_size c_rings_3_corners_firsts c_rings_3_corners_seconds v2 v3) <| un4 fun r_75 c_rings_3_corners_size_75 c_rings_3_corners_firsts_75 c_rings_3_corners_seconds_75 => some (r_75, c_land_laid_61, c_land_head_61, c_land_fieldCount_61, c_land_innerCount_61, c_plan_there_61, c_plan_size_61, c_rows_there_61, c_rows_size_61, c_turns_known_61, c_rings_0_corners_size, c_rings_1_corners_size, c_rings_2_corners_size, c_rings_3_corners_size_75, c_rings_0_corners_firsts, c_rings_0_corners_seconds, c_rings_1_corners_firsts, c_rings_1_corners_seconds, c_rings_2_corners_firsts, c_rings_2_corners_seconds, c_rings_3_corners_firsts_75, c_rings_3_corners_seconds_75)) else none)))) else (some (.inl 3))) else (if v1 = 3 then (bnd (X1_isFull 12 c_rings_3_corners_size) <| fun r_44 => if r_44 = 0 then (rmap <| bnd (X9_forgetLand c_land_laid c_land_head c_land_fieldCount c_land_innerCount c_plan_there c_plan_size c_rows_there c_rows_size c_turns_known) <| un9 fun c_land_laid_61 c_land_head_61 c_land_fieldCount_61 c_land_innerCount_61 c_plan_there_61 c_plan_size_61 c_rows_there_61 c_rows_size_61 c_turns_known_61 => if v1 = 0 then (bnd (X1_add 12 c_rings_0_corners_size c_rings_0_corners_firsts c_rings_0_corners_seconds v2 v3) <| un4 fun r_75 c_rings_0_corners_size_75 c_rings_0_corners_firsts_75 c_rings_0_corners_seconds_75 => some (r_75, c_land_laid_61, c_land_head_61, c_land_fieldCount_61, c_land_innerCount_61, c_plan_there_61, c_plan_size_61, c_rows_there_61, c_rows_size_61, c_turns_known_61, c_rings_0_corners_size_75, c_rings_1_corners_size, c_rings_2_corners_size, c_rings_3_corners_size, c_rings_0_corners_firsts_75, c_rings_0_corners_seconds_75, c_rings_1_corners_firsts, c_rings_1_corners_seconds, c_rings_2_corners_firsts, c_rings_2_corners_seconds, c_rings_3_corners_firsts, c_rings_3_corners_seconds)) else (if v1 = 1 then (bnd (X1_add 12 c_rings_1_corners_size c_rings_1_corners_firsts c_rings_1_corners_seconds v2 v3) <| un4 fun r_75 c_rings_1_corners_size_75 c_rings_1_corners_firsts_75 c_rings_1_corners_seconds_75 => some (r_75, c_land_laid_61, c_land_head_61, c_land_fieldCount_61, c_land_innerCount_61, c_plan_there_61, c_plan_size_61, c_rows_there_61, c_rows_size_61, c_turns_known_61, c_rings_0_corners_size, c_rings_1_corners_size_75, c_rings_2_corners_size, c_rings_3_corners_size, c_rings_0_corners_firsts, c_rings_0_corners_seconds, c_rings_1_corners_firsts_75, c_rings_1_corners_seconds_75, c_rings_2_corners_firsts, c_rings_2_corners_seconds, c_rings_3_corners_firsts, c_rings_3_corners_seconds)) else (if v1 = 2 then (bnd (X1_add 12 c_rings_2_corners_size c_rings_2_corners_firsts c_rings_2_corners_seconds v2 v3) <| un4 fun r_75 c_rings_2_corners_size_75 c_rings_2_corners_firsts_75 c_rings_2_corners_seconds_75 => some (r_75, c_land_laid_61, c_land_head_61, c_land_fieldCount_61, c_land_innerCount_61, c_plan_there_61, c_plan_size_61, c_rows_there_61, c_rows_size_61, c_turns_known_61, c_rings_0_corners_size, c_rings_1_corners_size, c_rings_2_corners_size_75, c_rings_3_corners_size, c_rings_0_corners_firsts, c_rings_0_corners_seconds, c_rings_1_corners_firsts, c_rings_1_corners_seconds, c_rings_2_corners_firsts_75, c_rings_2_corners_seconds_75, c_rings_3_corners_firsts, c_rings_3_corners_seconds)) else (if v1 = 3 then (bnd (X1_add 12 c_rings_3_corners_size c_rings_3_corners_firsts c_rings_3_corners_seconds v2 v3) <| un4 fun r_75 c_rings_3_corners_size_75 c_rings_3_corners_firsts_75 c_rings_3_corners_seconds_75 => some (r_75, c_land_laid_61, c_land_head_61, c_land_fieldCount_61, c_land_innerCount_61, c_plan_there_61, c_plan_size_61, c_rows_there_61, c_rows_size_61, c_turns_known_61, c_rings_0_corners_size, c_rings_1_corners_size, c_rings_2_corners_size, c_rings_3_corners_size_75, c_rings_0_corners_firsts, c_rings_0_corners_seconds, c_rings_1_corners_firsts, c_rings_1_corners_seconds, c_rings_2_corners_firsts, c_rings_2_corners_seconds, c_rings_3_corners_firsts_75, c_rings_3_corners_seconds_75)) else none)))) else (some (.inl 3))) else none)))) else (some (.inl 2)))))
set_option maxHeartbeats 4000000 in
set_option maxRecDepth 100000 in
theorem t_X9_corner (l : Launch) (g : G9) (a_t a_land a_plan a_rings a_rows a_turns a_rings_0 a_rings_1 a_rings_2 a_rings_3 a_turns_known a_rings_0_corners a_rings_1_corners a_rings_2_corners a_rings_3_corners a_rings_0_corners_firsts a_rings_0_corners_seconds a_rings_1_corners_firsts a_rings_1_corners_seconds a_rings_2_corners_firsts a_rings_2_corners_seconds a_rings_3_corners_firsts a_rings_3_corners_seconds a_ways a_planner a_slants a_reaper a_land_kinds a_land_nears a_land_depths a_plan_numbers a_rows_strips a_rows_alongs a_rows_numbers a_rows_sorted a_rows_spare a_rows_tally a_rows_squares a_rows_starts a_rows_ends a_turns_lengths : Nat) (c_land_laid c_land_head c_land_fieldCount c_land_innerCount c_plan_there c_plan_size c_rows_there c_rows_size : Int32) (c_turns_known : Ar) (c_rings_0_corners_size c_rings_1_corners_size c_rings_2_corners_size c_rings_3_corners_size : Int32) (c_rings_0_corners_firsts c_rings_0_corners_seconds c_rings_1_corners_firsts c_rings_1_corners_seconds c_rings_2_corners_firsts c_rings_2_corners_seconds c_rings_3_corners_firsts c_rings_3_corners_seconds : Ar) (v1 v2 v3 r0 o_land_laid o_land_head o_land_fieldCount o_land_innerCount o_plan_there o_plan_size o_rows_there o_rows_size : Int32) (o_turns_known : Ar) (o_rings_0_corners_size o_rings_1_corners_size o_rings_2_corners_size o_rings_3_corners_size : Int32) (o_rings_0_corners_firsts o_rings_0_corners_seconds o_rings_1_corners_firsts o_rings_1_corners_seconds o_rings_2_corners_firsts o_rings_2_corners_seconds o_rings_3_corners_firsts o_rings_3_corners_seconds : Ar) (h : X9_corner c_land_laid c_land_head c_land_fieldCount c_land_innerCount c_plan_there c_plan_size c_rows_there c_rows_size c_turns_known c_rings_0_corners_size c_rings_1_corners_size c_rings_2_corners_size c_rings_3_corners_size c_rings_0_corners_firsts c_rings_0_corners_seconds c_rings_1_corners_firsts c_rings_1_corners_seconds c_rings_2_corners_firsts c_rings_2_corners_seconds c_rings_3_corners_firsts c_rings_3_corners_seconds v1 v2 v3 = some (.inr (r0, o_land_laid, o_land_head, o_land_fieldCount, o_land_innerCount, o_plan_there, o_plan_size, o_rows_there, o_rows_size, o_turns_known, o_rings_0_corners_size, o_rings_1_corners_size, o_rings_2_corners_size, o_rings_3_corners_size, o_rings_0_corners_firsts, o_rings_0_corners_seconds, o_rings_1_corners_firsts, o_rings_1_corners_seconds, o_rings_2_corners_firsts, o_rings_2_corners_seconds, o_rings_3_corners_firsts, o_rings_3_corners_seconds))) : CtI l g yX9_corner cX9_corner 4 .int 7 111 [.ref a_t, .int v1, .int v2, .int v3] (w_X9_corner g a_t a_land a_plan a_rings a_rows a_turns a_rings_0 a_rings_1 a_rings_2 a_rings_3 a_turns_known a_rings_0_corners a_rings_1_corners a_rings_2_corners a_rings_3_corners a_rings_0_corners_firsts a_rings_0_corners_seconds a_rings_1_corners_firsts a_rings_1_corners_seconds a_rings_2_corners_firsts a_rings_2_corners_seconds a_rings_3_corners_firsts a_rings_3_corners_seconds a_ways a_planner a_slants a_reaper a_land_kinds a_land_nears a_land_depths a_plan_numbers a_rows_strips a_rows_alongs a_rows_numbers a_rows_sorted a_rows_spare a_rows_tally a_rows_squares a_rows_starts a_rows_ends a_turns_lengths c_land_laid c_land_head c_land_fieldCount c_land_innerCount c_plan_there c_plan_size c_rows_there c_rows_size c_turns_known c_rings_0_corners_size c_rings_1_corners_size c_rings_2_corners_size c_rings_3_corners_size c_rings_0_corners_firsts c_rings_0_corners_seconds c_rings_1_corners_firsts c_rings_1_corners_seconds c_rings_2_corners_firsts c_rings_2_corners_seconds c_rings_3_corners_firsts c_rings_3_corners_seconds) r0 (w_X9_corner g a_t a_land a_plan a_rings a_rows a_turns a_rings_0 a_rings_1 a_rings_2 a_rings_3 a_turns_known a_rings_0_corners a_rings_1_corners a_rings_2_corners a_rings_3_corners a_rings_0_corners_firsts a_rings_0_corners_seconds a_rings_1_corners_firsts a_rings_1_corners_seconds a_rings_2_corners_firsts a_rings_2_corners_seconds a_rings_3_corners_firsts a_rings_3_corners_seconds a_ways a_planner a_slants a_reaper a_land_kinds a_land_nears a_land_depths a_plan_numbers a_rows_strips a_rows_alongs a_rows_numbers a_rows_sorted a_rows_spare a_rows_tally a_rows_squares a_rows_starts a_rows_ends a_turns_lengths o_land_laid o_land_head o_land_fieldCount o_land_innerCount o_plan_there o_plan_size o_rows_there o_rows_size o_turns_known o_rings_0_corners_size o_rings_1_corners_size o_rings_2_corners_size o_rings_3_corners_size o_rings_0_corners_firsts o_rings_0_corners_seconds o_rings_1_corners_firsts o_rings_1_corners_seconds o_rings_2_corners_firsts o_rings_2_corners_seconds o_rings_3_corners_firsts o_rings_3_corners_seconds) := by
  refine startI (by decide) (Nat.le_of_ble_eq_true rfl) ?_
  intro p e s m below meth c A Q ls args M hW hl ret
  have hx := M.1
  have hb := M.2.1
  have hown := M.2.2.2.1
  have hu := M.2.2.2.2.1
  have hl : lv_has ls 4 [(0, .ref a_t), (1, .int v1), (2, .int v2), (3, .int v3)] := hl
  unfold X9_corner at h
  obtain ⟨H, eH⟩ : ∃ z, z = s.heap := ⟨_, rfl⟩
  obtain ⟨locs, eL⟩ : ∃ z, z = ([] : List Loc) := ⟨_, rfl⟩
  rw [← eL] at hW ⊢
  suffices hS9 : WD g s A (w_X9_corner g a_t a_land a_plan a_rings a_rows a_turns a_rings_0 a_rings_1 a_rings_2 a_rings_3 a_turns_known a_rings_0_corners a_rings_1_corners a_rings_2_corners a_rings_3_corners a_rings_0_corners_firsts a_rings_0_corners_seconds a_rings_1_corners_firsts a_rings_1_corners_seconds a_rings_2_corners_firsts a_rings_2_corners_seconds a_rings_3_corners_firsts a_rings_3_corners_seconds a_ways a_planner a_slants a_reaper a_land_kinds a_land_nears a_land_depths a_plan_numbers a_rows_strips a_rows_alongs a_rows_numbers a_rows_sorted a_rows_spare a_rows_tally a_rows_squares a_rows_starts a_rows_ends a_turns_lengths c_land_laid c_land_head c_land_fieldCount c_land_innerCount c_plan_there c_plan_size c_rows_there c_rows_size c_turns_known c_rings_0_corners_size c_rings_1_corners_size c_rings_2_corners_size c_rings_3_corners_size c_rings_0_corners_firsts c_rings_0_corners_seconds c_rings_1_corners_firsts c_rings_1_corners_seconds c_rings_2_corners_firsts c_rings_2_corners_seconds c_rings_3_corners_firsts c_rings_3_corners_seconds) H locs → W p l e (rm9 7 111) s m args below meth c H locs 0 0 Q (F0 m 0 ls []) by
    rw [← eH] at hW ⊢
    exact hS9 hW
  clear hW eH eL
  intro hW
  refine lv_aload_n (pc := 0) hx hb (dd dX9_corner 0 rfl) rfl (lv_at hl 0 rfl) ?_
  refine lv_iload_n (pc := 1) hx hb (dd dX9_corner 1 rfl) rfl (lv_at hl 1 rfl) ?_
  obtain ⟨ex9, hr, h⟩ := bnd_ex h
  rcases ex9 with x9 | u9
  · have h := sE_l h
    cases h
  have h := sE_r h
  refine callVV (pc := 2) (na := 1) (As := [.int v1]) (rest := []) (ws2 := (w_X9_corner g a_t a_land a_plan a_rings a_rows a_turns a_rings_0 a_rings_1 a_rings_2 a_rings_3 a_turns_known a_rings_0_corners a_rings_1_corners a_rings_2_corners a_rings_3_corners a_rings_0_corners_firsts a_rings_0_corners_seconds a_rings_1_corners_firsts a_rings_1_corners_seconds a_rings_2_corners_firsts a_rings_2_corners_seconds a_rings_3_corners_firsts a_rings_3_corners_seconds a_ways a_planner a_slants a_reaper a_land_kinds a_land_nears a_land_depths a_plan_numbers a_rows_strips a_rows_alongs a_rows_numbers a_rows_sorted a_rows_spare a_rows_tally a_rows_squares a_rows_starts a_rows_ends a_turns_lengths c_land_laid c_land_head c_land_fieldCount c_land_innerCount c_plan_there c_plan_size c_rows_there c_rows_size c_turns_known c_rings_0_corners_size c_rings_1_corners_size c_rings_2_corners_size c_rings_3_corners_size c_rings_0_corners_firsts c_rings_0_corners_seconds c_rings_1_corners_firsts c_rings_1_corners_seconds c_rings_2_corners_firsts c_rings_2_corners_seconds c_rings_3_corners_firsts c_rings_3_corners_seconds)) M hl.1 hW (t_X9_needRing l g a_t a_rings a_land a_ways a_rows a_turns a_plan a_planner a_slants a_reaper v1 hr) rfl [0] [1, 2, 3, 4, 5, 6, 7, 8, 9, 10, 11, 12, 13, 14, 15, 16, 17, 18, 19, 20, 21, 22] [22, 0, 1, 2, 3, 4, 5, 6, 7, 8, 9, 10, 11, 12, 13, 14, 15, 16, 17, 18, 19, 20, 21] rfl rfl rfl rfl rfl rfl rfl 0 9 rfl rfl rfl (uw2 127 rfl rfl) (uw2 124 rfl rfl) (uw2 126 rfl rfl) (uwp 0 rfl rfl) (uw1 1 rfl rfl) ⟨by decide, by decide, by decide⟩ rfl ⟨by decide, by decide⟩ (Nat.le_of_ble_eq_true rfl)  ⟨Nat.zero_le _, Nat.zero_le _⟩ (dd dX9_corner 2 rfl) (fun H locs hW => ?_)
  refine lv_iload_n (pc := 5) hx hb (dd dX9_corner 3 rfl) rfl (lv_at hl 2 rfl) ?_
  refine lv_if_lt (pc := 6) (tgt := 25) hx hb (dd dX9_corner 4 rfl) (by decide) (fun hc => ?_) (fun hc => ?_)
  · have h := it_t hc h
    cases h
  · have h := it_f hc h
    refine lv_iload_n (pc := 9) hx hb (dd dX9_corner 5 rfl) rfl (lv_at hl 2 rfl) ?_
    refine lv_bipush (pc := 10) (v := 40) hx hb (dd dX9_corner 6 rfl) (by decide) ?_
    refine lv_icmp_gt (pc := 12) (tgt := 25) hx hb (dd dX9_corner 7 rfl) (by decide) (fun hc => ?_) (fun hc => ?_)
    · have h := it_t hc h
      cases h
    · have h := it_f hc h
      refine lv_iload_n (pc := 15) hx hb (dd dX9_corner 8 rfl) rfl (lv_at hl 3 rfl) ?_
      refine lv_if_lt (pc := 16) (tgt := 25) hx hb (dd dX9_corner 9 rfl) (by decide) (fun hc => ?_) (fun hc => ?_)
      · have h := it_t hc h
        cases h
      · have h := it_f hc h
        refine lv_iload_n (pc := 19) hx hb (dd dX9_corner 10 rfl) rfl (lv_at hl 3 rfl) ?_
        refine lv_bipush (pc := 20) (v := 30) hx hb (dd dX9_corner 11 rfl) (by decide) ?_
        refine lv_icmp_le (pc := 22) (tgt := 35) hx hb (dd dX9_corner 12 rfl) (by decide) (fun hc => ?_) (fun hc => ?_)
        · have h := it_t hc h
          refine lv_aload_n (pc := 35) hx hb (dd dX9_corner 18 rfl) rfl (lv_at hl 0 rfl) ?_
          refine rGet (pc := 36) M hW 0 0 iU9 rfl rfl (by decide) (uw2 50 rfl rfl) rfl (dd dX9_corner 19 rfl) ?_
          refine lv_iload_n (pc := 39) hx hb (dd dX9_corner 20 rfl) rfl (lv_at hl 1 rfl) ?_
          by_cases hc : v1 = 0
          · have h := it_t hc h
            refine rAald (pc := 40) M hW 3 (v := .ref a_rings_0) rfl (by rw [hc]; decide) (by rw [hc]; rfl) (dd dX9_corner 21 rfl) ?_
            refine rGet (pc := 41) M hW 6 0 iU5 rfl rfl (by decide) (uw1 64 rfl rfl) rfl (dd dX9_corner 22 rfl) ?_
            obtain ⟨r_44, hr, h⟩ := bnd_ex h
            refine callVI (pc := 44) (na := 0) (As := []) (rest := []) (ws2 := (w_X9_corner g a_t a_land a_plan a_rings a_rows a_turns a_rings_0 a_rings_1 a_rings_2 a_rings_3 a_turns_known a_rings_0_corners a_rings_1_corners a_rings_2_corners a_rings_3_corners a_rings_0_corners_firsts a_rings_0_corners_seconds a_rings_1_corners_firsts a_rings_1_corners_seconds a_rings_2_corners_firsts a_rings_2_corners_seconds a_rings_3_corners_firsts a_rings_3_corners_seconds a_ways a_planner a_slants a_reaper a_land_kinds a_land_nears a_land_depths a_plan_numbers a_rows_strips a_rows_alongs a_rows_numbers a_rows_sorted a_rows_spare a_rows_tally a_rows_squares a_rows_starts a_rows_ends a_turns_lengths c_land_laid c_land_head c_land_fieldCount c_land_innerCount c_plan_there c_plan_size c_rows_there c_rows_size c_turns_known c_rings_0_corners_size c_rings_1_corners_size c_rings_2_corners_size c_rings_3_corners_size c_rings_0_corners_firsts c_rings_0_corners_seconds c_rings_1_corners_firsts c_rings_1_corners_seconds c_rings_2_corners_firsts c_rings_2_corners_seconds c_rings_3_corners_firsts c_rings_3_corners_seconds)) M hl.1 hW (t_X1_isFull l g a_rings_0_corners a_rings_0_corners_firsts a_rings_0_corners_seconds 12 c_rings_0_corners_size c_rings_0_corners_firsts r_44 hr) rfl [11, 15] [0, 1, 2, 3, 4, 5, 6, 7, 8, 9, 10, 12, 13, 14, 16, 17, 18, 19, 20, 21, 22] [0, 1, 2, 3, 4, 5, 6, 7, 8, 9, 10, 21, 11, 12, 13, 22, 14, 15, 16, 17, 18, 19, 20] rfl rfl rfl rfl rfl rfl rfl 11 1 rfl rfl rfl (uw2 92 rfl rfl) (uw2 89 rfl rfl) (uw2 90 rfl rfl) (uw2 91 rfl rfl) (uw1 3 rfl rfl) ⟨by decide, by decide, by decide⟩ rfl ⟨by decide, by decide⟩ (Nat.le_of_ble_eq_true rfl) ⟨Nat.zero_le _, Nat.zero_le _⟩ (dd dX9_corner 23 rfl) (fun H locs hW => ?_)
            refine lv_if_eq (pc := 47) (tgt := 60) hx hb (dd dX9_corner 24 rfl) (by decide) (fun hc => ?_) (fun hc => ?_)
            · have h := it_t hc h
              have h := rmap_ex h
              refine lv_aload_n (pc := 60) hx hb (dd dX9_corner 30 rfl) rfl (lv_at hl 0 rfl) ?_
              obtain ⟨⟨c_land_laid_61, c_land_head_61, c_land_fieldCount_61, c_land_innerCount_61, c_plan_there_61, c_plan_size_61, c_rows_there_61, c_rows_size_61, c_turns_known_61⟩, hr, h⟩ := bnd_ex h
              have h := un9_at h
              refine callVV (pc := 61) (na := 0) (As := []) (rest := []) (ws2 := (w_X9_corner g a_t a_land a_plan a_rings a_rows a_turns a_rings_0 a_rings_1 a_rings_2 a_rings_3 a_turns_known a_rings_0_corners a_rings_1_corners a_rings_2_corners a_rings_3_corners a_rings_0_corners_firsts a_rings_0_corners_seconds a_rings_1_corners_firsts a_rings_1_corners_seconds a_rings_2_corners_firsts a_rings_2_corners_seconds a_rings_3_corners_firsts a_rings_3_corners_seconds a_ways a_planner a_slants a_reaper a_land_kinds a_land_nears a_land_depths a_plan_numbers a_rows_strips a_rows_alongs a_rows_numbers a_rows_sorted a_rows_spare a_rows_tally a_rows_squares a_rows_starts a_rows_ends a_turns_lengths c_land_laid_61 c_land_head_61 c_land_fieldCount_61 c_land_innerCount_61 c_plan_there_61 c_plan_size_61 c_rows_there_61 c_rows_size_61 c_turns_known_61 c_rings_0_corners_size c_rings_1_corners_size c_rings_2_corners_size c_rings_3_corners_size c_rings_0_corners_firsts c_rings_0_corners_seconds c_rings_1_corners_firsts c_rings_1_corners_seconds c_rings_2_corners_firsts c_rings_2_corners_seconds c_rings_3_corners_firsts c_rings_3_corners_seconds)) M hl.1 hW (t_X9_forgetLand l g a_t a_land a_plan a_rows a_turns a_turns_known a_rings a_ways a_planner a_slants a_reaper a_land_kinds a_land_nears a_land_depths a_plan_numbers a_rows_strips a_rows_alongs a_rows_numbers a_rows_sorted a_rows_spare a_rows_tally a_rows_squares a_rows_starts a_rows_ends a_turns_lengths c_land_laid c_land_head c_land_fieldCount c_land_innerCount c_plan_there c_plan_size c_rows_there c_rows_size c_turns_known c_land_laid_61 c_land_head_61 c_land_fieldCount_61 c_land_innerCount_61 c_plan_there_61 c_plan_size_61 c_rows_there_61 c_rows_size_61 c_turns_known_61 hr) rfl [0, 1, 2, 4, 5, 10] [3, 6, 7, 8, 9, 11, 12, 13, 14, 15, 16, 17, 18, 19, 20, 21, 22] [17, 18, 19, 0, 20, 21, 1, 2, 3, 4, 22, 5, 6, 7, 8, 9, 10, 11, 12, 13, 14, 15, 16] rfl rfl rfl rfl rfl rfl rfl 0 9 rfl rfl rfl (uw2 233 rfl rfl) (uw2 230 rfl rfl) (uw2 232 rfl rfl) (uwp 2 rfl rfl) (uw1 1 rfl rfl) ⟨by decide, by decide, by decide⟩ rfl ⟨by decide, by decide⟩ (Nat.le_of_ble_eq_true rfl) ⟨Nat.zero_le _, Nat.zero_le _⟩ (dd dX9_corner 31 rfl) (fun H locs hW => ?_)
              refine lv_aload_n (pc := 64) hx hb (dd dX9_corner 32 rfl) rfl (lv_at hl 0 rfl) ?_
              refine rGet (pc := 65) M hW 0 0 iU9 rfl rfl (by decide) (uw2 50 rfl rfl) rfl (dd dX9_corner 33 rfl) ?_
              refine lv_iload_n (pc := 68) hx hb (dd dX9_corner 34 rfl) rfl (lv_at hl 1 rfl) ?_
              by_cases hc : v1 = 0
              · have h := it_t hc h
                refine rAald (pc := 69) M hW 3 (v := .ref a_rings_0) rfl (by rw [hc]; decide) (by rw [hc]; rfl) (dd dX9_corner 35 rfl) ?_
                refine rGet (pc := 70) M hW 6 0 iU5 rfl rfl (by decide) (uw1 64 rfl rfl) rfl (dd dX9_corner 36 rfl) ?_
                refine lv_iload_n (pc := 73) hx hb (dd dX9_corner 37 rfl) rfl (lv_at hl 2 rfl) ?_
                refine lv_iload_n (pc := 74) hx hb (dd dX9_corner 38 rfl) rfl (lv_at hl 3 rfl) ?_
                obtain ⟨⟨r_75, c_rings_0_corners_size_75, c_rings_0_corners_firsts_75, c_rings_0_corners_seconds_75⟩, hr, h⟩ := bnd_ex h
                have h := un4_at h
                refine callVI (pc := 75) (na := 2) (As := [.int v2, .int v3]) (rest := []) (ws2 := (w_X9_corner g a_t a_land a_plan a_rings a_rows a_turns a_rings_0 a_rings_1 a_rings_2 a_rings_3 a_turns_known a_rings_0_corners a_rings_1_corners a_rings_2_corners a_rings_3_corners a_rings_0_corners_firsts a_rings_0_corners_seconds a_rings_1_corners_firsts a_rings_1_corners_seconds a_rings_2_corners_firsts a_rings_2_corners_seconds a_rings_3_corners_firsts a_rings_3_corners_seconds a_ways a_planner a_slants a_reaper a_land_kinds a_land_nears a_land_depths a_plan_numbers a_rows_strips a_rows_alongs a_rows_numbers a_rows_sorted a_rows_spare a_rows_tally a_rows_squares a_rows_starts a_rows_ends a_turns_lengths c_land_laid_61 c_land_head_61 c_land_fieldCount_61 c_land_innerCount_61 c_plan_there_61 c_plan_size_61 c_rows_there_61 c_rows_size_61 c_turns_known_61 c_rings_0_corners_size_75 c_rings_1_corners_size c_rings_2_corners_size c_rings_3_corners_size c_rings_0_corners_firsts_75 c_rings_0_corners_seconds_75 c_rings_1_corners_firsts c_rings_1_corners_seconds c_rings_2_corners_firsts c_rings_2_corners_seconds c_rings_3_corners_firsts c_rings_3_corners_seconds)) M hl.1 hW (t_X1_add l g a_rings_0_corners a_rings_0_corners_firsts a_rings_0_corners_seconds 12 c_rings_0_corners_size c_rings_0_corners_firsts c_rings_0_corners_seconds v2 v3 r_75 c_rings_0_corners_size_75 c_rings_0_corners_firsts_75 c_rings_0_corners_seconds_75 hr) rfl [11, 15, 16] [0, 1, 2, 3, 4, 5, 6, 7, 8, 9, 10, 12, 13, 14, 17, 18, 19, 20, 21, 22] [0, 1, 2, 3, 4, 5, 6, 7, 8, 9, 10, 20, 11, 12, 13, 21, 22, 14, 15, 16, 17, 18, 19] rfl rfl rfl rfl rfl rfl rfl 11 1 rfl rfl rfl (uw2 96 rfl rfl) (uw2 93 rfl rfl) (uw2 94 rfl rfl) (uw2 95 rfl rfl) (uw1 3 rfl rfl) ⟨by decide, by decide, by decide⟩ rfl ⟨by decide, by decide⟩ (Nat.le_of_ble_eq_true rfl) ⟨Nat.zero_le _, Nat.zero_le _⟩ (dd dX9_corner 39 rfl) (fun H locs hW => ?_)
                have hW9 := hW
                cases h
                exact ret _ _ _ 78 hW9 rfl (dd dX9_corner 40 rfl)
              have h := it_f hc h
              by_cases hc : v1 = 1
              · have h := it_t hc h
                refine rAald (pc := 69) M hW 3 (v := .ref a_rings_1) rfl (by rw [hc]; decide) (by rw [hc]; rfl) (dd dX9_corner 35 rfl) ?_
                refine rGet (pc := 70) M hW 7 0 iU5 rfl rfl (by decide) (uw1 64 rfl rfl) rfl (dd dX9_corner 36 rfl) ?_
                refine lv_iload_n (pc := 73) hx hb (dd dX9_corner 37 rfl) rfl (lv_at hl 2 rfl) ?_
                refine lv_iload_n (pc := 74) hx hb (dd dX9_corner 38 rfl) rfl (lv_at hl 3 rfl) ?_
                obtain ⟨⟨r_75, c_rings_1_corners_size_75, c_rings_1_corners_firsts_75, c_rings_1_corners_seconds_75⟩, hr, h⟩ := bnd_ex h
                have h := un4_at h
                refine callVI (pc := 75) (na := 2) (As := [.int v2, .int v3]) (rest := []) (ws2 := (w_X9_corner g a_t a_land a_plan a_rings a_rows a_turns a_rings_0 a_rings_1 a_rings_2 a_rings_3 a_turns_known a_rings_0_corners a_rings_1_corners a_rings_2_corners a_rings_3_corners a_rings_0_corners_firsts a_rings_0_corners_seconds a_rings_1_corners_firsts a_rings_1_corners_seconds a_rings_2_corners_firsts a_rings_2_corners_seconds a_rings_3_corners_firsts a_rings_3_corners_seconds a_ways a_planner a_slants a_reaper a_land_kinds a_land_nears a_land_depths a_plan_numbers a_rows_strips a_rows_alongs a_rows_numbers a_rows_sorted a_rows_spare a_rows_tally a_rows_squares a_rows_starts a_rows_ends a_turns_lengths c_land_laid_61 c_land_head_61 c_land_fieldCount_61 c_land_innerCount_61 c_plan_there_61 c_plan_size_61 c_rows_there_61 c_rows_size_61 c_turns_known_61 c_rings_0_corners_size c_rings_1_corners_size_75 c_rings_2_corners_size c_rings_3_corners_size c_rings_0_corners_firsts c_rings_0_corners_seconds c_rings_1_corners_firsts_75 c_rings_1_corners_seconds_75 c_rings_2_corners_firsts c_rings_2_corners_seconds c_rings_3_corners_firsts c_rings_3_corners_seconds)) M hl.1 hW (t_X1_add l g a_rings_1_corners a_rings_1_corners_firsts a_rings_1_corners_seconds 12 c_rings_1_corners_size c_rings_1_corners_firsts c_rings_1_corners_seconds v2 v3 r_75 c_rings_1_corners_size_75 c_rings_1_corners_firsts_75 c_rings_1_corners_seconds_75 hr) rfl [12, 17, 18] [0, 1, 2, 3, 4, 5, 6, 7, 8, 9, 10, 11, 13, 14, 15, 16, 19, 20, 21, 22] [0, 1, 2, 3, 4, 5, 6, 7, 8, 9, 10, 11, 20, 12, 13, 14, 15, 21, 22, 16, 17, 18, 19] rfl rfl rfl rfl rfl rfl rfl 12 1 rfl rfl rfl (uw2 96 rfl rfl) (uw2 93 rfl rfl) (uw2 94 rfl rfl) (uw2 95 rfl rfl) (uw1 3 rfl rfl) ⟨by decide, by decide, by decide⟩ rfl ⟨by decide, by decide⟩ (Nat.le_of_ble_eq_true rfl) ⟨Nat.zero_le _, Nat.zero_le _⟩ (dd dX9_corner 39 rfl) (fun H locs hW => ?_)
                have hW9 := hW
                cases h
                exact ret _ _ _ 78 hW9 rfl (dd dX9_corner 40 rfl)
              have h := it_f hc h
              by_cases hc : v1 = 2
              · have h := it_t hc h
                refine rAald (pc := 69) M hW 3 (v := .ref a_rings_2) rfl (by rw [hc]; decide) (by rw [hc]; rfl) (dd dX9_corner 35 rfl) ?_
                refine rGet (pc := 70) M hW 8 0 iU5 rfl rfl (by decide) (uw1 64 rfl rfl) rfl (dd dX9_corner 36 rfl) ?_
                refine lv_iload_n (pc := 73) hx hb (dd dX9_corner 37 rfl) rfl (lv_at hl 2 rfl) ?_
                refine lv_iload_n (pc := 74) hx hb (dd dX9_corner 38 rfl) rfl (lv_at hl 3 rfl) ?_
                obtain ⟨⟨r_75, c_rings_2_corners_size_75, c_rings_2_corners_firsts_75, c_rings_2_corners_seconds_75⟩, hr, h⟩ := bnd_ex h
                have h := un4_at h
                refine callVI (pc := 75) (na := 2) (As := [.int v2, .int v3]) (rest := []) (ws2 := (w_X9_corner g a_t a_land a_plan a_rings a_rows a_turns a_rings_0 a_rings_1 a_rings_2 a_rings_3 a_turns_known a_rings_0_corners a_rings_1_corners a_rings_2_corners a_rings_3_corners a_rings_0_corners_firsts a_rings_0_corners_seconds a_rings_1_corners_firsts a_rings_1_corners_seconds a_rings_2_corners_firsts a_rings_2_corners_seconds a_rings_3_corners_firsts a_rings_3_corners_seconds a_ways a_planner a_slants a_reaper a_land_kinds a_land_nears a_land_depths a_plan_numbers a_rows_strips a_rows_alongs a_rows_numbers a_rows_sorted a_rows_spare a_rows_tally a_rows_squares a_rows_starts a_rows_ends a_turns_lengths c_land_laid_61 c_land_head_61 c_land_fieldCount_61 c_land_innerCount_61 c_plan_there_61 c_plan_size_61 c_rows_there_61 c_rows_size_61 c_turns_known_61 c_rings_0_corners_size c_rings_1_corners_size c_rings_2_corners_size_75 c_rings_3_corners_size c_rings_0_corners_firsts c_rings_0_corners_seconds c_rings_1_corners_firsts c_rings_1_corners_seconds c_rings_2_corners_firsts_75 c_rings_2_corners_seconds_75 c_rings_3_corners_firsts c_rings_3_corners_seconds)) M hl.1 hW (t_X1_add l g a_rings_2_corners a_rings_2_corners_firsts a_rings_2_corners_seconds 12 c_rings_2_corners_size c_rings_2_corners_firsts c_rings_2_corners_seconds v2 v3 r_75 c_rings_2_corners_size_75 c_rings_2_corners_firsts_75 c_rings_2_corners_seconds_75 hr) rfl [13, 19, 20] [0, 1, 2, 3, 4, 5, 6, 7, 8, 9, 10, 11, 12, 14, 15, 16, 17, 18, 21, 22] [0, 1, 2, 3, 4, 5, 6, 7, 8, 9, 10, 11, 12, 20, 13, 14, 15, 16, 17, 21, 22, 18, 19] rfl rfl rfl rfl rfl rfl rfl 13 1 rfl rfl rfl (uw2 96 rfl rfl) (uw2 93 rfl rfl) (uw2 94 rfl rfl) (uw2 95 rfl rfl) (uw1 3 rfl rfl) ⟨by decide, by decide, by decide⟩ rfl ⟨by decide, by decide⟩ (Nat.le_of_ble_eq_true rfl) ⟨Nat.zero_le _, Nat.zero_le _⟩ (dd dX9_corner 39 rfl) (fun H locs hW => ?_)
                have hW9 := hW
                cases h
                exact ret _ _ _ 78 hW9 rfl (dd dX9_corner 40 rfl)
              have h := it_f hc h
              by_cases hc : v1 = 3
              · have h := it_t hc h
                refine rAald (pc := 69) M hW 3 (v := .ref a_rings_3) rfl (by rw [hc]; decide) (by rw [hc]; rfl) (dd dX9_corner 35 rfl) ?_
                refine rGet (pc := 70) M hW 9 0 iU5 rfl rfl (by decide) (uw1 64 rfl rfl) rfl (dd dX9_corner 36 rfl) ?_
                refine lv_iload_n (pc := 73) hx hb (dd dX9_corner 37 rfl) rfl (lv_at hl 2 rfl) ?_
                refine lv_iload_n (pc := 74) hx hb (dd dX9_corner 38 rfl) rfl (lv_at hl 3 rfl) ?_
                obtain ⟨⟨r_75, c_rings_3_corners_size_75, c_rings_3_corners_firsts_75, c_rings_3_corners_seconds_75⟩, hr, h⟩ := bnd_ex h
                have h := un4_at h
                refine callVI (pc := 75) (na := 2) (As := [.int v2, .int v3]) (rest := []) (ws2 := (w_X9_corner g a_t a_land a_plan a_rings a_rows a_turns a_rings_0 a_rings_1 a_rings_2 a_rings_3 a_turns_known a_rings_0_corners a_rings_1_corners a_rings_2_corners a_rings_3_corners a_rings_0_corners_firsts a_rings_0_corners_seconds a_rings_1_corners_firsts a_rings_1_corners_seconds a_rings_2_corners_firsts a_rings_2_corners_seconds a_rings_3_corners_firsts a_rings_3_corners_seconds a_ways a_planner a_slants a_reaper a_land_kinds a_land_nears a_land_depths a_plan_numbers a_rows_strips a_rows_alongs a_rows_numbers a_rows_sorted a_rows_spare a_rows_tally a_rows_squares a_rows_starts a_rows_ends a_turns_lengths c_land_laid_61 c_land_head_61 c_land_fieldCount_61 c_land_innerCount_61 c_plan_there_61 c_plan_size_61 c_rows_there_61 c_rows_size_61 c_turns_known_61 c_rings_0_corners_size c_rings_1_corners_size c_rings_2_corners_size c_rings_3_corners_size_75 c_rings_0_corners_firsts c_rings_0_corners_seconds c_rings_1_corners_firsts c_rings_1_corners_seconds c_rings_2_corners_firsts c_rings_2_corners_seconds c_rings_3_corners_firsts_75 c_rings_3_corners_seconds_75)) M hl.1 hW (t_X1_add l g a_rings_3_corners a_rings_3_corners_firsts a_rings_3_corners_seconds 12 c_rings_3_corners_size c_rings_3_corners_firsts c_rings_3_corners_seconds v2 v3 r_75 c_rings_3_corners_size_75 c_rings_3_corners_firsts_75 c_rings_3_corners_seconds_75 hr) rfl [14, 21, 22] [0, 1, 2, 3, 4, 5, 6, 7, 8, 9, 10, 11, 12, 13, 15, 16, 17, 18, 19, 20] [0, 1, 2, 3, 4, 5, 6, 7, 8, 9, 10, 11, 12, 13, 20, 14, 15, 16, 17, 18, 19, 21, 22] rfl rfl rfl rfl rfl rfl rfl 14 1 rfl rfl rfl (uw2 96 rfl rfl) (uw2 93 rfl rfl) (uw2 94 rfl rfl) (uw2 95 rfl rfl) (uw1 3 rfl rfl) ⟨by decide, by decide, by decide⟩ rfl ⟨by decide, by decide⟩ (Nat.le_of_ble_eq_true rfl) ⟨Nat.zero_le _, Nat.zero_le _⟩ (dd dX9_corner 39 rfl) (fun H locs hW => ?_)
                have hW9 := hW
                cases h
                exact ret _ _ _ 78 hW9 rfl (dd dX9_corner 40 rfl)
              have h := it_f hc h
              cases h
            · have h := it_f hc h
              cases h
          have h := it_f hc h
          by_cases hc : v1 = 1
          · have h := it_t hc h
            refine rAald (pc := 40) M hW 3 (v := .ref a_rings_1) rfl (by rw [hc]; decide) (by rw [hc]; rfl) (dd dX9_corner 21 rfl) ?_
            refine rGet (pc := 41) M hW 7 0 iU5 rfl rfl (by decide) (uw1 64 rfl rfl) rfl (dd dX9_corner 22 rfl) ?_
            obtain ⟨r_44, hr, h⟩ := bnd_ex h
            refine callVI (pc := 44) (na := 0) (As := []) (rest := []) (ws2 := (w_X9_corner g a_t a_land a_plan a_rings a_rows a_turns a_rings_0 a_rings_1 a_rings_2 a_rings_3 a_turns_known a_rings_0_corners a_rings_1_corners a_rings_2_corners a_rings_3_corners a_rings_0_corners_firsts a_rings_0_corners_seconds a_rings_1_corners_firsts a_rings_1_corners_seconds a_rings_2_corners_firsts a_rings_2_corners_seconds a_rings_3_corners_firsts a_rings_3_corners_seconds a_ways a_planner a_slants a_reaper a_land_kinds a_land_nears a_land_depths a_plan_numbers a_rows_strips a_rows_alongs a_rows_numbers a_rows_sorted a_rows_spare a_rows_tally a_rows_squares a_rows_starts a_rows_ends a_turns_lengths c_land_laid c_land_head c_land_fieldCount c_land_innerCount c_plan_there c_plan_size c_rows_there c_rows_size c_turns_known c_rings_0_corners_size c_rings_1_corners_size c_rings_2_corners_size c_rings_3_corners_size c_rings_0_corners_firsts c_rings_0_corners_seconds c_rings_1_corners_firsts c_rings_1_corners_seconds c_rings_2_corners_firsts c_rings_2_corners_seconds c_rings_3_corners_firsts c_rings_3_corners_seconds)) M hl.1 hW (t_X1_isFull l g a_rings_1_corners a_rings_1_corners_firsts a_rings_1_corners_seconds 12 c_rings_1_corners_size c_rings_1_corners_firsts r_44 hr) rfl [12, 17] [0, 1, 2, 3, 4, 5, 6, 7, 8, 9, 10, 11, 13, 14, 15, 16, 18, 19, 20, 21, 22] [0, 1, 2, 3, 4, 5, 6, 7, 8, 9, 10, 11, 21, 12, 13, 14, 15, 22, 16, 17, 18, 19, 20] rfl rfl rfl rfl rfl rfl rfl 12 1 rfl rfl rfl (uw2 92 rfl rfl) (uw2 89 rfl rfl) (uw2 90 rfl rfl) (uw2 91 rfl rfl) (uw1 3 rfl rfl) ⟨by decide, by decide, by decide⟩ rfl ⟨by decide, by decide⟩ (Nat.le_of_ble_eq_true rfl) ⟨Nat.zero_le _, Nat.zero_le _⟩ (dd dX9_corner 23 rfl) (fun H locs hW => ?_)
            refine lv_if_eq (pc := 47) (tgt := 60) hx hb (dd dX9_corner 24 rfl) (by decide) (fun hc => ?_) (fun hc => ?_)
            · have h := it_t hc h
              have h := rmap_ex h
              refine lv_aload_n (pc := 60) hx hb (dd dX9_corner 30 rfl) rfl (lv_at hl 0 rfl) ?_
              obtain ⟨⟨c_land_laid_61, c_land_head_61, c_land_fieldCount_61, c_land_innerCount_61, c_plan_there_61, c_plan_size_61, c_rows_there_61, c_rows_size_61, c_turns_known_61⟩, hr, h⟩ := bnd_ex h
              have h := un9_at h
              refine callVV (pc := 61) (na := 0) (As := []) (rest := []) (ws2 := (w_X9_corner g a_t a_land a_plan a_rings a_rows a_turns a_rings_0 a_rings_1 a_rings_2 a_rings_3 a_turns_known a_rings_0_corners a_rings_1_corners a_rings_2_corners a_rings_3_corners a_rings_0_corners_firsts a_rings_0_corners_seconds a_rings_1_corners_firsts a_rings_1_corners_seconds a_rings_2_corners_firsts a_rings_2_corners_seconds a_rings_3_corners_firsts a_rings_3_corners_seconds a_ways a_planner a_slants a_reaper a_land_kinds a_land_nears a_land_depths a_plan_numbers a_rows_strips a_rows_alongs a_rows_numbers a_rows_sorted a_rows_spare a_rows_tally a_rows_squares a_rows_starts a_rows_ends a_turns_lengths c_land_laid_61 c_land_head_61 c_land_fieldCount_61 c_land_innerCount_61 c_plan_there_61 c_plan_size_61 c_rows_there_61 c_rows_size_61 c_turns_known_61 c_rings_0_corners_size c_rings_1_corners_size c_rings_2_corners_size c_rings_3_corners_size c_rings_0_corners_firsts c_rings_0_corners_seconds c_rings_1_corners_firsts c_rings_1_corners_seconds c_rings_2_corners_firsts c_rings_2_corners_seconds c_rings_3_corners_firsts c_rings_3_corners_seconds)) M hl.1 hW (t_X9_forgetLand l g a_t a_land a_plan a_rows a_turns a_turns_known a_rings a_ways a_planner a_slants a_reaper a_land_kinds a_land_nears a_land_depths a_plan_numbers a_rows_strips a_rows_alongs a_rows_numbers a_rows_sorted a_rows_spare a_rows_tally a_rows_squares a_rows_starts a_rows_ends a_turns_lengths c_land_laid c_land_head c_land_fieldCount c_land_innerCount c_plan_there c_plan_size c_rows_there c_rows_size c_turns_known c_land_laid_61 c_land_head_61 c_land_fieldCount_61 c_land_innerCount_61 c_plan_there_61 c_plan_size_61 c_rows_there_61 c_rows_size_61 c_turns_known_61 hr) rfl [0, 1, 2, 4, 5, 10] [3, 6, 7, 8, 9, 11, 12, 13, 14, 15, 16, 17, 18, 19, 20, 21, 22] [17, 18, 19, 0, 20, 21, 1, 2, 3, 4, 22, 5, 6, 7, 8, 9, 10, 11, 12, 13, 14, 15, 16] rfl rfl rfl rfl rfl rfl rfl 0 9 rfl rfl rfl (uw2 233 rfl rfl) (uw2 230 rfl rfl) (uw2 232 rfl rfl) (uwp 2 rfl rfl) (uw1 1 rfl rfl) ⟨by decide, by decide, by decide⟩ rfl ⟨by decide, by decide⟩ (Nat.le_of_ble_eq_true rfl) ⟨Nat.zero_le _, Nat.zero_le _⟩ (dd dX9_corner 31 rfl) (fun H locs hW => ?_)
              refine lv_aload_n (pc := 64) hx hb (dd dX9_corner 32 rfl) rfl (lv_at hl 0 rfl) ?_
              refine rGet (pc := 65) M hW 0 0 iU9 rfl rfl (by decide) (uw2 50 rfl rfl) rfl (dd dX9_corner 33 rfl) ?_
              refine lv_iload_n (pc := 68) hx hb (dd dX9_corner 34 rfl) rfl (lv_at hl 1 rfl) ?_
              by_cases hc : v1 = 0
              · have h := it_t hc h
                refine rAald (pc := 69) M hW 3 (v := .ref a_rings_0) rfl (by rw [hc]; decide) (by rw [hc]; rfl) (dd dX9_corner 35 rfl) ?_
                refine rGet (pc := 70) M hW 6 0 iU5 rfl rfl (by decide) (uw1 64 rfl rfl) rfl (dd dX9_corner 36 rfl) ?_
                refine lv_iload_n (pc := 73) hx hb (dd dX9_corner 37 rfl) rfl (lv_at hl 2 rfl) ?_
                refine lv_iload_n (pc := 74) hx hb (dd dX9_corner 38 rfl) rfl (lv_at hl 3 rfl) ?_
                obtain ⟨⟨r_75, c_rings_0_corners_size_75, c_rings_0_corners_firsts_75, c_rings_0_corners_seconds_75⟩, hr, h⟩ := bnd_ex h
                have h := un4_at h
                refine callVI (pc := 75) (na := 2) (As := [.int v2, .int v3]) (rest := []) (ws2 := (w_X9_corner g a_t a_land a_plan a_rings a_rows a_turns a_rings_0 a_rings_1 a_rings_2 a_rings_3 a_turns_known a_rings_0_corners a_rings_1_corners a_rings_2_corners a_rings_3_corners a_rings_0_corners_firsts a_rings_0_corners_seconds a_rings_1_corners_firsts a_rings_1_corners_seconds a_rings_2_corners_firsts a_rings_2_corners_seconds a_rings_3_corners_firsts a_rings_3_corners_seconds a_ways a_planner a_slants a_reaper a_land_kinds a_land_nears a_land_depths a_plan_numbers a_rows_strips a_rows_alongs a_rows_numbers a_rows_sorted a_rows_spare a_rows_tally a_rows_squares a_rows_starts a_rows_ends a_turns_lengths c_land_laid_61 c_land_head_61 c_land_fieldCount_61 c_land_innerCount_61 c_plan_there_61 c_plan_size_61 c_rows_there_61 c_rows_size_61 c_turns_known_61 c_rings_0_corners_size_75 c_rings_1_corners_size c_rings_2_corners_size c_rings_3_corners_size c_rings_0_corners_firsts_75 c_rings_0_corners_seconds_75 c_rings_1_corners_firsts c_rings_1_corners_seconds c_rings_2_corners_firsts c_rings_2_corners_seconds c_rings_3_corners_firsts c_rings_3_corners_seconds)) M hl.1 hW (t_X1_add l g a_rings_0_corners a_rings_0_corners_firsts a_rings_0_corners_seconds 12 c_rings_0_corners_size c_rings_0_corners_firsts c_rings_0_corners_seconds v2 v3 r_75 c_rings_0_corners_size_75 c_rings_0_corners_firsts_75 c_rings_0_corners_seconds_75 hr) rfl [11, 15, 16] [0, 1, 2, 3, 4, 5, 6, 7, 8, 9, 10, 12, 13, 14, 17, 18, 19, 20, 21, 22] [0, 1, 2, 3, 4, 5, 6, 7, 8, 9, 10, 20, 11, 12, 13, 21, 22, 14, 15, 16, 17, 18, 19] rfl rfl rfl rfl rfl rfl rfl 11 1 rfl rfl rfl (uw2 96 rfl rfl) (uw2 93 rfl rfl) (uw2 94 rfl rfl) (uw2 95 rfl rfl) (uw1 3 rfl rfl) ⟨by decide, by decide, by decide⟩ rfl ⟨by decide, by decide⟩ (Nat.le_of_ble_eq_true rfl) ⟨Nat.zero_le _, Nat.zero_le _⟩ (dd dX9_corner 39 rfl) (fun H locs hW => ?_)
                have hW9 := hW
                cases h
                exact ret _ _ _ 78 hW9 rfl (dd dX9_corner 40 rfl)
              have h := it_f hc h
              by_cases hc : v1 = 1
              · have h := it_t hc h
                refine rAald (pc := 69) M hW 3 (v := .ref a_rings_1) rfl (by rw [hc]; decide) (by rw [hc]; rfl) (dd dX9_corner 35 rfl) ?_
                refine rGet (pc := 70) M hW 7 0 iU5 rfl rfl (by decide) (uw1 64 rfl rfl) rfl (dd dX9_corner 36 rfl) ?_
                refine lv_iload_n (pc := 73) hx hb (dd dX9_corner 37 rfl) rfl (lv_at hl 2 rfl) ?_
                refine lv_iload_n (pc := 74) hx hb (dd dX9_corner 38 rfl) rfl (lv_at hl 3 rfl) ?_
                obtain ⟨⟨r_75, c_rings_1_corners_size_75, c_rings_1_corners_firsts_75, c_rings_1_corners_seconds_75⟩, hr, h⟩ := bnd_ex h
                have h := un4_at h
                refine callVI (pc := 75) (na := 2) (As := [.int v2, .int v3]) (rest := []) (ws2 := (w_X9_corner g a_t a_land a_plan a_rings a_rows a_turns a_rings_0 a_rings_1 a_rings_2 a_rings_3 a_turns_known a_rings_0_corners a_rings_1_corners a_rings_2_corners a_rings_3_corners a_rings_0_corners_firsts a_rings_0_corners_seconds a_rings_1_corners_firsts a_rings_1_corners_seconds a_rings_2_corners_firsts a_rings_2_corners_seconds a_rings_3_corners_firsts a_rings_3_corners_seconds a_ways a_planner a_slants a_reaper a_land_kinds a_land_nears a_land_depths a_plan_numbers a_rows_strips a_rows_alongs a_rows_numbers a_rows_sorted a_rows_spare a_rows_tally a_rows_squares a_rows_starts a_rows_ends a_turns_lengths c_land_laid_61 c_land_head_61 c_land_fieldCount_61 c_land_innerCount_61 c_plan_there_61 c_plan_size_61 c_rows_there_61 c_rows_size_61 c_turns_known_61 c_rings_0_corners_size c_rings_1_corners_size_75 c_rings_2_corners_size c_rings_3_corners_size c_rings_0_corners_firsts c_rings_0_corners_seconds c_rings_1_corners_firsts_75 c_rings_1_corners_seconds_75 c_rings_2_corners_firsts c_rings_2_corners_seconds c_rings_3_corners_firsts c_rings_3_corners_seconds)) M hl.1 hW (t_X1_add l g a_rings_1_corners a_rings_1_corners_firsts a_rings_1_corners_seconds 12 c_rings_1_corners_size c_rings_1_corners_firsts c_rings_1_corners_seconds v2 v3 r_75 c_rings_1_corners_size_75 c_rings_1_corners_firsts_75 c_rings_1_corners_seconds_75 hr) rfl [12, 17, 18] [0, 1, 2, 3, 4, 5, 6, 7, 8, 9, 10, 11, 13, 14, 15, 16, 19, 20, 21, 22] [0, 1, 2, 3, 4, 5, 6, 7, 8, 9, 10, 11, 20, 12, 13, 14, 15, 21, 22, 16, 17, 18, 19] rfl rfl rfl rfl rfl rfl rfl 12 1 rfl rfl rfl (uw2 96 rfl rfl) (uw2 93 rfl rfl) (uw2 94 rfl rfl) (uw2 95 rfl rfl) (uw1 3 rfl rfl) ⟨by decide, by decide, by decide⟩ rfl ⟨by decide, by decide⟩ (Nat.le_of_ble_eq_true rfl) ⟨Nat.zero_le _, Nat.zero_le _⟩ (dd dX9_corner 39 rfl) (fun H locs hW => ?_)
                have hW9 := hW
                cases h
                exact ret _ _ _ 78 hW9 rfl (dd dX9_corner 40 rfl)
              have h := it_f hc h
              by_cases hc : v1 = 2
              · have h := it_t hc h
                refine rAald (pc := 69) M hW 3 (v := .ref a_rings_2) rfl (by rw [hc]; decide) (by rw [hc]; rfl) (dd dX9_corner 35 rfl) ?_
                refine rGet (pc := 70) M hW 8 0 iU5 rfl rfl (by decide) (uw1 64 rfl rfl) rfl (dd dX9_corner 36 rfl) ?_
                refine lv_iload_n (pc := 73) hx hb (dd dX9_corner 37 rfl) rfl (lv_at hl 2 rfl) ?_
                refine lv_iload_n (pc := 74) hx hb (dd dX9_corner 38 rfl) rfl (lv_at hl 3 rfl) ?_
                obtain ⟨⟨r_75, c_rings_2_corners_size_75, c_rings_2_corners_firsts_75, c_rings_2_corners_seconds_75⟩, hr, h⟩ := bnd_ex h
                have h := un4_at h
                refine callVI (pc := 75) (na := 2) (As := [.int v2, .int v3]) (rest := []) (ws2 := (w_X9_corner g a_t a_land a_plan a_rings a_rows a_turns a_rings_0 a_rings_1 a_rings_2 a_rings_3 a_turns_known a_rings_0_corners a_rings_1_corners a_rings_2_corners a_rings_3_corners a_rings_0_corners_firsts a_rings_0_corners_seconds a_rings_1_corners_firsts a_rings_1_corners_seconds a_rings_2_corners_firsts a_rings_2_corners_seconds a_rings_3_corners_firsts a_rings_3_corners_seconds a_ways a_planner a_slants a_reaper a_land_kinds a_land_nears a_land_depths a_plan_numbers a_rows_strips a_rows_alongs a_rows_numbers a_rows_sorted a_rows_spare a_rows_tally a_rows_squares a_rows_starts a_rows_ends a_turns_lengths c_land_laid_61 c_land_head_61 c_land_fieldCount_61 c_land_innerCount_61 c_plan_there_61 c_plan_size_61 c_rows_there_61 c_rows_size_61 c_turns_known_61 c_rings_0_corners_size c_rings_1_corners_size c_rings_2_corners_size_75 c_rings_3_corners_size c_rings_0_corners_firsts c_rings_0_corners_seconds c_rings_1_corners_firsts c_rings_1_corners_seconds c_rings_2_corners_firsts_75 c_rings_2_corners_seconds_75 c_rings_3_corners_firsts c_rings_3_corners_seconds)) M hl.1 hW (t_X1_add l g a_rings_2_corners a_rings_2_corners_firsts a_rings_2_corners_seconds 12 c_rings_2_corners_size c_rings_2_corners_firsts c_rings_2_corners_seconds v2 v3 r_75 c_rings_2_corners_size_75 c_rings_2_corners_firsts_75 c_rings_2_corners_seconds_75 hr) rfl [13, 19, 20] [0, 1, 2, 3, 4, 5, 6, 7, 8, 9, 10, 11, 12, 14, 15, 16, 17, 18, 21, 22] [0, 1, 2, 3, 4, 5, 6, 7, 8, 9, 10, 11, 12, 20, 13, 14, 15, 16, 17, 21, 22, 18, 19] rfl rfl rfl rfl rfl rfl rfl 13 1 rfl rfl rfl (uw2 96 rfl rfl) (uw2 93 rfl rfl) (uw2 94 rfl rfl) (uw2 95 rfl rfl) (uw1 3 rfl rfl) ⟨by decide, by decide, by decide⟩ rfl ⟨by decide, by decide⟩ (Nat.le_of_ble_eq_true rfl) ⟨Nat.zero_le _, Nat.zero_le _⟩ (dd dX9_corner 39 rfl) (fun H locs hW => ?_)
                have hW9 := hW
                cases h
                exact ret _ _ _ 78 hW9 rfl (dd dX9_corner 40 rfl)
              have h := it_f hc h
              by_cases hc : v1 = 3
              · have h := it_t hc h
                refine rAald (pc := 69) M hW 3 (v := .ref a_rings_3) rfl (by rw [hc]; decide) (by rw [hc]; rfl) (dd dX9_corner 35 rfl) ?_
                refine rGet (pc := 70) M hW 9 0 iU5 rfl rfl (by decide) (uw1 64 rfl rfl) rfl (dd dX9_corner 36 rfl) ?_
                refine lv_iload_n (pc := 73) hx hb (dd dX9_corner 37 rfl) rfl (lv_at hl 2 rfl) ?_
                refine lv_iload_n (pc := 74) hx hb (dd dX9_corner 38 rfl) rfl (lv_at hl 3 rfl) ?_
                obtain ⟨⟨r_75, c_rings_3_corners_size_75, c_rings_3_corners_firsts_75, c_rings_3_corners_seconds_75⟩, hr, h⟩ := bnd_ex h
                have h := un4_at h
                refine callVI (pc := 75) (na := 2) (As := [.int v2, .int v3]) (rest := []) (ws2 := (w_X9_corner g a_t a_land a_plan a_rings a_rows a_turns a_rings_0 a_rings_1 a_rings_2 a_rings_3 a_turns_known a_rings_0_corners a_rings_1_corners a_rings_2_corners a_rings_3_corners a_rings_0_corners_firsts a_rings_0_corners_seconds a_rings_1_corners_firsts a_rings_1_corners_seconds a_rings_2_corners_firsts a_rings_2_corners_seconds a_rings_3_corners_firsts a_rings_3_corners_seconds a_ways a_planner a_slants a_reaper a_land_kinds a_land_nears a_land_depths a_plan_numbers a_rows_strips a_rows_alongs a_rows_numbers a_rows_sorted a_rows_spare a_rows_tally a_rows_squares a_rows_starts a_rows_ends a_turns_lengths c_land_laid_61 c_land_head_61 c_land_fieldCount_61 c_land_innerCount_61 c_plan_there_61 c_plan_size_61 c_rows_there_61 c_rows_size_61 c_turns_known_61 c_rings_0_corners_size c_rings_1_corners_size c_rings_2_corners_size c_rings_3_corners_size_75 c_rings_0_corners_firsts c_rings_0_corners_seconds c_rings_1_corners_firsts c_rings_1_corners_seconds c_rings_2_corners_firsts c_rings_2_corners_seconds c_rings_3_corners_firsts_75 c_rings_3_corners_seconds_75)) M hl.1 hW (t_X1_add l g a_rings_3_corners a_rings_3_corners_firsts a_rings_3_corners_seconds 12 c_rings_3_corners_size c_rings_3_corners_firsts c_rings_3_corners_seconds v2 v3 r_75 c_rings_3_corners_size_75 c_rings_3_corners_firsts_75 c_rings_3_corners_seconds_75 hr) rfl [14, 21, 22] [0, 1, 2, 3, 4, 5, 6, 7, 8, 9, 10, 11, 12, 13, 15, 16, 17, 18, 19, 20] [0, 1, 2, 3, 4, 5, 6, 7, 8, 9, 10, 11, 12, 13, 20, 14, 15, 16, 17, 18, 19, 21, 22] rfl rfl rfl rfl rfl rfl rfl 14 1 rfl rfl rfl (uw2 96 rfl rfl) (uw2 93 rfl rfl) (uw2 94 rfl rfl) (uw2 95 rfl rfl) (uw1 3 rfl rfl) ⟨by decide, by decide, by decide⟩ rfl ⟨by decide, by decide⟩ (Nat.le_of_ble_eq_true rfl) ⟨Nat.zero_le _, Nat.zero_le _⟩ (dd dX9_corner 39 rfl) (fun H locs hW => ?_)
                have hW9 := hW
                cases h
                exact ret _ _ _ 78 hW9 rfl (dd dX9_corner 40 rfl)
              have h := it_f hc h
              cases h
            · have h := it_f hc h
              cases h
          have h := it_f hc h
          by_cases hc : v1 = 2
          · have h := it_t hc h
            refine rAald (pc := 40) M hW 3 (v := .ref a_rings_2) rfl (by rw [hc]; decide) (by rw [hc]; rfl) (dd dX9_corner 21 rfl) ?_
            refine rGet (pc := 41) M hW 8 0 iU5 rfl rfl (by decide) (uw1 64 rfl rfl) rfl (dd dX9_corner 22 rfl) ?_
            obtain ⟨r_44, hr, h⟩ := bnd_ex h
            refine callVI (pc := 44) (na := 0) (As := []) (rest := []) (ws2 := (w_X9_corner g a_t a_land a_plan a_rings a_rows a_turns a_rings_0 a_rings_1 a_rings_2 a_rings_3 a_turns_known a_rings_0_corners a_rings_1_corners a_rings_2_corners a_rings_3_corners a_rings_0_corners_firsts a_rings_0_corners_seconds a_rings_1_corners_firsts a_rings_1_corners_seconds a_rings_2_corners_firsts a_rings_2_corners_seconds a_rings_3_corners_firsts a_rings_3_corners_seconds a_ways a_planner a_slants a_reaper a_land_kinds a_land_nears a_land_depths a_plan_numbers a_rows_strips a_rows_alongs a_rows_numbers a_rows_sorted a_rows_spare a_rows_tally a_rows_squares a_rows_starts a_rows_ends a_turns_lengths c_land_laid c_land_head c_land_fieldCount c_land_innerCount c_plan_there c_plan_size c_rows_there c_rows_size c_turns_known c_rings_0_corners_size c_rings_1_corners_size c_rings_2_corners_size c_rings_3_corners_size c_rings_0_corners_firsts c_rings_0_corners_seconds c_rings_1_corners_firsts c_rings_1_corners_seconds c_rings_2_corners_firsts c_rings_2_corners_seconds c_rings_3_corners_firsts c_rings_3_corners_seconds)) M hl.1 hW (t_X1_isFull l g a_rings_2_corners a_rings_2_corners_firsts a_rings_2_corners_seconds 12 c_rings_2_corners_size c_rings_2_corners_firsts r_44 hr) rfl [13, 19] [0, 1, 2, 3, 4, 5, 6, 7, 8, 9, 10, 11, 12, 14, 15, 16, 17, 18, 20, 21, 22] [0, 1, 2, 3, 4, 5, 6, 7, 8, 9, 10, 11, 12, 21, 13, 14, 15, 16, 17, 22, 18, 19, 20] rfl rfl rfl rfl rfl rfl rfl 13 1 rfl rfl rfl (uw2 92 rfl rfl) (uw2 89 rfl rfl) (uw2 90 rfl rfl) (uw2 91 rfl rfl) (uw1 3 rfl rfl) ⟨by decide, by decide, by decide⟩ rfl ⟨by decide, by decide⟩ (Nat.le_of_ble_eq_true rfl) ⟨Nat.zero_le _, Nat.zero_le _⟩ (dd dX9_corner 23 rfl) (fun H locs hW => ?_)
            refine lv_if_eq (pc := 47) (tgt := 60) hx hb (dd dX9_corner 24 rfl) (by decide) (fun hc => ?_) (fun hc => ?_)
            · have h := it_t hc h
              have h := rmap_ex h
              refine lv_aload_n (pc := 60) hx hb (dd dX9_corner 30 rfl) rfl (lv_at hl 0 rfl) ?_
              obtain ⟨⟨c_land_laid_61, c_land_head_61, c_land_fieldCount_61, c_land_innerCount_61, c_plan_there_61, c_plan_size_61, c_rows_there_61, c_rows_size_61, c_turns_known_61⟩, hr, h⟩ := bnd_ex h
              have h := un9_at h
              refine callVV (pc := 61) (na := 0) (As := []) (rest := []) (ws2 := (w_X9_corner g a_t a_land a_plan a_rings a_rows a_turns a_rings_0 a_rings_1 a_rings_2 a_rings_3 a_turns_known a_rings_0_corners a_rings_1_corners a_rings_2_corners a_rings_3_corners a_rings_0_corners_firsts a_rings_0_corners_seconds a_rings_1_corners_firsts a_rings_1_corners_seconds a_rings_2_corners_firsts a_rings_2_corners_seconds a_rings_3_corners_firsts a_rings_3_corners_seconds a_ways a_planner a_slants a_reaper a_land_kinds a_land_nears a_land_depths a_plan_numbers a_rows_strips a_rows_alongs a_rows_numbers a_rows_sorted a_rows_spare a_rows_tally a_rows_squares a_rows_starts a_rows_ends a_turns_lengths c_land_laid_61 c_land_head_61 c_land_fieldCount_61 c_land_innerCount_61 c_plan_there_61 c_plan_size_61 c_rows_there_61 c_rows_size_61 c_turns_known_61 c_rings_0_corners_size c_rings_1_corners_size c_rings_2_corners_size c_rings_3_corners_size c_rings_0_corners_firsts c_rings_0_corners_seconds c_rings_1_corners_firsts c_rings_1_corners_seconds c_rings_2_corners_firsts c_rings_2_corners_seconds c_rings_3_corners_firsts c_rings_3_corners_seconds)) M hl.1 hW (t_X9_forgetLand l g a_t a_land a_plan a_rows a_turns a_turns_known a_rings a_ways a_planner a_slants a_reaper a_land_kinds a_land_nears a_land_depths a_plan_numbers a_rows_strips a_rows_alongs a_rows_numbers a_rows_sorted a_rows_spare a_rows_tally a_rows_squares a_rows_starts a_rows_ends a_turns_lengths c_land_laid c_land_head c_land_fieldCount c_land_innerCount c_plan_there c_plan_size c_rows_there c_rows_size c_turns_known c_land_laid_61 c_land_head_61 c_land_fieldCount_61 c_land_innerCount_61 c_plan_there_61 c_plan_size_61 c_rows_there_61 c_rows_size_61 c_turns_known_61 hr) rfl [0, 1, 2, 4, 5, 10] [3, 6, 7, 8, 9, 11, 12, 13, 14, 15, 16, 17, 18, 19, 20, 21, 22] [17, 18, 19, 0, 20, 21, 1, 2, 3, 4, 22, 5, 6, 7, 8, 9, 10, 11, 12, 13, 14, 15, 16] rfl rfl rfl rfl rfl rfl rfl 0 9 rfl rfl rfl (uw2 233 rfl rfl) (uw2 230 rfl rfl) (uw2 232 rfl rfl) (uwp 2 rfl rfl) (uw1 1 rfl rfl) ⟨by decide, by decide, by decide⟩ rfl ⟨by decide, by decide⟩ (Nat.le_of_ble_eq_true rfl) ⟨Nat.zero_le _, Nat.zero_le _⟩ (dd dX9_corner 31 rfl) (fun H locs hW => ?_)
              refine lv_aload_n (pc := 64) hx hb (dd dX9_corner 32 rfl) rfl (lv_at hl 0 rfl) ?_
              refine rGet (pc := 65) M hW 0 0 iU9 rfl rfl (by decide) (uw2 50 rfl rfl) rfl (dd dX9_corner 33 rfl) ?_
              refine lv_iload_n (pc := 68) hx hb (dd dX9_corner 34 rfl) rfl (lv_at hl 1 rfl) ?_
              by_cases hc : v1 = 0
              · have h := it_t hc h
                refine rAald (pc := 69) M hW 3 (v := .ref a_rings_0) rfl (by rw [hc]; decide) (by rw [hc]; rfl) (dd dX9_corner 35 rfl) ?_
                refine rGet (pc := 70) M hW 6 0 iU5 rfl rfl (by decide) (uw1 64 rfl rfl) rfl (dd dX9_corner 36 rfl) ?_
                refine lv_iload_n (pc := 73) hx hb (dd dX9_corner 37 rfl) rfl (lv_at hl 2 rfl) ?_
                refine lv_iload_n (pc := 74) hx hb (dd dX9_corner 38 rfl) rfl (lv_at hl 3 rfl) ?_
                obtain ⟨⟨r_75, c_rings_0_corners_size_75, c_rings_0_corners_firsts_75, c_rings_0_corners_seconds_75⟩, hr, h⟩ := bnd_ex h
                have h := un4_at h
                refine callVI (pc := 75) (na := 2) (As := [.int v2, .int v3]) (rest := []) (ws2 := (w_X9_corner g a_t a_land a_plan a_rings a_rows a_turns a_rings_0 a_rings_1 a_rings_2 a_rings_3 a_turns_known a_rings_0_corners a_rings_1_corners a_rings_2_corners a_rings_3_corners a_rings_0_corners_firsts a_rings_0_corners_seconds a_rings_1_corners_firsts a_rings_1_corners_seconds a_rings_2_corners_firsts a_rings_2_corners_seconds a_rings_3_corners_firsts a_rings_3_corners_seconds a_ways a_planner a_slants a_reaper a_land_kinds a_land_nears a_land_depths a_plan_numbers a_rows_strips a_rows_alongs a_rows_numbers a_rows_sorted a_rows_spare a_rows_tally a_rows_squares a_rows_starts a_rows_ends a_turns_lengths c_land_laid_61 c_land_head_61 c_land_fieldCount_61 c_land_innerCount_61 c_plan_there_61 c_plan_size_61 c_rows_there_61 c_rows_size_61 c_turns_known_61 c_rings_0_corners_size_75 c_rings_1_corners_size c_rings_2_corners_size c_rings_3_corners_size c_rings_0_corners_firsts_75 c_rings_0_corners_seconds_75 c_rings_1_corners_firsts c_rings_1_corners_seconds c_rings_2_corners_firsts c_rings_2_corners_seconds c_rings_3_corners_firsts c_rings_3_corners_seconds)) M hl.1 hW (t_X1_add l g a_rings_0_corners a_rings_0_corners_firsts a_rings_0_corners_seconds 12 c_rings_0_corners_size c_rings_0_corners_firsts c_rings_0_corners_seconds v2 v3 r_75 c_rings_0_corners_size_75 c_rings_0_corners_firsts_75 c_rings_0_corners_seconds_75 hr) rfl [11, 15, 16] [0, 1, 2, 3, 4, 5, 6, 7, 8, 9, 10, 12, 13, 14, 17, 18, 19, 20, 21, 22] [0, 1, 2, 3, 4, 5, 6, 7, 8, 9, 10, 20, 11, 12, 13, 21, 22, 14, 15, 16, 17, 18, 19] rfl rfl rfl rfl rfl rfl rfl 11 1 rfl rfl rfl (uw2 96 rfl rfl) (uw2 93 rfl rfl) (uw2 94 rfl rfl) (uw2 95 rfl rfl) (uw1 3 rfl rfl) ⟨by decide, by decide, by decide⟩ rfl ⟨by decide, by decide⟩ (Nat.le_of_ble_eq_true rfl) ⟨Nat.zero_le _, Nat.zero_le _⟩ (dd dX9_corner 39 rfl) (fun H locs hW => ?_)
                have hW9 := hW
                cases h
                exact ret _ _ _ 78 hW9 rfl (dd dX9_corner 40 rfl)
              have h := it_f hc h
              by_cases hc : v1 = 1
              · have h := it_t hc h
                refine rAald (pc := 69) M hW 3 (v := .ref a_rings_1) rfl (by rw [hc]; decide) (by rw [hc]; rfl) (dd dX9_corner 35 rfl) ?_
                refine rGet (pc := 70) M hW 7 0 iU5 rfl rfl (by decide) (uw1 64 rfl rfl) rfl (dd dX9_corner 36 rfl) ?_
                refine lv_iload_n (pc := 73) hx hb (dd dX9_corner 37 rfl) rfl (lv_at hl 2 rfl) ?_
                refine lv_iload_n (pc := 74) hx hb (dd dX9_corner 38 rfl) rfl (lv_at hl 3 rfl) ?_
                obtain ⟨⟨r_75, c_rings_1_corners_size_75, c_rings_1_corners_firsts_75, c_rings_1_corners_seconds_75⟩, hr, h⟩ := bnd_ex h
                have h := un4_at h
                refine callVI (pc := 75) (na := 2) (As := [.int v2, .int v3]) (rest := []) (ws2 := (w_X9_corner g a_t a_land a_plan a_rings a_rows a_turns a_rings_0 a_rings_1 a_rings_2 a_rings_3 a_turns_known a_rings_0_corners a_rings_1_corners a_rings_2_corners a_rings_3_corners a_rings_0_corners_firsts a_rings_0_corners_seconds a_rings_1_corners_firsts a_rings_1_corners_seconds a_rings_2_corners_firsts a_rings_2_corners_seconds a_rings_3_corners_firsts a_rings_3_corners_seconds a_ways a_planner a_slants a_reaper a_land_kinds a_land_nears a_land_depths a_plan_numbers a_rows_strips a_rows_alongs a_rows_numbers a_rows_sorted a_rows_spare a_rows_tally a_rows_squares a_rows_starts a_rows_ends a_turns_lengths c_land_laid_61 c_land_head_61 c_land_fieldCount_61 c_land_innerCount_61 c_plan_there_61 c_plan_size_61 c_rows_there_61 c_rows_size_61 c_turns_known_61 c_rings_0_corners_size c_rings_1_corners_size_75 c_rings_2_corners_size c_rings_3_corners_size c_rings_0_corners_firsts c_rings_0_corners_seconds c_rings_1_corners_firsts_75 c_rings_1_corners_seconds_75 c_rings_2_corners_firsts c_rings_2_corners_seconds c_rings_3_corners_firsts c_rings_3_corners_seconds)) M hl.1 hW (t_X1_add l g a_rings_1_corners a_rings_1_corners_firsts a_rings_1_corners_seconds 12 c_rings_1_corners_size c_rings_1_corners_firsts c_rings_1_corners_seconds v2 v3 r_75 c_rings_1_corners_size_75 c_rings_1_corners_firsts_75 c_rings_1_corners_seconds_75 hr) rfl [12, 17, 18] [0, 1, 2, 3, 4, 5, 6, 7, 8, 9, 10, 11, 13, 14, 15, 16, 19, 20, 21, 22] [0, 1, 2, 3, 4, 5, 6, 7, 8, 9, 10, 11, 20, 12, 13, 14, 15, 21, 22, 16, 17, 18, 19] rfl rfl rfl rfl rfl rfl rfl 12 1 rfl rfl rfl (uw2 96 rfl rfl) (uw2 93 rfl rfl) (uw2 94 rfl rfl) (uw2 95 rfl rfl) (uw1 3 rfl rfl) ⟨by decide, by decide, by decide⟩ rfl ⟨by decide, by decide⟩ (Nat.le_of_ble_eq_true rfl) ⟨Nat.zero_le _, Nat.zero_le _⟩ (dd dX9_corner 39 rfl) (fun H locs hW => ?_)
                have hW9 := hW
                cases h
                exact ret _ _ _ 78 hW9 rfl (dd dX9_corner 40 rfl)
              have h := it_f hc h
              by_cases hc : v1 = 2
              · have h := it_t hc h
                refine rAald (pc := 69) M hW 3 (v := .ref a_rings_2) rfl (by rw [hc]; decide) (by rw [hc]; rfl) (dd dX9_corner 35 rfl) ?_
                refine rGet (pc := 70) M hW 8 0 iU5 rfl rfl (by decide) (uw1 64 rfl rfl) rfl (dd dX9_corner 36 rfl) ?_
                refine lv_iload_n (pc := 73) hx hb (dd dX9_corner 37 rfl) rfl (lv_at hl 2 rfl) ?_
                refine lv_iload_n (pc := 74) hx hb (dd dX9_corner 38 rfl) rfl (lv_at hl 3 rfl) ?_
                obtain ⟨⟨r_75, c_rings_2_corners_size_75, c_rings_2_corners_firsts_75, c_rings_2_corners_seconds_75⟩, hr, h⟩ := bnd_ex h
                have h := un4_at h
                refine callVI (pc := 75) (na := 2) (As := [.int v2, .int v3]) (rest := []) (ws2 := (w_X9_corner g a_t a_land a_plan a_rings a_rows a_turns a_rings_0 a_rings_1 a_rings_2 a_rings_3 a_turns_known a_rings_0_corners a_rings_1_corners a_rings_2_corners a_rings_3_corners a_rings_0_corners_firsts a_rings_0_corners_seconds a_rings_1_corners_firsts a_rings_1_corners_seconds a_rings_2_corners_firsts a_rings_2_corners_seconds a_rings_3_corners_firsts a_rings_3_corners_seconds a_ways a_planner a_slants a_reaper a_land_kinds a_land_nears a_land_depths a_plan_numbers a_rows_strips a_rows_alongs a_rows_numbers a_rows_sorted a_rows_spare a_rows_tally a_rows_squares a_rows_starts a_rows_ends a_turns_lengths c_land_laid_61 c_land_head_61 c_land_fieldCount_61 c_land_innerCount_61 c_plan_there_61 c_plan_size_61 c_rows_there_61 c_rows_size_61 c_turns_known_61 c_rings_0_corners_size c_rings_1_corners_size c_rings_2_corners_size_75 c_rings_3_corners_size c_rings_0_corners_firsts c_rings_0_corners_seconds c_rings_1_corners_firsts c_rings_1_corners_seconds c_rings_2_corners_firsts_75 c_rings_2_corners_seconds_75 c_rings_3_corners_firsts c_rings_3_corners_seconds)) M hl.1 hW (t_X1_add l g a_rings_2_corners a_rings_2_corners_firsts a_rings_2_corners_seconds 12 c_rings_2_corners_size c_rings_2_corners_firsts c_rings_2_corners_seconds v2 v3 r_75 c_rings_2_corners_size_75 c_rings_2_corners_firsts_75 c_rings_2_corners_seconds_75 hr) rfl [13, 19, 20] [0, 1, 2, 3, 4, 5, 6, 7, 8, 9, 10, 11, 12, 14, 15, 16, 17, 18, 21, 22] [0, 1, 2, 3, 4, 5, 6, 7, 8, 9, 10, 11, 12, 20, 13, 14, 15, 16, 17, 21, 22, 18, 19] rfl rfl rfl rfl rfl rfl rfl 13 1 rfl rfl rfl (uw2 96 rfl rfl) (uw2 93 rfl rfl) (uw2 94 rfl rfl) (uw2 95 rfl rfl) (uw1 3 rfl rfl) ⟨by decide, by decide, by decide⟩ rfl ⟨by decide, by decide⟩ (Nat.le_of_ble_eq_true rfl) ⟨Nat.zero_le _, Nat.zero_le _⟩ (dd dX9_corner 39 rfl) (fun H locs hW => ?_)
                have hW9 := hW
                cases h
                exact ret _ _ _ 78 hW9 rfl (dd dX9_corner 40 rfl)
              have h := it_f hc h
              by_cases hc : v1 = 3
              · have h := it_t hc h
                refine rAald (pc := 69) M hW 3 (v := .ref a_rings_3) rfl (by rw [hc]; decide) (by rw [hc]; rfl) (dd dX9_corner 35 rfl) ?_
                refine rGet (pc := 70) M hW 9 0 iU5 rfl rfl (by decide) (uw1 64 rfl rfl) rfl (dd dX9_corner 36 rfl) ?_
                refine lv_iload_n (pc := 73) hx hb (dd dX9_corner 37 rfl) rfl (lv_at hl 2 rfl) ?_
                refine lv_iload_n (pc := 74) hx hb (dd dX9_corner 38 rfl) rfl (lv_at hl 3 rfl) ?_
                obtain ⟨⟨r_75, c_rings_3_corners_size_75, c_rings_3_corners_firsts_75, c_rings_3_corners_seconds_75⟩, hr, h⟩ := bnd_ex h
                have h := un4_at h
                refine callVI (pc := 75) (na := 2) (As := [.int v2, .int v3]) (rest := []) (ws2 := (w_X9_corner g a_t a_land a_plan a_rings a_rows a_turns a_rings_0 a_rings_1 a_rings_2 a_rings_3 a_turns_known a_rings_0_corners a_rings_1_corners a_rings_2_corners a_rings_3_corners a_rings_0_corners_firsts a_rings_0_corners_seconds a_rings_1_corners_firsts a_rings_1_corners_seconds a_rings_2_corners_firsts a_rings_2_corners_seconds a_rings_3_corners_firsts a_rings_3_corners_seconds a_ways a_planner a_slants a_reaper a_land_kinds a_land_nears a_land_depths a_plan_numbers a_rows_strips a_rows_alongs a_rows_numbers a_rows_sorted a_rows_spare a_rows_tally a_rows_squares a_rows_starts a_rows_ends a_turns_lengths c_land_laid_61 c_land_head_61 c_land_fieldCount_61 c_land_innerCount_61 c_plan_there_61 c_plan_size_61 c_rows_there_61 c_rows_size_61 c_turns_known_61 c_rings_0_corners_size c_rings_1_corners_size c_rings_2_corners_size c_rings_3_corners_size_75 c_rings_0_corners_firsts c_rings_0_corners_seconds c_rings_1_corners_firsts c_rings_1_corners_seconds c_rings_2_corners_firsts c_rings_2_corners_seconds c_rings_3_corners_firsts_75 c_rings_3_corners_seconds_75)) M hl.1 hW (t_X1_add l g a_rings_3_corners a_rings_3_corners_firsts a_rings_3_corners_seconds 12 c_rings_3_corners_size c_rings_3_corners_firsts c_rings_3_corners_seconds v2 v3 r_75 c_rings_3_corners_size_75 c_rings_3_corners_firsts_75 c_rings_3_corners_seconds_75 hr) rfl [14, 21, 22] [0, 1, 2, 3, 4, 5, 6, 7, 8, 9, 10, 11, 12, 13, 15, 16, 17, 18, 19, 20] [0, 1, 2, 3, 4, 5, 6, 7, 8, 9, 10, 11, 12, 13, 20, 14, 15, 16, 17, 18, 19, 21, 22] rfl rfl rfl rfl rfl rfl rfl 14 1 rfl rfl rfl (uw2 96 rfl rfl) (uw2 93 rfl rfl) (uw2 94 rfl rfl) (uw2 95 rfl rfl) (uw1 3 rfl rfl) ⟨by decide, by decide, by decide⟩ rfl ⟨by decide, by decide⟩ (Nat.le_of_ble_eq_true rfl) ⟨Nat.zero_le _, Nat.zero_le _⟩ (dd dX9_corner 39 rfl) (fun H locs hW => ?_)
                have hW9 := hW
                cases h
                exact ret _ _ _ 78 hW9 rfl (dd dX9_corner 40 rfl)
              have h := it_f hc h
              cases h
            · have h := it_f hc h
              cases h
          have h := it_f hc h
          by_cases hc : v1 = 3
          · have h := it_t hc h
            refine rAald (pc := 40) M hW 3 (v := .ref a_rings_3) rfl (by rw [hc]; decide) (by rw [hc]; rfl) (dd dX9_corner 21 rfl) ?_
            refine rGet (pc := 41) M hW 9 0 iU5 rfl rfl (by decide) (uw1 64 rfl rfl) rfl (dd dX9_corner 22 rfl) ?_
            obtain ⟨r_44, hr, h⟩ := bnd_ex h
            refine callVI (pc := 44) (na := 0) (As := []) (rest := []) (ws2 := (w_X9_corner g a_t a_land a_plan a_rings a_rows a_turns a_rings_0 a_rings_1 a_rings_2 a_rings_3 a_turns_known a_rings_0_corners a_rings_1_corners a_rings_2_corners a_rings_3_corners a_rings_0_corners_firsts a_rings_0_corners_seconds a_rings_1_corners_firsts a_rings_1_corners_seconds a_rings_2_corners_firsts a_rings_2_corners_seconds a_rings_3_corners_firsts a_rings_3_corners_seconds a_ways a_planner a_slants a_reaper a_land_kinds a_land_nears a_land_depths a_plan_numbers a_rows_strips a_rows_alongs a_rows_numbers a_rows_sorted a_rows_spare a_rows_tally a_rows_squares a_rows_starts a_rows_ends a_turns_lengths c_land_laid c_land_head c_land_fieldCount c_land_innerCount c_plan_there c_plan_size c_rows_there c_rows_size c_turns_known c_rings_0_corners_size c_rings_1_corners_size c_rings_2_corners_size c_rings_3_corners_size c_rings_0_corners_firsts c_rings_0_corners_seconds c_rings_1_corners_firsts c_rings_1_corners_seconds c_rings_2_corners_firsts c_rings_2_corners_seconds c_rings_3_corners_firsts c_rings_3_corners_seconds)) M hl.1 hW (t_X1_isFull l g a_rings_3_corners a_rings_3_corners_firsts a_rings_3_corners_seconds 12 c_rings_3_corners_size c_rings_3_corners_firsts r_44 hr) rfl [14, 21] [0, 1, 2, 3, 4, 5, 6, 7, 8, 9, 10, 11, 12, 13, 15, 16, 17, 18, 19, 20, 22] [0, 1, 2, 3, 4, 5, 6, 7, 8, 9, 10, 11, 12, 13, 21, 14, 15, 16, 17, 18, 19, 22, 20] rfl rfl rfl rfl rfl rfl rfl 14 1 rfl rfl rfl (uw2 92 rfl rfl) (uw2 89 rfl rfl) (uw2 90 rfl rfl) (uw2 91 rfl rfl) (uw1 3 rfl rfl) ⟨by decide, by decide, by decide⟩ rfl ⟨by decide, by decide⟩ (Nat.le_of_ble_eq_true rfl) ⟨Nat.zero_le _, Nat.zero_le _⟩ (dd dX9_corner 23 rfl) (fun H locs hW => ?_)
            refine lv_if_eq (pc := 47) (tgt := 60) hx hb (dd dX9_corner 24 rfl) (by decide) (fun hc => ?_) (fun hc => ?_)
            · have h := it_t hc h
              have h := rmap_ex h
              refine lv_aload_n (pc := 60) hx hb (dd dX9_corner 30 rfl) rfl (lv_at hl 0 rfl) ?_
              obtain ⟨⟨c_land_laid_61, c_land_head_61, c_land_fieldCount_61, c_land_innerCount_61, c_plan_there_61, c_plan_size_61, c_rows_there_61, c_rows_size_61, c_turns_known_61⟩, hr, h⟩ := bnd_ex h
              have h := un9_at h
              refine callVV (pc := 61) (na := 0) (As := []) (rest := []) (ws2 := (w_X9_corner g a_t a_land a_plan a_rings a_rows a_turns a_rings_0 a_rings_1 a_rings_2 a_rings_3 a_turns_known a_rings_0_corners a_rings_1_corners a_rings_2_corners a_rings_3_corners a_rings_0_corners_firsts a_rings_0_corners_seconds a_rings_1_corners_firsts a_rings_1_corners_seconds a_rings_2_corners_firsts a_rings_2_corners_seconds a_rings_3_corners_firsts a_rings_3_corners_seconds a_ways a_planner a_slants a_reaper a_land_kinds a_land_nears a_land_depths a_plan_numbers a_rows_strips a_rows_alongs a_rows_numbers a_rows_sorted a_rows_spare a_rows_tally a_rows_squares a_rows_starts a_rows_ends a_turns_lengths c_land_laid_61 c_land_head_61 c_land_fieldCount_61 c_land_innerCount_61 c_plan_there_61 c_plan_size_61 c_rows_there_61 c_rows_size_61 c_turns_known_61 c_rings_0_corners_size c_rings_1_corners_size c_rings_2_corners_size c_rings_3_corners_size c_rings_0_corners_firsts c_rings_0_corners_seconds c_rings_1_corners_firsts c_rings_1_corners_seconds c_rings_2_corners_firsts c_rings_2_corners_seconds c_rings_3_corners_firsts c_rings_3_corners_seconds)) M hl.1 hW (t_X9_forgetLand l g a_t a_land a_plan a_rows a_turns a_turns_known a_rings a_ways a_planner a_slants a_reaper a_land_kinds a_land_nears a_land_depths a_plan_numbers a_rows_strips a_rows_alongs a_rows_numbers a_rows_sorted a_rows_spare a_rows_tally a_rows_squares a_rows_starts a_rows_ends a_turns_lengths c_land_laid c_land_head c_land_fieldCount c_land_innerCount c_plan_there c_plan_size c_rows_there c_rows_size c_turns_known c_land_laid_61 c_land_head_61 c_land_fieldCount_61 c_land_innerCount_61 c_plan_there_61 c_plan_size_61 c_rows_there_61 c_rows_size_61 c_turns_known_61 hr) rfl [0, 1, 2, 4, 5, 10] [3, 6, 7, 8, 9, 11, 12, 13, 14, 15, 16, 17, 18, 19, 20, 21, 22] [17, 18, 19, 0, 20, 21, 1, 2, 3, 4, 22, 5, 6, 7, 8, 9, 10, 11, 12, 13, 14, 15, 16] rfl rfl rfl rfl rfl rfl rfl 0 9 rfl rfl rfl (uw2 233 rfl rfl) (uw2 230 rfl rfl) (uw2 232 rfl rfl) (uwp 2 rfl rfl) (uw1 1 rfl rfl) ⟨by decide, by decide, by decide⟩ rfl ⟨by decide, by decide⟩ (Nat.le_of_ble_eq_true rfl) ⟨Nat.zero_le _, Nat.zero_le _⟩ (dd dX9_corner 31 rfl) (fun H locs hW => ?_)
              refine lv_aload_n (pc := 64) hx hb (dd dX9_corner 32 rfl) rfl (lv_at hl 0 rfl) ?_
              refine rGet (pc := 65) M hW 0 0 iU9 rfl rfl (by decide) (uw2 50 rfl rfl) rfl (dd dX9_corner 33 rfl) ?_
              refine lv_iload_n (pc := 68) hx hb (dd dX9_corner 34 rfl) rfl (lv_at hl 1 rfl) ?_
              by_cases hc : v1 = 0
              · have h := it_t hc h
                refine rAald (pc := 69) M hW 3 (v := .ref a_rings_0) rfl (by rw [hc]; decide) (by rw [hc]; rfl) (dd dX9_corner 35 rfl) ?_
                refine rGet (pc := 70) M hW 6 0 iU5 rfl rfl (by decide) (uw1 64 rfl rfl) rfl (dd dX9_corner 36 rfl) ?_
                refine lv_iload_n (pc := 73) hx hb (dd dX9_corner 37 rfl) rfl (lv_at hl 2 rfl) ?_
                refine lv_iload_n (pc := 74) hx hb (dd dX9_corner 38 rfl) rfl (lv_at hl 3 rfl) ?_
                obtain ⟨⟨r_75, c_rings_0_corners_size_75, c_rings_0_corners_firsts_75, c_rings_0_corners_seconds_75⟩, hr, h⟩ := bnd_ex h
                have h := un4_at h
                refine callVI (pc := 75) (na := 2) (As := [.int v2, .int v3]) (rest := []) (ws2 := (w_X9_corner g a_t a_land a_plan a_rings a_rows a_turns a_rings_0 a_rings_1 a_rings_2 a_rings_3 a_turns_known a_rings_0_corners a_rings_1_corners a_rings_2_corners a_rings_3_corners a_rings_0_corners_firsts a_rings_0_corners_seconds a_rings_1_corners_firsts a_rings_1_corners_seconds a_rings_2_corners_firsts a_rings_2_corners_seconds a_rings_3_corners_firsts a_rings_3_corners_seconds a_ways a_planner a_slants a_reaper a_land_kinds a_land_nears a_land_depths a_plan_numbers a_rows_strips a_rows_alongs a_rows_numbers a_rows_sorted a_rows_spare a_rows_tally a_rows_squares a_rows_starts a_rows_ends a_turns_lengths c_land_laid_61 c_land_head_61 c_land_fieldCount_61 c_land_innerCount_61 c_plan_there_61 c_plan_size_61 c_rows_there_61 c_rows_size_61 c_turns_known_61 c_rings_0_corners_size_75 c_rings_1_corners_size c_rings_2_corners_size c_rings_3_corners_size c_rings_0_corners_firsts_75 c_rings_0_corners_seconds_75 c_rings_1_corners_firsts c_rings_1_corners_seconds c_rings_2_corners_firsts c_rings_2_corners_seconds c_rings_3_corners_firsts c_rings_3_corners_seconds)) M hl.1 hW (t_X1_add l g a_rings_0_corners a_rings_0_corners_firsts a_rings_0_corners_seconds 12 c_rings_0_corners_size c_rings_0_corners_firsts c_rings_0_corners_seconds v2 v3 r_75 c_rings_0_corners_size_75 c_rings_0_corners_firsts_75 c_rings_0_corners_seconds_75 hr) rfl [11, 15, 16] [0, 1, 2, 3, 4, 5, 6, 7, 8, 9, 10, 12, 13, 14, 17, 18, 19, 20, 21, 22] [0, 1, 2, 3, 4, 5, 6, 7, 8, 9, 10, 20, 11, 12, 13, 21, 22, 14, 15, 16, 17, 18, 19] rfl rfl rfl rfl rfl rfl rfl 11 1 rfl rfl rfl (uw2 96 rfl rfl) (uw2 93 rfl rfl) (uw2 94 rfl rfl) (uw2 95 rfl rfl) (uw1 3 rfl rfl) ⟨by decide, by decide, by decide⟩ rfl ⟨by decide, by decide⟩ (Nat.le_of_ble_eq_true rfl) ⟨Nat.zero_le _, Nat.zero_le _⟩ (dd dX9_corner 39 rfl) (fun H locs hW => ?_)
                have hW9 := hW
                cases h
                exact ret _ _ _ 78 hW9 rfl (dd dX9_corner 40 rfl)
              have h := it_f hc h
              by_cases hc : v1 = 1
              · have h := it_t hc h
                refine rAald (pc := 69) M hW 3 (v := .ref a_rings_1) rfl (by rw [hc]; decide) (by rw [hc]; rfl) (dd dX9_corner 35 rfl) ?_
                refine rGet (pc := 70) M hW 7 0 iU5 rfl rfl (by decide) (uw1 64 rfl rfl) rfl (dd dX9_corner 36 rfl) ?_
                refine lv_iload_n (pc := 73) hx hb (dd dX9_corner 37 rfl) rfl (lv_at hl 2 rfl) ?_
                refine lv_iload_n (pc := 74) hx hb (dd dX9_corner 38 rfl) rfl (lv_at hl 3 rfl) ?_
                obtain ⟨⟨r_75, c_rings_1_corners_size_75, c_rings_1_corners_firsts_75, c_rings_1_corners_seconds_75⟩, hr, h⟩ := bnd_ex h
                have h := un4_at h
                refine callVI (pc := 75) (na := 2) (As := [.int v2, .int v3]) (rest := []) (ws2 := (w_X9_corner g a_t a_land a_plan a_rings a_rows a_turns a_rings_0 a_rings_1 a_rings_2 a_rings_3 a_turns_known a_rings_0_corners a_rings_1_corners a_rings_2_corners a_rings_3_corners a_rings_0_corners_firsts a_rings_0_corners_seconds a_rings_1_corners_firsts a_rings_1_corners_seconds a_rings_2_corners_firsts a_rings_2_corners_seconds a_rings_3_corners_firsts a_rings_3_corners_seconds a_ways a_planner a_slants a_reaper a_land_kinds a_land_nears a_land_depths a_plan_numbers a_rows_strips a_rows_alongs a_rows_numbers a_rows_sorted a_rows_spare a_rows_tally a_rows_squares a_rows_starts a_rows_ends a_turns_lengths c_land_laid_61 c_land_head_61 c_land_fieldCount_61 c_land_innerCount_61 c_plan_there_61 c_plan_size_61 c_rows_there_61 c_rows_size_61 c_turns_known_61 c_rings_0_corners_size c_rings_1_corners_size_75 c_rings_2_corners_size c_rings_3_corners_size c_rings_0_corners_firsts c_rings_0_corners_seconds c_rings_1_corners_firsts_75 c_rings_1_corners_seconds_75 c_rings_2_corners_firsts c_rings_2_corners_seconds c_rings_3_corners_firsts c_rings_3_corners_seconds)) M hl.1 hW (t_X1_add l g a_rings_1_corners a_rings_1_corners_firsts a_rings_1_corners_seconds 12 c_rings_1_corners_size c_rings_1_corners_firsts c_rings_1_corners_seconds v2 v3 r_75 c_rings_1_corners_size_75 c_rings_1_corners_firsts_75 c_rings_1_corners_seconds_75 hr) rfl [12, 17, 18] [0, 1, 2, 3, 4, 5, 6, 7, 8, 9, 10, 11, 13, 14, 15, 16, 19, 20, 21, 22] [0, 1, 2, 3, 4, 5, 6, 7, 8, 9, 10, 11, 20, 12, 13, 14, 15, 21, 22, 16, 17, 18, 19] rfl rfl rfl rfl rfl rfl rfl 12 1 rfl rfl rfl (uw2 96 rfl rfl) (uw2 93 rfl rfl) (uw2 94 rfl rfl) (uw2 95 rfl rfl) (uw1 3 rfl rfl) ⟨by decide, by decide, by decide⟩ rfl ⟨by decide, by decide⟩ (Nat.le_of_ble_eq_true rfl) ⟨Nat.zero_le _, Nat.zero_le _⟩ (dd dX9_corner 39 rfl) (fun H locs hW => ?_)
                have hW9 := hW
                cases h
                exact ret _ _ _ 78 hW9 rfl (dd dX9_corner 40 rfl)
              have h := it_f hc h
              by_cases hc : v1 = 2
              · have h := it_t hc h
                refine rAald (pc := 69) M hW 3 (v := .ref a_rings_2) rfl (by rw [hc]; decide) (by rw [hc]; rfl) (dd dX9_corner 35 rfl) ?_
                refine rGet (pc := 70) M hW 8 0 iU5 rfl rfl (by decide) (uw1 64 rfl rfl) rfl (dd dX9_corner 36 rfl) ?_
                refine lv_iload_n (pc := 73) hx hb (dd dX9_corner 37 rfl) rfl (lv_at hl 2 rfl) ?_
                refine lv_iload_n (pc := 74) hx hb (dd dX9_corner 38 rfl) rfl (lv_at hl 3 rfl) ?_
                obtain ⟨⟨r_75, c_rings_2_corners_size_75, c_rings_2_corners_firsts_75, c_rings_2_corners_seconds_75⟩, hr, h⟩ := bnd_ex h
                have h := un4_at h
                refine callVI (pc := 75) (na := 2) (As := [.int v2, .int v3]) (rest := []) (ws2 := (w_X9_corner g a_t a_land a_plan a_rings a_rows a_turns a_rings_0 a_rings_1 a_rings_2 a_rings_3 a_turns_known a_rings_0_corners a_rings_1_corners a_rings_2_corners a_rings_3_corners a_rings_0_corners_firsts a_rings_0_corners_seconds a_rings_1_corners_firsts a_rings_1_corners_seconds a_rings_2_corners_firsts a_rings_2_corners_seconds a_rings_3_corners_firsts a_rings_3_corners_seconds a_ways a_planner a_slants a_reaper a_land_kinds a_land_nears a_land_depths a_plan_numbers a_rows_strips a_rows_alongs a_rows_numbers a_rows_sorted a_rows_spare a_rows_tally a_rows_squares a_rows_starts a_rows_ends a_turns_lengths c_land_laid_61 c_land_head_61 c_land_fieldCount_61 c_land_innerCount_61 c_plan_there_61 c_plan_size_61 c_rows_there_61 c_rows_size_61 c_turns_known_61 c_rings_0_corners_size c_rings_1_corners_size c_rings_2_corners_size_75 c_rings_3_corners_size c_rings_0_corners_firsts c_rings_0_corners_seconds c_rings_1_corners_firsts c_rings_1_corners_seconds c_rings_2_corners_firsts_75 c_rings_2_corners_seconds_75 c_rings_3_corners_firsts c_rings_3_corners_seconds)) M hl.1 hW (t_X1_add l g a_rings_2_corners a_rings_2_corners_firsts a_rings_2_corners_seconds 12 c_rings_2_corners_size c_rings_2_corners_firsts c_rings_2_corners_seconds v2 v3 r_75 c_rings_2_corners_size_75 c_rings_2_corners_firsts_75 c_rings_2_corners_seconds_75 hr) rfl [13, 19, 20] [0, 1, 2, 3, 4, 5, 6, 7, 8, 9, 10, 11, 12, 14, 15, 16, 17, 18, 21, 22] [0, 1, 2, 3, 4, 5, 6, 7, 8, 9, 10, 11, 12, 20, 13, 14, 15, 16, 17, 21, 22, 18, 19] rfl rfl rfl rfl rfl rfl rfl 13 1 rfl rfl rfl (uw2 96 rfl rfl) (uw2 93 rfl rfl) (uw2 94 rfl rfl) (uw2 95 rfl rfl) (uw1 3 rfl rfl) ⟨by decide, by decide, by decide⟩ rfl ⟨by decide, by decide⟩ (Nat.le_of_ble_eq_true rfl) ⟨Nat.zero_le _, Nat.zero_le _⟩ (dd dX9_corner 39 rfl) (fun H locs hW => ?_)
                have hW9 := hW
                cases h
                exact ret _ _ _ 78 hW9 rfl (dd dX9_corner 40 rfl)
              have h := it_f hc h
              by_cases hc : v1 = 3
              · have h := it_t hc h
                refine rAald (pc := 69) M hW 3 (v := .ref a_rings_3) rfl (by rw [hc]; decide) (by rw [hc]; rfl) (dd dX9_corner 35 rfl) ?_
                refine rGet (pc := 70) M hW 9 0 iU5 rfl rfl (by decide) (uw1 64 rfl rfl) rfl (dd dX9_corner 36 rfl) ?_
                refine lv_iload_n (pc := 73) hx hb (dd dX9_corner 37 rfl) rfl (lv_at hl 2 rfl) ?_
                refine lv_iload_n (pc := 74) hx hb (dd dX9_corner 38 rfl) rfl (lv_at hl 3 rfl) ?_
                obtain ⟨⟨r_75, c_rings_3_corners_size_75, c_rings_3_corners_firsts_75, c_rings_3_corners_seconds_75⟩, hr, h⟩ := bnd_ex h
                have h := un4_at h
                refine callVI (pc := 75) (na := 2) (As := [.int v2, .int v3]) (rest := []) (ws2 := (w_X9_corner g a_t a_land a_plan a_rings a_rows a_turns a_rings_0 a_rings_1 a_rings_2 a_rings_3 a_turns_known a_rings_0_corners a_rings_1_corners a_rings_2_corners a_rings_3_corners a_rings_0_corners_firsts a_rings_0_corners_seconds a_rings_1_corners_firsts a_rings_1_corners_seconds a_rings_2_corners_firsts a_rings_2_corners_seconds a_rings_3_corners_firsts a_rings_3_corners_seconds a_ways a_planner a_slants a_reaper a_land_kinds a_land_nears a_land_depths a_plan_numbers a_rows_strips a_rows_alongs a_rows_numbers a_rows_sorted a_rows_spare a_rows_tally a_rows_squares a_rows_starts a_rows_ends a_turns_lengths c_land_laid_61 c_land_head_61 c_land_fieldCount_61 c_land_innerCount_61 c_plan_there_61 c_plan_size_61 c_rows_there_61 c_rows_size_61 c_turns_known_61 c_rings_0_corners_size c_rings_1_corners_size c_rings_2_corners_size c_rings_3_corners_size_75 c_rings_0_corners_firsts c_rings_0_corners_seconds c_rings_1_corners_firsts c_rings_1_corners_seconds c_rings_2_corners_firsts c_rings_2_corners_seconds c_rings_3_corners_firsts_75 c_rings_3_corners_seconds_75)) M hl.1 hW (t_X1_add l g a_rings_3_corners a_rings_3_corners_firsts a_rings_3_corners_seconds 12 c_rings_3_corners_size c_rings_3_corners_firsts c_rings_3_corners_seconds v2 v3 r_75 c_rings_3_corners_size_75 c_rings_3_corners_firsts_75 c_rings_3_corners_seconds_75 hr) rfl [14, 21, 22] [0, 1, 2, 3, 4, 5, 6, 7, 8, 9, 10, 11, 12, 13, 15, 16, 17, 18, 19, 20] [0, 1, 2, 3, 4, 5, 6, 7, 8, 9, 10, 11, 12, 13, 20, 14, 15, 16, 17, 18, 19, 21, 22] rfl rfl rfl rfl rfl rfl rfl 14 1 rfl rfl rfl (uw2 96 rfl rfl) (uw2 93 rfl rfl) (uw2 94 rfl rfl) (uw2 95 rfl rfl) (uw1 3 rfl rfl) ⟨by decide, by decide, by decide⟩ rfl ⟨by decide, by decide⟩ (Nat.le_of_ble_eq_true rfl) ⟨Nat.zero_le _, Nat.zero_le _⟩ (dd dX9_corner 39 rfl) (fun H locs hW => ?_)
                have hW9 := hW
                cases h
                exact ret _ _ _ 78 hW9 rfl (dd dX9_corner 40 rfl)
              have h := it_f hc h
              cases h
            · have h := it_f hc h
              cases h
          have h := it_f hc h
          cases h
        · have h := it_f hc h
          cases h
set_option maxHeartbeats 4000000 in
set_option maxRecDepth 100000 in
theorem x_X9_corner (l : Launch) (hl9 : l.stackTraces = false) (g : G9) (a_t a_land a_plan a_rings a_rows a_turns a_rings_0 a_rings_1 a_rings_2 a_rings_3 a_turns_known a_rings_0_corners a_rings_1_corners a_rings_2_corners a_rings_3_corners a_rings_0_corners_firsts a_rings_0_corners_seconds a_rings_1_corners_firsts a_rings_1_corners_seconds a_rings_2_corners_firsts a_rings_2_corners_seconds a_rings_3_corners_firsts a_rings_3_corners_seconds a_ways a_planner a_slants a_reaper a_land_kinds a_land_nears a_land_depths a_plan_numbers a_rows_strips a_rows_alongs a_rows_numbers a_rows_sorted a_rows_spare a_rows_tally a_rows_squares a_rows_starts a_rows_ends a_turns_lengths : Nat) (c_land_laid c_land_head c_land_fieldCount c_land_innerCount c_plan_there c_plan_size c_rows_there c_rows_size : Int32) (c_turns_known : Ar) (c_rings_0_corners_size c_rings_1_corners_size c_rings_2_corners_size c_rings_3_corners_size : Int32) (c_rings_0_corners_firsts c_rings_0_corners_seconds c_rings_1_corners_firsts c_rings_1_corners_seconds c_rings_2_corners_firsts c_rings_2_corners_seconds c_rings_3_corners_firsts c_rings_3_corners_seconds : Ar) (v1 v2 v3 : Int32) (k0 : Nat) (h : X9_corner c_land_laid c_land_head c_land_fieldCount c_land_innerCount c_plan_there c_plan_size c_rows_there c_rows_size c_turns_known c_rings_0_corners_size c_rings_1_corners_size c_rings_2_corners_size c_rings_3_corners_size c_rings_0_corners_firsts c_rings_0_corners_seconds c_rings_1_corners_firsts c_rings_1_corners_seconds c_rings_2_corners_firsts c_rings_2_corners_seconds c_rings_3_corners_firsts c_rings_3_corners_seconds v1 v2 v3 = some (.inl k0)) : CtX QnI l g yX9_corner cX9_corner 4 (some .int) 7 111 [.ref a_t, .int v1, .int v2, .int v3] (w_X9_corner g a_t a_land a_plan a_rings a_rows a_turns a_rings_0 a_rings_1 a_rings_2 a_rings_3 a_turns_known a_rings_0_corners a_rings_1_corners a_rings_2_corners a_rings_3_corners a_rings_0_corners_firsts a_rings_0_corners_seconds a_rings_1_corners_firsts a_rings_1_corners_seconds a_rings_2_corners_firsts a_rings_2_corners_seconds a_rings_3_corners_firsts a_rings_3_corners_seconds a_ways a_planner a_slants a_reaper a_land_kinds a_land_nears a_land_depths a_plan_numbers a_rows_strips a_rows_alongs a_rows_numbers a_rows_sorted a_rows_spare a_rows_tally a_rows_squares a_rows_starts a_rows_ends a_turns_lengths c_land_laid c_land_head c_land_fieldCount c_land_innerCount c_plan_there c_plan_size c_rows_there c_rows_size c_turns_known c_rings_0_corners_size c_rings_1_corners_size c_rings_2_corners_size c_rings_3_corners_size c_rings_0_corners_firsts c_rings_0_corners_seconds c_rings_1_corners_firsts c_rings_1_corners_seconds c_rings_2_corners_firsts c_rings_2_corners_seconds c_rings_3_corners_firsts c_rings_3_corners_seconds) (excN k0) := by
  refine startX (by decide) (Nat.le_of_ble_eq_true rfl) ?_
  intro p e s m below meth c A Q ls args M hW hl hlk hex hA9 hQ
  have hx := M.1
  have hb := M.2.1
  have hown := M.2.2.2.1
  have hu := M.2.2.2.2.1
  have hl : lv_has ls 4 [(0, .ref a_t), (1, .int v1), (2, .int v2), (3, .int v3)] := hl
  unfold X9_corner at h
  obtain ⟨H, eH⟩ : ∃ z, z = s.heap := ⟨_, rfl⟩
  obtain ⟨locs, eL⟩ : ∃ z, z = ([] : List Loc) := ⟨_, rfl⟩
  rw [← eL] at hW ⊢
  suffices hS9 : WD g s A (w_X9_corner g a_t a_land a_plan a_rings a_rows a_turns a_rings_0 a_rings_1 a_rings_2 a_rings_3 a_turns_known a_rings_0_corners a_rings_1_corners a_rings_2_corners a_rings_3_corners a_rings_0_corners_firsts a_rings_0_corners_seconds a_rings_1_corners_firsts a_rings_1_corners_seconds a_rings_2_corners_firsts a_rings_2_corners_seconds a_rings_3_corners_firsts a_rings_3_corners_seconds a_ways a_planner a_slants a_reaper a_land_kinds a_land_nears a_land_depths a_plan_numbers a_rows_strips a_rows_alongs a_rows_numbers a_rows_sorted a_rows_spare a_rows_tally a_rows_squares a_rows_starts a_rows_ends a_turns_lengths c_land_laid c_land_head c_land_fieldCount c_land_innerCount c_plan_there c_plan_size c_rows_there c_rows_size c_turns_known c_rings_0_corners_size c_rings_1_corners_size c_rings_2_corners_size c_rings_3_corners_size c_rings_0_corners_firsts c_rings_0_corners_seconds c_rings_1_corners_firsts c_rings_1_corners_seconds c_rings_2_corners_firsts c_rings_2_corners_seconds c_rings_3_corners_firsts c_rings_3_corners_seconds) H locs → W p l e (rm9x 7 111) s m args below meth c H locs 0 0 Q (F0 m 0 ls []) by
    rw [← eH] at hW ⊢
    exact hS9 hW
  clear hW eL
  intro hW
  refine lv_aload_n (pc := 0) hx hb (dd dX9_corner 0 rfl) rfl (lv_at hl 0 rfl) ?_
  refine lv_iload_n (pc := 1) hx hb (dd dX9_corner 1 rfl) rfl (lv_at hl 1 rfl) ?_
  obtain ⟨ex9, hr, h⟩ := bnd_ex h
  rcases ex9 with x9 | u9
  · have h := sE_l h
    have hW9 := hW
    cases h
    exact callXV (pc := 2) (na := 1) (As := [.int v1]) (rest := []) M hl.1 hW9 hlk hex hA9 hQ (x_X9_needRing l hl9 g a_t a_rings a_land a_ways a_rows a_turns a_plan a_planner a_slants a_reaper v1 _ hr) rfl [0] [1, 2, 3, 4, 5, 6, 7, 8, 9, 10, 11, 12, 13, 14, 15, 16, 17, 18, 19, 20, 21, 22] [22, 0, 1, 2, 3, 4, 5, 6, 7, 8, 9, 10, 11, 12, 13, 14, 15, 16, 17, 18, 19, 20, 21] rfl rfl rfl rfl rfl rfl rfl 0 9 rfl rfl rfl (uw2 127 rfl rfl) (uw2 124 rfl rfl) (uw2 126 rfl rfl) (uwp 0 rfl rfl) (uw1 1 rfl rfl) ⟨by decide, by decide, by decide⟩ rfl ⟨by decide, by decide⟩ (Nat.le_of_ble_eq_true rfl)  ⟨by decide, by decide⟩ (dd dX9_corner 2 rfl)
  have h := sE_r h
  refine callVV (pc := 2) (na := 1) (As := [.int v1]) (rest := []) (ws2 := (w_X9_corner g a_t a_land a_plan a_rings a_rows a_turns a_rings_0 a_rings_1 a_rings_2 a_rings_3 a_turns_known a_rings_0_corners a_rings_1_corners a_rings_2_corners a_rings_3_corners a_rings_0_corners_firsts a_rings_0_corners_seconds a_rings_1_corners_firsts a_rings_1_corners_seconds a_rings_2_corners_firsts a_rings_2_corners_seconds a_rings_3_corners_firsts a_rings_3_corners_seconds a_ways a_planner a_slants a_reaper a_land_kinds a_land_nears a_land_depths a_plan_numbers a_rows_strips a_rows_alongs a_rows_numbers a_rows_sorted a_rows_spare a_rows_tally a_rows_squares a_rows_starts a_rows_ends a_turns_lengths c_land_laid c_land_head c_land_fieldCount c_land_innerCount c_plan_there c_plan_size c_rows_there c_rows_size c_turns_known c_rings_0_corners_size c_rings_1_corners_size c_rings_2_corners_size c_rings_3_corners_size c_rings_0_corners_firsts c_rings_0_corners_seconds c_rings_1_corners_firsts c_rings_1_corners_seconds c_rings_2_corners_firsts c_rings_2_corners_seconds c_rings_3_corners_firsts c_rings_3_corners_seconds)) M hl.1 hW (t_X9_needRing l g a_t a_rings a_land a_ways a_rows a_turns a_plan a_planner a_slants a_reaper v1 hr) rfl [0] [1, 2, 3, 4, 5, 6, 7, 8, 9, 10, 11, 12, 13, 14, 15, 16, 17, 18, 19, 20, 21, 22] [22, 0, 1, 2, 3, 4, 5, 6, 7, 8, 9, 10, 11, 12, 13, 14, 15, 16, 17, 18, 19, 20, 21] rfl rfl rfl rfl rfl rfl rfl 0 9 rfl rfl rfl (uw2 127 rfl rfl) (uw2 124 rfl rfl) (uw2 126 rfl rfl) (uwp 0 rfl rfl) (uw1 1 rfl rfl) ⟨by decide, by decide, by decide⟩ rfl ⟨by decide, by decide⟩ (Nat.le_of_ble_eq_true rfl)  ⟨Nat.zero_le _, Nat.zero_le _⟩ (dd dX9_corner 2 rfl) (fun H locs hW => ?_)
  refine lv_iload_n (pc := 5) hx hb (dd dX9_corner 3 rfl) rfl (lv_at hl 2 rfl) ?_
  refine lv_if_lt (pc := 6) (tgt := 25) hx hb (dd dX9_corner 4 rfl) (by decide) (fun hc => ?_) (fun hc => ?_)
  · have h := it_t hc h
    have hW9 := hW
    cases h
    exact rThrowS (pc := 25) (text := "no such corner") hl9 M hl.1 hW9 hlk hex hA9 hQ (by decide) (by decide) (uw2 198 rfl rfl) (uw1 18 rfl rfl) (by decide) xg2 xb2 xo2 ⟨by decide, by decide⟩ (Nat.le_of_ble_eq_true rfl) ⟨by decide, by decide⟩ (dd dX9_corner 13 rfl) (dd dX9_corner 14 rfl) (dd dX9_corner 15 rfl) (dd dX9_corner 16 rfl) (dd dX9_corner 17 rfl)
  · have h := it_f hc h
    refine lv_iload_n (pc := 9) hx hb (dd dX9_corner 5 rfl) rfl (lv_at hl 2 rfl) ?_
    refine lv_bipush (pc := 10) (v := 40) hx hb (dd dX9_corner 6 rfl) (by decide) ?_
    refine lv_icmp_gt (pc := 12) (tgt := 25) hx hb (dd dX9_corner 7 rfl) (by decide) (fun hc => ?_) (fun hc => ?_)
    · have h := it_t hc h
      have hW9 := hW
      cases h
      exact rThrowS (pc := 25) (text := "no such corner") hl9 M hl.1 hW9 hlk hex hA9 hQ (by decide) (by decide) (uw2 198 rfl rfl) (uw1 18 rfl rfl) (by decide) xg2 xb2 xo2 ⟨by decide, by decide⟩ (Nat.le_of_ble_eq_true rfl) ⟨by decide, by decide⟩ (dd dX9_corner 13 rfl) (dd dX9_corner 14 rfl) (dd dX9_corner 15 rfl) (dd dX9_corner 16 rfl) (dd dX9_corner 17 rfl)
    · have h := it_f hc h
      refine lv_iload_n (pc := 15) hx hb (dd dX9_corner 8 rfl) rfl (lv_at hl 3 rfl) ?_
      refine lv_if_lt (pc := 16) (tgt := 25) hx hb (dd dX9_corner 9 rfl) (by decide) (fun hc => ?_) (fun hc => ?_)
      · have h := it_t hc h
        have hW9 := hW
        cases h
        exact rThrowS (pc := 25) (text := "no such corner") hl9 M hl.1 hW9 hlk hex hA9 hQ (by decide) (by decide) (uw2 198 rfl rfl) (uw1 18 rfl rfl) (by decide) xg2 xb2 xo2 ⟨by decide, by decide⟩ (Nat.le_of_ble_eq_true rfl) ⟨by decide, by decide⟩ (dd dX9_corner 13 rfl) (dd dX9_corner 14 rfl) (dd dX9_corner 15 rfl) (dd dX9_corner 16 rfl) (dd dX9_corner 17 rfl)
      · have h := it_f hc h
        refine lv_iload_n (pc := 19) hx hb (dd dX9_corner 10 rfl) rfl (lv_at hl 3 rfl) ?_
        refine lv_bipush (pc := 20) (v := 30) hx hb (dd dX9_corner 11 rfl) (by decide) ?_
        refine lv_icmp_le (pc := 22) (tgt := 35) hx hb (dd dX9_corner 12 rfl) (by decide) (fun hc => ?_) (fun hc => ?_)
        · have h := it_t hc h
          refine lv_aload_n (pc := 35) hx hb (dd dX9_corner 18 rfl) rfl (lv_at hl 0 rfl) ?_
          refine rGet (pc := 36) M hW 0 0 iU9 rfl rfl (by decide) (uw2 50 rfl rfl) rfl (dd dX9_corner 19 rfl) ?_
          refine lv_iload_n (pc := 39) hx hb (dd dX9_corner 20 rfl) rfl (lv_at hl 1 rfl) ?_
          by_cases hc : v1 = 0
          · have h := it_t hc h
            refine rAald (pc := 40) M hW 3 (v := .ref a_rings_0) rfl (by rw [hc]; decide) (by rw [hc]; rfl) (dd dX9_corner 21 rfl) ?_
            refine rGet (pc := 41) M hW 6 0 iU5 rfl rfl (by decide) (uw1 64 rfl rfl) rfl (dd dX9_corner 22 rfl) ?_
            obtain ⟨r_44, hr, h⟩ := bnd_ex h
            refine callVI (pc := 44) (na := 0) (As := []) (rest := []) (ws2 := (w_X9_corner g a_t a_land a_plan a_rings a_rows a_turns a_rings_0 a_rings_1 a_rings_2 a_rings_3 a_turns_known a_rings_0_corners a_rings_1_corners a_rings_2_corners a_rings_3_corners a_rings_0_corners_firsts a_rings_0_corners_seconds a_rings_1_corners_firsts a_rings_1_corners_seconds a_rings_2_corners_firsts a_rings_2_corners_seconds a_rings_3_corners_firsts a_rings_3_corners_seconds a_ways a_planner a_slants a_reaper a_land_kinds a_land_nears a_land_depths a_plan_numbers a_rows_strips a_rows_alongs a_rows_numbers a_rows_sorted a_rows_spare a_rows_tally a_rows_squares a_rows_starts a_rows_ends a_turns_lengths c_land_laid c_land_head c_land_fieldCount c_land_innerCount c_plan_there c_plan_size c_rows_there c_rows_size c_turns_known c_rings_0_corners_size c_rings_1_corners_size c_rings_2_corners_size c_rings_3_corners_size c_rings_0_corners_firsts c_rings_0_corners_seconds c_rings_1_corners_firsts c_rings_1_corners_seconds c_rings_2_corners_firsts c_rings_2_corners_seconds c_rings_3_corners_firsts c_rings_3_corners_seconds)) M hl.1 hW (t_X1_isFull l g a_rings_0_corners a_rings_0_corners_firsts a_rings_0_corners_seconds 12 c_rings_0_corners_size c_rings_0_corners_firsts r_44 hr) rfl [11, 15] [0, 1, 2, 3, 4, 5, 6, 7, 8, 9, 10, 12, 13, 14, 16, 17, 18, 19, 20, 21, 22] [0, 1, 2, 3, 4, 5, 6, 7, 8, 9, 10, 21, 11, 12, 13, 22, 14, 15, 16, 17, 18, 19, 20] rfl rfl rfl rfl rfl rfl rfl 11 1 rfl rfl rfl (uw2 92 rfl rfl) (uw2 89 rfl rfl) (uw2 90 rfl rfl) (uw2 91 rfl rfl) (uw1 3 rfl rfl) ⟨by decide, by decide, by decide⟩ rfl ⟨by decide, by decide⟩ (Nat.le_of_ble_eq_true rfl) ⟨Nat.zero_le _, Nat.zero_le _⟩ (dd dX9_corner 23 rfl) (fun H locs hW => ?_)
            refine lv_if_eq (pc := 47) (tgt := 60) hx hb (dd dX9_corner 24 rfl) (by decide) (fun hc => ?_) (fun hc => ?_)
            · have h := it_t hc h
              exact (rmap_no h).elim
            · have h := it_f hc h
              have hW9 := hW
              cases h
              exact rThrowS (pc := 50) (text := "the ring has all its corners") hl9 M hl.1 hW9 hlk hex hA9 hQ (by decide) (by decide) (uw2 214 rfl rfl) (uw1 19 rfl rfl) (by decide) xg3 xb3 xo3 ⟨by decide, by decide⟩ (Nat.le_of_ble_eq_true rfl) ⟨by decide, by decide⟩ (dd dX9_corner 25 rfl) (dd dX9_corner 26 rfl) (dd dX9_corner 27 rfl) (dd dX9_corner 28 rfl) (dd dX9_corner 29 rfl)
          have h := it_f hc h
          by_cases hc : v1 = 1
          · have h := it_t hc h
            refine rAald (pc := 40) M hW 3 (v := .ref a_rings_1) rfl (by rw [hc]; decide) (by rw [hc]; rfl) (dd dX9_corner 21 rfl) ?_
            refine rGet (pc := 41) M hW 7 0 iU5 rfl rfl (by decide) (uw1 64 rfl rfl) rfl (dd dX9_corner 22 rfl) ?_
            obtain ⟨r_44, hr, h⟩ := bnd_ex h
            refine callVI (pc := 44) (na := 0) (As := []) (rest := []) (ws2 := (w_X9_corner g a_t a_land a_plan a_rings a_rows a_turns a_rings_0 a_rings_1 a_rings_2 a_rings_3 a_turns_known a_rings_0_corners a_rings_1_corners a_rings_2_corners a_rings_3_corners a_rings_0_corners_firsts a_rings_0_corners_seconds a_rings_1_corners_firsts a_rings_1_corners_seconds a_rings_2_corners_firsts a_rings_2_corners_seconds a_rings_3_corners_firsts a_rings_3_corners_seconds a_ways a_planner a_slants a_reaper a_land_kinds a_land_nears a_land_depths a_plan_numbers a_rows_strips a_rows_alongs a_rows_numbers a_rows_sorted a_rows_spare a_rows_tally a_rows_squares a_rows_starts a_rows_ends a_turns_lengths c_land_laid c_land_head c_land_fieldCount c_land_innerCount c_plan_there c_plan_size c_rows_there c_rows_size c_turns_known c_rings_0_corners_size c_rings_1_corners_size c_rings_2_corners_size c_rings_3_corners_size c_rings_0_corners_firsts c_rings_0_corners_seconds c_rings_1_corners_firsts c_rings_1_corners_seconds c_rings_2_corners_firsts c_rings_2_corners_seconds c_rings_3_corners_firsts c_rings_3_corners_seconds)) M hl.1 hW (t_X1_isFull l g a_rings_1_corners a_rings_1_corners_firsts a_rings_1_corners_seconds 12 c_rings_1_corners_size c_rings_1_corners_firsts r_44 hr) rfl [12, 17] [0, 1, 2, 3, 4, 5, 6, 7, 8, 9, 10, 11, 13, 14, 15, 16, 18, 19, 20, 21, 22] [0, 1, 2, 3, 4, 5, 6, 7, 8, 9, 10, 11, 21, 12, 13, 14, 15, 22, 16, 17, 18, 19, 20] rfl rfl rfl rfl rfl rfl rfl 12 1 rfl rfl rfl (uw2 92 rfl rfl) (uw2 89 rfl rfl) (uw2 90 rfl rfl) (uw2 91 rfl rfl) (uw1 3 rfl rfl) ⟨by decide, by decide, by decide⟩ rfl ⟨by decide, by decide⟩ (Nat.le_of_ble_eq_true rfl) ⟨Nat.zero_le _, Nat.zero_le _⟩ (dd dX9_corner 23 rfl) (fun H locs hW => ?_)
            refine lv_if_eq (pc := 47) (tgt := 60) hx hb (dd dX9_corner 24 rfl) (by decide) (fun hc => ?_) (fun hc => ?_)
            · have h := it_t hc h
              exact (rmap_no h).elim
            · have h := it_f hc h
              have hW9 := hW
              cases h
              exact rThrowS (pc := 50) (text := "the ring has all its corners") hl9 M hl.1 hW9 hlk hex hA9 hQ (by decide) (by decide) (uw2 214 rfl rfl) (uw1 19 rfl rfl) (by decide) xg3 xb3 xo3 ⟨by decide, by decide⟩ (Nat.le_of_ble_eq_true rfl) ⟨by decide, by decide⟩ (dd dX9_corner 25 rfl) (dd dX9_corner 26 rfl) (dd dX9_corner 27 rfl) (dd dX9_corner 28 rfl) (dd dX9_corner 29 rfl)
          have h := it_f hc h
          by_cases hc : v1 = 2
          · have h := it_t hc h
            refine rAald (pc := 40) M hW 3 (v := .ref a_rings_2) rfl (by rw [hc]; decide) (by rw [hc]; rfl) (dd dX9_corner 21 rfl) ?_
            refine rGet (pc := 41) M hW 8 0 iU5 rfl rfl (by decide) (uw1 64 rfl rfl) rfl (dd dX9_corner 22 rfl) ?_
            obtain ⟨r_44, hr, h⟩ := bnd_ex h
            refine callVI (pc := 44) (na := 0) (As := []) (rest := []) (ws2 := (w_X9_corner g a_t a_land a_plan a_rings a_rows a_turns a_rings_0 a_rings_1 a_rings_2 a_rings_3 a_turns_known a_rings_0_corners a_rings_1_corners a_rings_2_corners a_rings_3_corners a_rings_0_corners_firsts a_rings_0_corners_seconds a_rings_1_corners_firsts a_rings_1_corners_seconds a_rings_2_corners_firsts a_rings_2_corners_seconds a_rings_3_corners_firsts a_rings_3_corners_seconds a_ways a_planner a_slants a_reaper a_land_kinds a_land_nears a_land_depths a_plan_numbers a_rows_strips a_rows_alongs a_rows_numbers a_rows_sorted a_rows_spare a_rows_tally a_rows_squares a_rows_starts a_rows_ends a_turns_lengths c_land_laid c_land_head c_land_fieldCount c_land_innerCount c_plan_there c_plan_size c_rows_there c_rows_size c_turns_known c_rings_0_corners_size c_rings_1_corners_size c_rings_2_corners_size c_rings_3_corners_size c_rings_0_corners_firsts c_rings_0_corners_seconds c_rings_1_corners_firsts c_rings_1_corners_seconds c_rings_2_corners_firsts c_rings_2_corners_seconds c_rings_3_corners_firsts c_rings_3_corners_seconds)) M hl.1 hW (t_X1_isFull l g a_rings_2_corners a_rings_2_corners_firsts a_rings_2_corners_seconds 12 c_rings_2_corners_size c_rings_2_corners_firsts r_44 hr) rfl [13, 19] [0, 1, 2, 3, 4, 5, 6, 7, 8, 9, 10, 11, 12, 14, 15, 16, 17, 18, 20, 21, 22] [0, 1, 2, 3, 4, 5, 6, 7, 8, 9, 10, 11, 12, 21, 13, 14, 15, 16, 17, 22, 18, 19, 20] rfl rfl rfl rfl rfl rfl rfl 13 1 rfl rfl rfl (uw2 92 rfl rfl) (uw2 89 rfl rfl) (uw2 90 rfl rfl) (uw2 91 rfl rfl) (uw1 3 rfl rfl) ⟨by decide, by decide, by decide⟩ rfl ⟨by decide, by decide⟩ (Nat.le_of_ble_eq_true rfl) ⟨Nat.zero_le _, Nat.zero_le _⟩ (dd dX9_corner 23 rfl) (fun H locs hW => ?_)
            refine lv_if_eq (pc := 47) (tgt := 60) hx hb (dd dX9_corner 24 rfl) (by decide) (fun hc => ?_) (fun hc => ?_)
            · have h := it_t hc h
              exact (rmap_no h).elim
            · have h := it_f hc h
              have hW9 := hW
              cases h
              exact rThrowS (pc := 50) (text := "the ring has all its corners") hl9 M hl.1 hW9 hlk hex hA9 hQ (by decide) (by decide) (uw2 214 rfl rfl) (uw1 19 rfl rfl) (by decide) xg3 xb3 xo3 ⟨by decide, by decide⟩ (Nat.le_of_ble_eq_true rfl) ⟨by decide, by decide⟩ (dd dX9_corner 25 rfl) (dd dX9_corner 26 rfl) (dd dX9_corner 27 rfl) (dd dX9_corner 28 rfl) (dd dX9_corner 29 rfl)
          have h := it_f hc h
          by_cases hc : v1 = 3
          · have h := it_t hc h
            refine rAald (pc := 40) M hW 3 (v := .ref a_rings_3) rfl (by rw [hc]; decide) (by rw [hc]; rfl) (dd dX9_corner 21 rfl) ?_
            refine rGet (pc := 41) M hW 9 0 iU5 rfl rfl (by decide) (uw1 64 rfl rfl) rfl (dd dX9_corner 22 rfl) ?_
            obtain ⟨r_44, hr, h⟩ := bnd_ex h
            refine callVI (pc := 44) (na := 0) (As := []) (rest := []) (ws2 := (w_X9_corner g a_t a_land a_plan a_rings a_rows a_turns a_rings_0 a_rings_1 a_rings_2 a_rings_3 a_turns_known a_rings_0_corners a_rings_1_corners a_rings_2_corners a_rings_3_corners a_rings_0_corners_firsts a_rings_0_corners_seconds a_rings_1_corners_firsts a_rings_1_corners_seconds a_rings_2_corners_firsts a_rings_2_corners_seconds a_rings_3_corners_firsts a_rings_3_corners_seconds a_ways a_planner a_slants a_reaper a_land_kinds a_land_nears a_land_depths a_plan_numbers a_rows_strips a_rows_alongs a_rows_numbers a_rows_sorted a_rows_spare a_rows_tally a_rows_squares a_rows_starts a_rows_ends a_turns_lengths c_land_laid c_land_head c_land_fieldCount c_land_innerCount c_plan_there c_plan_size c_rows_there c_rows_size c_turns_known c_rings_0_corners_size c_rings_1_corners_size c_rings_2_corners_size c_rings_3_corners_size c_rings_0_corners_firsts c_rings_0_corners_seconds c_rings_1_corners_firsts c_rings_1_corners_seconds c_rings_2_corners_firsts c_rings_2_corners_seconds c_rings_3_corners_firsts c_rings_3_corners_seconds)) M hl.1 hW (t_X1_isFull l g a_rings_3_corners a_rings_3_corners_firsts a_rings_3_corners_seconds 12 c_rings_3_corners_size c_rings_3_corners_firsts r_44 hr) rfl [14, 21] [0, 1, 2, 3, 4, 5, 6, 7, 8, 9, 10, 11, 12, 13, 15, 16, 17, 18, 19, 20, 22] [0, 1, 2, 3, 4, 5, 6, 7, 8, 9, 10, 11, 12, 13, 21, 14, 15, 16, 17, 18, 19, 22, 20] rfl rfl rfl rfl rfl rfl rfl 14 1 rfl rfl rfl (uw2 92 rfl rfl) (uw2 89 rfl rfl) (uw2 90 rfl rfl) (uw2 91 rfl rfl) (uw1 3 rfl rfl) ⟨by decide, by decide, by decide⟩ rfl ⟨by decide, by decide⟩ (Nat.le_of_ble_eq_true rfl) ⟨Nat.zero_le _, Nat.zero_le _⟩ (dd dX9_corner 23 rfl) (fun H locs hW => ?_)
            refine lv_if_eq (pc := 47) (tgt := 60) hx hb (dd dX9_corner 24 rfl) (by decide) (fun hc => ?_) (fun hc => ?_)
            · have h := it_t hc h
              exact (rmap_no h).elim
            · have h := it_f hc h
              have hW9 := hW
              cases h
              exact rThrowS (pc := 50) (text := "the ring has all its corners") hl9 M hl.1 hW9 hlk hex hA9 hQ (by decide) (by decide) (uw2 214 rfl rfl) (uw1 19 rfl rfl) (by decide) xg3 xb3 xo3 ⟨by decide, by decide⟩ (Nat.le_of_ble_eq_true rfl) ⟨by decide, by decide⟩ (dd dX9_corner 25 rfl) (dd dX9_corner 26 rfl) (dd dX9_corner 27 rfl) (dd dX9_corner 28 rfl) (dd dX9_corner 29 rfl)
          have h := it_f hc h
          cases h
        · have h := it_f hc h
          have hW9 := hW
          cases h
          exact rThrowS (pc := 25) (text := "no such corner") hl9 M hl.1 hW9 hlk hex hA9 hQ (by decide) (by decide) (uw2 198 rfl rfl) (uw1 18 rfl rfl) (by decide) xg2 xb2 xo2 ⟨by decide, by decide⟩ (Nat.le_of_ble_eq_true rfl) ⟨by decide, by decide⟩ (dd dX9_corner 13 rfl) (dd dX9_corner 14 rfl) (dd dX9_corner 15 rfl) (dd dX9_corner 16 rfl) (dd dX9_corner 17 rfl)
abbrev w_X9_clear (g : G9) (a_t a_land a_plan a_rings a_rows a_turns a_rings_0 a_rings_1 a_rings_2 a_rings_3 a_turns_known a_rings_0_corners a_rings_1_corners a_rings_2_corners a_rings_3_corners a_ways a_planner a_slants a_reaper a_land_kinds a_land_nears a_land_depths a_plan_numbers a_rows_strips a_rows_alongs a_rows_numbers a_rows_sorted a_rows_spare a_rows_tally a_rows_squares a_rows_starts a_rows_ends a_turns_lengths a_rings_0_corners_firsts a_rings_0_corners_seconds a_rings_1_corners_firsts a_rings_1_corners_seconds a_rings_2_corners_firsts a_rings_2_corners_seconds a_rings_3_corners_firsts a_rings_3_corners_seconds : Nat) (c_land_laid c_land_head c_land_fieldCount c_land_innerCount c_plan_there c_plan_size c_rows_there c_rows_size : Int32) (c_turns_known : Ar) (c_rings_0_corners_size c_rings_1_corners_size c_rings_2_corners_size c_rings_3_corners_size : Int32) : va_W := [ob a_t 9 [.ref a_rings, .ref a_land, .ref a_ways, .ref a_rows, .ref a_turns, .ref a_plan, .ref a_planner, .ref a_slants, .ref a_reaper], ob a_land 0 [.ref a_land_kinds, .ref a_land_nears, .ref a_land_depths, .int c_land_laid, .int c_land_head, .int c_land_fieldCount, .int c_land_innerCount], ob a_plan 2 [.ref a_turns, .ref a_plan_numbers, .int c_plan_there, .int c_plan_size], ra g a_rings 4 (rg a_rings_0 a_rings_1 a_rings_2 a_rings_3), ob a_rows 6 [.ref a_land, .ref a_rows_strips, .ref a_rows_alongs, .ref a_rows_numbers, .ref a_rows_sorted, .ref a_rows_spare, .ref a_rows_tally, .ref a_rows_squares, .ref a_rows_starts, .ref a_rows_ends, .int c_rows_there, .int c_rows_size], ob a_turns 7 [.ref a_ways, .ref a_rows, .ref a_turns_lengths, .ref a_turns_known], ob a_rings_0 5 [.ref a_rings_0_corners], ob a_rings_1 5 [.ref a_rings_1_corners], ob a_rings_2 5 [.ref a_rings_2_corners], ob a_rings_3 5 [.ref a_rings_3_corners], za g a_turns_known 120 c_turns_known, ob a_rings_0_corners 1 [.ref a_rings_0_corners_firsts, .ref a_rings_0_corners_seconds, .int c_rings_0_corners_size], ob a_rings_1_corners 1 [.ref a_rings_1_corners_firsts, .ref a_rings_1_corners_seconds, .int c_rings_1_corners_size], ob a_rings_2_corners 1 [.ref a_rings_2_corners_firsts, .ref a_rings_2_corners_seconds, .int c_rings_2_corners_size], ob a_rings_3_corners 1 [.ref a_rings_3_corners_firsts, .ref a_rings_3_corners_seconds, .int c_rings_3_corners_size]]
noncomputable def X9_clear (c_land_laid c_land_head c_land_fieldCount c_land_innerCount c_plan_there c_plan_size c_rows_there c_rows_size : Int32) (c_turns_known : Ar) (c_rings_0_corners_size c_rings_1_corners_size c_rings_2_corners_size c_rings_3_corners_size v1 : Int32) : Option (Nat ⊕ (Int32 × Int32 × Int32 × Int32 × Int32 × Int32 × Int32 × Int32 × Int32 × Ar × Int32 × Int32 × Int32 × Int32)) :=
  bnd (X9_needRing v1) <| Sum.elim (fun x9 => some (.inl x9)) fun (_ : Unit) => rmap <| bnd (X9_forgetLand c_land_laid c_land_head c_land_fieldCount c_land_innerCount c_plan_there c_plan_size c_rows_there c_rows_size c_turns_known) <| un9 fun c_land_laid_6 c_land_head_6 c_land_fieldCount_6 c_land_innerCount_6 c_plan_there_6 c_plan_size_6 c_rows_there_6 c_rows_size_6 c_turns_known_6 => if v1 = 0 then (bnd (X1_drop c_rings_0_corners_size) <| un2 fun r_18 c_rings_0_corners_size_18 => some (r_18, c_land_laid_6, c_land_head_6, c_land_fieldCount_6, c_land_innerCount_6, c_plan_there_6, c_plan_size_6, c_rows_there_6, c_rows_size_6, c_turns_known_6, c_rings_0_corners_size_18, c_rings_1_corners_size, c_rings_2_corners_size, c_rings_3_corners_size)) else (if v1 = 1 then (bnd (X1_drop c_rings_1_corners_size) <| un2 fun r_18 c_rings_1_corners_size_18 => some (r_18, c_land_laid_6, c_land_head_6, c_land_fieldCount_6, c_land_innerCount_6, c_plan_there_6, c_plan_size_6, c_rows_there_6, c_rows_size_6, c_turns_known_6, c_rings_0_corners_size, c_rings_1_corners_size_18, c_rings_2_corners_size, c_rings_3_corners_size)) else (if v1 = 2 then (bnd (X1_drop c_rings_2_corners_size) <| un2 fun r_18 c_rings_2_corners_size_18 => some (r_18, c_land_laid_6, c_land_head_6, c_land_fieldCount_6, c_land_innerCount_6, c_plan_there_6, c_plan_size_6, c_rows_there_6, c_rows_size_6, c_turns_known_6, c_rings_0_corners_size, c_rings_1_corners_size, c_rings_2_corners_size_18, c_rings_3_corners_size)) else (if v1 = 3 then (bnd (X1_drop c_rings_3_corners_size) <| un2 fun r_18 c_rings_3_corners_size_18 => some (r_18, c_land_laid_6, c_land_head_6, c_land_fieldCount_6, c_land_innerCount_6, c_plan_there_6, c_plan_size_6, c_rows_there_6, c_rows_size_6, c_turns_known_6, c_rings_0_corners_size, c_rings_1_corners_size, c_rings_2_corners_size, c_rings_3_corners_size_18)) else none)))
set_option maxHeartbeats 4000000 in
set_option maxRecDepth 100000 in
theorem t_X9_clear (l : Launch) (g : G9) (a_t a_land a_plan a_rings a_rows a_turns a_rings_0 a_rings_1 a_rings_2 a_rings_3 a_turns_known a_rings_0_corners a_rings_1_corners a_rings_2_corners a_rings_3_corners a_ways a_planner a_slants a_reaper a_land_kinds a_land_nears a_land_depths a_plan_numbers a_rows_strips a_rows_alongs a_rows_numbers a_rows_sorted a_rows_spare a_rows_tally a_rows_squares a_rows_starts a_rows_ends a_turns_lengths a_rings_0_corners_firsts a_rings_0_corners_seconds a_rings_1_corners_firsts a_rings_1_corners_seconds a_rings_2_corners_firsts a_rings_2_corners_seconds a_rings_3_corners_firsts a_rings_3_corners_seconds : Nat) (c_land_laid c_land_head c_land_fieldCount c_land_innerCount c_plan_there c_plan_size c_rows_there c_rows_size : Int32) (c_turns_known : Ar) (c_rings_0_corners_size c_rings_1_corners_size c_rings_2_corners_size c_rings_3_corners_size v1 r0 o_land_laid o_land_head o_land_fieldCount o_land_innerCount o_plan_there o_plan_size o_rows_there o_rows_size : Int32) (o_turns_known : Ar) (o_rings_0_corners_size o_rings_1_corners_size o_rings_2_corners_size o_rings_3_corners_size : Int32) (h : X9_clear c_land_laid c_land_head c_land_fieldCount c_land_innerCount c_plan_there c_plan_size c_rows_there c_rows_size c_turns_known c_rings_0_corners_size c_rings_1_corners_size c_rings_2_corners_size c_rings_3_corners_size v1 = some (.inr (r0, o_land_laid, o_land_head, o_land_fieldCount, o_land_innerCount, o_plan_there, o_plan_size, o_rows_there, o_rows_size, o_turns_known, o_rings_0_corners_size, o_rings_1_corners_size, o_rings_2_corners_size, o_rings_3_corners_size))) : CtI l g yX9_clear cX9_clear 2 .int 7 111 [.ref a_t, .int v1] (w_X9_clear g a_t a_land a_plan a_rings a_rows a_turns a_rings_0 a_rings_1 a_rings_2 a_rings_3 a_turns_known a_rings_0_corners a_rings_1_corners a_rings_2_corners a_rings_3_corners a_ways a_planner a_slants a_reaper a_land_kinds a_land_nears a_land_depths a_plan_numbers a_rows_strips a_rows_alongs a_rows_numbers a_rows_sorted a_rows_spare a_rows_tally a_rows_squares a_rows_starts a_rows_ends a_turns_lengths a_rings_0_corners_firsts a_rings_0_corners_seconds a_rings_1_corners_firsts a_rings_1_corners_seconds a_rings_2_corners_firsts a_rings_2_corners_seconds a_rings_3_corners_firsts a_rings_3_corners_seconds c_land_laid c_land_head c_land_fieldCount c_land_innerCount c_plan_there c_plan_size c_rows_there c_rows_size c_turns_known c_rings_0_corners_size c_rings_1_corners_size c_rings_2_corners_size c_rings_3_corners_size) r0 (w_X9_clear g a_t a_land a_plan a_rings a_rows a_turns a_rings_0 a_rings_1 a_rings_2 a_rings_3 a_turns_known a_rings_0_corners a_rings_1_corners a_rings_2_corners a_rings_3_corners a_ways a_planner a_slants a_reaper a_land_kinds a_land_nears a_land_depths a_plan_numbers a_rows_strips a_rows_alongs a_rows_numbers a_rows_sorted a_rows_spare a_rows_tally a_rows_squares a_rows_starts a_rows_ends a_turns_lengths a_rings_0_corners_firsts a_rings_0_corners_seconds a_rings_1_corners_firsts a_rings_1_corners_seconds a_rings_2_corners_firsts a_rings_2_corners_seconds a_rings_3_corners_firsts a_rings_3_corners_seconds o_land_laid o_land_head o_land_fieldCount o_land_innerCount o_plan_there o_plan_size o_rows_there o_rows_size o_turns_known o_rings_0_corners_size o_rings_1_corners_size o_rings_2_corners_size o_rings_3_corners_size) := by
  refine startI (by decide) (Nat.le_of_ble_eq_true rfl) ?_
  intro p e s m below meth c A Q ls args M hW hl ret
  have hx := M.1
  have hb := M.2.1
  have hown := M.2.2.2.1
  have hu := M.2.2.2.2.1
  have hl : lv_has ls 2 [(0, .ref a_t), (1, .int v1)] := hl
  unfold X9_clear at h
  obtain ⟨H, eH⟩ : ∃ z, z = s.heap := ⟨_, rfl⟩
  obtain ⟨locs, eL⟩ : ∃ z, z = ([] : List Loc) := ⟨_, rfl⟩
  rw [← eL] at hW ⊢
  suffices hS9 : WD g s A (w_X9_clear g a_t a_land a_plan a_rings a_rows a_turns a_rings_0 a_rings_1 a_rings_2 a_rings_3 a_turns_known a_rings_0_corners a_rings_1_corners a_rings_2_corners a_rings_3_corners a_ways a_planner a_slants a_reaper a_land_kinds a_land_nears a_land_depths a_plan_numbers a_rows_strips a_rows_alongs a_rows_numbers a_rows_sorted a_rows_spare a_rows_tally a_rows_squares a_rows_starts a_rows_ends a_turns_lengths a_rings_0_corners_firsts a_rings_0_corners_seconds a_rings_1_corners_firsts a_rings_1_corners_seconds a_rings_2_corners_firsts a_rings_2_corners_seconds a_rings_3_corners_firsts a_rings_3_corners_seconds c_land_laid c_land_head c_land_fieldCount c_land_innerCount c_plan_there c_plan_size c_rows_there c_rows_size c_turns_known c_rings_0_corners_size c_rings_1_corners_size c_rings_2_corners_size c_rings_3_corners_size) H locs → W p l e (rm9 7 111) s m args below meth c H locs 0 0 Q (F0 m 0 ls []) by
    rw [← eH] at hW ⊢
    exact hS9 hW
  clear hW eH eL
  intro hW
  refine lv_aload_n (pc := 0) hx hb (dd dX9_clear 0 rfl) rfl (lv_at hl 0 rfl) ?_
  refine lv_iload_n (pc := 1) hx hb (dd dX9_clear 1 rfl) rfl (lv_at hl 1 rfl) ?_
  obtain ⟨ex9, hr, h⟩ := bnd_ex h
  rcases ex9 with x9 | u9
  · have h := sE_l h
    cases h
  have h := sE_r h
  refine callVV (pc := 2) (na := 1) (As := [.int v1]) (rest := []) (ws2 := (w_X9_clear g a_t a_land a_plan a_rings a_rows a_turns a_rings_0 a_rings_1 a_rings_2 a_rings_3 a_turns_known a_rings_0_corners a_rings_1_corners a_rings_2_corners a_rings_3_corners a_ways a_planner a_slants a_reaper a_land_kinds a_land_nears a_land_depths a_plan_numbers a_rows_strips a_rows_alongs a_rows_numbers a_rows_sorted a_rows_spare a_rows_tally a_rows_squares a_rows_starts a_rows_ends a_turns_lengths a_rings_0_corners_firsts a_rings_0_corners_seconds a_rings_1_corners_firsts a_rings_1_corners_seconds a_rings_2_corners_firsts a_rings_2_corners_seconds a_rings_3_corners_firsts a_rings_3_corners_seconds c_land_laid c_land_head c_land_fieldCount c_land_innerCount c_plan_there c_plan_size c_rows_there c_rows_size c_turns_known c_rings_0_corners_size c_rings_1_corners_size c_rings_2_corners_size c_rings_3_corners_size)) M hl.1 hW (t_X9_needRing l g a_t a_rings a_land a_ways a_rows a_turns a_plan a_planner a_slants a_reaper v1 hr) rfl [0] [1, 2, 3, 4, 5, 6, 7, 8, 9, 10, 11, 12, 13, 14] [14, 0, 1, 2, 3, 4, 5, 6, 7, 8, 9, 10, 11, 12, 13] rfl rfl rfl rfl rfl rfl rfl 0 9 rfl rfl rfl (uw2 127 rfl rfl) (uw2 124 rfl rfl) (uw2 126 rfl rfl) (uwp 0 rfl rfl) (uw1 1 rfl rfl) ⟨by decide, by decide, by decide⟩ rfl ⟨by decide, by decide⟩ (Nat.le_of_ble_eq_true rfl)  ⟨Nat.zero_le _, Nat.zero_le _⟩ (dd dX9_clear 2 rfl) (fun H locs hW => ?_)
  have h := rmap_ex h
  refine lv_aload_n (pc := 5) hx hb (dd dX9_clear 3 rfl) rfl (lv_at hl 0 rfl) ?_
  obtain ⟨⟨c_land_laid_6, c_land_head_6, c_land_fieldCount_6, c_land_innerCount_6, c_plan_there_6, c_plan_size_6, c_rows_there_6, c_rows_size_6, c_turns_known_6⟩, hr, h⟩ := bnd_ex h
  have h := un9_at h
  refine callVV (pc := 6) (na := 0) (As := []) (rest := []) (ws2 := (w_X9_clear g a_t a_land a_plan a_rings a_rows a_turns a_rings_0 a_rings_1 a_rings_2 a_rings_3 a_turns_known a_rings_0_corners a_rings_1_corners a_rings_2_corners a_rings_3_corners a_ways a_planner a_slants a_reaper a_land_kinds a_land_nears a_land_depths a_plan_numbers a_rows_strips a_rows_alongs a_rows_numbers a_rows_sorted a_rows_spare a_rows_tally a_rows_squares a_rows_starts a_rows_ends a_turns_lengths a_rings_0_corners_firsts a_rings_0_corners_seconds a_rings_1_corners_firsts a_rings_1_corners_seconds a_rings_2_corners_firsts a_rings_2_corners_seconds a_rings_3_corners_firsts a_rings_3_corners_seconds c_land_laid_6 c_land_head_6 c_land_fieldCount_6 c_land_innerCount_6 c_plan_there_6 c_plan_size_6 c_rows_there_6 c_rows_size_6 c_turns_known_6 c_rings_0_corners_size c_rings_1_corners_size c_rings_2_corners_size c_rings_3_corners_size)) M hl.1 hW (t_X9_forgetLand l g a_t a_land a_plan a_rows a_turns a_turns_known a_rings a_ways a_planner a_slants a_reaper a_land_kinds a_land_nears a_land_depths a_plan_numbers a_rows_strips a_rows_alongs a_rows_numbers a_rows_sorted a_rows_spare a_rows_tally a_rows_squares a_rows_starts a_rows_ends a_turns_lengths c_land_laid c_land_head c_land_fieldCount c_land_innerCount c_plan_there c_plan_size c_rows_there c_rows_size c_turns_known c_land_laid_6 c_land_head_6 c_land_fieldCount_6 c_land_innerCount_6 c_plan_there_6 c_plan_size_6 c_rows_there_6 c_rows_size_6 c_turns_known_6 hr) rfl [0, 1, 2, 4, 5, 10] [3, 6, 7, 8, 9, 11, 12, 13, 14] [9, 10, 11, 0, 12, 13, 1, 2, 3, 4, 14, 5, 6, 7, 8] rfl rfl rfl rfl rfl rfl rfl 0 9 rfl rfl rfl (uw2 233 rfl rfl) (uw2 230 rfl rfl) (uw2 232 rfl rfl) (uwp 2 rfl rfl) (uw1 1 rfl rfl) ⟨by decide, by decide, by decide⟩ rfl ⟨by decide, by decide⟩ (Nat.le_of_ble_eq_true rfl) ⟨Nat.zero_le _, Nat.zero_le _⟩ (dd dX9_clear 4 rfl) (fun H locs hW => ?_)
  refine lv_aload_n (pc := 9) hx hb (dd dX9_clear 5 rfl) rfl (lv_at hl 0 rfl) ?_
  refine rGet (pc := 10) M hW 0 0 iU9 rfl rfl (by decide) (uw2 50 rfl rfl) rfl (dd dX9_clear 6 rfl) ?_
  refine lv_iload_n (pc := 13) hx hb (dd dX9_clear 7 rfl) rfl (lv_at hl 1 rfl) ?_
  by_cases hc : v1 = 0
  · have h := it_t hc h
    refine rAald (pc := 14) M hW 3 (v := .ref a_rings_0) rfl (by rw [hc]; decide) (by rw [hc]; rfl) (dd dX9_clear 8 rfl) ?_
    refine rGet (pc := 15) M hW 6 0 iU5 rfl rfl (by decide) (uw1 64 rfl rfl) rfl (dd dX9_clear 9 rfl) ?_
    obtain ⟨⟨r_18, c_rings_0_corners_size_18⟩, hr, h⟩ := bnd_ex h
    have h := un2_at h
    refine callVI (pc := 18) (na := 0) (As := []) (rest := []) (ws2 := (w_X9_clear g a_t a_land a_plan a_rings a_rows a_turns a_rings_0 a_rings_1 a_rings_2 a_rings_3 a_turns_known a_rings_0_corners a_rings_1_corners a_rings_2_corners a_rings_3_corners a_ways a_planner a_slants a_reaper a_land_kinds a_land_nears a_land_depths a_plan_numbers a_rows_strips a_rows_alongs a_rows_numbers a_rows_sorted a_rows_spare a_rows_tally a_rows_squares a_rows_starts a_rows_ends a_turns_lengths a_rings_0_corners_firsts a_rings_0_corners_seconds a_rings_1_corners_firsts a_rings_1_corners_seconds a_rings_2_corners_firsts a_rings_2_corners_seconds a_rings_3_corners_firsts a_rings_3_corners_seconds c_land_laid_6 c_land_head_6 c_land_fieldCount_6 c_land_innerCount_6 c_plan_there_6 c_plan_size_6 c_rows_there_6 c_rows_size_6 c_turns_known_6 c_rings_0_corners_size_18 c_rings_1_corners_size c_rings_2_corners_size c_rings_3_corners_size)) M hl.1 hW (t_X1_drop l g a_rings_0_corners a_rings_0_corners_firsts a_rings_0_corners_seconds c_rings_0_corners_size r_18 c_rings_0_corners_size_18 hr) rfl [11] [0, 1, 2, 3, 4, 5, 6, 7, 8, 9, 10, 12, 13, 14] [0, 1, 2, 3, 4, 5, 6, 7, 8, 9, 10, 14, 11, 12, 13] rfl rfl rfl rfl rfl rfl rfl 11 1 rfl rfl rfl (uw2 105 rfl rfl) (uw2 102 rfl rfl) (uw2 103 rfl rfl) (uw2 104 rfl rfl) (uw1 3 rfl rfl) ⟨by decide, by decide, by decide⟩ rfl ⟨by decide, by decide⟩ (Nat.le_of_ble_eq_true rfl) ⟨Nat.zero_le _, Nat.zero_le _⟩ (dd dX9_clear 10 rfl) (fun H locs hW => ?_)
    have hW9 := hW
    cases h
    exact ret _ _ _ 21 hW9 rfl (dd dX9_clear 11 rfl)
  have h := it_f hc h
  by_cases hc : v1 = 1
  · have h := it_t hc h
    refine rAald (pc := 14) M hW 3 (v := .ref a_rings_1) rfl (by rw [hc]; decide) (by rw [hc]; rfl) (dd dX9_clear 8 rfl) ?_
    refine rGet (pc := 15) M hW 7 0 iU5 rfl rfl (by decide) (uw1 64 rfl rfl) rfl (dd dX9_clear 9 rfl) ?_
    obtain ⟨⟨r_18, c_rings_1_corners_size_18⟩, hr, h⟩ := bnd_ex h
    have h := un2_at h
    refine callVI (pc := 18) (na := 0) (As := []) (rest := []) (ws2 := (w_X9_clear g a_t a_land a_plan a_rings a_rows a_turns a_rings_0 a_rings_1 a_rings_2 a_rings_3 a_turns_known a_rings_0_corners a_rings_1_corners a_rings_2_corners a_rings_3_corners a_ways a_planner a_slants a_reaper a_land_kinds a_land_nears a_land_depths a_plan_numbers a_rows_strips a_rows_alongs a_rows_numbers a_rows_sorted a_rows_spare a_rows_tally a_rows_squares a_rows_starts a_rows_ends a_turns_lengths a_rings_0_corners_firsts a_rings_0_corners_seconds a_rings_1_corners_firsts a_rings_1_corners_seconds a_rings_2_corners_firsts a_rings_2_corners_seconds a_rings_3_corners_firsts a_rings_3_corners_seconds c_land_laid_6 c_land_head_6 c_land_fieldCount_6 c_land_innerCount_6 c_plan_there_6 c_plan_size_6 c_rows_there_6 c_rows_size_6 c_turns_known_6 c_rings_0_corners_size c_rings_1_corners_size_18 c_rings_2_corners_size c_rings_3_corners_size)) M hl.1 hW (t_X1_drop l g a_rings_1_corners a_rings_1_corners_firsts a_rings_1_corners_seconds c_rings_1_corners_size r_18 c_rings_1_corners_size_18 hr) rfl [12] [0, 1, 2, 3, 4, 5, 6, 7, 8, 9, 10, 11, 13, 14] [0, 1, 2, 3, 4, 5, 6, 7, 8, 9, 10, 11, 14, 12, 13] rfl rfl rfl rfl rfl rfl rfl 12 1 rfl rfl rfl (uw2 105 rfl rfl) (uw2 102 rfl rfl) (uw2 103 rfl rfl) (uw2 104 rfl rfl) (uw1 3 rfl rfl) ⟨by decide, by decide, by decide⟩ rfl ⟨by decide, by decide⟩ (Nat.le_of_ble_eq_true rfl) ⟨Nat.zero_le _, Nat.zero_le _⟩ (dd dX9_clear 10 rfl) (fun H locs hW => ?_)
    have hW9 := hW
    cases h
    exact ret _ _ _ 21 hW9 rfl (dd dX9_clear 11 rfl)
  have h := it_f hc h
  by_cases hc : v1 = 2
  · have h := it_t hc h
    refine rAald (pc := 14) M hW 3 (v := .ref a_rings_2) rfl (by rw [hc]; decide) (by rw [hc]; rfl) (dd dX9_clear 8 rfl) ?_
    refine rGet (pc := 15) M hW 8 0 iU5 rfl rfl (by decide) (uw1 64 rfl rfl) rfl (dd dX9_clear 9 rfl) ?_
    obtain ⟨⟨r_18, c_rings_2_corners_size_18⟩, hr, h⟩ := bnd_ex h
    have h := un2_at h
    refine callVI (pc := 18) (na := 0) (As := []) (rest := []) (ws2 := (w_X9_clear g a_t a_land a_plan a_rings a_rows a_turns a_rings_0 a_rings_1 a_rings_2 a_rings_3 a_turns_known a_rings_0_corners a_rings_1_corners a_rings_2_corners a_rings_3_corners a_ways a_planner a_slants a_reaper a_land_kinds a_land_nears a_land_depths a_plan_numbers a_rows_strips a_rows_alongs a_rows_numbers a_rows_sorted a_rows_spare a_rows_tally a_rows_squares a_rows_starts a_rows_ends a_turns_lengths a_rings_0_corners_firsts a_rings_0_corners_seconds a_rings_1_corners_firsts a_rings_1_corners_seconds a_rings_2_corners_firsts a_rings_2_corners_seconds a_rings_3_corners_firsts a_rings_3_corners_seconds c_land_laid_6 c_land_head_6 c_land_fieldCount_6 c_land_innerCount_6 c_plan_there_6 c_plan_size_6 c_rows_there_6 c_rows_size_6 c_turns_known_6 c_rings_0_corners_size c_rings_1_corners_size c_rings_2_corners_size_18 c_rings_3_corners_size)) M hl.1 hW (t_X1_drop l g a_rings_2_corners a_rings_2_corners_firsts a_rings_2_corners_seconds c_rings_2_corners_size r_18 c_rings_2_corners_size_18 hr) rfl [13] [0, 1, 2, 3, 4, 5, 6, 7, 8, 9, 10, 11, 12, 14] [0, 1, 2, 3, 4, 5, 6, 7, 8, 9, 10, 11, 12, 14, 13] rfl rfl rfl rfl rfl rfl rfl 13 1 rfl rfl rfl (uw2 105 rfl rfl) (uw2 102 rfl rfl) (uw2 103 rfl rfl) (uw2 104 rfl rfl) (uw1 3 rfl rfl) ⟨by decide, by decide, by decide⟩ rfl ⟨by decide, by decide⟩ (Nat.le_of_ble_eq_true rfl) ⟨Nat.zero_le _, Nat.zero_le _⟩ (dd dX9_clear 10 rfl) (fun H locs hW => ?_)
    have hW9 := hW
    cases h
    exact ret _ _ _ 21 hW9 rfl (dd dX9_clear 11 rfl)
  have h := it_f hc h
  by_cases hc : v1 = 3
  · have h := it_t hc h
    refine rAald (pc := 14) M hW 3 (v := .ref a_rings_3) rfl (by rw [hc]; decide) (by rw [hc]; rfl) (dd dX9_clear 8 rfl) ?_
    refine rGet (pc := 15) M hW 9 0 iU5 rfl rfl (by decide) (uw1 64 rfl rfl) rfl (dd dX9_clear 9 rfl) ?_
    obtain ⟨⟨r_18, c_rings_3_corners_size_18⟩, hr, h⟩ := bnd_ex h
    have h := un2_at h
    refine callVI (pc := 18) (na := 0) (As := []) (rest := []) (ws2 := (w_X9_clear g a_t a_land a_plan a_rings a_rows a_turns a_rings_0 a_rings_1 a_rings_2 a_rings_3 a_turns_known a_rings_0_corners a_rings_1_corners a_rings_2_corners a_rings_3_corners a_ways a_planner a_slants a_reaper a_land_kinds a_land_nears a_land_depths a_plan_numbers a_rows_strips a_rows_alongs a_rows_numbers a_rows_sorted a_rows_spare a_rows_tally a_rows_squares a_rows_starts a_rows_ends a_turns_lengths a_rings_0_corners_firsts a_rings_0_corners_seconds a_rings_1_corners_firsts a_rings_1_corners_seconds a_rings_2_corners_firsts a_rings_2_corners_seconds a_rings_3_corners_firsts a_rings_3_corners_seconds c_land_laid_6 c_land_head_6 c_land_fieldCount_6 c_land_innerCount_6 c_plan_there_6 c_plan_size_6 c_rows_there_6 c_rows_size_6 c_turns_known_6 c_rings_0_corners_size c_rings_1_corners_size c_rings_2_corners_size c_rings_3_corners_size_18)) M hl.1 hW (t_X1_drop l g a_rings_3_corners a_rings_3_corners_firsts a_rings_3_corners_seconds c_rings_3_corners_size r_18 c_rings_3_corners_size_18 hr) rfl [14] [0, 1, 2, 3, 4, 5, 6, 7, 8, 9, 10, 11, 12, 13] [0, 1, 2, 3, 4, 5, 6, 7, 8, 9, 10, 11, 12, 13, 14] rfl rfl rfl rfl rfl rfl rfl 14 1 rfl rfl rfl (uw2 105 rfl rfl) (uw2 102 rfl rfl) (uw2 103 rfl rfl) (uw2 104 rfl rfl) (uw1 3 rfl rfl) ⟨by decide, by decide, by decide⟩ rfl ⟨by decide, by decide⟩ (Nat.le_of_ble_eq_true rfl) ⟨Nat.zero_le _, Nat.zero_le _⟩ (dd dX9_clear 10 rfl) (fun H locs hW => ?_)
    have hW9 := hW
    cases h
    exact ret _ _ _ 21 hW9 rfl (dd dX9_clear 11 rfl)
  have h := it_f hc h
  cases h
set_option maxHeartbeats 4000000 in
set_option maxRecDepth 100000 in
theorem x_X9_clear (l : Launch) (hl9 : l.stackTraces = false) (g : G9) (a_t a_land a_plan a_rings a_rows a_turns a_rings_0 a_rings_1 a_rings_2 a_rings_3 a_turns_known a_rings_0_corners a_rings_1_corners a_rings_2_corners a_rings_3_corners a_ways a_planner a_slants a_reaper a_land_kinds a_land_nears a_land_depths a_plan_numbers a_rows_strips a_rows_alongs a_rows_numbers a_rows_sorted a_rows_spare a_rows_tally a_rows_squares a_rows_starts a_rows_ends a_turns_lengths a_rings_0_corners_firsts a_rings_0_corners_seconds a_rings_1_corners_firsts a_rings_1_corners_seconds a_rings_2_corners_firsts a_rings_2_corners_seconds a_rings_3_corners_firsts a_rings_3_corners_seconds : Nat) (c_land_laid c_land_head c_land_fieldCount c_land_innerCount c_plan_there c_plan_size c_rows_there c_rows_size : Int32) (c_turns_known : Ar) (c_rings_0_corners_size c_rings_1_corners_size c_rings_2_corners_size c_rings_3_corners_size v1 : Int32) (k0 : Nat) (h : X9_clear c_land_laid c_land_head c_land_fieldCount c_land_innerCount c_plan_there c_plan_size c_rows_there c_rows_size c_turns_known c_rings_0_corners_size c_rings_1_corners_size c_rings_2_corners_size c_rings_3_corners_size v1 = some (.inl k0)) : CtX QnI l g yX9_clear cX9_clear 2 (some .int) 7 111 [.ref a_t, .int v1] (w_X9_clear g a_t a_land a_plan a_rings a_rows a_turns a_rings_0 a_rings_1 a_rings_2 a_rings_3 a_turns_known a_rings_0_corners a_rings_1_corners a_rings_2_corners a_rings_3_corners a_ways a_planner a_slants a_reaper a_land_kinds a_land_nears a_land_depths a_plan_numbers a_rows_strips a_rows_alongs a_rows_numbers a_rows_sorted a_rows_spare a_rows_tally a_rows_squares a_rows_starts a_rows_ends a_turns_lengths a_rings_0_corners_firsts a_rings_0_corners_seconds a_rings_1_corners_firsts a_rings_1_corners_seconds a_rings_2_corners_firsts a_rings_2_corners_seconds a_rings_3_corners_firsts a_rings_3_corners_seconds c_land_laid c_land_head c_land_fieldCount c_land_innerCount c_plan_there c_plan_size c_rows_there c_rows_size c_turns_known c_rings_0_corners_size c_rings_1_corners_size c_rings_2_corners_size c_rings_3_corners_size) (excN k0) := by
  refine startX (by decide) (Nat.le_of_ble_eq_true rfl) ?_
  intro p e s m below meth c A Q ls args M hW hl hlk hex hA9 hQ
  have hx := M.1
  have hb := M.2.1
  have hown := M.2.2.2.1
  have hu := M.2.2.2.2.1
  have hl : lv_has ls 2 [(0, .ref a_t), (1, .int v1)] := hl
  unfold X9_clear at h
  obtain ⟨H, eH⟩ : ∃ z, z = s.heap := ⟨_, rfl⟩
  obtain ⟨locs, eL⟩ : ∃ z, z = ([] : List Loc) := ⟨_, rfl⟩
  rw [← eL] at hW ⊢
  suffices hS9 : WD g s A (w_X9_clear g a_t a_land a_plan a_rings a_rows a_turns a_rings_0 a_rings_1 a_rings_2 a_rings_3 a_turns_known a_rings_0_corners a_rings_1_corners a_rings_2_corners a_rings_3_corners a_ways a_planner a_slants a_reaper a_land_kinds a_land_nears a_land_depths a_plan_numbers a_rows_strips a_rows_alongs a_rows_numbers a_rows_sorted a_rows_spare a_rows_tally a_rows_squares a_rows_starts a_rows_ends a_turns_lengths a_rings_0_corners_firsts a_rings_0_corners_seconds a_rings_1_corners_firsts a_rings_1_corners_seconds a_rings_2_corners_firsts a_rings_2_corners_seconds a_rings_3_corners_firsts a_rings_3_corners_seconds c_land_laid c_land_head c_land_fieldCount c_land_innerCount c_plan_there c_plan_size c_rows_there c_rows_size c_turns_known c_rings_0_corners_size c_rings_1_corners_size c_rings_2_corners_size c_rings_3_corners_size) H locs → W p l e (rm9x 7 111) s m args below meth c H locs 0 0 Q (F0 m 0 ls []) by
    rw [← eH] at hW ⊢
    exact hS9 hW
  clear hW eL
  intro hW
  refine lv_aload_n (pc := 0) hx hb (dd dX9_clear 0 rfl) rfl (lv_at hl 0 rfl) ?_
  refine lv_iload_n (pc := 1) hx hb (dd dX9_clear 1 rfl) rfl (lv_at hl 1 rfl) ?_
  obtain ⟨ex9, hr, h⟩ := bnd_ex h
  rcases ex9 with x9 | u9
  · have h := sE_l h
    have hW9 := hW
    cases h
    exact callXV (pc := 2) (na := 1) (As := [.int v1]) (rest := []) M hl.1 hW9 hlk hex hA9 hQ (x_X9_needRing l hl9 g a_t a_rings a_land a_ways a_rows a_turns a_plan a_planner a_slants a_reaper v1 _ hr) rfl [0] [1, 2, 3, 4, 5, 6, 7, 8, 9, 10, 11, 12, 13, 14] [14, 0, 1, 2, 3, 4, 5, 6, 7, 8, 9, 10, 11, 12, 13] rfl rfl rfl rfl rfl rfl rfl 0 9 rfl rfl rfl (uw2 127 rfl rfl) (uw2 124 rfl rfl) (uw2 126 rfl rfl) (uwp 0 rfl rfl) (uw1 1 rfl rfl) ⟨by decide, by decide, by decide⟩ rfl ⟨by decide, by decide⟩ (Nat.le_of_ble_eq_true rfl)  ⟨by decide, by decide⟩ (dd dX9_clear 2 rfl)
  have h := sE_r h
  refine callVV (pc := 2) (na := 1) (As := [.int v1]) (rest := []) (ws2 := (w_X9_clear g a_t a_land a_plan a_rings a_rows a_turns a_rings_0 a_rings_1 a_rings_2 a_rings_3 a_turns_known a_rings_0_corners a_rings_1_corners a_rings_2_corners a_rings_3_corners a_ways a_planner a_slants a_reaper a_land_kinds a_land_nears a_land_depths a_plan_numbers a_rows_strips a_rows_alongs a_rows_numbers a_rows_sorted a_rows_spare a_rows_tally a_rows_squares a_rows_starts a_rows_ends a_turns_lengths a_rings_0_corners_firsts a_rings_0_corners_seconds a_rings_1_corners_firsts a_rings_1_corners_seconds a_rings_2_corners_firsts a_rings_2_corners_seconds a_rings_3_corners_firsts a_rings_3_corners_seconds c_land_laid c_land_head c_land_fieldCount c_land_innerCount c_plan_there c_plan_size c_rows_there c_rows_size c_turns_known c_rings_0_corners_size c_rings_1_corners_size c_rings_2_corners_size c_rings_3_corners_size)) M hl.1 hW (t_X9_needRing l g a_t a_rings a_land a_ways a_rows a_turns a_plan a_planner a_slants a_reaper v1 hr) rfl [0] [1, 2, 3, 4, 5, 6, 7, 8, 9, 10, 11, 12, 13, 14] [14, 0, 1, 2, 3, 4, 5, 6, 7, 8, 9, 10, 11, 12, 13] rfl rfl rfl rfl rfl rfl rfl 0 9 rfl rfl rfl (uw2 127 rfl rfl) (uw2 124 rfl rfl) (uw2 126 rfl rfl) (uwp 0 rfl rfl) (uw1 1 rfl rfl) ⟨by decide, by decide, by decide⟩ rfl ⟨by decide, by decide⟩ (Nat.le_of_ble_eq_true rfl)  ⟨Nat.zero_le _, Nat.zero_le _⟩ (dd dX9_clear 2 rfl) (fun H locs hW => ?_)
  exact (rmap_no h).elim
abbrev w_X9_area (g : G9) (a_t a_rings a_rings_0 a_rings_1 a_rings_2 a_rings_3 a_rings_0_corners a_rings_1_corners a_rings_2_corners a_rings_3_corners a_rings_0_corners_firsts a_rings_0_corners_seconds a_rings_1_corners_firsts a_rings_1_corners_seconds a_rings_2_corners_firsts a_rings_2_corners_seconds a_rings_3_corners_firsts a_rings_3_corners_seconds a_land a_ways a_rows a_turns a_plan a_planner a_slants a_reaper : Nat) (c_rings_0_corners_size c_rings_1_corners_size c_rings_2_corners_size c_rings_3_corners_size : Int32) (c_rings_0_corners_firsts c_rings_0_corners_seconds c_rings_1_corners_firsts c_rings_1_corners_seconds c_rings_2_corners_firsts c_rings_2_corners_seconds c_rings_3_corners_firsts c_rings_3_corners_seconds : Ar) : va_W := [ob a_t 9 [.ref a_rings, .ref a_land, .ref a_ways, .ref a_rows, .ref a_turns, .ref a_plan, .ref a_planner, .ref a_slants, .ref a_reaper], ra g a_rings 4 (rg a_rings_0 a_rings_1 a_rings_2 a_rings_3), ob a_rings_0 5 [.ref a_rings_0_corners], ob a_rings_1 5 [.ref a_rings_1_corners], ob a_rings_2 5 [.ref a_rings_2_corners], ob a_rings_3 5 [.ref a_rings_3_corners], ob a_rings_0_corners 1 [.ref a_rings_0_corners_firsts, .ref a_rings_0_corners_seconds, .int c_rings_0_corners_size], ob a_rings_1_corners 1 [.ref a_rings_1_corners_firsts, .ref a_rings_1_corners_seconds, .int c_rings_1_corners_size], ob a_rings_2_corners 1 [.ref a_rings_2_corners_firsts, .ref a_rings_2_corners_seconds, .int c_rings_2_corners_size], ob a_rings_3_corners 1 [.ref a_rings_3_corners_firsts, .ref a_rings_3_corners_seconds, .int c_rings_3_corners_size], ia g a_rings_0_corners_firsts 12 c_rings_0_corners_firsts, ia g a_rings_0_corners_seconds 12 c_rings_0_corners_seconds, ia g a_rings_1_corners_firsts 12 c_rings_1_corners_firsts, ia g a_rings_1_corners_seconds 12 c_rings_1_corners_seconds, ia g a_rings_2_corners_firsts 12 c_rings_2_corners_firsts, ia g a_rings_2_corners_seconds 12 c_rings_2_corners_seconds, ia g a_rings_3_corners_firsts 12 c_rings_3_corners_firsts, ia g a_rings_3_corners_seconds 12 c_rings_3_corners_seconds]
noncomputable def X9_area (c_rings_0_corners_size c_rings_1_corners_size c_rings_2_corners_size c_rings_3_corners_size : Int32) (c_rings_0_corners_firsts c_rings_0_corners_seconds c_rings_1_corners_firsts c_rings_1_corners_seconds c_rings_2_corners_firsts c_rings_2_corners_seconds c_rings_3_corners_firsts c_rings_3_corners_seconds : Ar) (v1 : Int32) : Option (Nat ⊕ Int32) :=
  bnd (X9_needRing v1) <| Sum.elim (fun x9 => some (.inl x9)) fun (_ : Unit) => rmap <| if v1 = 0 then (bnd (X5_twiceArea c_rings_0_corners_size c_rings_0_corners_firsts c_rings_0_corners_seconds) <| fun r_11 => some r_11) else (if v1 = 1 then (bnd (X5_twiceArea c_rings_1_corners_size c_rings_1_corners_firsts c_rings_1_corners_seconds) <| fun r_11 => some r_11) else (if v1 = 2 then (bnd (X5_twiceArea c_rings_2_corners_size c_rings_2_corners_firsts c_rings_2_corners_seconds) <| fun r_11 => some r_11) else (if v1 = 3 then (bnd (X5_twiceArea c_rings_3_corners_size c_rings_3_corners_firsts c_rings_3_corners_seconds) <| fun r_11 => some r_11) else none)))
set_option maxHeartbeats 4000000 in
set_option maxRecDepth 100000 in
theorem t_X9_area (l : Launch) (g : G9) (a_t a_rings a_rings_0 a_rings_1 a_rings_2 a_rings_3 a_rings_0_corners a_rings_1_corners a_rings_2_corners a_rings_3_corners a_rings_0_corners_firsts a_rings_0_corners_seconds a_rings_1_corners_firsts a_rings_1_corners_seconds a_rings_2_corners_firsts a_rings_2_corners_seconds a_rings_3_corners_firsts a_rings_3_corners_seconds a_land a_ways a_rows a_turns a_plan a_planner a_slants a_reaper : Nat) (c_rings_0_corners_size c_rings_1_corners_size c_rings_2_corners_size c_rings_3_corners_size : Int32) (c_rings_0_corners_firsts c_rings_0_corners_seconds c_rings_1_corners_firsts c_rings_1_corners_seconds c_rings_2_corners_firsts c_rings_2_corners_seconds c_rings_3_corners_firsts c_rings_3_corners_seconds : Ar) (v1 r0 : Int32) (h : X9_area c_rings_0_corners_size c_rings_1_corners_size c_rings_2_corners_size c_rings_3_corners_size c_rings_0_corners_firsts c_rings_0_corners_seconds c_rings_1_corners_firsts c_rings_1_corners_seconds c_rings_2_corners_firsts c_rings_2_corners_seconds c_rings_3_corners_firsts c_rings_3_corners_seconds v1 = some (.inr r0)) : CtI l g yX9_area cX9_area 2 .int 7 111 [.ref a_t, .int v1] (w_X9_area g a_t a_rings a_rings_0 a_rings_1 a_rings_2 a_rings_3 a_rings_0_corners a_rings_1_corners a_rings_2_corners a_rings_3_corners a_rings_0_corners_firsts a_rings_0_corners_seconds a_rings_1_corners_firsts a_rings_1_corners_seconds a_rings_2_corners_firsts a_rings_2_corners_seconds a_rings_3_corners_firsts a_rings_3_corners_seconds a_land a_ways a_rows a_turns a_plan a_planner a_slants a_reaper c_rings_0_corners_size c_rings_1_corners_size c_rings_2_corners_size c_rings_3_corners_size c_rings_0_corners_firsts c_rings_0_corners_seconds c_rings_1_corners_firsts c_rings_1_corners_seconds c_rings_2_corners_firsts c_rings_2_corners_seconds c_rings_3_corners_firsts c_rings_3_corners_seconds) r0 (w_X9_area g a_t a_rings a_rings_0 a_rings_1 a_rings_2 a_rings_3 a_rings_0_corners a_rings_1_corners a_rings_2_corners a_rings_3_corners a_rings_0_corners_firsts a_rings_0_corners_seconds a_rings_1_corners_firsts a_rings_1_corners_seconds a_rings_2_corners_firsts a_rings_2_corners_seconds a_rings_3_corners_firsts a_rings_3_corners_seconds a_land a_ways a_rows a_turns a_plan a_planner a_slants a_reaper c_rings_0_corners_size c_rings_1_corners_size c_rings_2_corners_size c_rings_3_corners_size c_rings_0_corners_firsts c_rings_0_corners_seconds c_rings_1_corners_firsts c_rings_1_corners_seconds c_rings_2_corners_firsts c_rings_2_corners_seconds c_rings_3_corners_firsts c_rings_3_corners_seconds) := by
  refine startI (by decide) (Nat.le_of_ble_eq_true rfl) ?_
  intro p e s m below meth c A Q ls args M hW hl ret
  have hx := M.1
  have hb := M.2.1
  have hown := M.2.2.2.1
  have hu := M.2.2.2.2.1
  have hl : lv_has ls 2 [(0, .ref a_t), (1, .int v1)] := hl
  unfold X9_area at h
  obtain ⟨H, eH⟩ : ∃ z, z = s.heap := ⟨_, rfl⟩
  obtain ⟨locs, eL⟩ : ∃ z, z = ([] : List Loc) := ⟨_, rfl⟩
  rw [← eL] at hW ⊢
  suffices hS9 : WD g s A (w_X9_area g a_t a_rings a_rings_0 a_rings_1 a_rings_2 a_rings_3 a_rings_0_corners a_rings_1_corners a_rings_2_corners a_rings_3_corners a_rings_0_corners_firsts a_rings_0_corners_seconds a_rings_1_corners_firsts a_rings_1_corners_seconds a_rings_2_corners_firsts a_rings_2_corners_seconds a_rings_3_corners_firsts a_rings_3_corners_seconds a_land a_ways a_rows a_turns a_plan a_planner a_slants a_reaper c_rings_0_corners_size c_rings_1_corners_size c_rings_2_corners_size c_rings_3_corners_size c_rings_0_corners_firsts c_rings_0_corners_seconds c_rings_1_corners_firsts c_rings_1_corners_seconds c_rings_2_corners_firsts c_rings_2_corners_seconds c_rings_3_corners_firsts c_rings_3_corners_seconds) H locs → W p l e (rm9 7 111) s m args below meth c H locs 0 0 Q (F0 m 0 ls []) by
    rw [← eH] at hW ⊢
    exact hS9 hW
  clear hW eH eL
  intro hW
  refine lv_aload_n (pc := 0) hx hb (dd dX9_area 0 rfl) rfl (lv_at hl 0 rfl) ?_
  refine lv_iload_n (pc := 1) hx hb (dd dX9_area 1 rfl) rfl (lv_at hl 1 rfl) ?_
  obtain ⟨ex9, hr, h⟩ := bnd_ex h
  rcases ex9 with x9 | u9
  · have h := sE_l h
    cases h
  have h := sE_r h
  refine callVV (pc := 2) (na := 1) (As := [.int v1]) (rest := []) (ws2 := (w_X9_area g a_t a_rings a_rings_0 a_rings_1 a_rings_2 a_rings_3 a_rings_0_corners a_rings_1_corners a_rings_2_corners a_rings_3_corners a_rings_0_corners_firsts a_rings_0_corners_seconds a_rings_1_corners_firsts a_rings_1_corners_seconds a_rings_2_corners_firsts a_rings_2_corners_seconds a_rings_3_corners_firsts a_rings_3_corners_seconds a_land a_ways a_rows a_turns a_plan a_planner a_slants a_reaper c_rings_0_corners_size c_rings_1_corners_size c_rings_2_corners_size c_rings_3_corners_size c_rings_0_corners_firsts c_rings_0_corners_seconds c_rings_1_corners_firsts c_rings_1_corners_seconds c_rings_2_corners_firsts c_rings_2_corners_seconds c_rings_3_corners_firsts c_rings_3_corners_seconds)) M hl.1 hW (t_X9_needRing l g a_t a_rings a_land a_ways a_rows a_turns a_plan a_planner a_slants a_reaper v1 hr) rfl [0] [1, 2, 3, 4, 5, 6, 7, 8, 9, 10, 11, 12, 13, 14, 15, 16, 17] [17, 0, 1, 2, 3, 4, 5, 6, 7, 8, 9, 10, 11, 12, 13, 14, 15, 16] rfl rfl rfl rfl rfl rfl rfl 0 9 rfl rfl rfl (uw2 127 rfl rfl) (uw2 124 rfl rfl) (uw2 126 rfl rfl) (uwp 0 rfl rfl) (uw1 1 rfl rfl) ⟨by decide, by decide, by decide⟩ rfl ⟨by decide, by decide⟩ (Nat.le_of_ble_eq_true rfl)  ⟨Nat.zero_le _, Nat.zero_le _⟩ (dd dX9_area 2 rfl) (fun H locs hW => ?_)
  have h := rmap_ex h
  refine lv_aload_n (pc := 5) hx hb (dd dX9_area 3 rfl) rfl (lv_at hl 0 rfl) ?_
  refine rGet (pc := 6) M hW 0 0 iU9 rfl rfl (by decide) (uw2 50 rfl rfl) rfl (dd dX9_area 4 rfl) ?_
  refine lv_iload_n (pc := 9) hx hb (dd dX9_area 5 rfl) rfl (lv_at hl 1 rfl) ?_
  by_cases hc : v1 = 0
  · have h := it_t hc h
    refine rAald (pc := 10) M hW 1 (v := .ref a_rings_0) rfl (by rw [hc]; decide) (by rw [hc]; rfl) (dd dX9_area 6 rfl) ?_
    obtain ⟨r_11, hr, h⟩ := bnd_ex h
    refine callVI (pc := 11) (na := 0) (As := []) (rest := []) (ws2 := (w_X9_area g a_t a_rings a_rings_0 a_rings_1 a_rings_2 a_rings_3 a_rings_0_corners a_rings_1_corners a_rings_2_corners a_rings_3_corners a_rings_0_corners_firsts a_rings_0_corners_seconds a_rings_1_corners_firsts a_rings_1_corners_seconds a_rings_2_corners_firsts a_rings_2_corners_seconds a_rings_3_corners_firsts a_rings_3_corners_seconds a_land a_ways a_rows a_turns a_plan a_planner a_slants a_reaper c_rings_0_corners_size c_rings_1_corners_size c_rings_2_corners_size c_rings_3_corners_size c_rings_0_corners_firsts c_rings_0_corners_seconds c_rings_1_corners_firsts c_rings_1_corners_seconds c_rings_2_corners_firsts c_rings_2_corners_seconds c_rings_3_corners_firsts c_rings_3_corners_seconds)) M hl.1 hW (t_X5_twiceArea l g a_rings_0 a_rings_0_corners a_rings_0_corners_firsts a_rings_0_corners_seconds c_rings_0_corners_size c_rings_0_corners_firsts c_rings_0_corners_seconds r_11 hr) rfl [2, 6, 10, 11] [0, 1, 3, 4, 5, 7, 8, 9, 12, 13, 14, 15, 16, 17] [0, 1, 14, 2, 3, 4, 15, 5, 6, 7, 16, 17, 8, 9, 10, 11, 12, 13] rfl rfl rfl rfl rfl rfl rfl 2 5 rfl rfl rfl (uw3 31 rfl rfl) (uw3 28 rfl rfl) (uw3 29 rfl rfl) (uw3 30 rfl rfl) (uw1 2 rfl rfl) ⟨by decide, by decide, by decide⟩ rfl ⟨by decide, by decide⟩ (Nat.le_of_ble_eq_true rfl) ⟨Nat.zero_le _, Nat.zero_le _⟩ (dd dX9_area 7 rfl) (fun H locs hW => ?_)
    have hW9 := hW
    cases h
    exact ret _ _ _ 14 hW9 rfl (dd dX9_area 8 rfl)
  have h := it_f hc h
  by_cases hc : v1 = 1
  · have h := it_t hc h
    refine rAald (pc := 10) M hW 1 (v := .ref a_rings_1) rfl (by rw [hc]; decide) (by rw [hc]; rfl) (dd dX9_area 6 rfl) ?_
    obtain ⟨r_11, hr, h⟩ := bnd_ex h
    refine callVI (pc := 11) (na := 0) (As := []) (rest := []) (ws2 := (w_X9_area g a_t a_rings a_rings_0 a_rings_1 a_rings_2 a_rings_3 a_rings_0_corners a_rings_1_corners a_rings_2_corners a_rings_3_corners a_rings_0_corners_firsts a_rings_0_corners_seconds a_rings_1_corners_firsts a_rings_1_corners_seconds a_rings_2_corners_firsts a_rings_2_corners_seconds a_rings_3_corners_firsts a_rings_3_corners_seconds a_land a_ways a_rows a_turns a_plan a_planner a_slants a_reaper c_rings_0_corners_size c_rings_1_corners_size c_rings_2_corners_size c_rings_3_corners_size c_rings_0_corners_firsts c_rings_0_corners_seconds c_rings_1_corners_firsts c_rings_1_corners_seconds c_rings_2_corners_firsts c_rings_2_corners_seconds c_rings_3_corners_firsts c_rings_3_corners_seconds)) M hl.1 hW (t_X5_twiceArea l g a_rings_1 a_rings_1_corners a_rings_1_corners_firsts a_rings_1_corners_seconds c_rings_1_corners_size c_rings_1_corners_firsts c_rings_1_corners_seconds r_11 hr) rfl [3, 7, 12, 13] [0, 1, 2, 4, 5, 6, 8, 9, 10, 11, 14, 15, 16, 17] [0, 1, 2, 14, 3, 4, 5, 15, 6, 7, 8, 9, 16, 17, 10, 11, 12, 13] rfl rfl rfl rfl rfl rfl rfl 3 5 rfl rfl rfl (uw3 31 rfl rfl) (uw3 28 rfl rfl) (uw3 29 rfl rfl) (uw3 30 rfl rfl) (uw1 2 rfl rfl) ⟨by decide, by decide, by decide⟩ rfl ⟨by decide, by decide⟩ (Nat.le_of_ble_eq_true rfl) ⟨Nat.zero_le _, Nat.zero_le _⟩ (dd dX9_area 7 rfl) (fun H locs hW => ?_)
    have hW9 := hW
    cases h
    exact ret _ _ _ 14 hW9 rfl (dd dX9_area 8 rfl)
  have h := it_f hc h
  by_cases hc : v1 = 2
  · have h := it_t hc h
    refine rAald (pc := 10) M hW 1 (v := .ref a_rings_2) rfl (by rw [hc]; decide) (by rw [hc]; rfl) (dd dX9_area 6 rfl) ?_
    obtain ⟨r_11, hr, h⟩ := bnd_ex h
    refine callVI (pc := 11) (na := 0) (As := []) (rest := []) (ws2 := (w_X9_area g a_t a_rings a_rings_0 a_rings_1 a_rings_2 a_rings_3 a_rings_0_corners a_rings_1_corners a_rings_2_corners a_rings_3_corners a_rings_0_corners_firsts a_rings_0_corners_seconds a_rings_1_corners_firsts a_rings_1_corners_seconds a_rings_2_corners_firsts a_rings_2_corners_seconds a_rings_3_corners_firsts a_rings_3_corners_seconds a_land a_ways a_rows a_turns a_plan a_planner a_slants a_reaper c_rings_0_corners_size c_rings_1_corners_size c_rings_2_corners_size c_rings_3_corners_size c_rings_0_corners_firsts c_rings_0_corners_seconds c_rings_1_corners_firsts c_rings_1_corners_seconds c_rings_2_corners_firsts c_rings_2_corners_seconds c_rings_3_corners_firsts c_rings_3_corners_seconds)) M hl.1 hW (t_X5_twiceArea l g a_rings_2 a_rings_2_corners a_rings_2_corners_firsts a_rings_2_corners_seconds c_rings_2_corners_size c_rings_2_corners_firsts c_rings_2_corners_seconds r_11 hr) rfl [4, 8, 14, 15] [0, 1, 2, 3, 5, 6, 7, 9, 10, 11, 12, 13, 16, 17] [0, 1, 2, 3, 14, 4, 5, 6, 15, 7, 8, 9, 10, 11, 16, 17, 12, 13] rfl rfl rfl rfl rfl rfl rfl 4 5 rfl rfl rfl (uw3 31 rfl rfl) (uw3 28 rfl rfl) (uw3 29 rfl rfl) (uw3 30 rfl rfl) (uw1 2 rfl rfl) ⟨by decide, by decide, by decide⟩ rfl ⟨by decide, by decide⟩ (Nat.le_of_ble_eq_true rfl) ⟨Nat.zero_le _, Nat.zero_le _⟩ (dd dX9_area 7 rfl) (fun H locs hW => ?_)
    have hW9 := hW
    cases h
    exact ret _ _ _ 14 hW9 rfl (dd dX9_area 8 rfl)
  have h := it_f hc h
  by_cases hc : v1 = 3
  · have h := it_t hc h
    refine rAald (pc := 10) M hW 1 (v := .ref a_rings_3) rfl (by rw [hc]; decide) (by rw [hc]; rfl) (dd dX9_area 6 rfl) ?_
    obtain ⟨r_11, hr, h⟩ := bnd_ex h
    refine callVI (pc := 11) (na := 0) (As := []) (rest := []) (ws2 := (w_X9_area g a_t a_rings a_rings_0 a_rings_1 a_rings_2 a_rings_3 a_rings_0_corners a_rings_1_corners a_rings_2_corners a_rings_3_corners a_rings_0_corners_firsts a_rings_0_corners_seconds a_rings_1_corners_firsts a_rings_1_corners_seconds a_rings_2_corners_firsts a_rings_2_corners_seconds a_rings_3_corners_firsts a_rings_3_corners_seconds a_land a_ways a_rows a_turns a_plan a_planner a_slants a_reaper c_rings_0_corners_size c_rings_1_corners_size c_rings_2_corners_size c_rings_3_corners_size c_rings_0_corners_firsts c_rings_0_corners_seconds c_rings_1_corners_firsts c_rings_1_corners_seconds c_rings_2_corners_firsts c_rings_2_corners_seconds c_rings_3_corners_firsts c_rings_3_corners_seconds)) M hl.1 hW (t_X5_twiceArea l g a_rings_3 a_rings_3_corners a_rings_3_corners_firsts a_rings_3_corners_seconds c_rings_3_corners_size c_rings_3_corners_firsts c_rings_3_corners_seconds r_11 hr) rfl [5, 9, 16, 17] [0, 1, 2, 3, 4, 6, 7, 8, 10, 11, 12, 13, 14, 15] [0, 1, 2, 3, 4, 14, 5, 6, 7, 15, 8, 9, 10, 11, 12, 13, 16, 17] rfl rfl rfl rfl rfl rfl rfl 5 5 rfl rfl rfl (uw3 31 rfl rfl) (uw3 28 rfl rfl) (uw3 29 rfl rfl) (uw3 30 rfl rfl) (uw1 2 rfl rfl) ⟨by decide, by decide, by decide⟩ rfl ⟨by decide, by decide⟩ (Nat.le_of_ble_eq_true rfl) ⟨Nat.zero_le _, Nat.zero_le _⟩ (dd dX9_area 7 rfl) (fun H locs hW => ?_)
    have hW9 := hW
    cases h
    exact ret _ _ _ 14 hW9 rfl (dd dX9_area 8 rfl)
  have h := it_f hc h
  cases h
set_option maxHeartbeats 4000000 in
set_option maxRecDepth 100000 in
theorem x_X9_area (l : Launch) (hl9 : l.stackTraces = false) (g : G9) (a_t a_rings a_rings_0 a_rings_1 a_rings_2 a_rings_3 a_rings_0_corners a_rings_1_corners a_rings_2_corners a_rings_3_corners a_rings_0_corners_firsts a_rings_0_corners_seconds a_rings_1_corners_firsts a_rings_1_corners_seconds a_rings_2_corners_firsts a_rings_2_corners_seconds a_rings_3_corners_firsts a_rings_3_corners_seconds a_land a_ways a_rows a_turns a_plan a_planner a_slants a_reaper : Nat) (c_rings_0_corners_size c_rings_1_corners_size c_rings_2_corners_size c_rings_3_corners_size : Int32) (c_rings_0_corners_firsts c_rings_0_corners_seconds c_rings_1_corners_firsts c_rings_1_corners_seconds c_rings_2_corners_firsts c_rings_2_corners_seconds c_rings_3_corners_firsts c_rings_3_corners_seconds : Ar) (v1 : Int32) (k0 : Nat) (h : X9_area c_rings_0_corners_size c_rings_1_corners_size c_rings_2_corners_size c_rings_3_corners_size c_rings_0_corners_firsts c_rings_0_corners_seconds c_rings_1_corners_firsts c_rings_1_corners_seconds c_rings_2_corners_firsts c_rings_2_corners_seconds c_rings_3_corners_firsts c_rings_3_corners_seconds v1 = some (.inl k0)) : CtX QnI l g yX9_area cX9_area 2 (some .int) 7 111 [.ref a_t, .int v1] (w_X9_area g a_t a_rings a_rings_0 a_rings_1 a_rings_2 a_rings_3 a_rings_0_corners a_rings_1_corners a_rings_2_corners a_rings_3_corners a_rings_0_corners_firsts a_rings_0_corners_seconds a_rings_1_corners_firsts a_rings_1_corners_seconds a_rings_2_corners_firsts a_rings_2_corners_seconds a_rings_3_corners_firsts a_rings_3_corners_seconds a_land a_ways a_rows a_turns a_plan a_planner a_slants a_reaper c_rings_0_corners_size c_rings_1_corners_size c_rings_2_corners_size c_rings_3_corners_size c_rings_0_corners_firsts c_rings_0_corners_seconds c_rings_1_corners_firsts c_rings_1_corners_seconds c_rings_2_corners_firsts c_rings_2_corners_seconds c_rings_3_corners_firsts c_rings_3_corners_seconds) (excN k0) := by
  refine startX (by decide) (Nat.le_of_ble_eq_true rfl) ?_
  intro p e s m below meth c A Q ls args M hW hl hlk hex hA9 hQ
  have hx := M.1
  have hb := M.2.1
  have hown := M.2.2.2.1
  have hu := M.2.2.2.2.1
  have hl : lv_has ls 2 [(0, .ref a_t), (1, .int v1)] := hl
  unfold X9_area at h
  obtain ⟨H, eH⟩ : ∃ z, z = s.heap := ⟨_, rfl⟩
  obtain ⟨locs, eL⟩ : ∃ z, z = ([] : List Loc) := ⟨_, rfl⟩
  rw [← eL] at hW ⊢
  suffices hS9 : WD g s A (w_X9_area g a_t a_rings a_rings_0 a_rings_1 a_rings_2 a_rings_3 a_rings_0_corners a_rings_1_corners a_rings_2_corners a_rings_3_corners a_rings_0_corners_firsts a_rings_0_corners_seconds a_rings_1_corners_firsts a_rings_1_corners_seconds a_rings_2_corners_firsts a_rings_2_corners_seconds a_rings_3_corners_firsts a_rings_3_corners_seconds a_land a_ways a_rows a_turns a_plan a_planner a_slants a_reaper c_rings_0_corners_size c_rings_1_corners_size c_rings_2_corners_size c_rings_3_corners_size c_rings_0_corners_firsts c_rings_0_corners_seconds c_rings_1_corners_firsts c_rings_1_corners_seconds c_rings_2_corners_firsts c_rings_2_corners_seconds c_rings_3_corners_firsts c_rings_3_corners_seconds) H locs → W p l e (rm9x 7 111) s m args below meth c H locs 0 0 Q (F0 m 0 ls []) by
    rw [← eH] at hW ⊢
    exact hS9 hW
  clear hW eL
  intro hW
  refine lv_aload_n (pc := 0) hx hb (dd dX9_area 0 rfl) rfl (lv_at hl 0 rfl) ?_
  refine lv_iload_n (pc := 1) hx hb (dd dX9_area 1 rfl) rfl (lv_at hl 1 rfl) ?_
  obtain ⟨ex9, hr, h⟩ := bnd_ex h
  rcases ex9 with x9 | u9
  · have h := sE_l h
    have hW9 := hW
    cases h
    exact callXV (pc := 2) (na := 1) (As := [.int v1]) (rest := []) M hl.1 hW9 hlk hex hA9 hQ (x_X9_needRing l hl9 g a_t a_rings a_land a_ways a_rows a_turns a_plan a_planner a_slants a_reaper v1 _ hr) rfl [0] [1, 2, 3, 4, 5, 6, 7, 8, 9, 10, 11, 12, 13, 14, 15, 16, 17] [17, 0, 1, 2, 3, 4, 5, 6, 7, 8, 9, 10, 11, 12, 13, 14, 15, 16] rfl rfl rfl rfl rfl rfl rfl 0 9 rfl rfl rfl (uw2 127 rfl rfl) (uw2 124 rfl rfl) (uw2 126 rfl rfl) (uwp 0 rfl rfl) (uw1 1 rfl rfl) ⟨by decide, by decide, by decide⟩ rfl ⟨by decide, by decide⟩ (Nat.le_of_ble_eq_true rfl)  ⟨by decide, by decide⟩ (dd dX9_area 2 rfl)
  have h := sE_r h
  refine callVV (pc := 2) (na := 1) (As := [.int v1]) (rest := []) (ws2 := (w_X9_area g a_t a_rings a_rings_0 a_rings_1 a_rings_2 a_rings_3 a_rings_0_corners a_rings_1_corners a_rings_2_corners a_rings_3_corners a_rings_0_corners_firsts a_rings_0_corners_seconds a_rings_1_corners_firsts a_rings_1_corners_seconds a_rings_2_corners_firsts a_rings_2_corners_seconds a_rings_3_corners_firsts a_rings_3_corners_seconds a_land a_ways a_rows a_turns a_plan a_planner a_slants a_reaper c_rings_0_corners_size c_rings_1_corners_size c_rings_2_corners_size c_rings_3_corners_size c_rings_0_corners_firsts c_rings_0_corners_seconds c_rings_1_corners_firsts c_rings_1_corners_seconds c_rings_2_corners_firsts c_rings_2_corners_seconds c_rings_3_corners_firsts c_rings_3_corners_seconds)) M hl.1 hW (t_X9_needRing l g a_t a_rings a_land a_ways a_rows a_turns a_plan a_planner a_slants a_reaper v1 hr) rfl [0] [1, 2, 3, 4, 5, 6, 7, 8, 9, 10, 11, 12, 13, 14, 15, 16, 17] [17, 0, 1, 2, 3, 4, 5, 6, 7, 8, 9, 10, 11, 12, 13, 14, 15, 16] rfl rfl rfl rfl rfl rfl rfl 0 9 rfl rfl rfl (uw2 127 rfl rfl) (uw2 124 rfl rfl) (uw2 126 rfl rfl) (uwp 0 rfl rfl) (uw1 1 rfl rfl) ⟨by decide, by decide, by decide⟩ rfl ⟨by decide, by decide⟩ (Nat.le_of_ble_eq_true rfl)  ⟨Nat.zero_le _, Nat.zero_le _⟩ (dd dX9_area 2 rfl) (fun H locs hW => ?_)
  exact (rmap_no h).elim
abbrev w_X9_lay (g : G9) (a_t a_land a_plan a_rings a_rows a_turns a_land_depths a_land_kinds a_land_nears a_rings_0 a_rings_1 a_rings_2 a_rings_3 a_turns_known a_rings_0_corners a_rings_1_corners a_rings_2_corners a_rings_3_corners a_rings_0_corners_firsts a_rings_0_corners_seconds a_rings_1_corners_firsts a_rings_1_corners_seconds a_rings_2_corners_firsts a_rings_2_corners_seconds a_rings_3_corners_firsts a_rings_3_corners_seconds a_ways a_planner a_slants a_reaper a_plan_numbers a_rows_strips a_rows_alongs a_rows_numbers a_rows_sorted a_rows_spare a_rows_tally a_rows_squares a_rows_starts a_rows_ends a_turns_lengths : Nat) (c_land_laid c_land_head c_land_fieldCount c_land_innerCount c_plan_there c_plan_size c_rows_there c_rows_size : Int32) (c_land_depths c_land_kinds c_land_nears c_turns_known : Ar) (c_rings_0_corners_size c_rings_1_corners_size c_rings_2_corners_size c_rings_3_corners_size : Int32) (c_rings_0_corners_firsts c_rings_0_corners_seconds c_rings_1_corners_firsts c_rings_1_corners_seconds c_rings_2_corners_firsts c_rings_2_corners_seconds c_rings_3_corners_firsts c_rings_3_corners_seconds : Ar) : va_W := [ob a_t 9 [.ref a_rings, .ref a_land, .ref a_ways, .ref a_rows, .ref a_turns, .ref a_plan, .ref a_planner, .ref a_slants, .ref a_reaper], ob a_land 0 [.ref a_land_kinds, .ref a_land_nears, .ref a_land_depths, .int c_land_laid, .int c_land_head, .int c_land_fieldCount, .int c_land_innerCount], ob a_plan 2 [.ref a_turns, .ref a_plan_numbers, .int c_plan_there, .int c_plan_size], ra g a_rings 4 (rg a_rings_0 a_rings_1 a_rings_2 a_rings_3), ob a_rows 6 [.ref a_land, .ref a_rows_strips, .ref a_rows_alongs, .ref a_rows_numbers, .ref a_rows_sorted, .ref a_rows_spare, .ref a_rows_tally, .ref a_rows_squares, .ref a_rows_starts, .ref a_rows_ends, .int c_rows_there, .int c_rows_size], ob a_turns 7 [.ref a_ways, .ref a_rows, .ref a_turns_lengths, .ref a_turns_known], ia g a_land_depths 1200 c_land_depths, ia g a_land_kinds 1200 c_land_kinds, ia g a_land_nears 1200 c_land_nears, ob a_rings_0 5 [.ref a_rings_0_corners], ob a_rings_1 5 [.ref a_rings_1_corners], ob a_rings_2 5 [.ref a_rings_2_corners], ob a_rings_3 5 [.ref a_rings_3_corners], za g a_turns_known 120 c_turns_known, ob a_rings_0_corners 1 [.ref a_rings_0_corners_firsts, .ref a_rings_0_corners_seconds, .int c_rings_0_corners_size], ob a_rings_1_corners 1 [.ref a_rings_1_corners_firsts, .ref a_rings_1_corners_seconds, .int c_rings_1_corners_size], ob a_rings_2_corners 1 [.ref a_rings_2_corners_firsts, .ref a_rings_2_corners_seconds, .int c_rings_2_corners_size], ob a_rings_3_corners 1 [.ref a_rings_3_corners_firsts, .ref a_rings_3_corners_seconds, .int c_rings_3_corners_size], ia g a_rings_0_corners_firsts 12 c_rings_0_corners_firsts, ia g a_rings_0_corners_seconds 12 c_rings_0_corners_seconds, ia g a_rings_1_corners_firsts 12 c_rings_1_corners_firsts, ia g a_rings_1_corners_seconds 12 c_rings_1_corners_seconds, ia g a_rings_2_corners_firsts 12 c_rings_2_corners_firsts, ia g a_rings_2_corners_seconds 12 c_rings_2_corners_seconds, ia g a_rings_3_corners_firsts 12 c_rings_3_corners_firsts, ia g a_rings_3_corners_seconds 12 c_rings_3_corners_seconds]
noncomputable def X9_lay (c_land_laid c_land_head c_land_fieldCount c_land_innerCount c_plan_there c_plan_size c_rows_there c_rows_size : Int32) (c_land_depths c_land_kinds c_land_nears c_turns_known : Ar) (c_rings_0_corners_size c_rings_1_corners_size c_rings_2_corners_size c_rings_3_corners_size : Int32) (c_rings_0_corners_firsts c_rings_0_corners_seconds c_rings_1_corners_firsts c_rings_1_corners_seconds c_rings_2_corners_firsts c_rings_2_corners_seconds c_rings_3_corners_firsts c_rings_3_corners_seconds : Ar) (v1 : Int32) : Option (Nat ⊕ (Int32 × Int32 × Int32 × Int32 × Int32 × Int32 × Int32 × Int32 × Int32 × Ar × Ar × Ar × Ar)) :=
  if v1 < 0 then (some (.inl 2)) else (if v1 ≤ 5 then (rmap <| bnd (X9_forgetLand c_land_laid c_land_head c_land_fieldCount c_land_innerCount c_plan_there c_plan_size c_rows_there c_rows_size c_turns_known) <| un9 fun c_land_laid_20 c_land_head_20 c_land_fieldCount_20 c_land_innerCount_20 c_plan_there_20 c_plan_size_20 c_rows_there_20 c_rows_size_20 c_turns_known_20 => bnd (X0_layOut c_land_laid_20 c_land_head_20 c_land_fieldCount_20 c_land_innerCount_20 c_land_depths c_land_kinds c_land_nears c_rings_0_corners_size c_rings_1_corners_size c_rings_2_corners_size c_rings_3_corners_size c_rings_0_corners_firsts c_rings_0_corners_seconds c_rings_1_corners_firsts c_rings_1_corners_seconds c_rings_2_corners_firsts c_rings_2_corners_seconds c_rings_3_corners_firsts c_rings_3_corners_seconds v1) <| un7 fun c_land_laid_32 c_land_head_32 c_land_fieldCount_32 c_land_innerCount_32 c_land_depths_32 c_land_kinds_32 c_land_nears_32 => some (c_land_fieldCount_32, c_land_laid_32, c_land_head_32, c_land_fieldCount_32, c_land_innerCount_32, c_plan_there_20, c_plan_size_20, c_rows_there_20, c_rows_size_20, c_land_depths_32, c_land_kinds_32, c_land_nears_32, c_turns_known_20)) else (some (.inl 2)))
set_option maxHeartbeats 4000000 in
set_option maxRecDepth 100000 in
theorem t_X9_lay (l : Launch) (g : G9) (a_t a_land a_plan a_rings a_rows a_turns a_land_depths a_land_kinds a_land_nears a_rings_0 a_rings_1 a_rings_2 a_rings_3 a_turns_known a_rings_0_corners a_rings_1_corners a_rings_2_corners a_rings_3_corners a_rings_0_corners_firsts a_rings_0_corners_seconds a_rings_1_corners_firsts a_rings_1_corners_seconds a_rings_2_corners_firsts a_rings_2_corners_seconds a_rings_3_corners_firsts a_rings_3_corners_seconds a_ways a_planner a_slants a_reaper a_plan_numbers a_rows_strips a_rows_alongs a_rows_numbers a_rows_sorted a_rows_spare a_rows_tally a_rows_squares a_rows_starts a_rows_ends a_turns_lengths : Nat) (c_land_laid c_land_head c_land_fieldCount c_land_innerCount c_plan_there c_plan_size c_rows_there c_rows_size : Int32) (c_land_depths c_land_kinds c_land_nears c_turns_known : Ar) (c_rings_0_corners_size c_rings_1_corners_size c_rings_2_corners_size c_rings_3_corners_size : Int32) (c_rings_0_corners_firsts c_rings_0_corners_seconds c_rings_1_corners_firsts c_rings_1_corners_seconds c_rings_2_corners_firsts c_rings_2_corners_seconds c_rings_3_corners_firsts c_rings_3_corners_seconds : Ar) (v1 r0 o_land_laid o_land_head o_land_fieldCount o_land_innerCount o_plan_there o_plan_size o_rows_there o_rows_size : Int32) (o_land_depths o_land_kinds o_land_nears o_turns_known : Ar) (h : X9_lay c_land_laid c_land_head c_land_fieldCount c_land_innerCount c_plan_there c_plan_size c_rows_there c_rows_size c_land_depths c_land_kinds c_land_nears c_turns_known c_rings_0_corners_size c_rings_1_corners_size c_rings_2_corners_size c_rings_3_corners_size c_rings_0_corners_firsts c_rings_0_corners_seconds c_rings_1_corners_firsts c_rings_1_corners_seconds c_rings_2_corners_firsts c_rings_2_corners_seconds c_rings_3_corners_firsts c_rings_3_corners_seconds v1 = some (.inr (r0, o_land_laid, o_land_head, o_land_fieldCount, o_land_innerCount, o_plan_there, o_plan_size, o_rows_there, o_rows_size, o_land_depths, o_land_kinds, o_land_nears, o_turns_known))) : CtI l g yX9_lay cX9_lay 2 .int 6 122 [.ref a_t, .int v1] (w_X9_lay g a_t a_land a_plan a_rings a_rows a_turns a_land_depths a_land_kinds a_land_nears a_rings_0 a_rings_1 a_rings_2 a_rings_3 a_turns_known a_rings_0_corners a_rings_1_corners a_rings_2_corners a_rings_3_corners a_rings_0_corners_firsts a_rings_0_corners_seconds a_rings_1_corners_firsts a_rings_1_corners_seconds a_rings_2_corners_firsts a_rings_2_corners_seconds a_rings_3_corners_firsts a_rings_3_corners_seconds a_ways a_planner a_slants a_reaper a_plan_numbers a_rows_strips a_rows_alongs a_rows_numbers a_rows_sorted a_rows_spare a_rows_tally a_rows_squares a_rows_starts a_rows_ends a_turns_lengths c_land_laid c_land_head c_land_fieldCount c_land_innerCount c_plan_there c_plan_size c_rows_there c_rows_size c_land_depths c_land_kinds c_land_nears c_turns_known c_rings_0_corners_size c_rings_1_corners_size c_rings_2_corners_size c_rings_3_corners_size c_rings_0_corners_firsts c_rings_0_corners_seconds c_rings_1_corners_firsts c_rings_1_corners_seconds c_rings_2_corners_firsts c_rings_2_corners_seconds c_rings_3_corners_firsts c_rings_3_corners_seconds) r0 (w_X9_lay g a_t a_land a_plan a_rings a_rows a_turns a_land_depths a_land_kinds a_land_nears a_rings_0 a_rings_1 a_rings_2 a_rings_3 a_turns_known a_rings_0_corners a_rings_1_corners a_rings_2_corners a_rings_3_corners a_rings_0_corners_firsts a_rings_0_corners_seconds a_rings_1_corners_firsts a_rings_1_corners_seconds a_rings_2_corners_firsts a_rings_2_corners_seconds a_rings_3_corners_firsts a_rings_3_corners_seconds a_ways a_planner a_slants a_reaper a_plan_numbers a_rows_strips a_rows_alongs a_rows_numbers a_rows_sorted a_rows_spare a_rows_tally a_rows_squares a_rows_starts a_rows_ends a_turns_lengths o_land_laid o_land_head o_land_fieldCount o_land_innerCount o_plan_there o_plan_size o_rows_there o_rows_size o_land_depths o_land_kinds o_land_nears o_turns_known c_rings_0_corners_size c_rings_1_corners_size c_rings_2_corners_size c_rings_3_corners_size c_rings_0_corners_firsts c_rings_0_corners_seconds c_rings_1_corners_firsts c_rings_1_corners_seconds c_rings_2_corners_firsts c_rings_2_corners_seconds c_rings_3_corners_firsts c_rings_3_corners_seconds) := by
  refine startI (by decide) (Nat.le_of_ble_eq_true rfl) ?_
  intro p e s m below meth c A Q ls args M hW hl ret
  have hx := M.1
  have hb := M.2.1
  have hown := M.2.2.2.1
  have hu := M.2.2.2.2.1
  have hl : lv_has ls 2 [(0, .ref a_t), (1, .int v1)] := hl
  unfold X9_lay at h
  obtain ⟨H, eH⟩ : ∃ z, z = s.heap := ⟨_, rfl⟩
  obtain ⟨locs, eL⟩ : ∃ z, z = ([] : List Loc) := ⟨_, rfl⟩
  rw [← eL] at hW ⊢
  suffices hS9 : WD g s A (w_X9_lay g a_t a_land a_plan a_rings a_rows a_turns a_land_depths a_land_kinds a_land_nears a_rings_0 a_rings_1 a_rings_2 a_rings_3 a_turns_known a_rings_0_corners a_rings_1_corners a_rings_2_corners a_rings_3_corners a_rings_0_corners_firsts a_rings_0_corners_seconds a_rings_1_corners_firsts a_rings_1_corners_seconds a_rings_2_corners_firsts a_rings_2_corners_seconds a_rings_3_corners_firsts a_rings_3_corners_seconds a_ways a_planner a_slants a_reaper a_plan_numbers a_rows_strips a_rows_alongs a_rows_numbers a_rows_sorted a_rows_spare a_rows_tally a_rows_squares a_rows_starts a_rows_ends a_turns_lengths c_land_laid c_land_head c_land_fieldCount c_land_innerCount c_plan_there c_plan_size c_rows_there c_rows_size c_land_depths c_land_kinds c_land_nears c_turns_known c_rings_0_corners_size c_rings_1_corners_size c_rings_2_corners_size c_rings_3_corners_size c_rings_0_corners_firsts c_rings_0_corners_seconds c_rings_1_corners_firsts c_rings_1_corners_seconds c_rings_2_corners_firsts c_rings_2_corners_seconds c_rings_3_corners_firsts c_rings_3_corners_seconds) H locs → W p l e (rm9 6 122) s m args below meth c H locs 0 0 Q (F0 m 0 ls []) by
    rw [← eH] at hW ⊢
    exact hS9 hW
  clear hW eH eL
  intro hW
  refine lv_iload_n (pc := 0) hx hb (dd dX9_lay 0 rfl) rfl (lv_at hl 1 rfl) ?_
  refine lv_if_lt (pc := 1) (tgt := 9) hx hb (dd dX9_lay 1 rfl) (by decide) (fun hc => ?_) (fun hc => ?_)
  · have h := it_t hc h
    cases h
  · have h := it_f hc h
    refine lv_iload_n (pc := 4) hx hb (dd dX9_lay 2 rfl) rfl (lv_at hl 1 rfl) ?_
    refine lv_iconst (pc := 5) (v := 5) hx hb (dd dX9_lay 3 rfl) (by decide) ?_
    refine lv_icmp_le (pc := 6) (tgt := 19) hx hb (dd dX9_lay 4 rfl) (by decide) (fun hc => ?_) (fun hc => ?_)
    · have h := it_t hc h
      have h := rmap_ex h
      refine lv_aload_n (pc := 19) hx hb (dd dX9_lay 10 rfl) rfl (lv_at hl 0 rfl) ?_
      obtain ⟨⟨c_land_laid_20, c_land_head_20, c_land_fieldCount_20, c_land_innerCount_20, c_plan_there_20, c_plan_size_20, c_rows_there_20, c_rows_size_20, c_turns_known_20⟩, hr, h⟩ := bnd_ex h
      have h := un9_at h
      refine callVV (pc := 20) (na := 0) (As := []) (rest := []) (ws2 := (w_X9_lay g a_t a_land a_plan a_rings a_rows a_turns a_land_depths a_land_kinds a_land_nears a_rings_0 a_rings_1 a_rings_2 a_rings_3 a_turns_known a_rings_0_corners a_rings_1_corners a_rings_2_corners a_rings_3_corners a_rings_0_corners_firsts a_rings_0_corners_seconds a_rings_1_corners_firsts a_rings_1_corners_seconds a_rings_2_corners_firsts a_rings_2_corners_seconds a_rings_3_corners_firsts a_rings_3_corners_seconds a_ways a_planner a_slants a_reaper a_plan_numbers a_rows_strips a_rows_alongs a_rows_numbers a_rows_sorted a_rows_spare a_rows_tally a_rows_squares a_rows_starts a_rows_ends a_turns_lengths c_land_laid_20 c_land_head_20 c_land_fieldCount_20 c_land_innerCount_20 c_plan_there_20 c_plan_size_20 c_rows_there_20 c_rows_size_20 c_land_depths c_land_kinds c_land_nears c_turns_known_20 c_rings_0_corners_size c_rings_1_corners_size c_rings_2_corners_size c_rings_3_corners_size c_rings_0_corners_firsts c_rings_0_corners_seconds c_rings_1_corners_firsts c_rings_1_corners_seconds c_rings_2_corners_firsts c_rings_2_corners_seconds c_rings_3_corners_firsts c_rings_3_corners_seconds)) M hl.1 hW (t_X9_forgetLand l g a_t a_land a_plan a_rows a_turns a_turns_known a_rings a_ways a_planner a_slants a_reaper a_land_kinds a_land_nears a_land_depths a_plan_numbers a_rows_strips a_rows_alongs a_rows_numbers a_rows_sorted a_rows_spare a_rows_tally a_rows_squares a_rows_starts a_rows_ends a_turns_lengths c_land_laid c_land_head c_land_fieldCount c_land_innerCount c_plan_there c_plan_size c_rows_there c_rows_size c_turns_known c_land_laid_20 c_land_head_20 c_land_fieldCount_20 c_land_innerCount_20 c_plan_there_20 c_plan_size_20 c_rows_there_20 c_rows_size_20 c_turns_known_20 hr) rfl [0, 1, 2, 4, 5, 13] [3, 6, 7, 8, 9, 10, 11, 12, 14, 15, 16, 17, 18, 19, 20, 21, 22, 23, 24, 25] [20, 21, 22, 0, 23, 24, 1, 2, 3, 4, 5, 6, 7, 25, 8, 9, 10, 11, 12, 13, 14, 15, 16, 17, 18, 19] rfl rfl rfl rfl rfl rfl rfl 0 9 rfl rfl rfl (uw2 233 rfl rfl) (uw2 230 rfl rfl) (uw2 232 rfl rfl) (uwp 2 rfl rfl) (uw1 1 rfl rfl) ⟨by decide, by decide, by decide⟩ rfl ⟨by decide, by decide⟩ (Nat.le_of_ble_eq_true rfl) ⟨Nat.zero_le _, Nat.zero_le _⟩ (dd dX9_lay 11 rfl) (fun H locs hW => ?_)
      refine lv_aload_n (pc := 23) hx hb (dd dX9_lay 12 rfl) rfl (lv_at hl 0 rfl) ?_
      refine rGet (pc := 24) M hW 0 1 iU9 rfl rfl (by decide) (uw2 51 rfl rfl) rfl (dd dX9_lay 13 rfl) ?_
      refine lv_aload_n (pc := 27) hx hb (dd dX9_lay 14 rfl) rfl (lv_at hl 0 rfl) ?_
      refine rGet (pc := 28) M hW 0 0 iU9 rfl rfl (by decide) (uw2 50 rfl rfl) rfl (dd dX9_lay 15 rfl) ?_
      refine lv_iload_n (pc := 31) hx hb (dd dX9_lay 16 rfl) rfl (lv_at hl 1 rfl) ?_
      obtain ⟨⟨c_land_laid_32, c_land_head_32, c_land_fieldCount_32, c_land_innerCount_32, c_land_depths_32, c_land_kinds_32, c_land_nears_32⟩, hr, h⟩ := bnd_ex h
      have h := un7_at h
      refine callVV (pc := 32) (na := 2) (As := [.ref a_rings, .int v1]) (rest := []) (ws2 := (w_X9_lay g a_t a_land a_plan a_rings a_rows a_turns a_land_depths a_land_kinds a_land_nears a_rings_0 a_rings_1 a_rings_2 a_rings_3 a_turns_known a_rings_0_corners a_rings_1_corners a_rings_2_corners a_rings_3_corners a_rings_0_corners_firsts a_rings_0_corners_seconds a_rings_1_corners_firsts a_rings_1_corners_seconds a_rings_2_corners_firsts a_rings_2_corners_seconds a_rings_3_corners_firsts a_rings_3_corners_seconds a_ways a_planner a_slants a_reaper a_plan_numbers a_rows_strips a_rows_alongs a_rows_numbers a_rows_sorted a_rows_spare a_rows_tally a_rows_squares a_rows_starts a_rows_ends a_turns_lengths c_land_laid_32 c_land_head_32 c_land_fieldCount_32 c_land_innerCount_32 c_plan_there_20 c_plan_size_20 c_rows_there_20 c_rows_size_20 c_land_depths_32 c_land_kinds_32 c_land_nears_32 c_turns_known_20 c_rings_0_corners_size c_rings_1_corners_size c_rings_2_corners_size c_rings_3_corners_size c_rings_0_corners_firsts c_rings_0_corners_seconds c_rings_1_corners_firsts c_rings_1_corners_seconds c_rings_2_corners_firsts c_rings_2_corners_seconds c_rings_3_corners_firsts c_rings_3_corners_seconds)) M hl.1 hW (t_X0_layOut l g a_rings a_land a_rings_0 a_rings_1 a_rings_2 a_rings_3 a_land_depths a_land_kinds a_land_nears a_rings_0_corners a_rings_1_corners a_rings_2_corners a_rings_3_corners a_rings_0_corners_firsts a_rings_0_corners_seconds a_rings_1_corners_firsts a_rings_1_corners_seconds a_rings_2_corners_firsts a_rings_2_corners_seconds a_rings_3_corners_firsts a_rings_3_corners_seconds c_land_laid_20 c_land_head_20 c_land_fieldCount_20 c_land_innerCount_20 c_land_depths c_land_kinds c_land_nears c_rings_0_corners_size c_rings_1_corners_size c_rings_2_corners_size c_rings_3_corners_size c_rings_0_corners_firsts c_rings_0_corners_seconds c_rings_1_corners_firsts c_rings_1_corners_seconds c_rings_2_corners_firsts c_rings_2_corners_seconds c_rings_3_corners_firsts c_rings_3_corners_seconds v1 c_land_laid_32 c_land_head_32 c_land_fieldCount_32 c_land_innerCount_32 c_land_depths_32 c_land_kinds_32 c_land_nears_32 hr) rfl [3, 1, 9, 10, 11, 12, 6, 7, 8, 14, 15, 16, 17, 18, 19, 20, 21, 22, 23, 24, 25] [0, 2, 4, 5, 13] [0, 6, 1, 5, 2, 3, 11, 12, 13, 7, 8, 9, 10, 4, 14, 15, 16, 17, 18, 19, 20, 21, 22, 23, 24, 25] rfl rfl rfl rfl rfl rfl rfl 1 0 rfl rfl rfl (uw3 50 rfl rfl) (uw3 47 rfl rfl) (uw3 48 rfl rfl) (uw3 49 rfl rfl) (uw1 5 rfl rfl) ⟨by decide, by decide, by decide⟩ rfl ⟨by decide, by decide⟩ (Nat.le_of_ble_eq_true rfl) ⟨Nat.zero_le _, Nat.zero_le _⟩ (dd dX9_lay 17 rfl) (fun H locs hW => ?_)
      refine lv_aload_n (pc := 35) hx hb (dd dX9_lay 18 rfl) rfl (lv_at hl 0 rfl) ?_
      refine rGet (pc := 36) M hW 0 1 iU9 rfl rfl (by decide) (uw2 51 rfl rfl) rfl (dd dX9_lay 19 rfl) ?_
      refine rGet (pc := 39) M hW 1 5 iU0 rfl rfl (by decide) (uw1 87 rfl rfl) rfl (dd dX9_lay 20 rfl) ?_
      have hW9 := hW
      cases h
      exact ret _ _ _ 42 hW9 rfl (dd dX9_lay 21 rfl)
    · have h := it_f hc h
      cases h
set_option maxHeartbeats 4000000 in
set_option maxRecDepth 100000 in
theorem x_X9_lay (l : Launch) (hl9 : l.stackTraces = false) (g : G9) (a_t a_land a_plan a_rings a_rows a_turns a_land_depths a_land_kinds a_land_nears a_rings_0 a_rings_1 a_rings_2 a_rings_3 a_turns_known a_rings_0_corners a_rings_1_corners a_rings_2_corners a_rings_3_corners a_rings_0_corners_firsts a_rings_0_corners_seconds a_rings_1_corners_firsts a_rings_1_corners_seconds a_rings_2_corners_firsts a_rings_2_corners_seconds a_rings_3_corners_firsts a_rings_3_corners_seconds a_ways a_planner a_slants a_reaper a_plan_numbers a_rows_strips a_rows_alongs a_rows_numbers a_rows_sorted a_rows_spare a_rows_tally a_rows_squares a_rows_starts a_rows_ends a_turns_lengths : Nat) (c_land_laid c_land_head c_land_fieldCount c_land_innerCount c_plan_there c_plan_size c_rows_there c_rows_size : Int32) (c_land_depths c_land_kinds c_land_nears c_turns_known : Ar) (c_rings_0_corners_size c_rings_1_corners_size c_rings_2_corners_size c_rings_3_corners_size : Int32) (c_rings_0_corners_firsts c_rings_0_corners_seconds c_rings_1_corners_firsts c_rings_1_corners_seconds c_rings_2_corners_firsts c_rings_2_corners_seconds c_rings_3_corners_firsts c_rings_3_corners_seconds : Ar) (v1 : Int32) (k0 : Nat) (h : X9_lay c_land_laid c_land_head c_land_fieldCount c_land_innerCount c_plan_there c_plan_size c_rows_there c_rows_size c_land_depths c_land_kinds c_land_nears c_turns_known c_rings_0_corners_size c_rings_1_corners_size c_rings_2_corners_size c_rings_3_corners_size c_rings_0_corners_firsts c_rings_0_corners_seconds c_rings_1_corners_firsts c_rings_1_corners_seconds c_rings_2_corners_firsts c_rings_2_corners_seconds c_rings_3_corners_firsts c_rings_3_corners_seconds v1 = some (.inl k0)) : CtX QnI l g yX9_lay cX9_lay 2 (some .int) 6 122 [.ref a_t, .int v1] (w_X9_lay g a_t a_land a_plan a_rings a_rows a_turns a_land_depths a_land_kinds a_land_nears a_rings_0 a_rings_1 a_rings_2 a_rings_3 a_turns_known a_rings_0_corners a_rings_1_corners a_rings_2_corners a_rings_3_corners a_rings_0_corners_firsts a_rings_0_corners_seconds a_rings_1_corners_firsts a_rings_1_corners_seconds a_rings_2_corners_firsts a_rings_2_corners_seconds a_rings_3_corners_firsts a_rings_3_corners_seconds a_ways a_planner a_slants a_reaper a_plan_numbers a_rows_strips a_rows_alongs a_rows_numbers a_rows_sorted a_rows_spare a_rows_tally a_rows_squares a_rows_starts a_rows_ends a_turns_lengths c_land_laid c_land_head c_land_fieldCount c_land_innerCount c_plan_there c_plan_size c_rows_there c_rows_size c_land_depths c_land_kinds c_land_nears c_turns_known c_rings_0_corners_size c_rings_1_corners_size c_rings_2_corners_size c_rings_3_corners_size c_rings_0_corners_firsts c_rings_0_corners_seconds c_rings_1_corners_firsts c_rings_1_corners_seconds c_rings_2_corners_firsts c_rings_2_corners_seconds c_rings_3_corners_firsts c_rings_3_corners_seconds) (excN k0) := by
  refine startX (by decide) (Nat.le_of_ble_eq_true rfl) ?_
  intro p e s m below meth c A Q ls args M hW hl hlk hex hA9 hQ
  have hx := M.1
  have hb := M.2.1
  have hown := M.2.2.2.1
  have hu := M.2.2.2.2.1
  have hl : lv_has ls 2 [(0, .ref a_t), (1, .int v1)] := hl
  unfold X9_lay at h
  obtain ⟨H, eH⟩ : ∃ z, z = s.heap := ⟨_, rfl⟩
  obtain ⟨locs, eL⟩ : ∃ z, z = ([] : List Loc) := ⟨_, rfl⟩
  rw [← eL] at hW ⊢
  suffices hS9 : WD g s A (w_X9_lay g a_t a_land a_plan a_rings a_rows a_turns a_land_depths a_land_kinds a_land_nears a_rings_0 a_rings_1 a_rings_2 a_rings_3 a_turns_known a_rings_0_corners a_rings_1_corners a_rings_2_corners a_rings_3_corners a_rings_0_corners_firsts a_rings_0_corners_seconds a_rings_1_corners_firsts a_rings_1_corners_seconds a_rings_2_corners_firsts a_rings_2_corners_seconds a_rings_3_corners_firsts a_rings_3_corners_seconds a_ways a_planner a_slants a_reaper a_plan_numbers a_rows_strips a_rows_alongs a_rows_numbers a_rows_sorted a_rows_spare a_rows_tally a_rows_squares a_rows_starts a_rows_ends a_turns_lengths c_land_laid c_land_head c_land_fieldCount c_land_innerCount c_plan_there c_plan_size c_rows_there c_rows_size c_land_depths c_land_kinds c_land_nears c_turns_known c_rings_0_corners_size c_rings_1_corners_size c_rings_2_corners_size c_rings_3_corners_size c_rings_0_corners_firsts c_rings_0_corners_seconds c_rings_1_corners_firsts c_rings_1_corners_seconds c_rings_2_corners_firsts c_rings_2_corners_seconds c_rings_3_corners_firsts c_rings_3_corners_seconds) H locs → W p l e (rm9x 6 122) s m args below meth c H locs 0 0 Q (F0 m 0 ls []) by
    rw [← eH] at hW ⊢
    exact hS9 hW
  clear hW eL
  intro hW
  refine lv_iload_n (pc := 0) hx hb (dd dX9_lay 0 rfl) rfl (lv_at hl 1 rfl) ?_
  refine lv_if_lt (pc := 1) (tgt := 9) hx hb (dd dX9_lay 1 rfl) (by decide) (fun hc => ?_) (fun hc => ?_)
  · have h := it_t hc h
    have hW9 := hW
    cases h
    exact rThrowS (pc := 9) (text := "no such headland") hl9 M hl.1 hW9 hlk hex hA9 hQ (by decide) (by decide) (uw2 198 rfl rfl) (uw1 18 rfl rfl) (by decide) xg2 xb2 xo2 ⟨by decide, by decide⟩ (Nat.le_of_ble_eq_true rfl) ⟨by decide, by decide⟩ (dd dX9_lay 5 rfl) (dd dX9_lay 6 rfl) (dd dX9_lay 7 rfl) (dd dX9_lay 8 rfl) (dd dX9_lay 9 rfl)
  · have h := it_f hc h
    refine lv_iload_n (pc := 4) hx hb (dd dX9_lay 2 rfl) rfl (lv_at hl 1 rfl) ?_
    refine lv_iconst (pc := 5) (v := 5) hx hb (dd dX9_lay 3 rfl) (by decide) ?_
    refine lv_icmp_le (pc := 6) (tgt := 19) hx hb (dd dX9_lay 4 rfl) (by decide) (fun hc => ?_) (fun hc => ?_)
    · have h := it_t hc h
      exact (rmap_no h).elim
    · have h := it_f hc h
      have hW9 := hW
      cases h
      exact rThrowS (pc := 9) (text := "no such headland") hl9 M hl.1 hW9 hlk hex hA9 hQ (by decide) (by decide) (uw2 198 rfl rfl) (uw1 18 rfl rfl) (by decide) xg2 xb2 xo2 ⟨by decide, by decide⟩ (Nat.le_of_ble_eq_true rfl) ⟨by decide, by decide⟩ (dd dX9_lay 5 rfl) (dd dX9_lay 6 rfl) (dd dX9_lay 7 rfl) (dd dX9_lay 8 rfl) (dd dX9_lay 9 rfl)
abbrev w_X9_needLaid (g : G9) (a_t a_land a_rings a_ways a_rows a_turns a_plan a_planner a_slants a_reaper a_land_kinds a_land_nears a_land_depths : Nat) (c_land_laid c_land_head c_land_fieldCount c_land_innerCount : Int32) : va_W := [ob a_t 9 [.ref a_rings, .ref a_land, .ref a_ways, .ref a_rows, .ref a_turns, .ref a_plan, .ref a_planner, .ref a_slants, .ref a_reaper], ob a_land 0 [.ref a_land_kinds, .ref a_land_nears, .ref a_land_depths, .int c_land_laid, .int c_land_head, .int c_land_fieldCount, .int c_land_innerCount]]
noncomputable def X9_needLaid (c_land_laid : Int32) : Option (Nat ⊕ Unit) :=
  if c_land_laid = 0 then (some (.inl 4)) else (rmap <| some ())
set_option maxHeartbeats 4000000 in
set_option maxRecDepth 100000 in
theorem t_X9_needLaid (l : Launch) (g : G9) (a_t a_land a_rings a_ways a_rows a_turns a_plan a_planner a_slants a_reaper a_land_kinds a_land_nears a_land_depths : Nat) (c_land_laid c_land_head c_land_fieldCount c_land_innerCount : Int32) (h : X9_needLaid c_land_laid = some (.inr ())) : CtV l g yX9_needLaid cX9_needLaid 1 6 90 [.ref a_t] (w_X9_needLaid g a_t a_land a_rings a_ways a_rows a_turns a_plan a_planner a_slants a_reaper a_land_kinds a_land_nears a_land_depths c_land_laid c_land_head c_land_fieldCount c_land_innerCount) (w_X9_needLaid g a_t a_land a_rings a_ways a_rows a_turns a_plan a_planner a_slants a_reaper a_land_kinds a_land_nears a_land_depths c_land_laid c_land_head c_land_fieldCount c_land_innerCount) := by
  refine startV (by decide) (Nat.le_of_ble_eq_true rfl) ?_
  intro p e s m below meth c A Q ls args M hW hl ret
  have hx := M.1
  have hb := M.2.1
  have hown := M.2.2.2.1
  have hu := M.2.2.2.2.1
  have hl : lv_has ls 1 [(0, .ref a_t)] := hl
  unfold X9_needLaid at h
  obtain ⟨H, eH⟩ : ∃ z, z = s.heap := ⟨_, rfl⟩
  obtain ⟨locs, eL⟩ : ∃ z, z = ([] : List Loc) := ⟨_, rfl⟩
  rw [← eL] at hW ⊢
  suffices hS9 : WD g s A (w_X9_needLaid g a_t a_land a_rings a_ways a_rows a_turns a_plan a_planner a_slants a_reaper a_land_kinds a_land_nears a_land_depths c_land_laid c_land_head c_land_fieldCount c_land_innerCount) H locs → W p l e (rm9 6 90) s m args below meth c H locs 0 0 Q (F0 m 0 ls []) by
    rw [← eH] at hW ⊢
    exact hS9 hW
  clear hW eH eL
  intro hW
  refine lv_aload_n (pc := 0) hx hb (dd dX9_needLaid 0 rfl) rfl (lv_at hl 0 rfl) ?_
  refine rGet (pc := 1) M hW 0 1 iU9 rfl rfl (by decide) (uw2 51 rfl rfl) rfl (dd dX9_needLaid 1 rfl) ?_
  refine rGet (pc := 4) M hW 1 3 iU0 rfl rfl (by decide) (uw1 83 rfl rfl) rfl (dd dX9_needLaid 2 rfl) ?_
  refine lv_if_ne (pc := 7) (tgt := 21) hx hb (dd dX9_needLaid 3 rfl) (by decide) (fun hc => ?_) (fun hc => ?_)
  · have h := it_f hc h
    have h := rmap_ex h
    have hW9 := hW
    cases h
    exact ret _ _ _ 21 hW9 (dd dX9_needLaid 9 rfl)
  · have h := it_t hc h
    cases h
set_option maxHeartbeats 4000000 in
set_option maxRecDepth 100000 in
theorem x_X9_needLaid (l : Launch) (hl9 : l.stackTraces = false) (g : G9) (a_t a_land a_rings a_ways a_rows a_turns a_plan a_planner a_slants a_reaper a_land_kinds a_land_nears a_land_depths : Nat) (c_land_laid c_land_head c_land_fieldCount c_land_innerCount : Int32) (k0 : Nat) (h : X9_needLaid c_land_laid = some (.inl k0)) : CtX QnV l g yX9_needLaid cX9_needLaid 1 none 6 90 [.ref a_t] (w_X9_needLaid g a_t a_land a_rings a_ways a_rows a_turns a_plan a_planner a_slants a_reaper a_land_kinds a_land_nears a_land_depths c_land_laid c_land_head c_land_fieldCount c_land_innerCount) (excN k0) := by
  refine startX (by decide) (Nat.le_of_ble_eq_true rfl) ?_
  intro p e s m below meth c A Q ls args M hW hl hlk hex hA9 hQ
  have hx := M.1
  have hb := M.2.1
  have hown := M.2.2.2.1
  have hu := M.2.2.2.2.1
  have hl : lv_has ls 1 [(0, .ref a_t)] := hl
  unfold X9_needLaid at h
  obtain ⟨H, eH⟩ : ∃ z, z = s.heap := ⟨_, rfl⟩
  obtain ⟨locs, eL⟩ : ∃ z, z = ([] : List Loc) := ⟨_, rfl⟩
  rw [← eL] at hW ⊢
  suffices hS9 : WD g s A (w_X9_needLaid g a_t a_land a_rings a_ways a_rows a_turns a_plan a_planner a_slants a_reaper a_land_kinds a_land_nears a_land_depths c_land_laid c_land_head c_land_fieldCount c_land_innerCount) H locs → W p l e (rm9x 6 90) s m args below meth c H locs 0 0 Q (F0 m 0 ls []) by
    rw [← eH] at hW ⊢
    exact hS9 hW
  clear hW eL
  intro hW
  refine lv_aload_n (pc := 0) hx hb (dd dX9_needLaid 0 rfl) rfl (lv_at hl 0 rfl) ?_
  refine rGet (pc := 1) M hW 0 1 iU9 rfl rfl (by decide) (uw2 51 rfl rfl) rfl (dd dX9_needLaid 1 rfl) ?_
  refine rGet (pc := 4) M hW 1 3 iU0 rfl rfl (by decide) (uw1 83 rfl rfl) rfl (dd dX9_needLaid 2 rfl) ?_
  refine lv_if_ne (pc := 7) (tgt := 21) hx hb (dd dX9_needLaid 3 rfl) (by decide) (fun hc => ?_) (fun hc => ?_)
  · have h := it_f hc h
    exact (rmap_no h).elim
  · have h := it_t hc h
    have hW9 := hW
    cases h
    exact rThrowSW (pc := 10) (text := "the land is not laid") hl9 M hl.1 hW9 hlk hex hA9 hQ (by decide) (by decide) (uw3 115 rfl rfl) (uw1 20 rfl rfl) (by decide) xg4 xb4 xo4 ⟨by decide, by decide⟩ (Nat.le_of_ble_eq_true rfl) ⟨by decide, by decide⟩ (dd dX9_needLaid 4 rfl) (dd dX9_needLaid 5 rfl) (dd dX9_needLaid 6 rfl) (dd dX9_needLaid 7 rfl) (dd dX9_needLaid 8 rfl)
abbrev w_X9_square (g : G9) (a_t a_land a_land_kinds a_rings a_ways a_rows a_turns a_plan a_planner a_slants a_reaper a_land_nears a_land_depths : Nat) (c_land_laid c_land_head c_land_fieldCount c_land_innerCount : Int32) (c_land_kinds : Ar) : va_W := [ob a_t 9 [.ref a_rings, .ref a_land, .ref a_ways, .ref a_rows, .ref a_turns, .ref a_plan, .ref a_planner, .ref a_slants, .ref a_reaper], ob a_land 0 [.ref a_land_kinds, .ref a_land_nears, .ref a_land_depths, .int c_land_laid, .int c_land_head, .int c_land_fieldCount, .int c_land_innerCount], ia g a_land_kinds 1200 c_land_kinds]
noncomputable def X9_square (c_land_laid : Int32) (c_land_kinds : Ar) (v1 v2 : Int32) : Option (Nat ⊕ Int32) :=
  bnd (X9_needLaid c_land_laid) <| Sum.elim (fun x9 => some (.inl x9)) fun (_ : Unit) => rmap <| bnd (X9_isSquare v1 v2) <| fun r_6 => if r_6 = 0 then (some (-1)) else (bnd (X9_squareAt v1 v2) <| fun r_21 => ck (ix r_21 1200) <| some (ag c_land_kinds r_21))
set_option maxHeartbeats 4000000 in
set_option maxRecDepth 100000 in
theorem t_X9_square (l : Launch) (g : G9) (a_t a_land a_land_kinds a_rings a_ways a_rows a_turns a_plan a_planner a_slants a_reaper a_land_nears a_land_depths : Nat) (c_land_laid c_land_head c_land_fieldCount c_land_innerCount : Int32) (c_land_kinds : Ar) (v1 v2 r0 : Int32) (h : X9_square c_land_laid c_land_kinds v1 v2 = some (.inr r0)) : CtI l g yX9_square cX9_square 3 .int 7 110 [.ref a_t, .int v1, .int v2] (w_X9_square g a_t a_land a_land_kinds a_rings a_ways a_rows a_turns a_plan a_planner a_slants a_reaper a_land_nears a_land_depths c_land_laid c_land_head c_land_fieldCount c_land_innerCount c_land_kinds) r0 (w_X9_square g a_t a_land a_land_kinds a_rings a_ways a_rows a_turns a_plan a_planner a_slants a_reaper a_land_nears a_land_depths c_land_laid c_land_head c_land_fieldCount c_land_innerCount c_land_kinds) := by
  refine startI (by decide) (Nat.le_of_ble_eq_true rfl) ?_
  intro p e s m below meth c A Q ls args M hW hl ret
  have hx := M.1
  have hb := M.2.1
  have hown := M.2.2.2.1
  have hu := M.2.2.2.2.1
  have hl : lv_has ls 3 [(0, .ref a_t), (1, .int v1), (2, .int v2)] := hl
  unfold X9_square at h
  obtain ⟨H, eH⟩ : ∃ z, z = s.heap := ⟨_, rfl⟩
  obtain ⟨locs, eL⟩ : ∃ z, z = ([] : List Loc) := ⟨_, rfl⟩
  rw [← eL] at hW ⊢
  suffices hS9 : WD g s A (w_X9_square g a_t a_land a_land_kinds a_rings a_ways a_rows a_turns a_plan a_planner a_slants a_reaper a_land_nears a_land_depths c_land_laid c_land_head c_land_fieldCount c_land_innerCount c_land_kinds) H locs → W p l e (rm9 7 110) s m args below meth c H locs 0 0 Q (F0 m 0 ls []) by
    rw [← eH] at hW ⊢
    exact hS9 hW
  clear hW eH eL
  intro hW
  refine lv_aload_n (pc := 0) hx hb (dd dX9_square 0 rfl) rfl (lv_at hl 0 rfl) ?_
  obtain ⟨ex9, hr, h⟩ := bnd_ex h
  rcases ex9 with x9 | u9
  · have h := sE_l h
    cases h
  have h := sE_r h
  refine callVV (pc := 1) (na := 0) (As := []) (rest := []) (ws2 := (w_X9_square g a_t a_land a_land_kinds a_rings a_ways a_rows a_turns a_plan a_planner a_slants a_reaper a_land_nears a_land_depths c_land_laid c_land_head c_land_fieldCount c_land_innerCount c_land_kinds)) M hl.1 hW (t_X9_needLaid l g a_t a_land a_rings a_ways a_rows a_turns a_plan a_planner a_slants a_reaper a_land_kinds a_land_nears a_land_depths c_land_laid c_land_head c_land_fieldCount c_land_innerCount hr) rfl [0, 1] [2] [1, 2, 0] rfl rfl rfl rfl rfl rfl rfl 0 9 rfl rfl rfl (uw3 114 rfl rfl) (uw3 111 rfl rfl) (uw3 113 rfl rfl) (uwp 14 rfl rfl) (uw1 1 rfl rfl) ⟨by decide, by decide, by decide⟩ rfl ⟨by decide, by decide⟩ (Nat.le_of_ble_eq_true rfl)  ⟨Nat.zero_le _, Nat.zero_le _⟩ (dd dX9_square 1 rfl) (fun H locs hW => ?_)
  have h := rmap_ex h
  refine lv_iload_n (pc := 4) hx hb (dd dX9_square 2 rfl) rfl (lv_at hl 1 rfl) ?_
  refine lv_iload_n (pc := 5) hx hb (dd dX9_square 3 rfl) rfl (lv_at hl 2 rfl) ?_
  obtain ⟨r_6, hr, h⟩ := bnd_ex h
  refine callSI (pc := 6) (na := 2) (As := [.int v1, .int v2]) (rest := []) (ws2 := (w_X9_square g a_t a_land a_land_kinds a_rings a_ways a_rows a_turns a_plan a_planner a_slants a_reaper a_land_nears a_land_depths c_land_laid c_land_head c_land_fieldCount c_land_innerCount c_land_kinds)) M hl.1 hW (t_X9_isSquare l g v1 v2 r_6 hr) [] [0, 1, 2] [0, 1, 2] rfl rfl rfl rfl rfl rfl rfl (uw3 92 rfl rfl) (uw3 131 rfl rfl) (uw3 91 rfl rfl) (uw1 1 rfl rfl) ⟨by decide, by decide, by decide⟩ rfl ⟨by decide, by decide⟩ (Nat.le_of_ble_eq_true rfl) ⟨Nat.zero_le _, Nat.zero_le _⟩ (dd dX9_square 4 rfl) (fun H locs hW => ?_)
  refine lv_if_eq (pc := 9) (tgt := 28) hx hb (dd dX9_square 5 rfl) (by decide) (fun hc => ?_) (fun hc => ?_)
  · have h := it_t hc h
    refine lv_iconst (pc := 28) (v := (-1)) hx hb (dd dX9_square 14 rfl) (by decide) ?_
    have hW9 := hW
    cases h
    exact ret _ _ _ 29 hW9 rfl (dd dX9_square 15 rfl)
  · have h := it_f hc h
    refine lv_aload_n (pc := 12) hx hb (dd dX9_square 6 rfl) rfl (lv_at hl 0 rfl) ?_
    refine rGet (pc := 13) M hW 0 1 iU9 rfl rfl (by decide) (uw2 51 rfl rfl) rfl (dd dX9_square 7 rfl) ?_
    refine rGet (pc := 16) M hW 1 0 iU0 rfl rfl (by decide) (uw1 77 rfl rfl) rfl (dd dX9_square 8 rfl) ?_
    refine lv_iload_n (pc := 19) hx hb (dd dX9_square 9 rfl) rfl (lv_at hl 1 rfl) ?_
    refine lv_iload_n (pc := 20) hx hb (dd dX9_square 10 rfl) rfl (lv_at hl 2 rfl) ?_
    obtain ⟨r_21, hr, h⟩ := bnd_ex h
    refine callSI (pc := 21) (na := 2) (As := [.int v1, .int v2]) (rest := [.ref a_land_kinds]) (ws2 := (w_X9_square g a_t a_land a_land_kinds a_rings a_ways a_rows a_turns a_plan a_planner a_slants a_reaper a_land_nears a_land_depths c_land_laid c_land_head c_land_fieldCount c_land_innerCount c_land_kinds)) M hl.1 hW (t_X9_squareAt l g v1 v2 r_21 hr) [] [0, 1, 2] [0, 1, 2] rfl rfl rfl rfl rfl rfl rfl (uw3 95 rfl rfl) (uw3 132 rfl rfl) (uw3 94 rfl rfl) (uw1 1 rfl rfl) ⟨by decide, by decide, by decide⟩ rfl ⟨by decide, by decide⟩ (Nat.le_of_ble_eq_true rfl) ⟨Nat.zero_le _, Nat.zero_le _⟩ (dd dX9_square 11 rfl) (fun H locs hW => ?_)
    obtain ⟨hi, h⟩ := ck_ex h
    refine rIald (pc := 24) M hW 2 rfl hi (dd dX9_square 12 rfl) ?_
    refine lv_goto (pc := 25) (tgt := 29) hx hb (dd dX9_square 13 rfl) (by decide) ?_
    have hW9 := hW
    cases h
    exact ret _ _ _ 29 hW9 rfl (dd dX9_square 15 rfl)
set_option maxHeartbeats 4000000 in
set_option maxRecDepth 100000 in
theorem x_X9_square (l : Launch) (hl9 : l.stackTraces = false) (g : G9) (a_t a_land a_land_kinds a_rings a_ways a_rows a_turns a_plan a_planner a_slants a_reaper a_land_nears a_land_depths : Nat) (c_land_laid c_land_head c_land_fieldCount c_land_innerCount : Int32) (c_land_kinds : Ar) (v1 v2 : Int32) (k0 : Nat) (h : X9_square c_land_laid c_land_kinds v1 v2 = some (.inl k0)) : CtX QnI l g yX9_square cX9_square 3 (some .int) 7 110 [.ref a_t, .int v1, .int v2] (w_X9_square g a_t a_land a_land_kinds a_rings a_ways a_rows a_turns a_plan a_planner a_slants a_reaper a_land_nears a_land_depths c_land_laid c_land_head c_land_fieldCount c_land_innerCount c_land_kinds) (excN k0) := by
  refine startX (by decide) (Nat.le_of_ble_eq_true rfl) ?_
  intro p e s m below meth c A Q ls args M hW hl hlk hex hA9 hQ
  have hx := M.1
  have hb := M.2.1
  have hown := M.2.2.2.1
  have hu := M.2.2.2.2.1
  have hl : lv_has ls 3 [(0, .ref a_t), (1, .int v1), (2, .int v2)] := hl
  unfold X9_square at h
  obtain ⟨H, eH⟩ : ∃ z, z = s.heap := ⟨_, rfl⟩
  obtain ⟨locs, eL⟩ : ∃ z, z = ([] : List Loc) := ⟨_, rfl⟩
  rw [← eL] at hW ⊢
  suffices hS9 : WD g s A (w_X9_square g a_t a_land a_land_kinds a_rings a_ways a_rows a_turns a_plan a_planner a_slants a_reaper a_land_nears a_land_depths c_land_laid c_land_head c_land_fieldCount c_land_innerCount c_land_kinds) H locs → W p l e (rm9x 7 110) s m args below meth c H locs 0 0 Q (F0 m 0 ls []) by
    rw [← eH] at hW ⊢
    exact hS9 hW
  clear hW eL
  intro hW
  refine lv_aload_n (pc := 0) hx hb (dd dX9_square 0 rfl) rfl (lv_at hl 0 rfl) ?_
  obtain ⟨ex9, hr, h⟩ := bnd_ex h
  rcases ex9 with x9 | u9
  · have h := sE_l h
    have hW9 := hW
    cases h
    exact callXV (pc := 1) (na := 0) (As := []) (rest := []) M hl.1 hW9 hlk hex hA9 hQ (x_X9_needLaid l hl9 g a_t a_land a_rings a_ways a_rows a_turns a_plan a_planner a_slants a_reaper a_land_kinds a_land_nears a_land_depths c_land_laid c_land_head c_land_fieldCount c_land_innerCount _ hr) rfl [0, 1] [2] [1, 2, 0] rfl rfl rfl rfl rfl rfl rfl 0 9 rfl rfl rfl (uw3 114 rfl rfl) (uw3 111 rfl rfl) (uw3 113 rfl rfl) (uwp 14 rfl rfl) (uw1 1 rfl rfl) ⟨by decide, by decide, by decide⟩ rfl ⟨by decide, by decide⟩ (Nat.le_of_ble_eq_true rfl)  ⟨by decide, by decide⟩ (dd dX9_square 1 rfl)
  have h := sE_r h
  refine callVV (pc := 1) (na := 0) (As := []) (rest := []) (ws2 := (w_X9_square g a_t a_land a_land_kinds a_rings a_ways a_rows a_turns a_plan a_planner a_slants a_reaper a_land_nears a_land_depths c_land_laid c_land_head c_land_fieldCount c_land_innerCount c_land_kinds)) M hl.1 hW (t_X9_needLaid l g a_t a_land a_rings a_ways a_rows a_turns a_plan a_planner a_slants a_reaper a_land_kinds a_land_nears a_land_depths c_land_laid c_land_head c_land_fieldCount c_land_innerCount hr) rfl [0, 1] [2] [1, 2, 0] rfl rfl rfl rfl rfl rfl rfl 0 9 rfl rfl rfl (uw3 114 rfl rfl) (uw3 111 rfl rfl) (uw3 113 rfl rfl) (uwp 14 rfl rfl) (uw1 1 rfl rfl) ⟨by decide, by decide, by decide⟩ rfl ⟨by decide, by decide⟩ (Nat.le_of_ble_eq_true rfl)  ⟨Nat.zero_le _, Nat.zero_le _⟩ (dd dX9_square 1 rfl) (fun H locs hW => ?_)
  exact (rmap_no h).elim
noncomputable def X9_isSlant_b32  : Option Int32 :=
  some 1
noncomputable def X9_isSlant (v0 v1 : Int32) : Option Int32 :=
  if v0 < (-9) then (some 0) else (if 9 < v0 then (some 0) else (if v1 < (-9) then (some 0) else (if 9 < v1 then (some 0) else (if v0 = 0 then (if v1 = 0 then (some 0) else (X9_isSlant_b32 )) else (X9_isSlant_b32 )))))
set_option maxHeartbeats 4000000 in
set_option maxRecDepth 100000 in
theorem t_X9_isSlant (l : Launch) (g : G9) (v0 v1 r0 : Int32) (h : X9_isSlant v0 v1 = some r0) : CtI l g yX9_isSlant cX9_isSlant 2 .boolean 0 0 [.int v0, .int v1] [] r0 [] := by
  refine startI (by decide) (Nat.le_of_ble_eq_true rfl) ?_
  intro p e s m below meth c A Q ls args M hW hl ret
  have hx := M.1
  have hb := M.2.1
  have hown := M.2.2.2.1
  have hu := M.2.2.2.2.1
  have hl : lv_has ls 2 [(0, .int v0), (1, .int v1)] := hl
  unfold X9_isSlant at h
  obtain ⟨H, eH⟩ : ∃ z, z = s.heap := ⟨_, rfl⟩
  obtain ⟨locs, eL⟩ : ∃ z, z = ([] : List Loc) := ⟨_, rfl⟩
  rw [← eL] at hW ⊢
  suffices hS9 : WD g s A [] H locs → W p l e (rm9 0 0) s m args below meth c H locs 0 0 Q (F0 m 0 ls []) by
    rw [← eH] at hW ⊢
    exact hS9 hW
  clear hW eH eL
  intro hW
  have J32 : ∀ (H : Heap) (locs : List Loc) (ls : Array Slot), X9_isSlant_b32  = some r0 → WD g s A [] H locs → lv_has ls 2 [] → W p l e (rm9 0 0) s m args below meth c H locs 0 0 Q (F0 m 32 ls []) := by
    intro H locs ls h hW hl
    unfold X9_isSlant_b32 at h
    refine lv_iconst (pc := 32) (v := 1) hx hb (dd dX9_isSlant 16 rfl) (by decide) ?_
    refine lv_goto (pc := 33) (tgt := 37) hx hb (dd dX9_isSlant 17 rfl) (by decide) ?_
    have hW9 := hW
    cases h
    exact ret _ _ _ 37 hW9 rfl (dd dX9_isSlant 19 rfl)
  refine lv_iload_n (pc := 0) hx hb (dd dX9_isSlant 0 rfl) rfl (lv_at hl 0 rfl) ?_
  refine lv_bipush (pc := 1) (v := (-9)) hx hb (dd dX9_isSlant 1 rfl) (by decide) ?_
  refine lv_icmp_lt (pc := 3) (tgt := 36) hx hb (dd dX9_isSlant 2 rfl) (by decide) (fun hc => ?_) (fun hc => ?_)
  · have h := it_t hc h
    refine lv_iconst (pc := 36) (v := 0) hx hb (dd dX9_isSlant 18 rfl) (by decide) ?_
    have hW9 := hW
    cases h
    exact ret _ _ _ 37 hW9 rfl (dd dX9_isSlant 19 rfl)
  · have h := it_f hc h
    refine lv_iload_n (pc := 6) hx hb (dd dX9_isSlant 3 rfl) rfl (lv_at hl 0 rfl) ?_
    refine lv_bipush (pc := 7) (v := 9) hx hb (dd dX9_isSlant 4 rfl) (by decide) ?_
    refine lv_icmp_gt (pc := 9) (tgt := 36) hx hb (dd dX9_isSlant 5 rfl) (by decide) (fun hc => ?_) (fun hc => ?_)
    · have h := it_t hc h
      refine lv_iconst (pc := 36) (v := 0) hx hb (dd dX9_isSlant 18 rfl) (by decide) ?_
      have hW9 := hW
      cases h
      exact ret _ _ _ 37 hW9 rfl (dd dX9_isSlant 19 rfl)
    · have h := it_f hc h
      refine lv_iload_n (pc := 12) hx hb (dd dX9_isSlant 6 rfl) rfl (lv_at hl 1 rfl) ?_
      refine lv_bipush (pc := 13) (v := (-9)) hx hb (dd dX9_isSlant 7 rfl) (by decide) ?_
      refine lv_icmp_lt (pc := 15) (tgt := 36) hx hb (dd dX9_isSlant 8 rfl) (by decide) (fun hc => ?_) (fun hc => ?_)
      · have h := it_t hc h
        refine lv_iconst (pc := 36) (v := 0) hx hb (dd dX9_isSlant 18 rfl) (by decide) ?_
        have hW9 := hW
        cases h
        exact ret _ _ _ 37 hW9 rfl (dd dX9_isSlant 19 rfl)
      · have h := it_f hc h
        refine lv_iload_n (pc := 18) hx hb (dd dX9_isSlant 9 rfl) rfl (lv_at hl 1 rfl) ?_
        refine lv_bipush (pc := 19) (v := 9) hx hb (dd dX9_isSlant 10 rfl) (by decide) ?_
        refine lv_icmp_gt (pc := 21) (tgt := 36) hx hb (dd dX9_isSlant 11 rfl) (by decide) (fun hc => ?_) (fun hc => ?_)
        · have h := it_t hc h
          refine lv_iconst (pc := 36) (v := 0) hx hb (dd dX9_isSlant 18 rfl) (by decide) ?_
          have hW9 := hW
          cases h
          exact ret _ _ _ 37 hW9 rfl (dd dX9_isSlant 19 rfl)
        · have h := it_f hc h
          refine lv_iload_n (pc := 24) hx hb (dd dX9_isSlant 12 rfl) rfl (lv_at hl 0 rfl) ?_
          refine lv_if_ne (pc := 25) (tgt := 32) hx hb (dd dX9_isSlant 13 rfl) (by decide) (fun hc => ?_) (fun hc => ?_)
          · have h := it_f hc h
            exact J32 _ _ _ h hW (lv_sub hl [] rfl)
          · have h := it_t hc h
            refine lv_iload_n (pc := 28) hx hb (dd dX9_isSlant 14 rfl) rfl (lv_at hl 1 rfl) ?_
            refine lv_if_eq (pc := 29) (tgt := 36) hx hb (dd dX9_isSlant 15 rfl) (by decide) (fun hc => ?_) (fun hc => ?_)
            · have h := it_t hc h
              refine lv_iconst (pc := 36) (v := 0) hx hb (dd dX9_isSlant 18 rfl) (by decide) ?_
              have hW9 := hW
              cases h
              exact ret _ _ _ 37 hW9 rfl (dd dX9_isSlant 19 rfl)
            · have h := it_f hc h
              exact J32 _ _ _ h hW (lv_sub hl [] rfl)
abbrev w_X9_needWidth (g : G9) (a_t a_rings a_land a_ways a_rows a_turns a_plan a_planner a_slants a_reaper : Nat) : va_W := [ob a_t 9 [.ref a_rings, .ref a_land, .ref a_ways, .ref a_rows, .ref a_turns, .ref a_plan, .ref a_planner, .ref a_slants, .ref a_reaper]]
noncomputable def X9_needWidth (v1 : Int32) : Option (Nat ⊕ Unit) :=
  if v1 < 1 then (some (.inl 2)) else (if v1 ≤ 400 then (rmap <| some ()) else (some (.inl 2)))
set_option maxHeartbeats 4000000 in
set_option maxRecDepth 100000 in
theorem t_X9_needWidth (l : Launch) (g : G9) (a_t a_rings a_land a_ways a_rows a_turns a_plan a_planner a_slants a_reaper : Nat) (v1 : Int32) (h : X9_needWidth v1 = some (.inr ())) : CtV l g yX9_needWidth cX9_needWidth 2 6 90 [.ref a_t, .int v1] (w_X9_needWidth g a_t a_rings a_land a_ways a_rows a_turns a_plan a_planner a_slants a_reaper) (w_X9_needWidth g a_t a_rings a_land a_ways a_rows a_turns a_plan a_planner a_slants a_reaper) := by
  refine startV (by decide) (Nat.le_of_ble_eq_true rfl) ?_
  intro p e s m below meth c A Q ls args M hW hl ret
  have hx := M.1
  have hb := M.2.1
  have hown := M.2.2.2.1
  have hu := M.2.2.2.2.1
  have hl : lv_has ls 2 [(0, .ref a_t), (1, .int v1)] := hl
  unfold X9_needWidth at h
  obtain ⟨H, eH⟩ : ∃ z, z = s.heap := ⟨_, rfl⟩
  obtain ⟨locs, eL⟩ : ∃ z, z = ([] : List Loc) := ⟨_, rfl⟩
  rw [← eL] at hW ⊢
  suffices hS9 : WD g s A (w_X9_needWidth g a_t a_rings a_land a_ways a_rows a_turns a_plan a_planner a_slants a_reaper) H locs → W p l e (rm9 6 90) s m args below meth c H locs 0 0 Q (F0 m 0 ls []) by
    rw [← eH] at hW ⊢
    exact hS9 hW
  clear hW eH eL
  intro hW
  refine lv_iload_n (pc := 0) hx hb (dd dX9_needWidth 0 rfl) rfl (lv_at hl 1 rfl) ?_
  refine lv_iconst (pc := 1) (v := 1) hx hb (dd dX9_needWidth 1 rfl) (by decide) ?_
  refine lv_icmp_lt (pc := 2) (tgt := 12) hx hb (dd dX9_needWidth 2 rfl) (by decide) (fun hc => ?_) (fun hc => ?_)
  · have h := it_t hc h
    cases h
  · have h := it_f hc h
    refine lv_iload_n (pc := 5) hx hb (dd dX9_needWidth 3 rfl) rfl (lv_at hl 1 rfl) ?_
    refine lv_sipush (pc := 6) (v := 400) hx hb (dd dX9_needWidth 4 rfl) (by decide) ?_
    refine lv_icmp_le (pc := 9) (tgt := 23) hx hb (dd dX9_needWidth 5 rfl) (by decide) (fun hc => ?_) (fun hc => ?_)
    · have h := it_t hc h
      have h := rmap_ex h
      have hW9 := hW
      cases h
      exact ret _ _ _ 23 hW9 (dd dX9_needWidth 11 rfl)
    · have h := it_f hc h
      cases h
set_option maxHeartbeats 4000000 in
set_option maxRecDepth 100000 in
theorem x_X9_needWidth (l : Launch) (hl9 : l.stackTraces = false) (g : G9) (a_t a_rings a_land a_ways a_rows a_turns a_plan a_planner a_slants a_reaper : Nat) (v1 : Int32) (k0 : Nat) (h : X9_needWidth v1 = some (.inl k0)) : CtX QnV l g yX9_needWidth cX9_needWidth 2 none 6 90 [.ref a_t, .int v1] (w_X9_needWidth g a_t a_rings a_land a_ways a_rows a_turns a_plan a_planner a_slants a_reaper) (excN k0) := by
  refine startX (by decide) (Nat.le_of_ble_eq_true rfl) ?_
  intro p e s m below meth c A Q ls args M hW hl hlk hex hA9 hQ
  have hx := M.1
  have hb := M.2.1
  have hown := M.2.2.2.1
  have hu := M.2.2.2.2.1
  have hl : lv_has ls 2 [(0, .ref a_t), (1, .int v1)] := hl
  unfold X9_needWidth at h
  obtain ⟨H, eH⟩ : ∃ z, z = s.heap := ⟨_, rfl⟩
  obtain ⟨locs, eL⟩ : ∃ z, z = ([] : List Loc) := ⟨_, rfl⟩
  rw [← eL] at hW ⊢
  suffices hS9 : WD g s A (w_X9_needWidth g a_t a_rings a_land a_ways a_rows a_turns a_plan a_planner a_slants a_reaper) H locs → W p l e (rm9x 6 90) s m args below meth c H locs 0 0 Q (F0 m 0 ls []) by
    rw [← eH] at hW ⊢
    exact hS9 hW
  clear hW eL
  intro hW
  refine lv_iload_n (pc := 0) hx hb (dd dX9_needWidth 0 rfl) rfl (lv_at hl 1 rfl) ?_
  refine lv_iconst (pc := 1) (v := 1) hx hb (dd dX9_needWidth 1 rfl) (by decide) ?_
  refine lv_icmp_lt (pc := 2) (tgt := 12) hx hb (dd dX9_needWidth 2 rfl) (by decide) (fun hc => ?_) (fun hc => ?_)
  · have h := it_t hc h
    have hW9 := hW
    cases h
    exact rThrowSW (pc := 12) (text := "no such width") hl9 M hl.1 hW9 hlk hex hA9 hQ (by decide) (by decide) (uw2 198 rfl rfl) (uw1 18 rfl rfl) (by decide) xg2 xb2 xo2 ⟨by decide, by decide⟩ (Nat.le_of_ble_eq_true rfl) ⟨by decide, by decide⟩ (dd dX9_needWidth 6 rfl) (dd dX9_needWidth 7 rfl) (dd dX9_needWidth 8 rfl) (dd dX9_needWidth 9 rfl) (dd dX9_needWidth 10 rfl)
  · have h := it_f hc h
    refine lv_iload_n (pc := 5) hx hb (dd dX9_needWidth 3 rfl) rfl (lv_at hl 1 rfl) ?_
    refine lv_sipush (pc := 6) (v := 400) hx hb (dd dX9_needWidth 4 rfl) (by decide) ?_
    refine lv_icmp_le (pc := 9) (tgt := 23) hx hb (dd dX9_needWidth 5 rfl) (by decide) (fun hc => ?_) (fun hc => ?_)
    · have h := it_t hc h
      exact (rmap_no h).elim
    · have h := it_f hc h
      have hW9 := hW
      cases h
      exact rThrowSW (pc := 12) (text := "no such width") hl9 M hl.1 hW9 hlk hex hA9 hQ (by decide) (by decide) (uw2 198 rfl rfl) (uw1 18 rfl rfl) (by decide) xg2 xb2 xo2 ⟨by decide, by decide⟩ (Nat.le_of_ble_eq_true rfl) ⟨by decide, by decide⟩ (dd dX9_needWidth 6 rfl) (dd dX9_needWidth 7 rfl) (dd dX9_needWidth 8 rfl) (dd dX9_needWidth 9 rfl) (dd dX9_needWidth 10 rfl)
abbrev w_X9_rows (g : G9) (a_t a_land a_plan a_rows a_turns a_land_kinds a_land_nears a_rows_alongs a_rows_ends a_rows_numbers a_rows_sorted a_rows_spare a_rows_squares a_rows_starts a_rows_strips a_rows_tally a_turns_known a_rings a_ways a_planner a_slants a_reaper a_land_depths a_plan_numbers a_turns_lengths : Nat) (c_land_laid c_land_head c_land_fieldCount c_land_innerCount c_plan_there c_plan_size c_rows_there c_rows_size : Int32) (c_land_kinds c_land_nears c_rows_alongs c_rows_ends c_rows_numbers c_rows_sorted c_rows_spare c_rows_squares c_rows_starts c_rows_strips c_rows_tally c_turns_known : Ar) : va_W := [ob a_t 9 [.ref a_rings, .ref a_land, .ref a_ways, .ref a_rows, .ref a_turns, .ref a_plan, .ref a_planner, .ref a_slants, .ref a_reaper], ob a_land 0 [.ref a_land_kinds, .ref a_land_nears, .ref a_land_depths, .int c_land_laid, .int c_land_head, .int c_land_fieldCount, .int c_land_innerCount], ob a_plan 2 [.ref a_turns, .ref a_plan_numbers, .int c_plan_there, .int c_plan_size], ob a_rows 6 [.ref a_land, .ref a_rows_strips, .ref a_rows_alongs, .ref a_rows_numbers, .ref a_rows_sorted, .ref a_rows_spare, .ref a_rows_tally, .ref a_rows_squares, .ref a_rows_starts, .ref a_rows_ends, .int c_rows_there, .int c_rows_size], ob a_turns 7 [.ref a_ways, .ref a_rows, .ref a_turns_lengths, .ref a_turns_known], ia g a_land_kinds 1200 c_land_kinds, ia g a_land_nears 1200 c_land_nears, ia g a_rows_alongs 1200 c_rows_alongs, ia g a_rows_ends 120 c_rows_ends, ia g a_rows_numbers 1200 c_rows_numbers, ia g a_rows_sorted 1200 c_rows_sorted, ia g a_rows_spare 1200 c_rows_spare, ia g a_rows_squares 1200 c_rows_squares, ia g a_rows_starts 61 c_rows_starts, ia g a_rows_strips 1200 c_rows_strips, ia g a_rows_tally 2486 c_rows_tally, za g a_turns_known 120 c_turns_known]
noncomputable def X9_rows (c_land_laid c_land_innerCount c_plan_there c_plan_size c_rows_there c_rows_size : Int32) (c_land_kinds c_land_nears c_rows_alongs c_rows_ends c_rows_numbers c_rows_sorted c_rows_spare c_rows_squares c_rows_starts c_rows_strips c_rows_tally c_turns_known : Ar) (v1 v2 v3 : Int32) : Option (Nat ⊕ (Int32 × Int32 × Int32 × Int32 × Int32 × Ar × Ar × Ar × Ar × Ar × Ar × Ar × Ar × Ar × Ar)) :=
  bnd (X9_needLaid c_land_laid) <| Sum.elim (fun x9 => some (.inl x9)) fun (_ : Unit) => bnd (X9_isSlant v1 v2) <| fun r_6 => if r_6 = 0 then (some (.inl 2)) else (bnd (X9_needWidth v3) <| Sum.elim (fun x9 => some (.inl x9)) fun (_ : Unit) => rmap <| bnd (X9_forgetRows c_plan_there c_plan_size c_rows_there c_rows_size c_turns_known) <| un5 fun c_plan_there_28 c_plan_size_28 c_rows_there_28 c_rows_size_28 c_turns_known_28 => bnd (X6_make c_rows_there_28 c_rows_size_28 c_rows_alongs c_rows_ends c_land_innerCount c_rows_numbers c_rows_sorted c_rows_spare c_rows_squares c_rows_starts c_rows_strips c_rows_tally c_land_kinds c_land_nears v1 v2 v3) <| un12 fun r_38 c_rows_there_38 c_rows_size_38 c_rows_alongs_38 c_rows_ends_38 c_rows_numbers_38 c_rows_sorted_38 c_rows_spare_38 c_rows_squares_38 c_rows_starts_38 c_rows_strips_38 c_rows_tally_38 => some (r_38, c_plan_there_28, c_plan_size_28, c_rows_there_38, c_rows_size_38, c_rows_alongs_38, c_rows_ends_38, c_rows_numbers_38, c_rows_sorted_38, c_rows_spare_38, c_rows_squares_38, c_rows_starts_38, c_rows_strips_38, c_rows_tally_38, c_turns_known_28))
set_option maxHeartbeats 4000000 in
set_option maxRecDepth 100000 in
theorem t_X9_rows (l : Launch) (g : G9) (a_t a_land a_plan a_rows a_turns a_land_kinds a_land_nears a_rows_alongs a_rows_ends a_rows_numbers a_rows_sorted a_rows_spare a_rows_squares a_rows_starts a_rows_strips a_rows_tally a_turns_known a_rings a_ways a_planner a_slants a_reaper a_land_depths a_plan_numbers a_turns_lengths : Nat) (c_land_laid c_land_head c_land_fieldCount c_land_innerCount c_plan_there c_plan_size c_rows_there c_rows_size : Int32) (c_land_kinds c_land_nears c_rows_alongs c_rows_ends c_rows_numbers c_rows_sorted c_rows_spare c_rows_squares c_rows_starts c_rows_strips c_rows_tally c_turns_known : Ar) (v1 v2 v3 r0 o_plan_there o_plan_size o_rows_there o_rows_size : Int32) (o_rows_alongs o_rows_ends o_rows_numbers o_rows_sorted o_rows_spare o_rows_squares o_rows_starts o_rows_strips o_rows_tally o_turns_known : Ar) (h : X9_rows c_land_laid c_land_innerCount c_plan_there c_plan_size c_rows_there c_rows_size c_land_kinds c_land_nears c_rows_alongs c_rows_ends c_rows_numbers c_rows_sorted c_rows_spare c_rows_squares c_rows_starts c_rows_strips c_rows_tally c_turns_known v1 v2 v3 = some (.inr (r0, o_plan_there, o_plan_size, o_rows_there, o_rows_size, o_rows_alongs, o_rows_ends, o_rows_numbers, o_rows_sorted, o_rows_spare, o_rows_squares, o_rows_starts, o_rows_strips, o_rows_tally, o_turns_known))) : CtI l g yX9_rows cX9_rows 4 .int 7 111 [.ref a_t, .int v1, .int v2, .int v3] (w_X9_rows g a_t a_land a_plan a_rows a_turns a_land_kinds a_land_nears a_rows_alongs a_rows_ends a_rows_numbers a_rows_sorted a_rows_spare a_rows_squares a_rows_starts a_rows_strips a_rows_tally a_turns_known a_rings a_ways a_planner a_slants a_reaper a_land_depths a_plan_numbers a_turns_lengths c_land_laid c_land_head c_land_fieldCount c_land_innerCount c_plan_there c_plan_size c_rows_there c_rows_size c_land_kinds c_land_nears c_rows_alongs c_rows_ends c_rows_numbers c_rows_sorted c_rows_spare c_rows_squares c_rows_starts c_rows_strips c_rows_tally c_turns_known) r0 (w_X9_rows g a_t a_land a_plan a_rows a_turns a_land_kinds a_land_nears a_rows_alongs a_rows_ends a_rows_numbers a_rows_sorted a_rows_spare a_rows_squares a_rows_starts a_rows_strips a_rows_tally a_turns_known a_rings a_ways a_planner a_slants a_reaper a_land_depths a_plan_numbers a_turns_lengths c_land_laid c_land_head c_land_fieldCount c_land_innerCount o_plan_there o_plan_size o_rows_there o_rows_size c_land_kinds c_land_nears o_rows_alongs o_rows_ends o_rows_numbers o_rows_sorted o_rows_spare o_rows_squares o_rows_starts o_rows_strips o_rows_tally o_turns_known) := by
  refine startI (by decide) (Nat.le_of_ble_eq_true rfl) ?_
  intro p e s m below meth c A Q ls args M hW hl ret
  have hx := M.1
  have hb := M.2.1
  have hown := M.2.2.2.1
  have hu := M.2.2.2.2.1
  have hl : lv_has ls 4 [(0, .ref a_t), (1, .int v1), (2, .int v2), (3, .int v3)] := hl
  unfold X9_rows at h
  obtain ⟨H, eH⟩ : ∃ z, z = s.heap := ⟨_, rfl⟩
  obtain ⟨locs, eL⟩ : ∃ z, z = ([] : List Loc) := ⟨_, rfl⟩
  rw [← eL] at hW ⊢
  suffices hS9 : WD g s A (w_X9_rows g a_t a_land a_plan a_rows a_turns a_land_kinds a_land_nears a_rows_alongs a_rows_ends a_rows_numbers a_rows_sorted a_rows_spare a_rows_squares a_rows_starts a_rows_strips a_rows_tally a_turns_known a_rings a_ways a_planner a_slants a_reaper a_land_depths a_plan_numbers a_turns_lengths c_land_laid c_land_head c_land_fieldCount c_land_innerCount c_plan_there c_plan_size c_rows_there c_rows_size c_land_kinds c_land_nears c_rows_alongs c_rows_ends c_rows_numbers c_rows_sorted c_rows_spare c_rows_squares c_rows_starts c_rows_strips c_rows_tally c_turns_known) H locs → W p l e (rm9 7 111) s m args below meth c H locs 0 0 Q (F0 m 0 ls []) by
    rw [← eH] at hW ⊢
    exact hS9 hW
  clear hW eH eL
  intro hW
  refine lv_aload_n (pc := 0) hx hb (dd dX9_rows 0 rfl) rfl (lv_at hl 0 rfl) ?_
  obtain ⟨ex9, hr, h⟩ := bnd_ex h
  rcases ex9 with x9 | u9
  · have h := sE_l h
    cases h
  have h := sE_r h
  refine callVV (pc := 1) (na := 0) (As := []) (rest := []) (ws2 := (w_X9_rows g a_t a_land a_plan a_rows a_turns a_land_kinds a_land_nears a_rows_alongs a_rows_ends a_rows_numbers a_rows_sorted a_rows_spare a_rows_squares a_rows_starts a_rows_strips a_rows_tally a_turns_known a_rings a_ways a_planner a_slants a_reaper a_land_depths a_plan_numbers a_turns_lengths c_land_laid c_land_head c_land_fieldCount c_land_innerCount c_plan_there c_plan_size c_rows_there c_rows_size c_land_kinds c_land_nears c_rows_alongs c_rows_ends c_rows_numbers c_rows_sorted c_rows_spare c_rows_squares c_rows_starts c_rows_strips c_rows_tally c_turns_known)) M hl.1 hW (t_X9_needLaid l g a_t a_land a_rings a_ways a_rows a_turns a_plan a_planner a_slants a_reaper a_land_kinds a_land_nears a_land_depths c_land_laid c_land_head c_land_fieldCount c_land_innerCount hr) rfl [0, 1] [2, 3, 4, 5, 6, 7, 8, 9, 10, 11, 12, 13, 14, 15, 16] [15, 16, 0, 1, 2, 3, 4, 5, 6, 7, 8, 9, 10, 11, 12, 13, 14] rfl rfl rfl rfl rfl rfl rfl 0 9 rfl rfl rfl (uw3 114 rfl rfl) (uw3 111 rfl rfl) (uw3 113 rfl rfl) (uwp 14 rfl rfl) (uw1 1 rfl rfl) ⟨by decide, by decide, by decide⟩ rfl ⟨by decide, by decide⟩ (Nat.le_of_ble_eq_true rfl)  ⟨Nat.zero_le _, Nat.zero_le _⟩ (dd dX9_rows 1 rfl) (fun H locs hW => ?_)
  refine lv_iload_n (pc := 4) hx hb (dd dX9_rows 2 rfl) rfl (lv_at hl 1 rfl) ?_
  refine lv_iload_n (pc := 5) hx hb (dd dX9_rows 3 rfl) rfl (lv_at hl 2 rfl) ?_
  obtain ⟨r_6, hr, h⟩ := bnd_ex h
  refine callSI (pc := 6) (na := 2) (As := [.int v1, .int v2]) (rest := []) (ws2 := (w_X9_rows g a_t a_land a_plan a_rows a_turns a_land_kinds a_land_nears a_rows_alongs a_rows_ends a_rows_numbers a_rows_sorted a_rows_spare a_rows_squares a_rows_starts a_rows_strips a_rows_tally a_turns_known a_rings a_ways a_planner a_slants a_reaper a_land_depths a_plan_numbers a_turns_lengths c_land_laid c_land_head c_land_fieldCount c_land_innerCount c_plan_there c_plan_size c_rows_there c_rows_size c_land_kinds c_land_nears c_rows_alongs c_rows_ends c_rows_numbers c_rows_sorted c_rows_spare c_rows_squares c_rows_starts c_rows_strips c_rows_tally c_turns_known)) M hl.1 hW (t_X9_isSlant l g v1 v2 r_6 hr) [] [0, 1, 2, 3, 4, 5, 6, 7, 8, 9, 10, 11, 12, 13, 14, 15, 16] [0, 1, 2, 3, 4, 5, 6, 7, 8, 9, 10, 11, 12, 13, 14, 15, 16] rfl rfl rfl rfl rfl rfl rfl (uw2 88 rfl rfl) (uw2 86 rfl rfl) (uw2 87 rfl rfl) (uw1 1 rfl rfl) ⟨by decide, by decide, by decide⟩ rfl ⟨by decide, by decide⟩ (Nat.le_of_ble_eq_true rfl) ⟨Nat.zero_le _, Nat.zero_le _⟩ (dd dX9_rows 4 rfl) (fun H locs hW => ?_)
  refine lv_if_ne (pc := 9) (tgt := 22) hx hb (dd dX9_rows 5 rfl) (by decide) (fun hc => ?_) (fun hc => ?_)
  · have h := it_f hc h
    refine lv_aload_n (pc := 22) hx hb (dd dX9_rows 11 rfl) rfl (lv_at hl 0 rfl) ?_
    refine lv_iload_n (pc := 23) hx hb (dd dX9_rows 12 rfl) rfl (lv_at hl 3 rfl) ?_
    obtain ⟨ex9, hr, h⟩ := bnd_ex h
    rcases ex9 with x9 | u9
    · have h := sE_l h
      cases h
    have h := sE_r h
    refine callVV (pc := 24) (na := 1) (As := [.int v3]) (rest := []) (ws2 := (w_X9_rows g a_t a_land a_plan a_rows a_turns a_land_kinds a_land_nears a_rows_alongs a_rows_ends a_rows_numbers a_rows_sorted a_rows_spare a_rows_squares a_rows_starts a_rows_strips a_rows_tally a_turns_known a_rings a_ways a_planner a_slants a_reaper a_land_depths a_plan_numbers a_turns_lengths c_land_laid c_land_head c_land_fieldCount c_land_innerCount c_plan_there c_plan_size c_rows_there c_rows_size c_land_kinds c_land_nears c_rows_alongs c_rows_ends c_rows_numbers c_rows_sorted c_rows_spare c_rows_squares c_rows_starts c_rows_strips c_rows_tally c_turns_known)) M hl.1 hW (t_X9_needWidth l g a_t a_rings a_land a_ways a_rows a_turns a_plan a_planner a_slants a_reaper v3 hr) rfl [0] [1, 2, 3, 4, 5, 6, 7, 8, 9, 10, 11, 12, 13, 14, 15, 16] [16, 0, 1, 2, 3, 4, 5, 6, 7, 8, 9, 10, 11, 12, 13, 14, 15] rfl rfl rfl rfl rfl rfl rfl 0 9 rfl rfl rfl (uw3 144 rfl rfl) (uw3 141 rfl rfl) (uw3 143 rfl rfl) (uwp 15 rfl rfl) (uw1 1 rfl rfl) ⟨by decide, by decide, by decide⟩ rfl ⟨by decide, by decide⟩ (Nat.le_of_ble_eq_true rfl)  ⟨Nat.zero_le _, Nat.zero_le _⟩ (dd dX9_rows 13 rfl) (fun H locs hW => ?_)
    have h := rmap_ex h
    refine lv_aload_n (pc := 27) hx hb (dd dX9_rows 14 rfl) rfl (lv_at hl 0 rfl) ?_
    obtain ⟨⟨c_plan_there_28, c_plan_size_28, c_rows_there_28, c_rows_size_28, c_turns_known_28⟩, hr, h⟩ := bnd_ex h
    have h := un5_at h
    refine callVV (pc := 28) (na := 0) (As := []) (rest := []) (ws2 := (w_X9_rows g a_t a_land a_plan a_rows a_turns a_land_kinds a_land_nears a_rows_alongs a_rows_ends a_rows_numbers a_rows_sorted a_rows_spare a_rows_squares a_rows_starts a_rows_strips a_rows_tally a_turns_known a_rings a_ways a_planner a_slants a_reaper a_land_depths a_plan_numbers a_turns_lengths c_land_laid c_land_head c_land_fieldCount c_land_innerCount c_plan_there_28 c_plan_size_28 c_rows_there_28 c_rows_size_28 c_land_kinds c_land_nears c_rows_alongs c_rows_ends c_rows_numbers c_rows_sorted c_rows_spare c_rows_squares c_rows_starts c_rows_strips c_rows_tally c_turns_known_28)) M hl.1 hW (t_X9_forgetRows l g a_t a_plan a_rows a_turns a_turns_known a_rings a_land a_ways a_planner a_slants a_reaper a_plan_numbers a_rows_strips a_rows_alongs a_rows_numbers a_rows_sorted a_rows_spare a_rows_tally a_rows_squares a_rows_starts a_rows_ends a_turns_lengths c_plan_there c_plan_size c_rows_there c_rows_size c_turns_known c_plan_there_28 c_plan_size_28 c_rows_there_28 c_rows_size_28 c_turns_known_28 hr) rfl [0, 2, 3, 4, 16] [1, 5, 6, 7, 8, 9, 10, 11, 12, 13, 14, 15] [12, 0, 13, 14, 15, 1, 2, 3, 4, 5, 6, 7, 8, 9, 10, 11, 16] rfl rfl rfl rfl rfl rfl rfl 0 9 rfl rfl rfl (uw2 237 rfl rfl) (uw2 234 rfl rfl) (uw2 236 rfl rfl) (uwp 3 rfl rfl) (uw1 1 rfl rfl) ⟨by decide, by decide, by decide⟩ rfl ⟨by decide, by decide⟩ (Nat.le_of_ble_eq_true rfl) ⟨Nat.zero_le _, Nat.zero_le _⟩ (dd dX9_rows 15 rfl) (fun H locs hW => ?_)
    refine lv_aload_n (pc := 31) hx hb (dd dX9_rows 16 rfl) rfl (lv_at hl 0 rfl) ?_
    refine rGet (pc := 32) M hW 0 3 iU9 rfl rfl (by decide) (uw2 53 rfl rfl) rfl (dd dX9_rows 17 rfl) ?_
    refine lv_iload_n (pc := 35) hx hb (dd dX9_rows 18 rfl) rfl (lv_at hl 1 rfl) ?_
    refine lv_iload_n (pc := 36) hx hb (dd dX9_rows 19 rfl) rfl (lv_at hl 2 rfl) ?_
    refine lv_iload_n (pc := 37) hx hb (dd dX9_rows 20 rfl) rfl (lv_at hl 3 rfl) ?_
    obtain ⟨⟨r_38, c_rows_there_38, c_rows_size_38, c_rows_alongs_38, c_rows_ends_38, c_rows_numbers_38, c_rows_sorted_38, c_rows_spare_38, c_rows_squares_38, c_rows_starts_38, c_rows_strips_38, c_rows_tally_38⟩, hr, h⟩ := bnd_ex h
    have h := un12_at h
    refine callVI (pc := 38) (na := 3) (As := [.int v1, .int v2, .int v3]) (rest := []) (ws2 := (w_X9_rows g a_t a_land a_plan a_rows a_turns a_land_kinds a_land_nears a_rows_alongs a_rows_ends a_rows_numbers a_rows_sorted a_rows_spare a_rows_squares a_rows_starts a_rows_strips a_rows_tally a_turns_known a_rings a_ways a_planner a_slants a_reaper a_land_depths a_plan_numbers a_turns_lengths c_land_laid c_land_head c_land_fieldCount c_land_innerCount c_plan_there_28 c_plan_size_28 c_rows_there_38 c_rows_size_38 c_land_kinds c_land_nears c_rows_alongs_38 c_rows_ends_38 c_rows_numbers_38 c_rows_sorted_38 c_rows_spare_38 c_rows_squares_38 c_rows_starts_38 c_rows_strips_38 c_rows_tally_38 c_turns_known_28)) M hl.1 hW (t_X6_make l g a_rows a_rows_alongs a_rows_ends a_land a_rows_numbers a_rows_sorted a_rows_spare a_rows_squares a_rows_starts a_rows_strips a_rows_tally a_land_kinds a_land_nears a_land_depths c_rows_there_28 c_rows_size_28 c_rows_alongs c_rows_ends c_land_laid c_land_head c_land_fieldCount c_land_innerCount c_rows_numbers c_rows_sorted c_rows_spare c_rows_squares c_rows_starts c_rows_strips c_rows_tally c_land_kinds c_land_nears v1 v2 v3 r_38 c_rows_there_38 c_rows_size_38 c_rows_alongs_38 c_rows_ends_38 c_rows_numbers_38 c_rows_sorted_38 c_rows_spare_38 c_rows_squares_38 c_rows_starts_38 c_rows_strips_38 c_rows_tally_38 hr) rfl [3, 7, 8, 1, 9, 10, 11, 12, 13, 14, 15, 5, 6] [0, 2, 4, 16] [0, 7, 1, 4, 2, 15, 16, 5, 6, 8, 9, 10, 11, 12, 13, 14, 3] rfl rfl rfl rfl rfl rfl rfl 3 6 rfl rfl rfl (uw3 149 rfl rfl) (uw3 146 rfl rfl) (uw3 147 rfl rfl) (uw3 148 rfl rfl) (uw1 7 rfl rfl) ⟨by decide, by decide, by decide⟩ rfl ⟨by decide, by decide⟩ (Nat.le_of_ble_eq_true rfl) ⟨Nat.zero_le _, Nat.zero_le _⟩ (dd dX9_rows 21 rfl) (fun H locs hW => ?_)
    have hW9 := hW
    cases h
    exact ret _ _ _ 41 hW9 rfl (dd dX9_rows 22 rfl)
  · have h := it_t hc h
    cases h
set_option maxHeartbeats 4000000 in
set_option maxRecDepth 100000 in
theorem x_X9_rows (l : Launch) (hl9 : l.stackTraces = false) (g : G9) (a_t a_land a_plan a_rows a_turns a_land_kinds a_land_nears a_rows_alongs a_rows_ends a_rows_numbers a_rows_sorted a_rows_spare a_rows_squares a_rows_starts a_rows_strips a_rows_tally a_turns_known a_rings a_ways a_planner a_slants a_reaper a_land_depths a_plan_numbers a_turns_lengths : Nat) (c_land_laid c_land_head c_land_fieldCount c_land_innerCount c_plan_there c_plan_size c_rows_there c_rows_size : Int32) (c_land_kinds c_land_nears c_rows_alongs c_rows_ends c_rows_numbers c_rows_sorted c_rows_spare c_rows_squares c_rows_starts c_rows_strips c_rows_tally c_turns_known : Ar) (v1 v2 v3 : Int32) (k0 : Nat) (h : X9_rows c_land_laid c_land_innerCount c_plan_there c_plan_size c_rows_there c_rows_size c_land_kinds c_land_nears c_rows_alongs c_rows_ends c_rows_numbers c_rows_sorted c_rows_spare c_rows_squares c_rows_starts c_rows_strips c_rows_tally c_turns_known v1 v2 v3 = some (.inl k0)) : CtX QnI l g yX9_rows cX9_rows 4 (some .int) 7 111 [.ref a_t, .int v1, .int v2, .int v3] (w_X9_rows g a_t a_land a_plan a_rows a_turns a_land_kinds a_land_nears a_rows_alongs a_rows_ends a_rows_numbers a_rows_sorted a_rows_spare a_rows_squares a_rows_starts a_rows_strips a_rows_tally a_turns_known a_rings a_ways a_planner a_slants a_reaper a_land_depths a_plan_numbers a_turns_lengths c_land_laid c_land_head c_land_fieldCount c_land_innerCount c_plan_there c_plan_size c_rows_there c_rows_size c_land_kinds c_land_nears c_rows_alongs c_rows_ends c_rows_numbers c_rows_sorted c_rows_spare c_rows_squares c_rows_starts c_rows_strips c_rows_tally c_turns_known) (excN k0) := by
  refine startX (by decide) (Nat.le_of_ble_eq_true rfl) ?_
  intro p e s m below meth c A Q ls args M hW hl hlk hex hA9 hQ
  have hx := M.1
  have hb := M.2.1
  have hown := M.2.2.2.1
  have hu := M.2.2.2.2.1
  have hl : lv_has ls 4 [(0, .ref a_t), (1, .int v1), (2, .int v2), (3, .int v3)] := hl
  unfold X9_rows at h
  obtain ⟨H, eH⟩ : ∃ z, z = s.heap := ⟨_, rfl⟩
  obtain ⟨locs, eL⟩ : ∃ z, z = ([] : List Loc) := ⟨_, rfl⟩
  rw [← eL] at hW ⊢
  suffices hS9 : WD g s A (w_X9_rows g a_t a_land a_plan a_rows a_turns a_land_kinds a_land_nears a_rows_alongs a_rows_ends a_rows_numbers a_rows_sorted a_rows_spare a_rows_squares a_rows_starts a_rows_strips a_rows_tally a_turns_known a_rings a_ways a_planner a_slants a_reaper a_land_depths a_plan_numbers a_turns_lengths c_land_laid c_land_head c_land_fieldCount c_land_innerCount c_plan_there c_plan_size c_rows_there c_rows_size c_land_kinds c_land_nears c_rows_alongs c_rows_ends c_rows_numbers c_rows_sorted c_rows_spare c_rows_squares c_rows_starts c_rows_strips c_rows_tally c_turns_known) H locs → W p l e (rm9x 7 111) s m args below meth c H locs 0 0 Q (F0 m 0 ls []) by
    rw [← eH] at hW ⊢
    exact hS9 hW
  clear hW eL
  intro hW
  refine lv_aload_n (pc := 0) hx hb (dd dX9_rows 0 rfl) rfl (lv_at hl 0 rfl) ?_
  obtain ⟨ex9, hr, h⟩ := bnd_ex h
  rcases ex9 with x9 | u9
  · have h := sE_l h
    have hW9 := hW
    cases h
    exact callXV (pc := 1) (na := 0) (As := []) (rest := []) M hl.1 hW9 hlk hex hA9 hQ (x_X9_needLaid l hl9 g a_t a_land a_rings a_ways a_rows a_turns a_plan a_planner a_slants a_reaper a_land_kinds a_land_nears a_land_depths c_land_laid c_land_head c_land_fieldCount c_land_innerCount _ hr) rfl [0, 1] [2, 3, 4, 5, 6, 7, 8, 9, 10, 11, 12, 13, 14, 15, 16] [15, 16, 0, 1, 2, 3, 4, 5, 6, 7, 8, 9, 10, 11, 12, 13, 14] rfl rfl rfl rfl rfl rfl rfl 0 9 rfl rfl rfl (uw3 114 rfl rfl) (uw3 111 rfl rfl) (uw3 113 rfl rfl) (uwp 14 rfl rfl) (uw1 1 rfl rfl) ⟨by decide, by decide, by decide⟩ rfl ⟨by decide, by decide⟩ (Nat.le_of_ble_eq_true rfl)  ⟨by decide, by decide⟩ (dd dX9_rows 1 rfl)
  have h := sE_r h
  refine callVV (pc := 1) (na := 0) (As := []) (rest := []) (ws2 := (w_X9_rows g a_t a_land a_plan a_rows a_turns a_land_kinds a_land_nears a_rows_alongs a_rows_ends a_rows_numbers a_rows_sorted a_rows_spare a_rows_squares a_rows_starts a_rows_strips a_rows_tally a_turns_known a_rings a_ways a_planner a_slants a_reaper a_land_depths a_plan_numbers a_turns_lengths c_land_laid c_land_head c_land_fieldCount c_land_innerCount c_plan_there c_plan_size c_rows_there c_rows_size c_land_kinds c_land_nears c_rows_alongs c_rows_ends c_rows_numbers c_rows_sorted c_rows_spare c_rows_squares c_rows_starts c_rows_strips c_rows_tally c_turns_known)) M hl.1 hW (t_X9_needLaid l g a_t a_land a_rings a_ways a_rows a_turns a_plan a_planner a_slants a_reaper a_land_kinds a_land_nears a_land_depths c_land_laid c_land_head c_land_fieldCount c_land_innerCount hr) rfl [0, 1] [2, 3, 4, 5, 6, 7, 8, 9, 10, 11, 12, 13, 14, 15, 16] [15, 16, 0, 1, 2, 3, 4, 5, 6, 7, 8, 9, 10, 11, 12, 13, 14] rfl rfl rfl rfl rfl rfl rfl 0 9 rfl rfl rfl (uw3 114 rfl rfl) (uw3 111 rfl rfl) (uw3 113 rfl rfl) (uwp 14 rfl rfl) (uw1 1 rfl rfl) ⟨by decide, by decide, by decide⟩ rfl ⟨by decide, by decide⟩ (Nat.le_of_ble_eq_true rfl)  ⟨Nat.zero_le _, Nat.zero_le _⟩ (dd dX9_rows 1 rfl) (fun H locs hW => ?_)
  refine lv_iload_n (pc := 4) hx hb (dd dX9_rows 2 rfl) rfl (lv_at hl 1 rfl) ?_
  refine lv_iload_n (pc := 5) hx hb (dd dX9_rows 3 rfl) rfl (lv_at hl 2 rfl) ?_
  obtain ⟨r_6, hr, h⟩ := bnd_ex h
  refine callSI (pc := 6) (na := 2) (As := [.int v1, .int v2]) (rest := []) (ws2 := (w_X9_rows g a_t a_land a_plan a_rows a_turns a_land_kinds a_land_nears a_rows_alongs a_rows_ends a_rows_numbers a_rows_sorted a_rows_spare a_rows_squares a_rows_starts a_rows_strips a_rows_tally a_turns_known a_rings a_ways a_planner a_slants a_reaper a_land_depths a_plan_numbers a_turns_lengths c_land_laid c_land_head c_land_fieldCount c_land_innerCount c_plan_there c_plan_size c_rows_there c_rows_size c_land_kinds c_land_nears c_rows_alongs c_rows_ends c_rows_numbers c_rows_sorted c_rows_spare c_rows_squares c_rows_starts c_rows_strips c_rows_tally c_turns_known)) M hl.1 hW (t_X9_isSlant l g v1 v2 r_6 hr) [] [0, 1, 2, 3, 4, 5, 6, 7, 8, 9, 10, 11, 12, 13, 14, 15, 16] [0, 1, 2, 3, 4, 5, 6, 7, 8, 9, 10, 11, 12, 13, 14, 15, 16] rfl rfl rfl rfl rfl rfl rfl (uw2 88 rfl rfl) (uw2 86 rfl rfl) (uw2 87 rfl rfl) (uw1 1 rfl rfl) ⟨by decide, by decide, by decide⟩ rfl ⟨by decide, by decide⟩ (Nat.le_of_ble_eq_true rfl) ⟨Nat.zero_le _, Nat.zero_le _⟩ (dd dX9_rows 4 rfl) (fun H locs hW => ?_)
  refine lv_if_ne (pc := 9) (tgt := 22) hx hb (dd dX9_rows 5 rfl) (by decide) (fun hc => ?_) (fun hc => ?_)
  · have h := it_f hc h
    refine lv_aload_n (pc := 22) hx hb (dd dX9_rows 11 rfl) rfl (lv_at hl 0 rfl) ?_
    refine lv_iload_n (pc := 23) hx hb (dd dX9_rows 12 rfl) rfl (lv_at hl 3 rfl) ?_
    obtain ⟨ex9, hr, h⟩ := bnd_ex h
    rcases ex9 with x9 | u9
    · have h := sE_l h
      have hW9 := hW
      cases h
      exact callXV (pc := 24) (na := 1) (As := [.int v3]) (rest := []) M hl.1 hW9 hlk hex hA9 hQ (x_X9_needWidth l hl9 g a_t a_rings a_land a_ways a_rows a_turns a_plan a_planner a_slants a_reaper v3 _ hr) rfl [0] [1, 2, 3, 4, 5, 6, 7, 8, 9, 10, 11, 12, 13, 14, 15, 16] [16, 0, 1, 2, 3, 4, 5, 6, 7, 8, 9, 10, 11, 12, 13, 14, 15] rfl rfl rfl rfl rfl rfl rfl 0 9 rfl rfl rfl (uw3 144 rfl rfl) (uw3 141 rfl rfl) (uw3 143 rfl rfl) (uwp 15 rfl rfl) (uw1 1 rfl rfl) ⟨by decide, by decide, by decide⟩ rfl ⟨by decide, by decide⟩ (Nat.le_of_ble_eq_true rfl)  ⟨by decide, by decide⟩ (dd dX9_rows 13 rfl)
    have h := sE_r h
    refine callVV (pc := 24) (na := 1) (As := [.int v3]) (rest := []) (ws2 := (w_X9_rows g a_t a_land a_plan a_rows a_turns a_land_kinds a_land_nears a_rows_alongs a_rows_ends a_rows_numbers a_rows_sorted a_rows_spare a_rows_squares a_rows_starts a_rows_strips a_rows_tally a_turns_known a_rings a_ways a_planner a_slants a_reaper a_land_depths a_plan_numbers a_turns_lengths c_land_laid c_land_head c_land_fieldCount c_land_innerCount c_plan_there c_plan_size c_rows_there c_rows_size c_land_kinds c_land_nears c_rows_alongs c_rows_ends c_rows_numbers c_rows_sorted c_rows_spare c_rows_squares c_rows_starts c_rows_strips c_rows_tally c_turns_known)) M hl.1 hW (t_X9_needWidth l g a_t a_rings a_land a_ways a_rows a_turns a_plan a_planner a_slants a_reaper v3 hr) rfl [0] [1, 2, 3, 4, 5, 6, 7, 8, 9, 10, 11, 12, 13, 14, 15, 16] [16, 0, 1, 2, 3, 4, 5, 6, 7, 8, 9, 10, 11, 12, 13, 14, 15] rfl rfl rfl rfl rfl rfl rfl 0 9 rfl rfl rfl (uw3 144 rfl rfl) (uw3 141 rfl rfl) (uw3 143 rfl rfl) (uwp 15 rfl rfl) (uw1 1 rfl rfl) ⟨by decide, by decide, by decide⟩ rfl ⟨by decide, by decide⟩ (Nat.le_of_ble_eq_true rfl)  ⟨Nat.zero_le _, Nat.zero_le _⟩ (dd dX9_rows 13 rfl) (fun H locs hW => ?_)
    exact (rmap_no h).elim
  · have h := it_t hc h
    have hW9 := hW
    cases h
    exact rThrowS (pc := 12) (text := "no such slant") hl9 M hl.1 hW9 hlk hex hA9 hQ (by decide) (by decide) (uw2 198 rfl rfl) (uw1 18 rfl rfl) (by decide) xg2 xb2 xo2 ⟨by decide, by decide⟩ (Nat.le_of_ble_eq_true rfl) ⟨by decide, by decide⟩ (dd dX9_rows 6 rfl) (dd dX9_rows 7 rfl) (dd dX9_rows 8 rfl) (dd dX9_rows 9 rfl) (dd dX9_rows 10 rfl)
abbrev w_X9_needRows (g : G9) (a_t a_rows a_rings a_land a_ways a_turns a_plan a_planner a_slants a_reaper a_rows_strips a_rows_alongs a_rows_numbers a_rows_sorted a_rows_spare a_rows_tally a_rows_squares a_rows_starts a_rows_ends : Nat) (c_rows_there c_rows_size : Int32) : va_W := [ob a_t 9 [.ref a_rings, .ref a_land, .ref a_ways, .ref a_rows, .ref a_turns, .ref a_plan, .ref a_planner, .ref a_slants, .ref a_reaper], ob a_rows 6 [.ref a_land, .ref a_rows_strips, .ref a_rows_alongs, .ref a_rows_numbers, .ref a_rows_sorted, .ref a_rows_spare, .ref a_rows_tally, .ref a_rows_squares, .ref a_rows_starts, .ref a_rows_ends, .int c_rows_there, .int c_rows_size]]
noncomputable def X9_needRows (c_rows_there : Int32) : Option (Nat ⊕ Unit) :=
  if c_rows_there = 0 then (some (.inl 4)) else (rmap <| some ())
set_option maxHeartbeats 4000000 in
set_option maxRecDepth 100000 in
theorem t_X9_needRows (l : Launch) (g : G9) (a_t a_rows a_rings a_land a_ways a_turns a_plan a_planner a_slants a_reaper a_rows_strips a_rows_alongs a_rows_numbers a_rows_sorted a_rows_spare a_rows_tally a_rows_squares a_rows_starts a_rows_ends : Nat) (c_rows_there c_rows_size : Int32) (h : X9_needRows c_rows_there = some (.inr ())) : CtV l g yX9_needRows cX9_needRows 1 6 90 [.ref a_t] (w_X9_needRows g a_t a_rows a_rings a_land a_ways a_turns a_plan a_planner a_slants a_reaper a_rows_strips a_rows_alongs a_rows_numbers a_rows_sorted a_rows_spare a_rows_tally a_rows_squares a_rows_starts a_rows_ends c_rows_there c_rows_size) (w_X9_needRows g a_t a_rows a_rings a_land a_ways a_turns a_plan a_planner a_slants a_reaper a_rows_strips a_rows_alongs a_rows_numbers a_rows_sorted a_rows_spare a_rows_tally a_rows_squares a_rows_starts a_rows_ends c_rows_there c_rows_size) := by
  refine startV (by decide) (Nat.le_of_ble_eq_true rfl) ?_
  intro p e s m below meth c A Q ls args M hW hl ret
  have hx := M.1
  have hb := M.2.1
  have hown := M.2.2.2.1
  have hu := M.2.2.2.2.1
  have hl : lv_has ls 1 [(0, .ref a_t)] := hl
  unfold X9_needRows at h
  obtain ⟨H, eH⟩ : ∃ z, z = s.heap := ⟨_, rfl⟩
  obtain ⟨locs, eL⟩ : ∃ z, z = ([] : List Loc) := ⟨_, rfl⟩
  rw [← eL] at hW ⊢
  suffices hS9 : WD g s A (w_X9_needRows g a_t a_rows a_rings a_land a_ways a_turns a_plan a_planner a_slants a_reaper a_rows_strips a_rows_alongs a_rows_numbers a_rows_sorted a_rows_spare a_rows_tally a_rows_squares a_rows_starts a_rows_ends c_rows_there c_rows_size) H locs → W p l e (rm9 6 90) s m args below meth c H locs 0 0 Q (F0 m 0 ls []) by
    rw [← eH] at hW ⊢
    exact hS9 hW
  clear hW eH eL
  intro hW
  refine lv_aload_n (pc := 0) hx hb (dd dX9_needRows 0 rfl) rfl (lv_at hl 0 rfl) ?_
  refine rGet (pc := 1) M hW 0 3 iU9 rfl rfl (by decide) (uw2 53 rfl rfl) rfl (dd dX9_needRows 1 rfl) ?_
  refine rGet (pc := 4) M hW 1 10 iU6 rfl rfl (by decide) (uw1 157 rfl rfl) rfl (dd dX9_needRows 2 rfl) ?_
  refine lv_if_ne (pc := 7) (tgt := 21) hx hb (dd dX9_needRows 3 rfl) (by decide) (fun hc => ?_) (fun hc => ?_)
  · have h := it_f hc h
    have h := rmap_ex h
    have hW9 := hW
    cases h
    exact ret _ _ _ 21 hW9 (dd dX9_needRows 9 rfl)
  · have h := it_t hc h
    cases h
set_option maxHeartbeats 4000000 in
set_option maxRecDepth 100000 in
theorem x_X9_needRows (l : Launch) (hl9 : l.stackTraces = false) (g : G9) (a_t a_rows a_rings a_land a_ways a_turns a_plan a_planner a_slants a_reaper a_rows_strips a_rows_alongs a_rows_numbers a_rows_sorted a_rows_spare a_rows_tally a_rows_squares a_rows_starts a_rows_ends : Nat) (c_rows_there c_rows_size : Int32) (k0 : Nat) (h : X9_needRows c_rows_there = some (.inl k0)) : CtX QnV l g yX9_needRows cX9_needRows 1 none 6 90 [.ref a_t] (w_X9_needRows g a_t a_rows a_rings a_land a_ways a_turns a_plan a_planner a_slants a_reaper a_rows_strips a_rows_alongs a_rows_numbers a_rows_sorted a_rows_spare a_rows_tally a_rows_squares a_rows_starts a_rows_ends c_rows_there c_rows_size) (excN k0) := by
  refine startX (by decide) (Nat.le_of_ble_eq_true rfl) ?_
  intro p e s m below meth c A Q ls args M hW hl hlk hex hA9 hQ
  have hx := M.1
  have hb := M.2.1
  have hown := M.2.2.2.1
  have hu := M.2.2.2.2.1
  have hl : lv_has ls 1 [(0, .ref a_t)] := hl
  unfold X9_needRows at h
  obtain ⟨H, eH⟩ : ∃ z, z = s.heap := ⟨_, rfl⟩
  obtain ⟨locs, eL⟩ : ∃ z, z = ([] : List Loc) := ⟨_, rfl⟩
  rw [← eL] at hW ⊢
  suffices hS9 : WD g s A (w_X9_needRows g a_t a_rows a_rings a_land a_ways a_turns a_plan a_planner a_slants a_reaper a_rows_strips a_rows_alongs a_rows_numbers a_rows_sorted a_rows_spare a_rows_tally a_rows_squares a_rows_starts a_rows_ends c_rows_there c_rows_size) H locs → W p l e (rm9x 6 90) s m args below meth c H locs 0 0 Q (F0 m 0 ls []) by
    rw [← eH] at hW ⊢
    exact hS9 hW
  clear hW eL
  intro hW
  refine lv_aload_n (pc := 0) hx hb (dd dX9_needRows 0 rfl) rfl (lv_at hl 0 rfl) ?_
  refine rGet (pc := 1) M hW 0 3 iU9 rfl rfl (by decide) (uw2 53 rfl rfl) rfl (dd dX9_needRows 1 rfl) ?_
  refine rGet (pc := 4) M hW 1 10 iU6 rfl rfl (by decide) (uw1 157 rfl rfl) rfl (dd dX9_needRows 2 rfl) ?_
  refine lv_if_ne (pc := 7) (tgt := 21) hx hb (dd dX9_needRows 3 rfl) (by decide) (fun hc => ?_) (fun hc => ?_)
  · have h := it_f hc h
    exact (rmap_no h).elim
  · have h := it_t hc h
    have hW9 := hW
    cases h
    exact rThrowSW (pc := 10) (text := "there are no rows") hl9 M hl.1 hW9 hlk hex hA9 hQ (by decide) (by decide) (uw3 115 rfl rfl) (uw1 20 rfl rfl) (by decide) xg4 xb4 xo4 ⟨by decide, by decide⟩ (Nat.le_of_ble_eq_true rfl) ⟨by decide, by decide⟩ (dd dX9_needRows 4 rfl) (dd dX9_needRows 5 rfl) (dd dX9_needRows 6 rfl) (dd dX9_needRows 7 rfl) (dd dX9_needRows 8 rfl)
abbrev w_X9_row (g : G9) (a_t a_rows a_rows_ends a_rows_starts a_rows_strips a_rings a_land a_ways a_turns a_plan a_planner a_slants a_reaper a_rows_alongs a_rows_numbers a_rows_sorted a_rows_spare a_rows_tally a_rows_squares : Nat) (c_rows_there c_rows_size : Int32) (c_rows_ends c_rows_starts c_rows_strips : Ar) : va_W := [ob a_t 9 [.ref a_rings, .ref a_land, .ref a_ways, .ref a_rows, .ref a_turns, .ref a_plan, .ref a_planner, .ref a_slants, .ref a_reaper], ob a_rows 6 [.ref a_land, .ref a_rows_strips, .ref a_rows_alongs, .ref a_rows_numbers, .ref a_rows_sorted, .ref a_rows_spare, .ref a_rows_tally, .ref a_rows_squares, .ref a_rows_starts, .ref a_rows_ends, .int c_rows_there, .int c_rows_size], ia g a_rows_ends 120 c_rows_ends, ia g a_rows_starts 61 c_rows_starts, ia g a_rows_strips 1200 c_rows_strips]
noncomputable def X9_row (c_rows_there c_rows_size : Int32) (c_rows_ends c_rows_starts c_rows_strips : Ar) (v1 v2 : Int32) : Option (Nat ⊕ Int32) :=
  bnd (X9_needRows c_rows_there) <| Sum.elim (fun x9 => some (.inl x9)) fun (_ : Unit) => if v1 < 0 then (some (.inl 5)) else (if v1 < c_rows_size then ((if v2 = 0 then (rmap <| ck (ix (2 * v1) 120) <| ck (ix (ag c_rows_ends (2 * v1)) 1200) <| some (ag c_rows_strips (ag c_rows_ends (2 * v1)))) else (if v2 = 1 then (rmap <| ck (ix (v1 + 1) 61) <| ck (ix v1 61) <| some ((ag c_rows_starts (v1 + 1)) - (ag c_rows_starts v1))) else (if v2 = 2 then (rmap <| ck (ix (2 * v1) 120) <| some ((ag c_rows_ends (2 * v1)) - (ag c_rows_ends (2 * v1)) / 40 * 40)) else (if v2 = 3 then (rmap <| ck (ix (2 * v1) 120) <| some ((ag c_rows_ends (2 * v1)) / 40)) else (if v2 = 4 then (rmap <| ck (ix ((2 * v1) + 1) 120) <| some ((ag c_rows_ends ((2 * v1) + 1)) - (ag c_rows_ends ((2 * v1) + 1)) / 40 * 40)) else (if v2 = 5 then (rmap <| ck (ix ((2 * v1) + 1) 120) <| some ((ag c_rows_ends ((2 * v1) + 1)) / 40)) else (some (.inl 5))))))))) else (some (.inl 5)))
set_option maxHeartbeats 4000000 in
set_option maxRecDepth 100000 in
theorem t_X9_row (l : Launch) (g : G9) (a_t a_rows a_rows_ends a_rows_starts a_rows_strips a_rings a_land a_ways a_turns a_plan a_planner a_slants a_reaper a_rows_alongs a_rows_numbers a_rows_sorted a_rows_spare a_rows_tally a_rows_squares : Nat) (c_rows_there c_rows_size : Int32) (c_rows_ends c_rows_starts c_rows_strips : Ar) (v1 v2 r0 : Int32) (h : X9_row c_rows_there c_rows_size c_rows_ends c_rows_starts c_rows_strips v1 v2 = some (.inr r0)) : CtI l g yX9_row cX9_row 3 .int 7 110 [.ref a_t, .int v1, .int v2] (w_X9_row g a_t a_rows a_rows_ends a_rows_starts a_rows_strips a_rings a_land a_ways a_turns a_plan a_planner a_slants a_reaper a_rows_alongs a_rows_numbers a_rows_sorted a_rows_spare a_rows_tally a_rows_squares c_rows_there c_rows_size c_rows_ends c_rows_starts c_rows_strips) r0 (w_X9_row g a_t a_rows a_rows_ends a_rows_starts a_rows_strips a_rings a_land a_ways a_turns a_plan a_planner a_slants a_reaper a_rows_alongs a_rows_numbers a_rows_sorted a_rows_spare a_rows_tally a_rows_squares c_rows_there c_rows_size c_rows_ends c_rows_starts c_rows_strips) := by
  refine startI (by decide) (Nat.le_of_ble_eq_true rfl) ?_
  intro p e s m below meth c A Q ls args M hW hl ret
  have hx := M.1
  have hb := M.2.1
  have hown := M.2.2.2.1
  have hu := M.2.2.2.2.1
  have hl : lv_has ls 3 [(0, .ref a_t), (1, .int v1), (2, .int v2)] := hl
  unfold X9_row at h
  obtain ⟨H, eH⟩ : ∃ z, z = s.heap := ⟨_, rfl⟩
  obtain ⟨locs, eL⟩ : ∃ z, z = ([] : List Loc) := ⟨_, rfl⟩
  rw [← eL] at hW ⊢
  suffices hS9 : WD g s A (w_X9_row g a_t a_rows a_rows_ends a_rows_starts a_rows_strips a_rings a_land a_ways a_turns a_plan a_planner a_slants a_reaper a_rows_alongs a_rows_numbers a_rows_sorted a_rows_spare a_rows_tally a_rows_squares c_rows_there c_rows_size c_rows_ends c_rows_starts c_rows_strips) H locs → W p l e (rm9 7 110) s m args below meth c H locs 0 0 Q (F0 m 0 ls []) by
    rw [← eH] at hW ⊢
    exact hS9 hW
  clear hW eH eL
  intro hW
  refine lv_aload_n (pc := 0) hx hb (dd dX9_row_p0 0 rfl) rfl (lv_at hl 0 rfl) ?_
  obtain ⟨ex9, hr, h⟩ := bnd_ex h
  rcases ex9 with x9 | u9
  · have h := sE_l h
    cases h
  have h := sE_r h
  refine callVV (pc := 1) (na := 0) (As := []) (rest := []) (ws2 := (w_X9_row g a_t a_rows a_rows_ends a_rows_starts a_rows_strips a_rings a_land a_ways a_turns a_plan a_planner a_slants a_reaper a_rows_alongs a_rows_numbers a_rows_sorted a_rows_spare a_rows_tally a_rows_squares c_rows_there c_rows_size c_rows_ends c_rows_starts c_rows_strips)) M hl.1 hW (t_X9_needRows l g a_t a_rows a_rings a_land a_ways a_turns a_plan a_planner a_slants a_reaper a_rows_strips a_rows_alongs a_rows_numbers a_rows_sorted a_rows_spare a_rows_tally a_rows_squares a_rows_starts a_rows_ends c_rows_there c_rows_size hr) rfl [0, 1] [2, 3, 4] [3, 4, 0, 1, 2] rfl rfl rfl rfl rfl rfl rfl 0 9 rfl rfl rfl (uw3 191 rfl rfl) (uw3 188 rfl rfl) (uw3 190 rfl rfl) (uwp 22 rfl rfl) (uw1 1 rfl rfl) ⟨by decide, by decide, by decide⟩ rfl ⟨by decide, by decide⟩ (Nat.le_of_ble_eq_true rfl)  ⟨Nat.zero_le _, Nat.zero_le _⟩ (dd dX9_row_p0 1 rfl) (fun H locs hW => ?_)
  refine lv_iload_n (pc := 4) hx hb (dd dX9_row_p0 2 rfl) rfl (lv_at hl 1 rfl) ?_
  refine lv_if_lt (pc := 5) (tgt := 19) hx hb (dd dX9_row_p0 3 rfl) (by decide) (fun hc => ?_) (fun hc => ?_)
  · have h := it_t hc h
    cases h
  · have h := it_f hc h
    refine lv_iload_n (pc := 8) hx hb (dd dX9_row_p0 4 rfl) rfl (lv_at hl 1 rfl) ?_
    refine lv_aload_n (pc := 9) hx hb (dd dX9_row_p0 5 rfl) rfl (lv_at hl 0 rfl) ?_
    refine rGet (pc := 10) M hW 0 3 iU9 rfl rfl (by decide) (uw2 53 rfl rfl) rfl (dd dX9_row_p0 6 rfl) ?_
    refine rGet (pc := 13) M hW 1 11 iU6 rfl rfl (by decide) (uw1 160 rfl rfl) rfl (dd dX9_row_p0 7 rfl) ?_
    refine lv_icmp_lt (pc := 16) (tgt := 29) hx hb (dd dX9_row_p0 8 rfl) (by decide) (fun hc => ?_) (fun hc => ?_)
    · have h := it_t hc h
      refine lv_iload_n (pc := 29) hx hb (dd dX9_row_p0 14 rfl) rfl (lv_at hl 2 rfl) ?_
      by_cases hc0 : v2 = 0
      · have h := it_t hc0 h
        refine lv_tableIn (pc := 30) (tgt := 68) hx hb (dd dX9_row_p0 15 rfl) (by rw [hc0]; decide) (by rw [hc0]; decide) (by rw [hc0]; rfl) (by decide) ?_
        have h := rmap_ex h
        refine lv_aload_n (pc := 68) hx hb (dd dX9_row_p0 16 rfl) rfl (lv_at hl 0 rfl) ?_
        refine rGet (pc := 69) M hW 0 3 iU9 rfl rfl (by decide) (uw2 53 rfl rfl) rfl (dd dX9_row_p0 17 rfl) ?_
        refine rGet (pc := 72) M hW 1 1 iU6 rfl rfl (by decide) (uw1 141 rfl rfl) rfl (dd dX9_row_p0 18 rfl) ?_
        refine lv_aload_n (pc := 75) hx hb (dd dX9_row_p0 19 rfl) rfl (lv_at hl 0 rfl) ?_
        refine rGet (pc := 76) M hW 0 3 iU9 rfl rfl (by decide) (uw2 53 rfl rfl) rfl (dd dX9_row_p0 20 rfl) ?_
        refine rGet (pc := 79) M hW 1 9 iU6 rfl rfl (by decide) (uw1 155 rfl rfl) rfl (dd dX9_row_p0 21 rfl) ?_
        refine lv_iconst (pc := 82) (v := 2) hx hb (dd dX9_row_p0 22 rfl) (by decide) ?_
        refine lv_iload_n (pc := 83) hx hb (dd dX9_row_p0 23 rfl) rfl (lv_at hl 1 rfl) ?_
        refine lv_imul (pc := 84) hx hb (dd dX9_row_p0 24 rfl) ?_
        obtain ⟨hi, h⟩ := ck_ex h
        refine rIald (pc := 85) M hW 2 rfl hi (dd dX9_row_p0 25 rfl) ?_
        obtain ⟨hi, h⟩ := ck_ex h
        refine rIald (pc := 86) M hW 4 rfl hi (dd dX9_row_p0 26 rfl) ?_
        have hW9 := hW
        cases h
        exact ret _ _ _ 87 hW9 rfl (dd dX9_row_p0 27 rfl)
      have h := it_f hc0 h
      by_cases hc1 : v2 = 1
      · have h := it_t hc1 h
        refine lv_tableIn (pc := 30) (tgt := 88) hx hb (dd dX9_row_p0 15 rfl) (by rw [hc1]; decide) (by rw [hc1]; decide) (by rw [hc1]; rfl) (by decide) ?_
        have h := rmap_ex h
        refine lv_aload_n (pc := 88) hx hb (dd dX9_row_p0 28 rfl) rfl (lv_at hl 0 rfl) ?_
        refine rGet (pc := 89) M hW 0 3 iU9 rfl rfl (by decide) (uw2 53 rfl rfl) rfl (dd dX9_row_p0 29 rfl) ?_
        refine rGet (pc := 92) M hW 1 8 iU6 rfl rfl (by decide) (uw1 152 rfl rfl) rfl (dd dX9_row_p0 30 rfl) ?_
        refine lv_iload_n (pc := 95) hx hb (dd dX9_row_p0 31 rfl) rfl (lv_at hl 1 rfl) ?_
        refine lv_iconst (pc := 96) (v := 1) hx hb (dd dX9_row_p0 32 rfl) (by decide) ?_
        refine lv_iadd (pc := 97) hx hb (dd dX9_row_p0 33 rfl) ?_
        obtain ⟨hi, h⟩ := ck_ex h
        refine rIald (pc := 98) M hW 3 rfl hi (dd dX9_row_p0 34 rfl) ?_
        refine lv_aload_n (pc := 99) hx hb (dd dX9_row_p0 35 rfl) rfl (lv_at hl 0 rfl) ?_
        refine rGet (pc := 100) M hW 0 3 iU9 rfl rfl (by decide) (uw2 53 rfl rfl) rfl (dd dX9_row_p0 36 rfl) ?_
        refine rGet (pc := 103) M hW 1 8 iU6 rfl rfl (by decide) (uw1 152 rfl rfl) rfl (dd dX9_row_p0 37 rfl) ?_
        refine lv_iload_n (pc := 106) hx hb (dd dX9_row_p0 38 rfl) rfl (lv_at hl 1 rfl) ?_
        obtain ⟨hi, h⟩ := ck_ex h
        refine rIald (pc := 107) M hW 3 rfl hi (dd dX9_row_p0 39 rfl) ?_
        refine lv_isub (pc := 108) hx hb (dd dX9_row_p0 40 rfl) ?_
        have hW9 := hW
        cases h
        exact ret _ _ _ 109 hW9 rfl (dd dX9_row_p0 41 rfl)
      have h := it_f hc1 h
      by_cases hc2 : v2 = 2
      · have h := it_t hc2 h
        refine lv_tableIn (pc := 30) (tgt := 110) hx hb (dd dX9_row_p0 15 rfl) (by rw [hc2]; decide) (by rw [hc2]; decide) (by rw [hc2]; rfl) (by decide) ?_
        have h := rmap_ex h
        refine lv_aload_n (pc := 110) hx hb (dd dX9_row_p0 42 rfl) rfl (lv_at hl 0 rfl) ?_
        refine rGet (pc := 111) M hW 0 3 iU9 rfl rfl (by decide) (uw2 53 rfl rfl) rfl (dd dX9_row_p0 43 rfl) ?_
        refine rGet (pc := 114) M hW 1 9 iU6 rfl rfl (by decide) (uw1 155 rfl rfl) rfl (dd dX9_row_p0 44 rfl) ?_
        refine lv_iconst (pc := 117) (v := 2) hx hb (dd dX9_row_p0 45 rfl) (by decide) ?_
        refine lv_iload_n (pc := 118) hx hb (dd dX9_row_p0 46 rfl) rfl (lv_at hl 1 rfl) ?_
        refine lv_imul (pc := 119) hx hb (dd dX9_row_p0 47 rfl) ?_
        obtain ⟨hi, h⟩ := ck_ex h
        refine rIald (pc := 120) M hW 2 rfl hi (dd dX9_row_p0 48 rfl) ?_
        refine lv_bipush (pc := 121) (v := 40) hx hb (dd dX9_row_p0 49 rfl) (by decide) ?_
        refine lv_irem (pc := 123) hx hb (dd dX9_row_p0 50 rfl) (by decide) ?_
        have hW9 := hW
        cases h
        exact ret _ _ _ 124 hW9 rfl (dd dX9_row_p0 51 rfl)
      have h := it_f hc2 h
      by_cases hc3 : v2 = 3
      · have h := it_t hc3 h
        refine lv_tableIn (pc := 30) (tgt := 125) hx hb (dd dX9_row_p0 15 rfl) (by rw [hc3]; decide) (by rw [hc3]; decide) (by rw [hc3]; rfl) (by decide) ?_
        have h := rmap_ex h
        refine lv_aload_n (pc := 125) hx hb (dd dX9_row_p0 52 rfl) rfl (lv_at hl 0 rfl) ?_
        refine rGet (pc := 126) M hW 0 3 iU9 rfl rfl (by decide) (uw2 53 rfl rfl) rfl (dd dX9_row_p0 53 rfl) ?_
        refine rGet (pc := 129) M hW 1 9 iU6 rfl rfl (by decide) (uw1 155 rfl rfl) rfl (dd dX9_row_p0 54 rfl) ?_
        refine lv_iconst (pc := 132) (v := 2) hx hb (dd dX9_row_p0 55 rfl) (by decide) ?_
        refine lv_iload_n (pc := 133) hx hb (dd dX9_row_p0 56 rfl) rfl (lv_at hl 1 rfl) ?_
        refine lv_imul (pc := 134) hx hb (dd dX9_row_p0 57 rfl) ?_
        obtain ⟨hi, h⟩ := ck_ex h
        refine rIald (pc := 135) M hW 2 rfl hi (dd dX9_row_p0 58 rfl) ?_
        refine lv_bipush (pc := 136) (v := 40) hx hb (dd dX9_row_p0 59 rfl) (by decide) ?_
        refine lv_idiv (pc := 138) hx hb (dd dX9_row_p1 0 rfl) (by decide) ?_
        have hW9 := hW
        cases h
        exact ret _ _ _ 139 hW9 rfl (dd dX9_row_p1 1 rfl)
      have h := it_f hc3 h
      by_cases hc4 : v2 = 4
      · have h := it_t hc4 h
        refine lv_tableIn (pc := 30) (tgt := 140) hx hb (dd dX9_row_p0 15 rfl) (by rw [hc4]; decide) (by rw [hc4]; decide) (by rw [hc4]; rfl) (by decide) ?_
        have h := rmap_ex h
        refine lv_aload_n (pc := 140) hx hb (dd dX9_row_p1 2 rfl) rfl (lv_at hl 0 rfl) ?_
        refine rGet (pc := 141) M hW 0 3 iU9 rfl rfl (by decide) (uw2 53 rfl rfl) rfl (dd dX9_row_p1 3 rfl) ?_
        refine rGet (pc := 144) M hW 1 9 iU6 rfl rfl (by decide) (uw1 155 rfl rfl) rfl (dd dX9_row_p1 4 rfl) ?_
        refine lv_iconst (pc := 147) (v := 2) hx hb (dd dX9_row_p1 5 rfl) (by decide) ?_
        refine lv_iload_n (pc := 148) hx hb (dd dX9_row_p1 6 rfl) rfl (lv_at hl 1 rfl) ?_
        refine lv_imul (pc := 149) hx hb (dd dX9_row_p1 7 rfl) ?_
        refine lv_iconst (pc := 150) (v := 1) hx hb (dd dX9_row_p1 8 rfl) (by decide) ?_
        refine lv_iadd (pc := 151) hx hb (dd dX9_row_p1 9 rfl) ?_
        obtain ⟨hi, h⟩ := ck_ex h
        refine rIald (pc := 152) M hW 2 rfl hi (dd dX9_row_p1 10 rfl) ?_
        refine lv_bipush (pc := 153) (v := 40) hx hb (dd dX9_row_p1 11 rfl) (by decide) ?_
        refine lv_irem (pc := 155) hx hb (dd dX9_row_p1 12 rfl) (by decide) ?_
        have hW9 := hW
        cases h
        exact ret _ _ _ 156 hW9 rfl (dd dX9_row_p1 13 rfl)
      have h := it_f hc4 h
      by_cases hc5 : v2 = 5
      · have h := it_t hc5 h
        refine lv_tableIn (pc := 30) (tgt := 157) hx hb (dd dX9_row_p0 15 rfl) (by rw [hc5]; decide) (by rw [hc5]; decide) (by rw [hc5]; rfl) (by decide) ?_
        have h := rmap_ex h
        refine lv_aload_n (pc := 157) hx hb (dd dX9_row_p1 14 rfl) rfl (lv_at hl 0 rfl) ?_
        refine rGet (pc := 158) M hW 0 3 iU9 rfl rfl (by decide) (uw2 53 rfl rfl) rfl (dd dX9_row_p1 15 rfl) ?_
        refine rGet (pc := 161) M hW 1 9 iU6 rfl rfl (by decide) (uw1 155 rfl rfl) rfl (dd dX9_row_p1 16 rfl) ?_
        refine lv_iconst (pc := 164) (v := 2) hx hb (dd dX9_row_p1 17 rfl) (by decide) ?_
        refine lv_iload_n (pc := 165) hx hb (dd dX9_row_p1 18 rfl) rfl (lv_at hl 1 rfl) ?_
        refine lv_imul (pc := 166) hx hb (dd dX9_row_p1 19 rfl) ?_
        refine lv_iconst (pc := 167) (v := 1) hx hb (dd dX9_row_p1 20 rfl) (by decide) ?_
        refine lv_iadd (pc := 168) hx hb (dd dX9_row_p1 21 rfl) ?_
        obtain ⟨hi, h⟩ := ck_ex h
        refine rIald (pc := 169) M hW 2 rfl hi (dd dX9_row_p1 22 rfl) ?_
        refine lv_bipush (pc := 170) (v := 40) hx hb (dd dX9_row_p1 23 rfl) (by decide) ?_
        refine lv_idiv (pc := 172) hx hb (dd dX9_row_p1 24 rfl) (by decide) ?_
        have hW9 := hW
        cases h
        exact ret _ _ _ 173 hW9 rfl (dd dX9_row_p1 25 rfl)
      have h := it_f hc5 h
      have hd0 := ne_toInt hc0 (a := 0) (by decide)
      have hd1 := ne_toInt hc1 (a := 1) (by decide)
      have hd2 := ne_toInt hc2 (a := 2) (by decide)
      have hd3 := ne_toInt hc3 (a := 3) (by decide)
      have hd4 := ne_toInt hc4 (a := 4) (by decide)
      have hd5 := ne_toInt hc5 (a := 5) (by decide)
      refine lv_tableOut (pc := 30) (tgt := 174) hx hb (dd dX9_row_p0 15 rfl) (by omega) (by decide) ?_
      cases h
    · have h := it_f hc h
      cases h
set_option maxHeartbeats 4000000 in
set_option maxRecDepth 100000 in
theorem x_X9_row (l : Launch) (hl9 : l.stackTraces = false) (g : G9) (a_t a_rows a_rows_ends a_rows_starts a_rows_strips a_rings a_land a_ways a_turns a_plan a_planner a_slants a_reaper a_rows_alongs a_rows_numbers a_rows_sorted a_rows_spare a_rows_tally a_rows_squares : Nat) (c_rows_there c_rows_size : Int32) (c_rows_ends c_rows_starts c_rows_strips : Ar) (v1 v2 : Int32) (k0 : Nat) (h : X9_row c_rows_there c_rows_size c_rows_ends c_rows_starts c_rows_strips v1 v2 = some (.inl k0)) : CtX QnI l g yX9_row cX9_row 3 (some .int) 7 110 [.ref a_t, .int v1, .int v2] (w_X9_row g a_t a_rows a_rows_ends a_rows_starts a_rows_strips a_rings a_land a_ways a_turns a_plan a_planner a_slants a_reaper a_rows_alongs a_rows_numbers a_rows_sorted a_rows_spare a_rows_tally a_rows_squares c_rows_there c_rows_size c_rows_ends c_rows_starts c_rows_strips) (excN k0) := by
  refine startX (by decide) (Nat.le_of_ble_eq_true rfl) ?_
  intro p e s m below meth c A Q ls args M hW hl hlk hex hA9 hQ
  have hx := M.1
  have hb := M.2.1
  have hown := M.2.2.2.1
  have hu := M.2.2.2.2.1
  have hl : lv_has ls 3 [(0, .ref a_t), (1, .int v1), (2, .int v2)] := hl
  unfold X9_row at h
  obtain ⟨H, eH⟩ : ∃ z, z = s.heap := ⟨_, rfl⟩
  obtain ⟨locs, eL⟩ : ∃ z, z = ([] : List Loc) := ⟨_, rfl⟩
  rw [← eL] at hW ⊢
  suffices hS9 : WD g s A (w_X9_row g a_t a_rows a_rows_ends a_rows_starts a_rows_strips a_rings a_land a_ways a_turns a_plan a_planner a_slants a_reaper a_rows_alongs a_rows_numbers a_rows_sorted a_rows_spare a_rows_tally a_rows_squares c_rows_there c_rows_size c_rows_ends c_rows_starts c_rows_strips) H locs → W p l e (rm9x 7 110) s m args below meth c H locs 0 0 Q (F0 m 0 ls []) by
    rw [← eH] at hW ⊢
    exact hS9 hW
  clear hW eL
  intro hW
  refine lv_aload_n (pc := 0) hx hb (dd dX9_row_p0 0 rfl) rfl (lv_at hl 0 rfl) ?_
  obtain ⟨ex9, hr, h⟩ := bnd_ex h
  rcases ex9 with x9 | u9
  · have h := sE_l h
    have hW9 := hW
    cases h
    exact callXV (pc := 1) (na := 0) (As := []) (rest := []) M hl.1 hW9 hlk hex hA9 hQ (x_X9_needRows l hl9 g a_t a_rows a_rings a_land a_ways a_turns a_plan a_planner a_slants a_reaper a_rows_strips a_rows_alongs a_rows_numbers a_rows_sorted a_rows_spare a_rows_tally a_rows_squares a_rows_starts a_rows_ends c_rows_there c_rows_size _ hr) rfl [0, 1] [2, 3, 4] [3, 4, 0, 1, 2] rfl rfl rfl rfl rfl rfl rfl 0 9 rfl rfl rfl (uw3 191 rfl rfl) (uw3 188 rfl rfl) (uw3 190 rfl rfl) (uwp 22 rfl rfl) (uw1 1 rfl rfl) ⟨by decide, by decide, by decide⟩ rfl ⟨by decide, by decide⟩ (Nat.le_of_ble_eq_true rfl)  ⟨by decide, by decide⟩ (dd dX9_row_p0 1 rfl)
  have h := sE_r h
  refine callVV (pc := 1) (na := 0) (As := []) (rest := []) (ws2 := (w_X9_row g a_t a_rows a_rows_ends a_rows_starts a_rows_strips a_rings a_land a_ways a_turns a_plan a_planner a_slants a_reaper a_rows_alongs a_rows_numbers a_rows_sorted a_rows_spare a_rows_tally a_rows_squares c_rows_there c_rows_size c_rows_ends c_rows_starts c_rows_strips)) M hl.1 hW (t_X9_needRows l g a_t a_rows a_rings a_land a_ways a_turns a_plan a_planner a_slants a_reaper a_rows_strips a_rows_alongs a_rows_numbers a_rows_sorted a_rows_spare a_rows_tally a_rows_squares a_rows_starts a_rows_ends c_rows_there c_rows_size hr) rfl [0, 1] [2, 3, 4] [3, 4, 0, 1, 2] rfl rfl rfl rfl rfl rfl rfl 0 9 rfl rfl rfl (uw3 191 rfl rfl) (uw3 188 rfl rfl) (uw3 190 rfl rfl) (uwp 22 rfl rfl) (uw1 1 rfl rfl) ⟨by decide, by decide, by decide⟩ rfl ⟨by decide, by decide⟩ (Nat.le_of_ble_eq_true rfl)  ⟨Nat.zero_le _, Nat.zero_le _⟩ (dd dX9_row_p0 1 rfl) (fun H locs hW => ?_)
  refine lv_iload_n (pc := 4) hx hb (dd dX9_row_p0 2 rfl) rfl (lv_at hl 1 rfl) ?_
  refine lv_if_lt (pc := 5) (tgt := 19) hx hb (dd dX9_row_p0 3 rfl) (by decide) (fun hc => ?_) (fun hc => ?_)
  · have h := it_t hc h
    have hW9 := hW
    cases h
    exact rThrowN (pc := 19) (text := "no such row") hl9 M hl.1 hW9 hlk hex hA9 hQ (uw3 193 rfl rfl) (uw1 21 rfl rfl) (by decide) xg5 xb5 xo5 ⟨by decide, by decide⟩ (Nat.le_of_ble_eq_true rfl) ⟨by decide, by decide⟩ (dd dX9_row_p0 9 rfl) (dd dX9_row_p0 10 rfl) (dd dX9_row_p0 11 rfl) (dd dX9_row_p0 12 rfl) (dd dX9_row_p0 13 rfl)
  · have h := it_f hc h
    refine lv_iload_n (pc := 8) hx hb (dd dX9_row_p0 4 rfl) rfl (lv_at hl 1 rfl) ?_
    refine lv_aload_n (pc := 9) hx hb (dd dX9_row_p0 5 rfl) rfl (lv_at hl 0 rfl) ?_
    refine rGet (pc := 10) M hW 0 3 iU9 rfl rfl (by decide) (uw2 53 rfl rfl) rfl (dd dX9_row_p0 6 rfl) ?_
    refine rGet (pc := 13) M hW 1 11 iU6 rfl rfl (by decide) (uw1 160 rfl rfl) rfl (dd dX9_row_p0 7 rfl) ?_
    refine lv_icmp_lt (pc := 16) (tgt := 29) hx hb (dd dX9_row_p0 8 rfl) (by decide) (fun hc => ?_) (fun hc => ?_)
    · have h := it_t hc h
      refine lv_iload_n (pc := 29) hx hb (dd dX9_row_p0 14 rfl) rfl (lv_at hl 2 rfl) ?_
      by_cases hc0 : v2 = 0
      · have h := it_t hc0 h
        refine lv_tableIn (pc := 30) (tgt := 68) hx hb (dd dX9_row_p0 15 rfl) (by rw [hc0]; decide) (by rw [hc0]; decide) (by rw [hc0]; rfl) (by decide) ?_
        exact (rmap_no h).elim
      have h := it_f hc0 h
      by_cases hc1 : v2 = 1
      · have h := it_t hc1 h
        refine lv_tableIn (pc := 30) (tgt := 88) hx hb (dd dX9_row_p0 15 rfl) (by rw [hc1]; decide) (by rw [hc1]; decide) (by rw [hc1]; rfl) (by decide) ?_
        exact (rmap_no h).elim
      have h := it_f hc1 h
      by_cases hc2 : v2 = 2
      · have h := it_t hc2 h
        refine lv_tableIn (pc := 30) (tgt := 110) hx hb (dd dX9_row_p0 15 rfl) (by rw [hc2]; decide) (by rw [hc2]; decide) (by rw [hc2]; rfl) (by decide) ?_
        exact (rmap_no h).elim
      have h := it_f hc2 h
      by_cases hc3 : v2 = 3
      · have h := it_t hc3 h
        refine lv_tableIn (pc := 30) (tgt := 125) hx hb (dd dX9_row_p0 15 rfl) (by rw [hc3]; decide) (by rw [hc3]; decide) (by rw [hc3]; rfl) (by decide) ?_
        exact (rmap_no h).elim
      have h := it_f hc3 h
      by_cases hc4 : v2 = 4
      · have h := it_t hc4 h
        refine lv_tableIn (pc := 30) (tgt := 140) hx hb (dd dX9_row_p0 15 rfl) (by rw [hc4]; decide) (by rw [hc4]; decide) (by rw [hc4]; rfl) (by decide) ?_
        exact (rmap_no h).elim
      have h := it_f hc4 h
      by_cases hc5 : v2 = 5
      · have h := it_t hc5 h
        refine lv_tableIn (pc := 30) (tgt := 157) hx hb (dd dX9_row_p0 15 rfl) (by rw [hc5]; decide) (by rw [hc5]; decide) (by rw [hc5]; rfl) (by decide) ?_
        exact (rmap_no h).elim
      have h := it_f hc5 h
      have hd0 := ne_toInt hc0 (a := 0) (by decide)
      have hd1 := ne_toInt hc1 (a := 1) (by decide)
      have hd2 := ne_toInt hc2 (a := 2) (by decide)
      have hd3 := ne_toInt hc3 (a := 3) (by decide)
      have hd4 := ne_toInt hc4 (a := 4) (by decide)
      have hd5 := ne_toInt hc5 (a := 5) (by decide)
      refine lv_tableOut (pc := 30) (tgt := 174) hx hb (dd dX9_row_p0 15 rfl) (by omega) (by decide) ?_
      have hW9 := hW
      cases h
      exact rThrowN (pc := 174) (text := "no such thing of a row") hl9 M hl.1 hW9 hlk hex hA9 hQ (uw3 193 rfl rfl) (uw1 21 rfl rfl) (by decide) xg5 xb5 xo5 ⟨by decide, by decide⟩ (Nat.le_of_ble_eq_true rfl) ⟨by decide, by decide⟩ (dd dX9_row_p1 26 rfl) (dd dX9_row_p1 27 rfl) (dd dX9_row_p1 28 rfl) (dd dX9_row_p1 29 rfl) (dd dX9_row_p1 30 rfl)
    · have h := it_f hc h
      have hW9 := hW
      cases h
      exact rThrowN (pc := 19) (text := "no such row") hl9 M hl.1 hW9 hlk hex hA9 hQ (uw3 193 rfl rfl) (uw1 21 rfl rfl) (by decide) xg5 xb5 xo5 ⟨by decide, by decide⟩ (Nat.le_of_ble_eq_true rfl) ⟨by decide, by decide⟩ (dd dX9_row_p0 9 rfl) (dd dX9_row_p0 10 rfl) (dd dX9_row_p0 11 rfl) (dd dX9_row_p0 12 rfl) (dd dX9_row_p0 13 rfl)
abbrev w_X9_rowOf (g : G9) (a_t a_rows a_rows_numbers a_rings a_land a_ways a_turns a_plan a_planner a_slants a_reaper a_rows_strips a_rows_alongs a_rows_sorted a_rows_spare a_rows_tally a_rows_squares a_rows_starts a_rows_ends : Nat) (c_rows_there c_rows_size : Int32) (c_rows_numbers : Ar) : va_W := [ob a_t 9 [.ref a_rings, .ref a_land, .ref a_ways, .ref a_rows, .ref a_turns, .ref a_plan, .ref a_planner, .ref a_slants, .ref a_reaper], ob a_rows 6 [.ref a_land, .ref a_rows_strips, .ref a_rows_alongs, .ref a_rows_numbers, .ref a_rows_sorted, .ref a_rows_spare, .ref a_rows_tally, .ref a_rows_squares, .ref a_rows_starts, .ref a_rows_ends, .int c_rows_there, .int c_rows_size], ia g a_rows_numbers 1200 c_rows_numbers]
noncomputable def X9_rowOf (c_rows_there : Int32) (c_rows_numbers : Ar) (v1 v2 : Int32) : Option (Nat ⊕ Int32) :=
  bnd (X9_needRows c_rows_there) <| Sum.elim (fun x9 => some (.inl x9)) fun (_ : Unit) => rmap <| bnd (X9_isSquare v1 v2) <| fun r_6 => if r_6 = 0 then (some (-1)) else (bnd (X9_squareAt v1 v2) <| fun r_21 => ck (ix r_21 1200) <| some (ag c_rows_numbers r_21))
set_option maxHeartbeats 4000000 in
set_option maxRecDepth 100000 in
theorem t_X9_rowOf (l : Launch) (g : G9) (a_t a_rows a_rows_numbers a_rings a_land a_ways a_turns a_plan a_planner a_slants a_reaper a_rows_strips a_rows_alongs a_rows_sorted a_rows_spare a_rows_tally a_rows_squares a_rows_starts a_rows_ends : Nat) (c_rows_there c_rows_size : Int32) (c_rows_numbers : Ar) (v1 v2 r0 : Int32) (h : X9_rowOf c_rows_there c_rows_numbers v1 v2 = some (.inr r0)) : CtI l g yX9_rowOf cX9_rowOf 3 .int 7 110 [.ref a_t, .int v1, .int v2] (w_X9_rowOf g a_t a_rows a_rows_numbers a_rings a_land a_ways a_turns a_plan a_planner a_slants a_reaper a_rows_strips a_rows_alongs a_rows_sorted a_rows_spare a_rows_tally a_rows_squares a_rows_starts a_rows_ends c_rows_there c_rows_size c_rows_numbers) r0 (w_X9_rowOf g a_t a_rows a_rows_numbers a_rings a_land a_ways a_turns a_plan a_planner a_slants a_reaper a_rows_strips a_rows_alongs a_rows_sorted a_rows_spare a_rows_tally a_rows_squares a_rows_starts a_rows_ends c_rows_there c_rows_size c_rows_numbers) := by
  refine startI (by decide) (Nat.le_of_ble_eq_true rfl) ?_
  intro p e s m below meth c A Q ls args M hW hl ret
  have hx := M.1
  have hb := M.2.1
  have hown := M.2.2.2.1
  have hu := M.2.2.2.2.1
  have hl : lv_has ls 3 [(0, .ref a_t), (1, .int v1), (2, .int v2)] := hl
  unfold X9_rowOf at h
  obtain ⟨H, eH⟩ : ∃ z, z = s.heap := ⟨_, rfl⟩
  obtain ⟨locs, eL⟩ : ∃ z, z = ([] : List Loc) := ⟨_, rfl⟩
  rw [← eL] at hW ⊢
  suffices hS9 : WD g s A (w_X9_rowOf g a_t a_rows a_rows_numbers a_rings a_land a_ways a_turns a_plan a_planner a_slants a_reaper a_rows_strips a_rows_alongs a_rows_sorted a_rows_spare a_rows_tally a_rows_squares a_rows_starts a_rows_ends c_rows_there c_rows_size c_rows_numbers) H locs → W p l e (rm9 7 110) s m args below meth c H locs 0 0 Q (F0 m 0 ls []) by
    rw [← eH] at hW ⊢
    exact hS9 hW
  clear hW eH eL
  intro hW
  refine lv_aload_n (pc := 0) hx hb (dd dX9_rowOf 0 rfl) rfl (lv_at hl 0 rfl) ?_
  obtain ⟨ex9, hr, h⟩ := bnd_ex h
  rcases ex9 with x9 | u9
  · have h := sE_l h
    cases h
  have h := sE_r h
  refine callVV (pc := 1) (na := 0) (As := []) (rest := []) (ws2 := (w_X9_rowOf g a_t a_rows a_rows_numbers a_rings a_land a_ways a_turns a_plan a_planner a_slants a_reaper a_rows_strips a_rows_alongs a_rows_sorted a_rows_spare a_rows_tally a_rows_squares a_rows_starts a_rows_ends c_rows_there c_rows_size c_rows_numbers)) M hl.1 hW (t_X9_needRows l g a_t a_rows a_rings a_land a_ways a_turns a_plan a_planner a_slants a_reaper a_rows_strips a_rows_alongs a_rows_numbers a_rows_sorted a_rows_spare a_rows_tally a_rows_squares a_rows_starts a_rows_ends c_rows_there c_rows_size hr) rfl [0, 1] [2] [1, 2, 0] rfl rfl rfl rfl rfl rfl rfl 0 9 rfl rfl rfl (uw3 191 rfl rfl) (uw3 188 rfl rfl) (uw3 190 rfl rfl) (uwp 22 rfl rfl) (uw1 1 rfl rfl) ⟨by decide, by decide, by decide⟩ rfl ⟨by decide, by decide⟩ (Nat.le_of_ble_eq_true rfl)  ⟨Nat.zero_le _, Nat.zero_le _⟩ (dd dX9_rowOf 1 rfl) (fun H locs hW => ?_)
  have h := rmap_ex h
  refine lv_iload_n (pc := 4) hx hb (dd dX9_rowOf 2 rfl) rfl (lv_at hl 1 rfl) ?_
  refine lv_iload_n (pc := 5) hx hb (dd dX9_rowOf 3 rfl) rfl (lv_at hl 2 rfl) ?_
  obtain ⟨r_6, hr, h⟩ := bnd_ex h
  refine callSI (pc := 6) (na := 2) (As := [.int v1, .int v2]) (rest := []) (ws2 := (w_X9_rowOf g a_t a_rows a_rows_numbers a_rings a_land a_ways a_turns a_plan a_planner a_slants a_reaper a_rows_strips a_rows_alongs a_rows_sorted a_rows_spare a_rows_tally a_rows_squares a_rows_starts a_rows_ends c_rows_there c_rows_size c_rows_numbers)) M hl.1 hW (t_X9_isSquare l g v1 v2 r_6 hr) [] [0, 1, 2] [0, 1, 2] rfl rfl rfl rfl rfl rfl rfl (uw3 92 rfl rfl) (uw3 131 rfl rfl) (uw3 91 rfl rfl) (uw1 1 rfl rfl) ⟨by decide, by decide, by decide⟩ rfl ⟨by decide, by decide⟩ (Nat.le_of_ble_eq_true rfl) ⟨Nat.zero_le _, Nat.zero_le _⟩ (dd dX9_rowOf 4 rfl) (fun H locs hW => ?_)
  refine lv_if_eq (pc := 9) (tgt := 28) hx hb (dd dX9_rowOf 5 rfl) (by decide) (fun hc => ?_) (fun hc => ?_)
  · have h := it_t hc h
    refine lv_iconst (pc := 28) (v := (-1)) hx hb (dd dX9_rowOf 14 rfl) (by decide) ?_
    have hW9 := hW
    cases h
    exact ret _ _ _ 29 hW9 rfl (dd dX9_rowOf 15 rfl)
  · have h := it_f hc h
    refine lv_aload_n (pc := 12) hx hb (dd dX9_rowOf 6 rfl) rfl (lv_at hl 0 rfl) ?_
    refine rGet (pc := 13) M hW 0 3 iU9 rfl rfl (by decide) (uw2 53 rfl rfl) rfl (dd dX9_rowOf 7 rfl) ?_
    refine rGet (pc := 16) M hW 1 3 iU6 rfl rfl (by decide) (uw1 144 rfl rfl) rfl (dd dX9_rowOf 8 rfl) ?_
    refine lv_iload_n (pc := 19) hx hb (dd dX9_rowOf 9 rfl) rfl (lv_at hl 1 rfl) ?_
    refine lv_iload_n (pc := 20) hx hb (dd dX9_rowOf 10 rfl) rfl (lv_at hl 2 rfl) ?_
    obtain ⟨r_21, hr, h⟩ := bnd_ex h
    refine callSI (pc := 21) (na := 2) (As := [.int v1, .int v2]) (rest := [.ref a_rows_numbers]) (ws2 := (w_X9_rowOf g a_t a_rows a_rows_numbers a_rings a_land a_ways a_turns a_plan a_planner a_slants a_reaper a_rows_strips a_rows_alongs a_rows_sorted a_rows_spare a_rows_tally a_rows_squares a_rows_starts a_rows_ends c_rows_there c_rows_size c_rows_numbers)) M hl.1 hW (t_X9_squareAt l g v1 v2 r_21 hr) [] [0, 1, 2] [0, 1, 2] rfl rfl rfl rfl rfl rfl rfl (uw3 95 rfl rfl) (uw3 132 rfl rfl) (uw3 94 rfl rfl) (uw1 1 rfl rfl) ⟨by decide, by decide, by decide⟩ rfl ⟨by decide, by decide⟩ (Nat.le_of_ble_eq_true rfl) ⟨Nat.zero_le _, Nat.zero_le _⟩ (dd dX9_rowOf 11 rfl) (fun H locs hW => ?_)
    obtain ⟨hi, h⟩ := ck_ex h
    refine rIald (pc := 24) M hW 2 rfl hi (dd dX9_rowOf 12 rfl) ?_
    refine lv_goto (pc := 25) (tgt := 29) hx hb (dd dX9_rowOf 13 rfl) (by decide) ?_
    have hW9 := hW
    cases h
    exact ret _ _ _ 29 hW9 rfl (dd dX9_rowOf 15 rfl)
set_option maxHeartbeats 4000000 in
set_option maxRecDepth 100000 in
theorem x_X9_rowOf (l : Launch) (hl9 : l.stackTraces = false) (g : G9) (a_t a_rows a_rows_numbers a_rings a_land a_ways a_turns a_plan a_planner a_slants a_reaper a_rows_strips a_rows_alongs a_rows_sorted a_rows_spare a_rows_tally a_rows_squares a_rows_starts a_rows_ends : Nat) (c_rows_there c_rows_size : Int32) (c_rows_numbers : Ar) (v1 v2 : Int32) (k0 : Nat) (h : X9_rowOf c_rows_there c_rows_numbers v1 v2 = some (.inl k0)) : CtX QnI l g yX9_rowOf cX9_rowOf 3 (some .int) 7 110 [.ref a_t, .int v1, .int v2] (w_X9_rowOf g a_t a_rows a_rows_numbers a_rings a_land a_ways a_turns a_plan a_planner a_slants a_reaper a_rows_strips a_rows_alongs a_rows_sorted a_rows_spare a_rows_tally a_rows_squares a_rows_starts a_rows_ends c_rows_there c_rows_size c_rows_numbers) (excN k0) := by
  refine startX (by decide) (Nat.le_of_ble_eq_true rfl) ?_
  intro p e s m below meth c A Q ls args M hW hl hlk hex hA9 hQ
  have hx := M.1
  have hb := M.2.1
  have hown := M.2.2.2.1
  have hu := M.2.2.2.2.1
  have hl : lv_has ls 3 [(0, .ref a_t), (1, .int v1), (2, .int v2)] := hl
  unfold X9_rowOf at h
  obtain ⟨H, eH⟩ : ∃ z, z = s.heap := ⟨_, rfl⟩
  obtain ⟨locs, eL⟩ : ∃ z, z = ([] : List Loc) := ⟨_, rfl⟩
  rw [← eL] at hW ⊢
  suffices hS9 : WD g s A (w_X9_rowOf g a_t a_rows a_rows_numbers a_rings a_land a_ways a_turns a_plan a_planner a_slants a_reaper a_rows_strips a_rows_alongs a_rows_sorted a_rows_spare a_rows_tally a_rows_squares a_rows_starts a_rows_ends c_rows_there c_rows_size c_rows_numbers) H locs → W p l e (rm9x 7 110) s m args below meth c H locs 0 0 Q (F0 m 0 ls []) by
    rw [← eH] at hW ⊢
    exact hS9 hW
  clear hW eL
  intro hW
  refine lv_aload_n (pc := 0) hx hb (dd dX9_rowOf 0 rfl) rfl (lv_at hl 0 rfl) ?_
  obtain ⟨ex9, hr, h⟩ := bnd_ex h
  rcases ex9 with x9 | u9
  · have h := sE_l h
    have hW9 := hW
    cases h
    exact callXV (pc := 1) (na := 0) (As := []) (rest := []) M hl.1 hW9 hlk hex hA9 hQ (x_X9_needRows l hl9 g a_t a_rows a_rings a_land a_ways a_turns a_plan a_planner a_slants a_reaper a_rows_strips a_rows_alongs a_rows_numbers a_rows_sorted a_rows_spare a_rows_tally a_rows_squares a_rows_starts a_rows_ends c_rows_there c_rows_size _ hr) rfl [0, 1] [2] [1, 2, 0] rfl rfl rfl rfl rfl rfl rfl 0 9 rfl rfl rfl (uw3 191 rfl rfl) (uw3 188 rfl rfl) (uw3 190 rfl rfl) (uwp 22 rfl rfl) (uw1 1 rfl rfl) ⟨by decide, by decide, by decide⟩ rfl ⟨by decide, by decide⟩ (Nat.le_of_ble_eq_true rfl)  ⟨by decide, by decide⟩ (dd dX9_rowOf 1 rfl)
  have h := sE_r h
  refine callVV (pc := 1) (na := 0) (As := []) (rest := []) (ws2 := (w_X9_rowOf g a_t a_rows a_rows_numbers a_rings a_land a_ways a_turns a_plan a_planner a_slants a_reaper a_rows_strips a_rows_alongs a_rows_sorted a_rows_spare a_rows_tally a_rows_squares a_rows_starts a_rows_ends c_rows_there c_rows_size c_rows_numbers)) M hl.1 hW (t_X9_needRows l g a_t a_rows a_rings a_land a_ways a_turns a_plan a_planner a_slants a_reaper a_rows_strips a_rows_alongs a_rows_numbers a_rows_sorted a_rows_spare a_rows_tally a_rows_squares a_rows_starts a_rows_ends c_rows_there c_rows_size hr) rfl [0, 1] [2] [1, 2, 0] rfl rfl rfl rfl rfl rfl rfl 0 9 rfl rfl rfl (uw3 191 rfl rfl) (uw3 188 rfl rfl) (uw3 190 rfl rfl) (uwp 22 rfl rfl) (uw1 1 rfl rfl) ⟨by decide, by decide, by decide⟩ rfl ⟨by decide, by decide⟩ (Nat.le_of_ble_eq_true rfl)  ⟨Nat.zero_le _, Nat.zero_le _⟩ (dd dX9_rowOf 1 rfl) (fun H locs hW => ?_)
  exact (rmap_no h).elim
noncomputable def X9_orNone (v0 : Int32) : Option Int32 :=
  if v0 < 1000000 then (some v0) else (some (-1))
set_option maxHeartbeats 4000000 in
set_option maxRecDepth 100000 in
theorem t_X9_orNone (l : Launch) (g : G9) (v0 r0 : Int32) (h : X9_orNone v0 = some r0) : CtI l g yX9_orNone cX9_orNone 1 .int 0 0 [.int v0] [] r0 [] := by
  refine startI (by decide) (Nat.le_of_ble_eq_true rfl) ?_
  intro p e s m below meth c A Q ls args M hW hl ret
  have hx := M.1
  have hb := M.2.1
  have hown := M.2.2.2.1
  have hu := M.2.2.2.2.1
  have hl : lv_has ls 1 [(0, .int v0)] := hl
  unfold X9_orNone at h
  obtain ⟨H, eH⟩ : ∃ z, z = s.heap := ⟨_, rfl⟩
  obtain ⟨locs, eL⟩ : ∃ z, z = ([] : List Loc) := ⟨_, rfl⟩
  rw [← eL] at hW ⊢
  suffices hS9 : WD g s A [] H locs → W p l e (rm9 0 0) s m args below meth c H locs 0 0 Q (F0 m 0 ls []) by
    rw [← eH] at hW ⊢
    exact hS9 hW
  clear hW eH eL
  intro hW
  refine lv_iload_n (pc := 0) hx hb (dd dX9_orNone 0 rfl) rfl (lv_at hl 0 rfl) ?_
  refine lv_ldc (pc := 1) (v := 1000000) hx hb hown (hu _ (uw4 2 rfl rfl)) (dd dX9_orNone 1 rfl) ?_
  refine lv_icmp_lt (pc := 3) (tgt := 10) hx hb (dd dX9_orNone 2 rfl) (by decide) (fun hc => ?_) (fun hc => ?_)
  · have h := it_t hc h
    refine lv_iload_n (pc := 10) hx hb (dd dX9_orNone 5 rfl) rfl (lv_at hl 0 rfl) ?_
    have hW9 := hW
    cases h
    exact ret _ _ _ 11 hW9 rfl (dd dX9_orNone 6 rfl)
  · have h := it_f hc h
    refine lv_iconst (pc := 6) (v := (-1)) hx hb (dd dX9_orNone 3 rfl) (by decide) ?_
    refine lv_goto (pc := 7) (tgt := 11) hx hb (dd dX9_orNone 4 rfl) (by decide) ?_
    have hW9 := hW
    cases h
    exact ret _ _ _ 11 hW9 rfl (dd dX9_orNone 6 rfl)
abbrev w_X9_way (g : G9) (a_t a_land a_ways a_land_kinds a_land_nears a_ways_lengths a_ways_slantwises a_ways_straights a_rings a_rows a_turns a_plan a_planner a_slants a_reaper a_land_depths : Nat) (c_land_laid c_land_head c_land_fieldCount c_land_innerCount c_ways_straightSize c_ways_slantwiseSize : Int32) (c_land_kinds c_land_nears c_ways_lengths c_ways_slantwises c_ways_straights : Ar) : va_W := [ob a_t 9 [.ref a_rings, .ref a_land, .ref a_ways, .ref a_rows, .ref a_turns, .ref a_plan, .ref a_planner, .ref a_slants, .ref a_reaper], ob a_land 0 [.ref a_land_kinds, .ref a_land_nears, .ref a_land_depths, .int c_land_laid, .int c_land_head, .int c_land_fieldCount, .int c_land_innerCount], ob a_ways 8 [.ref a_land, .ref a_ways_lengths, .ref a_ways_straights, .ref a_ways_slantwises, .int c_ways_straightSize, .int c_ways_slantwiseSize], ia g a_land_kinds 1200 c_land_kinds, ia g a_land_nears 1200 c_land_nears, ia g a_ways_lengths 1200 c_ways_lengths, ia g a_ways_slantwises 1200 c_ways_slantwises, ia g a_ways_straights 1200 c_ways_straights]
noncomputable def X9_way (c_land_laid c_ways_straightSize c_ways_slantwiseSize : Int32) (c_land_kinds c_land_nears c_ways_lengths c_ways_slantwises c_ways_straights : Ar) (v1 v2 v3 v4 : Int32) : Option (Nat ⊕ (Int32 × Int32 × Int32 × Ar × Ar × Ar)) :=
  bnd (X9_needLaid c_land_laid) <| Sum.elim (fun x9 => some (.inl x9)) fun (_ : Unit) => rmap <| bnd (X9_isSquare v1 v2) <| fun r_6 => if r_6 = 0 then (some ((-1), c_ways_straightSize, c_ways_slantwiseSize, c_ways_lengths, c_ways_slantwises, c_ways_straights)) else (bnd (X9_isSquare v3 v4) <| fun r_15 => if r_15 = 0 then (some ((-1), c_ways_straightSize, c_ways_slantwiseSize, c_ways_lengths, c_ways_slantwises, c_ways_straights)) else (bnd (X9_squareAt v1 v2) <| fun r_25 => bnd (X9_squareAt v3 v4) <| fun r_33 => ck (ix r_25 1200) <| if (ag c_land_kinds r_25) = 0 then (some ((-1), c_ways_straightSize, c_ways_slantwiseSize, c_ways_lengths, c_ways_slantwises, c_ways_straights)) else (ck (ix r_33 1200) <| if (ag c_land_kinds r_33) = 0 then (some ((-1), c_ways_straightSize, c_ways_slantwiseSize, c_ways_lengths, c_ways_slantwises, c_ways_straights)) else (bnd (X8_measureFrom c_ways_straightSize c_ways_slantwiseSize c_ways_lengths c_ways_slantwises c_ways_straights c_land_kinds c_land_nears r_25) <| un5 fun c_ways_straightSize_72 c_ways_slantwiseSize_72 c_ways_lengths_72 c_ways_slantwises_72 c_ways_straights_72 => ck (ix r_33 1200) <| bnd (X9_orNone (ag c_ways_lengths_72 r_33)) <| fun r_85 => some (r_85, c_ways_straightSize_72, c_ways_slantwiseSize_72, c_ways_lengths_72, c_ways_slantwises_72, c_ways_straights_72)))))
set_option maxHeartbeats 4000000 in
set_option maxRecDepth 100000 in
theorem t_X9_way (l : Launch) (g : G9) (a_t a_land a_ways a_land_kinds a_land_nears a_ways_lengths a_ways_slantwises a_ways_straights a_rings a_rows a_turns a_plan a_planner a_slants a_reaper a_land_depths : Nat) (c_land_laid c_land_head c_land_fieldCount c_land_innerCount c_ways_straightSize c_ways_slantwiseSize : Int32) (c_land_kinds c_land_nears c_ways_lengths c_ways_slantwises c_ways_straights : Ar) (v1 v2 v3 v4 r0 o_ways_straightSize o_ways_slantwiseSize : Int32) (o_ways_lengths o_ways_slantwises o_ways_straights : Ar) (h : X9_way c_land_laid c_ways_straightSize c_ways_slantwiseSize c_land_kinds c_land_nears c_ways_lengths c_ways_slantwises c_ways_straights v1 v2 v3 v4 = some (.inr (r0, o_ways_straightSize, o_ways_slantwiseSize, o_ways_lengths, o_ways_slantwises, o_ways_straights))) : CtI l g yX9_way cX9_way 7 .int 7 110 [.ref a_t, .int v1, .int v2, .int v3, .int v4] (w_X9_way g a_t a_land a_ways a_land_kinds a_land_nears a_ways_lengths a_ways_slantwises a_ways_straights a_rings a_rows a_turns a_plan a_planner a_slants a_reaper a_land_depths c_land_laid c_land_head c_land_fieldCount c_land_innerCount c_ways_straightSize c_ways_slantwiseSize c_land_kinds c_land_nears c_ways_lengths c_ways_slantwises c_ways_straights) r0 (w_X9_way g a_t a_land a_ways a_land_kinds a_land_nears a_ways_lengths a_ways_slantwises a_ways_straights a_rings a_rows a_turns a_plan a_planner a_slants a_reaper a_land_depths c_land_laid c_land_head c_land_fieldCount c_land_innerCount o_ways_straightSize o_ways_slantwiseSize c_land_kinds c_land_nears o_ways_lengths o_ways_slantwises o_ways_straights) := by
  refine startI (by decide) (Nat.le_of_ble_eq_true rfl) ?_
  intro p e s m below meth c A Q ls args M hW hl ret
  have hx := M.1
  have hb := M.2.1
  have hown := M.2.2.2.1
  have hu := M.2.2.2.2.1
  have hl : lv_has ls 7 [(0, .ref a_t), (1, .int v1), (2, .int v2), (3, .int v3), (4, .int v4)] := hl
  unfold X9_way at h
  obtain ⟨H, eH⟩ : ∃ z, z = s.heap := ⟨_, rfl⟩
  obtain ⟨locs, eL⟩ : ∃ z, z = ([] : List Loc) := ⟨_, rfl⟩
  rw [← eL] at hW ⊢
  suffices hS9 : WD g s A (w_X9_way g a_t a_land a_ways a_land_kinds a_land_nears a_ways_lengths a_ways_slantwises a_ways_straights a_rings a_rows a_turns a_plan a_planner a_slants a_reaper a_land_depths c_land_laid c_land_head c_land_fieldCount c_land_innerCount c_ways_straightSize c_ways_slantwiseSize c_land_kinds c_land_nears c_ways_lengths c_ways_slantwises c_ways_straights) H locs → W p l e (rm9 7 110) s m args below meth c H locs 0 0 Q (F0 m 0 ls []) by
    rw [← eH] at hW ⊢
    exact hS9 hW
  clear hW eH eL
  intro hW
  refine lv_aload_n (pc := 0) hx hb (dd dX9_way 0 rfl) rfl (lv_at hl 0 rfl) ?_
  obtain ⟨ex9, hr, h⟩ := bnd_ex h
  rcases ex9 with x9 | u9
  · have h := sE_l h
    cases h
  have h := sE_r h
  refine callVV (pc := 1) (na := 0) (As := []) (rest := []) (ws2 := (w_X9_way g a_t a_land a_ways a_land_kinds a_land_nears a_ways_lengths a_ways_slantwises a_ways_straights a_rings a_rows a_turns a_plan a_planner a_slants a_reaper a_land_depths c_land_laid c_land_head c_land_fieldCount c_land_innerCount c_ways_straightSize c_ways_slantwiseSize c_land_kinds c_land_nears c_ways_lengths c_ways_slantwises c_ways_straights)) M hl.1 hW (t_X9_needLaid l g a_t a_land a_rings a_ways a_rows a_turns a_plan a_planner a_slants a_reaper a_land_kinds a_land_nears a_land_depths c_land_laid c_land_head c_land_fieldCount c_land_innerCount hr) rfl [0, 1] [2, 3, 4, 5, 6, 7] [6, 7, 0, 1, 2, 3, 4, 5] rfl rfl rfl rfl rfl rfl rfl 0 9 rfl rfl rfl (uw3 114 rfl rfl) (uw3 111 rfl rfl) (uw3 113 rfl rfl) (uwp 14 rfl rfl) (uw1 1 rfl rfl) ⟨by decide, by decide, by decide⟩ rfl ⟨by decide, by decide⟩ (Nat.le_of_ble_eq_true rfl)  ⟨Nat.zero_le _, Nat.zero_le _⟩ (dd dX9_way 1 rfl) (fun H locs hW => ?_)
  have h := rmap_ex h
  refine lv_iload_n (pc := 4) hx hb (dd dX9_way 2 rfl) rfl (lv_at hl 1 rfl) ?_
  refine lv_iload_n (pc := 5) hx hb (dd dX9_way 3 rfl) rfl (lv_at hl 2 rfl) ?_
  obtain ⟨r_6, hr, h⟩ := bnd_ex h
  refine callSI (pc := 6) (na := 2) (As := [.int v1, .int v2]) (rest := []) (ws2 := (w_X9_way g a_t a_land a_ways a_land_kinds a_land_nears a_ways_lengths a_ways_slantwises a_ways_straights a_rings a_rows a_turns a_plan a_planner a_slants a_reaper a_land_depths c_land_laid c_land_head c_land_fieldCount c_land_innerCount c_ways_straightSize c_ways_slantwiseSize c_land_kinds c_land_nears c_ways_lengths c_ways_slantwises c_ways_straights)) M hl.1 hW (t_X9_isSquare l g v1 v2 r_6 hr) [] [0, 1, 2, 3, 4, 5, 6, 7] [0, 1, 2, 3, 4, 5, 6, 7] rfl rfl rfl rfl rfl rfl rfl (uw3 92 rfl rfl) (uw3 131 rfl rfl) (uw3 91 rfl rfl) (uw1 1 rfl rfl) ⟨by decide, by decide, by decide⟩ rfl ⟨by decide, by decide⟩ (Nat.le_of_ble_eq_true rfl) ⟨Nat.zero_le _, Nat.zero_le _⟩ (dd dX9_way 4 rfl) (fun H locs hW => ?_)
  refine lv_if_eq (pc := 9) (tgt := 21) hx hb (dd dX9_way 5 rfl) (by decide) (fun hc => ?_) (fun hc => ?_)
  · have h := it_t hc h
    refine lv_iconst (pc := 21) (v := (-1)) hx hb (dd dX9_way 10 rfl) (by decide) ?_
    have hW9 := hW
    cases h
    exact ret _ _ _ 22 hW9 rfl (dd dX9_way 11 rfl)
  · have h := it_f hc h
    refine lv_iload_n (pc := 12) hx hb (dd dX9_way 6 rfl) rfl (lv_at hl 3 rfl) ?_
    refine lv_iload (pc := 13) hx hb (dd dX9_way 7 rfl) (lv_at hl 4 rfl) ?_
    obtain ⟨r_15, hr, h⟩ := bnd_ex h
    refine callSI (pc := 15) (na := 2) (As := [.int v3, .int v4]) (rest := []) (ws2 := (w_X9_way g a_t a_land a_ways a_land_kinds a_land_nears a_ways_lengths a_ways_slantwises a_ways_straights a_rings a_rows a_turns a_plan a_planner a_slants a_reaper a_land_depths c_land_laid c_land_head c_land_fieldCount c_land_innerCount c_ways_straightSize c_ways_slantwiseSize c_land_kinds c_land_nears c_ways_lengths c_ways_slantwises c_ways_straights)) M hl.1 hW (t_X9_isSquare l g v3 v4 r_15 hr) [] [0, 1, 2, 3, 4, 5, 6, 7] [0, 1, 2, 3, 4, 5, 6, 7] rfl rfl rfl rfl rfl rfl rfl (uw3 92 rfl rfl) (uw3 131 rfl rfl) (uw3 91 rfl rfl) (uw1 1 rfl rfl) ⟨by decide, by decide, by decide⟩ rfl ⟨by decide, by decide⟩ (Nat.le_of_ble_eq_true rfl) ⟨Nat.zero_le _, Nat.zero_le _⟩ (dd dX9_way 8 rfl) (fun H locs hW => ?_)
    refine lv_if_ne (pc := 18) (tgt := 23) hx hb (dd dX9_way 9 rfl) (by decide) (fun hc => ?_) (fun hc => ?_)
    · have h := it_f hc h
      refine lv_iload_n (pc := 23) hx hb (dd dX9_way 12 rfl) rfl (lv_at hl 1 rfl) ?_
      refine lv_iload_n (pc := 24) hx hb (dd dX9_way 13 rfl) rfl (lv_at hl 2 rfl) ?_
      obtain ⟨r_25, hr, h⟩ := bnd_ex h
      refine callSI (pc := 25) (na := 2) (As := [.int v1, .int v2]) (rest := []) (ws2 := (w_X9_way g a_t a_land a_ways a_land_kinds a_land_nears a_ways_lengths a_ways_slantwises a_ways_straights a_rings a_rows a_turns a_plan a_planner a_slants a_reaper a_land_depths c_land_laid c_land_head c_land_fieldCount c_land_innerCount c_ways_straightSize c_ways_slantwiseSize c_land_kinds c_land_nears c_ways_lengths c_ways_slantwises c_ways_straights)) M hl.1 hW (t_X9_squareAt l g v1 v2 r_25 hr) [] [0, 1, 2, 3, 4, 5, 6, 7] [0, 1, 2, 3, 4, 5, 6, 7] rfl rfl rfl rfl rfl rfl rfl (uw3 95 rfl rfl) (uw3 132 rfl rfl) (uw3 94 rfl rfl) (uw1 1 rfl rfl) ⟨by decide, by decide, by decide⟩ rfl ⟨by decide, by decide⟩ (Nat.le_of_ble_eq_true rfl) ⟨Nat.zero_le _, Nat.zero_le _⟩ (dd dX9_way 14 rfl) (fun H locs hW => ?_)
      refine lv_istore (pc := 28) (lv' := [(5, .int r_25), (0, .ref a_t), (1, .int v1), (2, .int v2), (3, .int v3), (4, .int v4)]) hx hb (dd dX9_way 15 rfl) hl (by decide) rfl (fun ls hl => ?_)
      refine lv_iload_n (pc := 30) hx hb (dd dX9_way 16 rfl) rfl (lv_at hl 4 rfl) ?_
      refine lv_iload (pc := 31) hx hb (dd dX9_way 17 rfl) (lv_at hl 5 rfl) ?_
      obtain ⟨r_33, hr, h⟩ := bnd_ex h
      refine callSI (pc := 33) (na := 2) (As := [.int v3, .int v4]) (rest := []) (ws2 := (w_X9_way g a_t a_land a_ways a_land_kinds a_land_nears a_ways_lengths a_ways_slantwises a_ways_straights a_rings a_rows a_turns a_plan a_planner a_slants a_reaper a_land_depths c_land_laid c_land_head c_land_fieldCount c_land_innerCount c_ways_straightSize c_ways_slantwiseSize c_land_kinds c_land_nears c_ways_lengths c_ways_slantwises c_ways_straights)) M hl.1 hW (t_X9_squareAt l g v3 v4 r_33 hr) [] [0, 1, 2, 3, 4, 5, 6, 7] [0, 1, 2, 3, 4, 5, 6, 7] rfl rfl rfl rfl rfl rfl rfl (uw3 95 rfl rfl) (uw3 132 rfl rfl) (uw3 94 rfl rfl) (uw1 1 rfl rfl) ⟨by decide, by decide, by decide⟩ rfl ⟨by decide, by decide⟩ (Nat.le_of_ble_eq_true rfl) ⟨Nat.zero_le _, Nat.zero_le _⟩ (dd dX9_way 18 rfl) (fun H locs hW => ?_)
      refine lv_istore (pc := 36) (lv' := [(6, .int r_33), (5, .int r_25), (0, .ref a_t), (1, .int v1), (2, .int v2), (3, .int v3), (4, .int v4)]) hx hb (dd dX9_way 19 rfl) hl (by decide) rfl (fun ls hl => ?_)
      refine lv_aload_n (pc := 38) hx hb (dd dX9_way 20 rfl) rfl (lv_at hl 2 rfl) ?_
      refine rGet (pc := 39) M hW 0 1 iU9 rfl rfl (by decide) (uw2 51 rfl rfl) rfl (dd dX9_way 21 rfl) ?_
      refine rGet (pc := 42) M hW 1 0 iU0 rfl rfl (by decide) (uw1 77 rfl rfl) rfl (dd dX9_way 22 rfl) ?_
      refine lv_iload (pc := 45) hx hb (dd dX9_way 23 rfl) (lv_at hl 1 rfl) ?_
      obtain ⟨hi, h⟩ := ck_ex h
      refine rIald (pc := 47) M hW 3 rfl hi (dd dX9_way 24 rfl) ?_
      refine lv_if_eq (pc := 48) (tgt := 64) hx hb (dd dX9_way 25 rfl) (by decide) (fun hc => ?_) (fun hc => ?_)
      · have h := it_t hc h
        refine lv_iconst (pc := 64) (v := (-1)) hx hb (dd dX9_way 32 rfl) (by decide) ?_
        have hW9 := hW
        cases h
        exact ret _ _ _ 65 hW9 rfl (dd dX9_way 33 rfl)
      · have h := it_f hc h
        refine lv_aload_n (pc := 51) hx hb (dd dX9_way 26 rfl) rfl (lv_at hl 2 rfl) ?_
        refine rGet (pc := 52) M hW 0 1 iU9 rfl rfl (by decide) (uw2 51 rfl rfl) rfl (dd dX9_way 27 rfl) ?_
        refine rGet (pc := 55) M hW 1 0 iU0 rfl rfl (by decide) (uw1 77 rfl rfl) rfl (dd dX9_way 28 rfl) ?_
        refine lv_iload (pc := 58) hx hb (dd dX9_way 29 rfl) (lv_at hl 0 rfl) ?_
        obtain ⟨hi, h⟩ := ck_ex h
        refine rIald (pc := 60) M hW 3 rfl hi (dd dX9_way 30 rfl) ?_
        refine lv_if_ne (pc := 61) (tgt := 66) hx hb (dd dX9_way 31 rfl) (by decide) (fun hc => ?_) (fun hc => ?_)
        · have h := it_f hc h
          refine lv_aload_n (pc := 66) hx hb (dd dX9_way 34 rfl) rfl (lv_at hl 2 rfl) ?_
          refine rGet (pc := 67) M hW 0 2 iU9 rfl rfl (by decide) (uw2 52 rfl rfl) rfl (dd dX9_way 35 rfl) ?_
          refine lv_iload (pc := 70) hx hb (dd dX9_way 36 rfl) (lv_at hl 1 rfl) ?_
          obtain ⟨⟨c_ways_straightSize_72, c_ways_slantwiseSize_72, c_ways_lengths_72, c_ways_slantwises_72, c_ways_straights_72⟩, hr, h⟩ := bnd_ex h
          have h := un5_at h
          refine callVV (pc := 72) (na := 1) (As := [.int r_25]) (rest := []) (ws2 := (w_X9_way g a_t a_land a_ways a_land_kinds a_land_nears a_ways_lengths a_ways_slantwises a_ways_straights a_rings a_rows a_turns a_plan a_planner a_slants a_reaper a_land_depths c_land_laid c_land_head c_land_fieldCount c_land_innerCount c_ways_straightSize_72 c_ways_slantwiseSize_72 c_land_kinds c_land_nears c_ways_lengths_72 c_ways_slantwises_72 c_ways_straights_72)) M hl.1 hW (t_X8_measureFrom l g a_ways a_land a_ways_lengths a_ways_slantwises a_ways_straights a_land_kinds a_land_nears a_land_depths c_ways_straightSize c_ways_slantwiseSize c_land_laid c_land_head c_land_fieldCount c_land_innerCount c_ways_lengths c_ways_slantwises c_ways_straights c_land_kinds c_land_nears r_25 c_ways_straightSize_72 c_ways_slantwiseSize_72 c_ways_lengths_72 c_ways_slantwises_72 c_ways_straights_72 hr) rfl [2, 1, 5, 6, 7, 3, 4] [0] [0, 2, 1, 6, 7, 3, 4, 5] rfl rfl rfl rfl rfl rfl rfl 2 8 rfl rfl rfl (uw3 227 rfl rfl) (uw3 224 rfl rfl) (uw3 225 rfl rfl) (uw3 226 rfl rfl) (uw1 6 rfl rfl) ⟨by decide, by decide, by decide⟩ rfl ⟨by decide, by decide⟩ (Nat.le_of_ble_eq_true rfl) ⟨Nat.zero_le _, Nat.zero_le _⟩ (dd dX9_way 37 rfl) (fun H locs hW => ?_)
          refine lv_aload_n (pc := 75) hx hb (dd dX9_way 38 rfl) rfl (lv_at hl 2 rfl) ?_
          refine rGet (pc := 76) M hW 0 2 iU9 rfl rfl (by decide) (uw2 52 rfl rfl) rfl (dd dX9_way 39 rfl) ?_
          refine rGet (pc := 79) M hW 2 1 iU8 rfl rfl (by decide) (uw1 115 rfl rfl) rfl (dd dX9_way 40 rfl) ?_
          refine lv_iload (pc := 82) hx hb (dd dX9_way 41 rfl) (lv_at hl 0 rfl) ?_
          obtain ⟨hi, h⟩ := ck_ex h
          refine rIald (pc := 84) M hW 5 rfl hi (dd dX9_way 42 rfl) ?_
          obtain ⟨r_85, hr, h⟩ := bnd_ex h
          refine callSI (pc := 85) (na := 1) (As := [.int (ag c_ways_lengths_72 r_33)]) (rest := []) (ws2 := (w_X9_way g a_t a_land a_ways a_land_kinds a_land_nears a_ways_lengths a_ways_slantwises a_ways_straights a_rings a_rows a_turns a_plan a_planner a_slants a_reaper a_land_depths c_land_laid c_land_head c_land_fieldCount c_land_innerCount c_ways_straightSize_72 c_ways_slantwiseSize_72 c_land_kinds c_land_nears c_ways_lengths_72 c_ways_slantwises_72 c_ways_straights_72)) M hl.1 hW (t_X9_orNone l g (ag c_ways_lengths_72 r_33) r_85 hr) [] [0, 1, 2, 3, 4, 5, 6, 7] [0, 1, 2, 3, 4, 5, 6, 7] rfl rfl rfl rfl rfl rfl rfl (uw4 1 rfl rfl) (uw3 239 rfl rfl) (uw4 0 rfl rfl) (uw1 1 rfl rfl) ⟨by decide, by decide, by decide⟩ rfl ⟨by decide, by decide⟩ (Nat.le_of_ble_eq_true rfl) ⟨Nat.zero_le _, Nat.zero_le _⟩ (dd dX9_way 43 rfl) (fun H locs hW => ?_)
          have hW9 := hW
          cases h
          exact ret _ _ _ 88 hW9 rfl (dd dX9_way 44 rfl)
        · have h := it_t hc h
          refine lv_iconst (pc := 64) (v := (-1)) hx hb (dd dX9_way 32 rfl) (by decide) ?_
          have hW9 := hW
          cases h
          exact ret _ _ _ 65 hW9 rfl (dd dX9_way 33 rfl)
    · have h := it_t hc h
      refine lv_iconst (pc := 21) (v := (-1)) hx hb (dd dX9_way 10 rfl) (by decide) ?_
      have hW9 := hW
      cases h
      exact ret _ _ _ 22 hW9 rfl (dd dX9_way 11 rfl)
set_option maxHeartbeats 4000000 in
set_option maxRecDepth 100000 in
theorem x_X9_way (l : Launch) (hl9 : l.stackTraces = false) (g : G9) (a_t a_land a_ways a_land_kinds a_land_nears a_ways_lengths a_ways_slantwises a_ways_straights a_rings a_rows a_turns a_plan a_planner a_slants a_reaper a_land_depths : Nat) (c_land_laid c_land_head c_land_fieldCount c_land_innerCount c_ways_straightSize c_ways_slantwiseSize : Int32) (c_land_kinds c_land_nears c_ways_lengths c_ways_slantwises c_ways_straights : Ar) (v1 v2 v3 v4 : Int32) (k0 : Nat) (h : X9_way c_land_laid c_ways_straightSize c_ways_slantwiseSize c_land_kinds c_land_nears c_ways_lengths c_ways_slantwises c_ways_straights v1 v2 v3 v4 = some (.inl k0)) : CtX QnI l g yX9_way cX9_way 7 (some .int) 7 110 [.ref a_t, .int v1, .int v2, .int v3, .int v4] (w_X9_way g a_t a_land a_ways a_land_kinds a_land_nears a_ways_lengths a_ways_slantwises a_ways_straights a_rings a_rows a_turns a_plan a_planner a_slants a_reaper a_land_depths c_land_laid c_land_head c_land_fieldCount c_land_innerCount c_ways_straightSize c_ways_slantwiseSize c_land_kinds c_land_nears c_ways_lengths c_ways_slantwises c_ways_straights) (excN k0) := by
  refine startX (by decide) (Nat.le_of_ble_eq_true rfl) ?_
  intro p e s m below meth c A Q ls args M hW hl hlk hex hA9 hQ
  have hx := M.1
  have hb := M.2.1
  have hown := M.2.2.2.1
  have hu := M.2.2.2.2.1
  have hl : lv_has ls 7 [(0, .ref a_t), (1, .int v1), (2, .int v2), (3, .int v3), (4, .int v4)] := hl
  unfold X9_way at h
  obtain ⟨H, eH⟩ : ∃ z, z = s.heap := ⟨_, rfl⟩
  obtain ⟨locs, eL⟩ : ∃ z, z = ([] : List Loc) := ⟨_, rfl⟩
  rw [← eL] at hW ⊢
  suffices hS9 : WD g s A (w_X9_way g a_t a_land a_ways a_land_kinds a_land_nears a_ways_lengths a_ways_slantwises a_ways_straights a_rings a_rows a_turns a_plan a_planner a_slants a_reaper a_land_depths c_land_laid c_land_head c_land_fieldCount c_land_innerCount c_ways_straightSize c_ways_slantwiseSize c_land_kinds c_land_nears c_ways_lengths c_ways_slantwises c_ways_straights) H locs → W p l e (rm9x 7 110) s m args below meth c H locs 0 0 Q (F0 m 0 ls []) by
    rw [← eH] at hW ⊢
    exact hS9 hW
  clear hW eL
  intro hW
  refine lv_aload_n (pc := 0) hx hb (dd dX9_way 0 rfl) rfl (lv_at hl 0 rfl) ?_
  obtain ⟨ex9, hr, h⟩ := bnd_ex h
  rcases ex9 with x9 | u9
  · have h := sE_l h
    have hW9 := hW
    cases h
    exact callXV (pc := 1) (na := 0) (As := []) (rest := []) M hl.1 hW9 hlk hex hA9 hQ (x_X9_needLaid l hl9 g a_t a_land a_rings a_ways a_rows a_turns a_plan a_planner a_slants a_reaper a_land_kinds a_land_nears a_land_depths c_land_laid c_land_head c_land_fieldCount c_land_innerCount _ hr) rfl [0, 1] [2, 3, 4, 5, 6, 7] [6, 7, 0, 1, 2, 3, 4, 5] rfl rfl rfl rfl rfl rfl rfl 0 9 rfl rfl rfl (uw3 114 rfl rfl) (uw3 111 rfl rfl) (uw3 113 rfl rfl) (uwp 14 rfl rfl) (uw1 1 rfl rfl) ⟨by decide, by decide, by decide⟩ rfl ⟨by decide, by decide⟩ (Nat.le_of_ble_eq_true rfl)  ⟨by decide, by decide⟩ (dd dX9_way 1 rfl)
  have h := sE_r h
  refine callVV (pc := 1) (na := 0) (As := []) (rest := []) (ws2 := (w_X9_way g a_t a_land a_ways a_land_kinds a_land_nears a_ways_lengths a_ways_slantwises a_ways_straights a_rings a_rows a_turns a_plan a_planner a_slants a_reaper a_land_depths c_land_laid c_land_head c_land_fieldCount c_land_innerCount c_ways_straightSize c_ways_slantwiseSize c_land_kinds c_land_nears c_ways_lengths c_ways_slantwises c_ways_straights)) M hl.1 hW (t_X9_needLaid l g a_t a_land a_rings a_ways a_rows a_turns a_plan a_planner a_slants a_reaper a_land_kinds a_land_nears a_land_depths c_land_laid c_land_head c_land_fieldCount c_land_innerCount hr) rfl [0, 1] [2, 3, 4, 5, 6, 7] [6, 7, 0, 1, 2, 3, 4, 5] rfl rfl rfl rfl rfl rfl rfl 0 9 rfl rfl rfl (uw3 114 rfl rfl) (uw3 111 rfl rfl) (uw3 113 rfl rfl) (uwp 14 rfl rfl) (uw1 1 rfl rfl) ⟨by decide, by decide, by decide⟩ rfl ⟨by decide, by decide⟩ (Nat.le_of_ble_eq_true rfl)  ⟨Nat.zero_le _, Nat.zero_le _⟩ (dd dX9_way 1 rfl) (fun H locs hW => ?_)
  exact (rmap_no h).elim
abbrev w_X9_turn (g : G9) (a_t a_land a_rows a_turns a_ways a_land_kinds a_land_nears a_rows_ends a_turns_known a_turns_lengths a_ways_lengths a_ways_slantwises a_ways_straights a_rings a_plan a_planner a_slants a_reaper a_land_depths a_rows_strips a_rows_alongs a_rows_numbers a_rows_sorted a_rows_spare a_rows_tally a_rows_squares a_rows_starts : Nat) (c_land_laid c_land_head c_land_fieldCount c_land_innerCount c_rows_there c_rows_size c_ways_straightSize c_ways_slantwiseSize : Int32) (c_land_kinds c_land_nears c_rows_ends c_turns_known c_turns_lengths c_ways_lengths c_ways_slantwises c_ways_straights : Ar) : va_W := [ob a_t 9 [.ref a_rings, .ref a_land, .ref a_ways, .ref a_rows, .ref a_turns, .ref a_plan, .ref a_planner, .ref a_slants, .ref a_reaper], ob a_land 0 [.ref a_land_kinds, .ref a_land_nears, .ref a_land_depths, .int c_land_laid, .int c_land_head, .int c_land_fieldCount, .int c_land_innerCount], ob a_rows 6 [.ref a_land, .ref a_rows_strips, .ref a_rows_alongs, .ref a_rows_numbers, .ref a_rows_sorted, .ref a_rows_spare, .ref a_rows_tally, .ref a_rows_squares, .ref a_rows_starts, .ref a_rows_ends, .int c_rows_there, .int c_rows_size], ob a_turns 7 [.ref a_ways, .ref a_rows, .ref a_turns_lengths, .ref a_turns_known], ob a_ways 8 [.ref a_land, .ref a_ways_lengths, .ref a_ways_straights, .ref a_ways_slantwises, .int c_ways_straightSize, .int c_ways_slantwiseSize], ia g a_land_kinds 1200 c_land_kinds, ia g a_land_nears 1200 c_land_nears, ia g a_rows_ends 120 c_rows_ends, za g a_turns_known 120 c_turns_known, ia g a_turns_lengths 14400 c_turns_lengths, ia g a_ways_lengths 1200 c_ways_lengths, ia g a_ways_slantwises 1200 c_ways_slantwises, ia g a_ways_straights 1200 c_ways_straights]
noncomputable def X9_turn (c_rows_there c_rows_size c_ways_straightSize c_ways_slantwiseSize : Int32) (c_land_kinds c_land_nears c_rows_ends c_turns_known c_turns_lengths c_ways_lengths c_ways_slantwises c_ways_straights : Ar) (v1 v2 : Int32) : Option (Nat ⊕ (Int32 × Int32 × Int32 × Ar × Ar × Ar × Ar × Ar)) :=
  bnd (X9_needRows c_rows_there) <| Sum.elim (fun x9 => some (.inl x9)) fun (_ : Unit) => nm ((2 * c_rows_size)) fun v3_13 => if v1 < 0 then (some (.inl 5)) else (if v3_13 ≤ v1 then (some (.inl 5)) else (if v2 < 0 then (some (.inl 5)) else (if v2 < v3_13 then (if (v1 / 2) = (v2 / 2) then (some (.inl 5)) else (rmap <| bnd (X7_learn c_turns_known c_turns_lengths c_rows_size c_ways_straightSize c_ways_slantwiseSize c_rows_ends c_ways_lengths c_ways_slantwises c_ways_straights c_land_kinds c_land_nears v1) <| un7 fun c_turns_known_66 c_turns_lengths_66 c_ways_straightSize_66 c_ways_slantwiseSize_66 c_ways_lengths_66 c_ways_slantwises_66 c_ways_straights_66 => bnd (X7_length c_turns_lengths_66 v1 v2) <| fun r_75 => bnd (X9_orNone r_75) <| fun r_78 => some (r_78, c_ways_straightSize_66, c_ways_slantwiseSize_66, c_turns_known_66, c_turns_lengths_66, c_ways_lengths_66, c_ways_slantwises_66, c_ways_straights_66))) else (some (.inl 5)))))
set_option maxHeartbeats 4000000 in
set_option maxRecDepth 100000 in
theorem t_X9_turn (l : Launch) (g : G9) (a_t a_land a_rows a_turns a_ways a_land_kinds a_land_nears a_rows_ends a_turns_known a_turns_lengths a_ways_lengths a_ways_slantwises a_ways_straights a_rings a_plan a_planner a_slants a_reaper a_land_depths a_rows_strips a_rows_alongs a_rows_numbers a_rows_sorted a_rows_spare a_rows_tally a_rows_squares a_rows_starts : Nat) (c_land_laid c_land_head c_land_fieldCount c_land_innerCount c_rows_there c_rows_size c_ways_straightSize c_ways_slantwiseSize : Int32) (c_land_kinds c_land_nears c_rows_ends c_turns_known c_turns_lengths c_ways_lengths c_ways_slantwises c_ways_straights : Ar) (v1 v2 r0 o_ways_straightSize o_ways_slantwiseSize : Int32) (o_turns_known o_turns_lengths o_ways_lengths o_ways_slantwises o_ways_straights : Ar) (h : X9_turn c_rows_there c_rows_size c_ways_straightSize c_ways_slantwiseSize c_land_kinds c_land_nears c_rows_ends c_turns_known c_turns_lengths c_ways_lengths c_ways_slantwises c_ways_straights v1 v2 = some (.inr (r0, o_ways_straightSize, o_ways_slantwiseSize, o_turns_known, o_turns_lengths, o_ways_lengths, o_ways_slantwises, o_ways_straights))) : CtI l g yX9_turn cX9_turn 4 .int 7 110 [.ref a_t, .int v1, .int v2] (w_X9_turn g a_t a_land a_rows a_turns a_ways a_land_kinds a_land_nears a_rows_ends a_turns_known a_turns_lengths a_ways_lengths a_ways_slantwises a_ways_straights a_rings a_plan a_planner a_slants a_reaper a_land_depths a_rows_strips a_rows_alongs a_rows_numbers a_rows_sorted a_rows_spare a_rows_tally a_rows_squares a_rows_starts c_land_laid c_land_head c_land_fieldCount c_land_innerCount c_rows_there c_rows_size c_ways_straightSize c_ways_slantwiseSize c_land_kinds c_land_nears c_rows_ends c_turns_known c_turns_lengths c_ways_lengths c_ways_slantwises c_ways_straights) r0 (w_X9_turn g a_t a_land a_rows a_turns a_ways a_land_kinds a_land_nears a_rows_ends a_turns_known a_turns_lengths a_ways_lengths a_ways_slantwises a_ways_straights a_rings a_plan a_planner a_slants a_reaper a_land_depths a_rows_strips a_rows_alongs a_rows_numbers a_rows_sorted a_rows_spare a_rows_tally a_rows_squares a_rows_starts c_land_laid c_land_head c_land_fieldCount c_land_innerCount c_rows_there c_rows_size o_ways_straightSize o_ways_slantwiseSize c_land_kinds c_land_nears c_rows_ends o_turns_known o_turns_lengths o_ways_lengths o_ways_slantwises o_ways_straights) := by
  refine startI (by decide) (Nat.le_of_ble_eq_true rfl) ?_
  intro p e s m below meth c A Q ls args M hW hl ret
  have hx := M.1
  have hb := M.2.1
  have hown := M.2.2.2.1
  have hu := M.2.2.2.2.1
  have hl : lv_has ls 4 [(0, .ref a_t), (1, .int v1), (2, .int v2)] := hl
  unfold X9_turn at h
  obtain ⟨H, eH⟩ : ∃ z, z = s.heap := ⟨_, rfl⟩
  obtain ⟨locs, eL⟩ : ∃ z, z = ([] : List Loc) := ⟨_, rfl⟩
  rw [← eL] at hW ⊢
  suffices hS9 : WD g s A (w_X9_turn g a_t a_land a_rows a_turns a_ways a_land_kinds a_land_nears a_rows_ends a_turns_known a_turns_lengths a_ways_lengths a_ways_slantwises a_ways_straights a_rings a_plan a_planner a_slants a_reaper a_land_depths a_rows_strips a_rows_alongs a_rows_numbers a_rows_sorted a_rows_spare a_rows_tally a_rows_squares a_rows_starts c_land_laid c_land_head c_land_fieldCount c_land_innerCount c_rows_there c_rows_size c_ways_straightSize c_ways_slantwiseSize c_land_kinds c_land_nears c_rows_ends c_turns_known c_turns_lengths c_ways_lengths c_ways_slantwises c_ways_straights) H locs → W p l e (rm9 7 110) s m args below meth c H locs 0 0 Q (F0 m 0 ls []) by
    rw [← eH] at hW ⊢
    exact hS9 hW
  clear hW eH eL
  intro hW
  refine lv_aload_n (pc := 0) hx hb (dd dX9_turn 0 rfl) rfl (lv_at hl 0 rfl) ?_
  obtain ⟨ex9, hr, h⟩ := bnd_ex h
  rcases ex9 with x9 | u9
  · have h := sE_l h
    cases h
  have h := sE_r h
  refine callVV (pc := 1) (na := 0) (As := []) (rest := []) (ws2 := (w_X9_turn g a_t a_land a_rows a_turns a_ways a_land_kinds a_land_nears a_rows_ends a_turns_known a_turns_lengths a_ways_lengths a_ways_slantwises a_ways_straights a_rings a_plan a_planner a_slants a_reaper a_land_depths a_rows_strips a_rows_alongs a_rows_numbers a_rows_sorted a_rows_spare a_rows_tally a_rows_squares a_rows_starts c_land_laid c_land_head c_land_fieldCount c_land_innerCount c_rows_there c_rows_size c_ways_straightSize c_ways_slantwiseSize c_land_kinds c_land_nears c_rows_ends c_turns_known c_turns_lengths c_ways_lengths c_ways_slantwises c_ways_straights)) M hl.1 hW (t_X9_needRows l g a_t a_rows a_rings a_land a_ways a_turns a_plan a_planner a_slants a_reaper a_rows_strips a_rows_alongs a_rows_numbers a_rows_sorted a_rows_spare a_rows_tally a_rows_squares a_rows_starts a_rows_ends c_rows_there c_rows_size hr) rfl [0, 2] [1, 3, 4, 5, 6, 7, 8, 9, 10, 11, 12] [11, 0, 12, 1, 2, 3, 4, 5, 6, 7, 8, 9, 10] rfl rfl rfl rfl rfl rfl rfl 0 9 rfl rfl rfl (uw3 191 rfl rfl) (uw3 188 rfl rfl) (uw3 190 rfl rfl) (uwp 22 rfl rfl) (uw1 1 rfl rfl) ⟨by decide, by decide, by decide⟩ rfl ⟨by decide, by decide⟩ (Nat.le_of_ble_eq_true rfl)  ⟨Nat.zero_le _, Nat.zero_le _⟩ (dd dX9_turn 1 rfl) (fun H locs hW => ?_)
  refine lv_iconst (pc := 4) (v := 2) hx hb (dd dX9_turn 2 rfl) (by decide) ?_
  refine lv_aload_n (pc := 5) hx hb (dd dX9_turn 3 rfl) rfl (lv_at hl 0 rfl) ?_
  refine rGet (pc := 6) M hW 0 3 iU9 rfl rfl (by decide) (uw2 53 rfl rfl) rfl (dd dX9_turn 4 rfl) ?_
  refine rGet (pc := 9) M hW 2 11 iU6 rfl rfl (by decide) (uw1 160 rfl rfl) rfl (dd dX9_turn 5 rfl) ?_
  refine lv_imul (pc := 12) hx hb (dd dX9_turn 6 rfl) ?_
  obtain ⟨v3_13, ev3_13, h⟩ := nm_ex h
  refine rTopi (pc := 13) ev3_13 ?_
  refine lv_istore_n (pc := 13) (lv' := [(3, .int v3_13), (0, .ref a_t), (1, .int v1), (2, .int v2)]) hx hb (dd dX9_turn 7 rfl) rfl hl (by decide) rfl (fun ls hl => ?_)
  refine lv_iload_n (pc := 14) hx hb (dd dX9_turn 8 rfl) rfl (lv_at hl 2 rfl) ?_
  refine lv_if_lt (pc := 15) (tgt := 32) hx hb (dd dX9_turn 9 rfl) (by decide) (fun hc => ?_) (fun hc => ?_)
  · have h := it_t hc h
    cases h
  · have h := it_f hc h
    refine lv_iload_n (pc := 18) hx hb (dd dX9_turn 10 rfl) rfl (lv_at hl 2 rfl) ?_
    refine lv_iload_n (pc := 19) hx hb (dd dX9_turn 11 rfl) rfl (lv_at hl 0 rfl) ?_
    refine lv_icmp_ge (pc := 20) (tgt := 32) hx hb (dd dX9_turn 12 rfl) (by decide) (fun hc => ?_) (fun hc => ?_)
    · have h := it_t hc h
      cases h
    · have h := it_f hc h
      refine lv_iload_n (pc := 23) hx hb (dd dX9_turn 13 rfl) rfl (lv_at hl 3 rfl) ?_
      refine lv_if_lt (pc := 24) (tgt := 32) hx hb (dd dX9_turn 14 rfl) (by decide) (fun hc => ?_) (fun hc => ?_)
      · have h := it_t hc h
        cases h
      · have h := it_f hc h
        refine lv_iload_n (pc := 27) hx hb (dd dX9_turn 15 rfl) rfl (lv_at hl 3 rfl) ?_
        refine lv_iload_n (pc := 28) hx hb (dd dX9_turn 16 rfl) rfl (lv_at hl 0 rfl) ?_
        refine lv_icmp_lt (pc := 29) (tgt := 42) hx hb (dd dX9_turn 17 rfl) (by decide) (fun hc => ?_) (fun hc => ?_)
        · have h := it_t hc h
          refine lv_iload_n (pc := 42) hx hb (dd dX9_turn 23 rfl) rfl (lv_at hl 2 rfl) ?_
          refine lv_iconst (pc := 43) (v := 2) hx hb (dd dX9_turn 24 rfl) (by decide) ?_
          refine lv_idiv (pc := 44) hx hb (dd dX9_turn 25 rfl) (by decide) ?_
          refine lv_iload_n (pc := 45) hx hb (dd dX9_turn 26 rfl) rfl (lv_at hl 3 rfl) ?_
          refine lv_iconst (pc := 46) (v := 2) hx hb (dd dX9_turn 27 rfl) (by decide) ?_
          refine lv_idiv (pc := 47) hx hb (dd dX9_turn 28 rfl) (by decide) ?_
          refine lv_icmp_ne (pc := 48) (tgt := 61) hx hb (dd dX9_turn 29 rfl) (by decide) (fun hc => ?_) (fun hc => ?_)
          · have h := it_f hc h
            have h := rmap_ex h
            refine lv_aload_n (pc := 61) hx hb (dd dX9_turn 35 rfl) rfl (lv_at hl 1 rfl) ?_
            refine rGet (pc := 62) M hW 0 4 iU9 rfl rfl (by decide) (uw2 54 rfl rfl) rfl (dd dX9_turn 36 rfl) ?_
            refine lv_iload_n (pc := 65) hx hb (dd dX9_turn 37 rfl) rfl (lv_at hl 2 rfl) ?_
            obtain ⟨⟨c_turns_known_66, c_turns_lengths_66, c_ways_straightSize_66, c_ways_slantwiseSize_66, c_ways_lengths_66, c_ways_slantwises_66, c_ways_straights_66⟩, hr, h⟩ := bnd_ex h
            have h := un7_at h
            refine callVV (pc := 66) (na := 1) (As := [.int v1]) (rest := []) (ws2 := (w_X9_turn g a_t a_land a_rows a_turns a_ways a_land_kinds a_land_nears a_rows_ends a_turns_known a_turns_lengths a_ways_lengths a_ways_slantwises a_ways_straights a_rings a_plan a_planner a_slants a_reaper a_land_depths a_rows_strips a_rows_alongs a_rows_numbers a_rows_sorted a_rows_spare a_rows_tally a_rows_squares a_rows_starts c_land_laid c_land_head c_land_fieldCount c_land_innerCount c_rows_there c_rows_size c_ways_straightSize_66 c_ways_slantwiseSize_66 c_land_kinds c_land_nears c_rows_ends c_turns_known_66 c_turns_lengths_66 c_ways_lengths_66 c_ways_slantwises_66 c_ways_straights_66)) M hl.1 hW (t_X7_learn l g a_turns a_turns_known a_turns_lengths a_rows a_ways a_rows_ends a_land a_ways_lengths a_ways_slantwises a_ways_straights a_land_kinds a_land_nears a_rows_strips a_rows_alongs a_rows_numbers a_rows_sorted a_rows_spare a_rows_tally a_rows_squares a_rows_starts a_land_depths c_turns_known c_turns_lengths c_rows_there c_rows_size c_ways_straightSize c_ways_slantwiseSize c_rows_ends c_land_laid c_land_head c_land_fieldCount c_land_innerCount c_ways_lengths c_ways_slantwises c_ways_straights c_land_kinds c_land_nears v1 c_turns_known_66 c_turns_lengths_66 c_ways_straightSize_66 c_ways_slantwiseSize_66 c_ways_lengths_66 c_ways_slantwises_66 c_ways_straights_66 hr) rfl [3, 8, 9, 2, 4, 7, 1, 10, 11, 12, 5, 6] [0] [0, 7, 4, 1, 5, 11, 12, 6, 2, 3, 8, 9, 10] rfl rfl rfl rfl rfl rfl rfl 3 7 rfl rfl rfl (uw4 14 rfl rfl) (uw4 11 rfl rfl) (uw4 12 rfl rfl) (uw4 13 rfl rfl) (uw1 8 rfl rfl) ⟨by decide, by decide, by decide⟩ rfl ⟨by decide, by decide⟩ (Nat.le_of_ble_eq_true rfl) ⟨Nat.zero_le _, Nat.zero_le _⟩ (dd dX9_turn 38 rfl) (fun H locs hW => ?_)
            refine lv_aload_n (pc := 69) hx hb (dd dX9_turn 39 rfl) rfl (lv_at hl 1 rfl) ?_
            refine rGet (pc := 70) M hW 0 4 iU9 rfl rfl (by decide) (uw2 54 rfl rfl) rfl (dd dX9_turn 40 rfl) ?_
            refine lv_iload_n (pc := 73) hx hb (dd dX9_turn 41 rfl) rfl (lv_at hl 2 rfl) ?_
            refine lv_iload_n (pc := 74) hx hb (dd dX9_turn 42 rfl) rfl (lv_at hl 3 rfl) ?_
            obtain ⟨r_75, hr, h⟩ := bnd_ex h
            refine callVI (pc := 75) (na := 2) (As := [.int v1, .int v2]) (rest := []) (ws2 := (w_X9_turn g a_t a_land a_rows a_turns a_ways a_land_kinds a_land_nears a_rows_ends a_turns_known a_turns_lengths a_ways_lengths a_ways_slantwises a_ways_straights a_rings a_plan a_planner a_slants a_reaper a_land_depths a_rows_strips a_rows_alongs a_rows_numbers a_rows_sorted a_rows_spare a_rows_tally a_rows_squares a_rows_starts c_land_laid c_land_head c_land_fieldCount c_land_innerCount c_rows_there c_rows_size c_ways_straightSize_66 c_ways_slantwiseSize_66 c_land_kinds c_land_nears c_rows_ends c_turns_known_66 c_turns_lengths_66 c_ways_lengths_66 c_ways_slantwises_66 c_ways_straights_66)) M hl.1 hW (t_X7_length l g a_turns a_turns_lengths a_ways a_rows a_turns_known c_turns_lengths_66 v1 v2 r_75 hr) rfl [3, 9] [0, 1, 2, 4, 5, 6, 7, 8, 10, 11, 12] [0, 1, 2, 11, 3, 4, 5, 6, 7, 12, 8, 9, 10] rfl rfl rfl rfl rfl rfl rfl 3 7 rfl rfl rfl (uw4 19 rfl rfl) (uw4 16 rfl rfl) (uw4 17 rfl rfl) (uw4 18 rfl rfl) (uw1 8 rfl rfl) ⟨by decide, by decide, by decide⟩ rfl ⟨by decide, by decide⟩ (Nat.le_of_ble_eq_true rfl) ⟨Nat.zero_le _, Nat.zero_le _⟩ (dd dX9_turn 43 rfl) (fun H locs hW => ?_)
            obtain ⟨r_78, hr, h⟩ := bnd_ex h
            refine callSI (pc := 78) (na := 1) (As := [.int r_75]) (rest := []) (ws2 := (w_X9_turn g a_t a_land a_rows a_turns a_ways a_land_kinds a_land_nears a_rows_ends a_turns_known a_turns_lengths a_ways_lengths a_ways_slantwises a_ways_straights a_rings a_plan a_planner a_slants a_reaper a_land_depths a_rows_strips a_rows_alongs a_rows_numbers a_rows_sorted a_rows_spare a_rows_tally a_rows_squares a_rows_starts c_land_laid c_land_head c_land_fieldCount c_land_innerCount c_rows_there c_rows_size c_ways_straightSize_66 c_ways_slantwiseSize_66 c_land_kinds c_land_nears c_rows_ends c_turns_known_66 c_turns_lengths_66 c_ways_lengths_66 c_ways_slantwises_66 c_ways_straights_66)) M hl.1 hW (t_X9_orNone l g r_75 r_78 hr) [] [0, 1, 2, 3, 4, 5, 6, 7, 8, 9, 10, 11, 12] [0, 1, 2, 3, 4, 5, 6, 7, 8, 9, 10, 11, 12] rfl rfl rfl rfl rfl rfl rfl (uw4 1 rfl rfl) (uw3 239 rfl rfl) (uw4 0 rfl rfl) (uw1 1 rfl rfl) ⟨by decide, by decide, by decide⟩ rfl ⟨by decide, by decide⟩ (Nat.le_of_ble_eq_true rfl) ⟨Nat.zero_le _, Nat.zero_le _⟩ (dd dX9_turn 44 rfl) (fun H locs hW => ?_)
            have hW9 := hW
            cases h
            exact ret _ _ _ 81 hW9 rfl (dd dX9_turn 45 rfl)
          · have h := it_t hc h
            cases h
        · have h := it_f hc h
          cases h
set_option maxHeartbeats 4000000 in
set_option maxRecDepth 100000 in
theorem x_X9_turn (l : Launch) (hl9 : l.stackTraces = false) (g : G9) (a_t a_land a_rows a_turns a_ways a_land_kinds a_land_nears a_rows_ends a_turns_known a_turns_lengths a_ways_lengths a_ways_slantwises a_ways_straights a_rings a_plan a_planner a_slants a_reaper a_land_depths a_rows_strips a_rows_alongs a_rows_numbers a_rows_sorted a_rows_spare a_rows_tally a_rows_squares a_rows_starts : Nat) (c_land_laid c_land_head c_land_fieldCount c_land_innerCount c_rows_there c_rows_size c_ways_straightSize c_ways_slantwiseSize : Int32) (c_land_kinds c_land_nears c_rows_ends c_turns_known c_turns_lengths c_ways_lengths c_ways_slantwises c_ways_straights : Ar) (v1 v2 : Int32) (k0 : Nat) (h : X9_turn c_rows_there c_rows_size c_ways_straightSize c_ways_slantwiseSize c_land_kinds c_land_nears c_rows_ends c_turns_known c_turns_lengths c_ways_lengths c_ways_slantwises c_ways_straights v1 v2 = some (.inl k0)) : CtX QnI l g yX9_turn cX9_turn 4 (some .int) 7 110 [.ref a_t, .int v1, .int v2] (w_X9_turn g a_t a_land a_rows a_turns a_ways a_land_kinds a_land_nears a_rows_ends a_turns_known a_turns_lengths a_ways_lengths a_ways_slantwises a_ways_straights a_rings a_plan a_planner a_slants a_reaper a_land_depths a_rows_strips a_rows_alongs a_rows_numbers a_rows_sorted a_rows_spare a_rows_tally a_rows_squares a_rows_starts c_land_laid c_land_head c_land_fieldCount c_land_innerCount c_rows_there c_rows_size c_ways_straightSize c_ways_slantwiseSize c_land_kinds c_land_nears c_rows_ends c_turns_known c_turns_lengths c_ways_lengths c_ways_slantwises c_ways_straights) (excN k0) := by
  refine startX (by decide) (Nat.le_of_ble_eq_true rfl) ?_
  intro p e s m below meth c A Q ls args M hW hl hlk hex hA9 hQ
  have hx := M.1
  have hb := M.2.1
  have hown := M.2.2.2.1
  have hu := M.2.2.2.2.1
  have hl : lv_has ls 4 [(0, .ref a_t), (1, .int v1), (2, .int v2)] := hl
  unfold X9_turn at h
  obtain ⟨H, eH⟩ : ∃ z, z = s.heap := ⟨_, rfl⟩
  obtain ⟨locs, eL⟩ : ∃ z, z = ([] : List Loc) := ⟨_, rfl⟩
  rw [← eL] at hW ⊢
  suffices hS9 : WD g s A (w_X9_turn g a_t a_land a_rows a_turns a_ways a_land_kinds a_land_nears a_rows_ends a_turns_known a_turns_lengths a_ways_lengths a_ways_slantwises a_ways_straights a_rings a_plan a_planner a_slants a_reaper a_land_depths a_rows_strips a_rows_alongs a_rows_numbers a_rows_sorted a_rows_spare a_rows_tally a_rows_squares a_rows_starts c_land_laid c_land_head c_land_fieldCount c_land_innerCount c_rows_there c_rows_size c_ways_straightSize c_ways_slantwiseSize c_land_kinds c_land_nears c_rows_ends c_turns_known c_turns_lengths c_ways_lengths c_ways_slantwises c_ways_straights) H locs → W p l e (rm9x 7 110) s m args below meth c H locs 0 0 Q (F0 m 0 ls []) by
    rw [← eH] at hW ⊢
    exact hS9 hW
  clear hW eL
  intro hW
  refine lv_aload_n (pc := 0) hx hb (dd dX9_turn 0 rfl) rfl (lv_at hl 0 rfl) ?_
  obtain ⟨ex9, hr, h⟩ := bnd_ex h
  rcases ex9 with x9 | u9
  · have h := sE_l h
    have hW9 := hW
    cases h
    exact callXV (pc := 1) (na := 0) (As := []) (rest := []) M hl.1 hW9 hlk hex hA9 hQ (x_X9_needRows l hl9 g a_t a_rows a_rings a_land a_ways a_turns a_plan a_planner a_slants a_reaper a_rows_strips a_rows_alongs a_rows_numbers a_rows_sorted a_rows_spare a_rows_tally a_rows_squares a_rows_starts a_rows_ends c_rows_there c_rows_size _ hr) rfl [0, 2] [1, 3, 4, 5, 6, 7, 8, 9, 10, 11, 12] [11, 0, 12, 1, 2, 3, 4, 5, 6, 7, 8, 9, 10] rfl rfl rfl rfl rfl rfl rfl 0 9 rfl rfl rfl (uw3 191 rfl rfl) (uw3 188 rfl rfl) (uw3 190 rfl rfl) (uwp 22 rfl rfl) (uw1 1 rfl rfl) ⟨by decide, by decide, by decide⟩ rfl ⟨by decide, by decide⟩ (Nat.le_of_ble_eq_true rfl)  ⟨by decide, by decide⟩ (dd dX9_turn 1 rfl)
  have h := sE_r h
  refine callVV (pc := 1) (na := 0) (As := []) (rest := []) (ws2 := (w_X9_turn g a_t a_land a_rows a_turns a_ways a_land_kinds a_land_nears a_rows_ends a_turns_known a_turns_lengths a_ways_lengths a_ways_slantwises a_ways_straights a_rings a_plan a_planner a_slants a_reaper a_land_depths a_rows_strips a_rows_alongs a_rows_numbers a_rows_sorted a_rows_spare a_rows_tally a_rows_squares a_rows_starts c_land_laid c_land_head c_land_fieldCount c_land_innerCount c_rows_there c_rows_size c_ways_straightSize c_ways_slantwiseSize c_land_kinds c_land_nears c_rows_ends c_turns_known c_turns_lengths c_ways_lengths c_ways_slantwises c_ways_straights)) M hl.1 hW (t_X9_needRows l g a_t a_rows a_rings a_land a_ways a_turns a_plan a_planner a_slants a_reaper a_rows_strips a_rows_alongs a_rows_numbers a_rows_sorted a_rows_spare a_rows_tally a_rows_squares a_rows_starts a_rows_ends c_rows_there c_rows_size hr) rfl [0, 2] [1, 3, 4, 5, 6, 7, 8, 9, 10, 11, 12] [11, 0, 12, 1, 2, 3, 4, 5, 6, 7, 8, 9, 10] rfl rfl rfl rfl rfl rfl rfl 0 9 rfl rfl rfl (uw3 191 rfl rfl) (uw3 188 rfl rfl) (uw3 190 rfl rfl) (uwp 22 rfl rfl) (uw1 1 rfl rfl) ⟨by decide, by decide, by decide⟩ rfl ⟨by decide, by decide⟩ (Nat.le_of_ble_eq_true rfl)  ⟨Nat.zero_le _, Nat.zero_le _⟩ (dd dX9_turn 1 rfl) (fun H locs hW => ?_)
  refine lv_iconst (pc := 4) (v := 2) hx hb (dd dX9_turn 2 rfl) (by decide) ?_
  refine lv_aload_n (pc := 5) hx hb (dd dX9_turn 3 rfl) rfl (lv_at hl 0 rfl) ?_
  refine rGet (pc := 6) M hW 0 3 iU9 rfl rfl (by decide) (uw2 53 rfl rfl) rfl (dd dX9_turn 4 rfl) ?_
  refine rGet (pc := 9) M hW 2 11 iU6 rfl rfl (by decide) (uw1 160 rfl rfl) rfl (dd dX9_turn 5 rfl) ?_
  refine lv_imul (pc := 12) hx hb (dd dX9_turn 6 rfl) ?_
  obtain ⟨v3_13, ev3_13, h⟩ := nm_ex h
  refine rTopi (pc := 13) ev3_13 ?_
  refine lv_istore_n (pc := 13) (lv' := [(3, .int v3_13), (0, .ref a_t), (1, .int v1), (2, .int v2)]) hx hb (dd dX9_turn 7 rfl) rfl hl (by decide) rfl (fun ls hl => ?_)
  refine lv_iload_n (pc := 14) hx hb (dd dX9_turn 8 rfl) rfl (lv_at hl 2 rfl) ?_
  refine lv_if_lt (pc := 15) (tgt := 32) hx hb (dd dX9_turn 9 rfl) (by decide) (fun hc => ?_) (fun hc => ?_)
  · have h := it_t hc h
    have hW9 := hW
    cases h
    exact rThrowN (pc := 32) (text := "no such row") hl9 M hl.1 hW9 hlk hex hA9 hQ (uw3 193 rfl rfl) (uw1 21 rfl rfl) (by decide) xg5 xb5 xo5 ⟨by decide, by decide⟩ (Nat.le_of_ble_eq_true rfl) ⟨by decide, by decide⟩ (dd dX9_turn 18 rfl) (dd dX9_turn 19 rfl) (dd dX9_turn 20 rfl) (dd dX9_turn 21 rfl) (dd dX9_turn 22 rfl)
  · have h := it_f hc h
    refine lv_iload_n (pc := 18) hx hb (dd dX9_turn 10 rfl) rfl (lv_at hl 2 rfl) ?_
    refine lv_iload_n (pc := 19) hx hb (dd dX9_turn 11 rfl) rfl (lv_at hl 0 rfl) ?_
    refine lv_icmp_ge (pc := 20) (tgt := 32) hx hb (dd dX9_turn 12 rfl) (by decide) (fun hc => ?_) (fun hc => ?_)
    · have h := it_t hc h
      have hW9 := hW
      cases h
      exact rThrowN (pc := 32) (text := "no such row") hl9 M hl.1 hW9 hlk hex hA9 hQ (uw3 193 rfl rfl) (uw1 21 rfl rfl) (by decide) xg5 xb5 xo5 ⟨by decide, by decide⟩ (Nat.le_of_ble_eq_true rfl) ⟨by decide, by decide⟩ (dd dX9_turn 18 rfl) (dd dX9_turn 19 rfl) (dd dX9_turn 20 rfl) (dd dX9_turn 21 rfl) (dd dX9_turn 22 rfl)
    · have h := it_f hc h
      refine lv_iload_n (pc := 23) hx hb (dd dX9_turn 13 rfl) rfl (lv_at hl 3 rfl) ?_
      refine lv_if_lt (pc := 24) (tgt := 32) hx hb (dd dX9_turn 14 rfl) (by decide) (fun hc => ?_) (fun hc => ?_)
      · have h := it_t hc h
        have hW9 := hW
        cases h
        exact rThrowN (pc := 32) (text := "no such row") hl9 M hl.1 hW9 hlk hex hA9 hQ (uw3 193 rfl rfl) (uw1 21 rfl rfl) (by decide) xg5 xb5 xo5 ⟨by decide, by decide⟩ (Nat.le_of_ble_eq_true rfl) ⟨by decide, by decide⟩ (dd dX9_turn 18 rfl) (dd dX9_turn 19 rfl) (dd dX9_turn 20 rfl) (dd dX9_turn 21 rfl) (dd dX9_turn 22 rfl)
      · have h := it_f hc h
        refine lv_iload_n (pc := 27) hx hb (dd dX9_turn 15 rfl) rfl (lv_at hl 3 rfl) ?_
        refine lv_iload_n (pc := 28) hx hb (dd dX9_turn 16 rfl) rfl (lv_at hl 0 rfl) ?_
        refine lv_icmp_lt (pc := 29) (tgt := 42) hx hb (dd dX9_turn 17 rfl) (by decide) (fun hc => ?_) (fun hc => ?_)
        · have h := it_t hc h
          refine lv_iload_n (pc := 42) hx hb (dd dX9_turn 23 rfl) rfl (lv_at hl 2 rfl) ?_
          refine lv_iconst (pc := 43) (v := 2) hx hb (dd dX9_turn 24 rfl) (by decide) ?_
          refine lv_idiv (pc := 44) hx hb (dd dX9_turn 25 rfl) (by decide) ?_
          refine lv_iload_n (pc := 45) hx hb (dd dX9_turn 26 rfl) rfl (lv_at hl 3 rfl) ?_
          refine lv_iconst (pc := 46) (v := 2) hx hb (dd dX9_turn 27 rfl) (by decide) ?_
          refine lv_idiv (pc := 47) hx hb (dd dX9_turn 28 rfl) (by decide) ?_
          refine lv_icmp_ne (pc := 48) (tgt := 61) hx hb (dd dX9_turn 29 rfl) (by decide) (fun hc => ?_) (fun hc => ?_)
          · have h := it_f hc h
            exact (rmap_no h).elim
          · have h := it_t hc h
            have hW9 := hW
            cases h
            exact rThrowN (pc := 51) (text := "both ends are of one row") hl9 M hl.1 hW9 hlk hex hA9 hQ (uw3 193 rfl rfl) (uw1 21 rfl rfl) (by decide) xg5 xb5 xo5 ⟨by decide, by decide⟩ (Nat.le_of_ble_eq_true rfl) ⟨by decide, by decide⟩ (dd dX9_turn 30 rfl) (dd dX9_turn 31 rfl) (dd dX9_turn 32 rfl) (dd dX9_turn 33 rfl) (dd dX9_turn 34 rfl)
        · have h := it_f hc h
          have hW9 := hW
          cases h
          exact rThrowN (pc := 32) (text := "no such row") hl9 M hl.1 hW9 hlk hex hA9 hQ (uw3 193 rfl rfl) (uw1 21 rfl rfl) (by decide) xg5 xb5 xo5 ⟨by decide, by decide⟩ (Nat.le_of_ble_eq_true rfl) ⟨by decide, by decide⟩ (dd dX9_turn 18 rfl) (dd dX9_turn 19 rfl) (dd dX9_turn 20 rfl) (dd dX9_turn 21 rfl) (dd dX9_turn 22 rfl)
