abbrev w_X10_thrown (g : G9) (a_t a_cornerX a_cornerY a_corners a_what a_rowAt a_strip a_along a_rowSize a_endAt a_turns a_plan a_slantA a_slantB a_yields a_bears a_seen a_wagons a_pile a_far a_waiting a_isWaiting a_rest a_isUsed : Nat) (c_thrown c_isLaid c_head c_hasRows c_hasPlan c_rows c_slants c_capacity c_weight c_unload c_source c_bunker : Int32) : va_W := [ob a_t 10 [.int c_thrown, .ref a_cornerX, .ref a_cornerY, .ref a_corners, .ref a_what, .int c_isLaid, .int c_head, .int c_hasRows, .int c_hasPlan, .int c_rows, .ref a_rowAt, .ref a_strip, .ref a_along, .ref a_rowSize, .ref a_endAt, .ref a_turns, .ref a_plan, .ref a_slantA, .ref a_slantB, .int c_slants, .ref a_yields, .ref a_bears, .int c_capacity, .int c_weight, .int c_unload, .ref a_seen, .ref a_wagons, .ref a_pile, .ref a_far, .int c_source, .ref a_waiting, .ref a_isWaiting, .ref a_rest, .ref a_isUsed, .int c_bunker]]
noncomputable def X10_thrown (c_thrown : Int32) : Option Int32 :=
  some c_thrown
set_option maxHeartbeats 4000000 in
set_option maxRecDepth 100000 in
theorem t_X10_thrown (l : Launch) (g : G9) (a_t a_cornerX a_cornerY a_corners a_what a_rowAt a_strip a_along a_rowSize a_endAt a_turns a_plan a_slantA a_slantB a_yields a_bears a_seen a_wagons a_pile a_far a_waiting a_isWaiting a_rest a_isUsed : Nat) (c_thrown c_isLaid c_head c_hasRows c_hasPlan c_rows c_slants c_capacity c_weight c_unload c_source c_bunker r0 : Int32) (h : X10_thrown c_thrown = some r0) : CtI l g yX10_thrown cX10_thrown 1 .int 0 0 [.ref a_t] (w_X10_thrown g a_t a_cornerX a_cornerY a_corners a_what a_rowAt a_strip a_along a_rowSize a_endAt a_turns a_plan a_slantA a_slantB a_yields a_bears a_seen a_wagons a_pile a_far a_waiting a_isWaiting a_rest a_isUsed c_thrown c_isLaid c_head c_hasRows c_hasPlan c_rows c_slants c_capacity c_weight c_unload c_source c_bunker) r0 (w_X10_thrown g a_t a_cornerX a_cornerY a_corners a_what a_rowAt a_strip a_along a_rowSize a_endAt a_turns a_plan a_slantA a_slantB a_yields a_bears a_seen a_wagons a_pile a_far a_waiting a_isWaiting a_rest a_isUsed c_thrown c_isLaid c_head c_hasRows c_hasPlan c_rows c_slants c_capacity c_weight c_unload c_source c_bunker) := by
  refine startI (by decide) (Nat.le_of_ble_eq_true rfl) ?_
  intro p e s m below meth c A Q ls args M hW hl ret
  have hx := M.1
  have hb := M.2.1
  have hown := M.2.2.2.1
  have hu := M.2.2.2.2.1
  have hl : lv_has ls 1 [(0, .ref a_t)] := hl
  unfold X10_thrown at h
  obtain ⟨H, eH⟩ : ∃ z, z = s.heap := ⟨_, rfl⟩
  obtain ⟨locs, eL⟩ : ∃ z, z = ([] : List Loc) := ⟨_, rfl⟩
  rw [← eL] at hW ⊢
  suffices hS9 : WD g s A (w_X10_thrown g a_t a_cornerX a_cornerY a_corners a_what a_rowAt a_strip a_along a_rowSize a_endAt a_turns a_plan a_slantA a_slantB a_yields a_bears a_seen a_wagons a_pile a_far a_waiting a_isWaiting a_rest a_isUsed c_thrown c_isLaid c_head c_hasRows c_hasPlan c_rows c_slants c_capacity c_weight c_unload c_source c_bunker) H locs → W p l e (rm9 0 0) s m args below meth c H locs 0 0 Q (F0 m 0 ls []) by
    rw [← eH] at hW ⊢
    exact hS9 hW
  clear hW eH eL
  intro hW
  refine lv_aload_n (pc := 0) hx hb (dd dX10_thrown 0 rfl) rfl (lv_at hl 0 rfl) ?_
  refine rGet (pc := 1) M hW 0 0 iU10 rfl rfl (by decide) (uw4 213 rfl rfl) rfl (dd dX10_thrown 1 rfl) ?_
  have hW9 := hW
  cases h
  exact ret _ _ _ 4 hW9 rfl (dd dX10_thrown 2 rfl)
abbrev w_X10_throwsIf (g : G9) (a_t a_cornerX a_cornerY a_corners a_what a_rowAt a_strip a_along a_rowSize a_endAt a_turns a_plan a_slantA a_slantB a_yields a_bears a_seen a_wagons a_pile a_far a_waiting a_isWaiting a_rest a_isUsed : Nat) (c_thrown c_isLaid c_head c_hasRows c_hasPlan c_rows c_slants c_capacity c_weight c_unload c_source c_bunker : Int32) : va_W := [ob a_t 10 [.int c_thrown, .ref a_cornerX, .ref a_cornerY, .ref a_corners, .ref a_what, .int c_isLaid, .int c_head, .int c_hasRows, .int c_hasPlan, .int c_rows, .ref a_rowAt, .ref a_strip, .ref a_along, .ref a_rowSize, .ref a_endAt, .ref a_turns, .ref a_plan, .ref a_slantA, .ref a_slantB, .int c_slants, .ref a_yields, .ref a_bears, .int c_capacity, .int c_weight, .int c_unload, .ref a_seen, .ref a_wagons, .ref a_pile, .ref a_far, .int c_source, .ref a_waiting, .ref a_isWaiting, .ref a_rest, .ref a_isUsed, .int c_bunker]]
noncomputable def X10_throwsIf (c_thrown v1 v2 : Int32) : Option (Int32 × Int32) :=
  if v1 = 0 then (ck (bl v1) <| some (v1, c_thrown)) else (ck (bl v1) <| some (v1, v2))
set_option maxHeartbeats 4000000 in
set_option maxRecDepth 100000 in
theorem t_X10_throwsIf (l : Launch) (g : G9) (a_t a_cornerX a_cornerY a_corners a_what a_rowAt a_strip a_along a_rowSize a_endAt a_turns a_plan a_slantA a_slantB a_yields a_bears a_seen a_wagons a_pile a_far a_waiting a_isWaiting a_rest a_isUsed : Nat) (c_thrown c_isLaid c_head c_hasRows c_hasPlan c_rows c_slants c_capacity c_weight c_unload c_source c_bunker v1 v2 r0 o_thrown : Int32) (h : X10_throwsIf c_thrown v1 v2 = some (r0, o_thrown)) : CtI l g yX10_throwsIf cX10_throwsIf 3 .boolean 0 0 [.ref a_t, .int v1, .int v2] (w_X10_throwsIf g a_t a_cornerX a_cornerY a_corners a_what a_rowAt a_strip a_along a_rowSize a_endAt a_turns a_plan a_slantA a_slantB a_yields a_bears a_seen a_wagons a_pile a_far a_waiting a_isWaiting a_rest a_isUsed c_thrown c_isLaid c_head c_hasRows c_hasPlan c_rows c_slants c_capacity c_weight c_unload c_source c_bunker) r0 (w_X10_throwsIf g a_t a_cornerX a_cornerY a_corners a_what a_rowAt a_strip a_along a_rowSize a_endAt a_turns a_plan a_slantA a_slantB a_yields a_bears a_seen a_wagons a_pile a_far a_waiting a_isWaiting a_rest a_isUsed o_thrown c_isLaid c_head c_hasRows c_hasPlan c_rows c_slants c_capacity c_weight c_unload c_source c_bunker) := by
  refine startI (by decide) (Nat.le_of_ble_eq_true rfl) ?_
  intro p e s m below meth c A Q ls args M hW hl ret
  have hx := M.1
  have hb := M.2.1
  have hown := M.2.2.2.1
  have hu := M.2.2.2.2.1
  have hl : lv_has ls 3 [(0, .ref a_t), (1, .int v1), (2, .int v2)] := hl
  unfold X10_throwsIf at h
  obtain ⟨H, eH⟩ : ∃ z, z = s.heap := ⟨_, rfl⟩
  obtain ⟨locs, eL⟩ : ∃ z, z = ([] : List Loc) := ⟨_, rfl⟩
  rw [← eL] at hW ⊢
  suffices hS9 : WD g s A (w_X10_throwsIf g a_t a_cornerX a_cornerY a_corners a_what a_rowAt a_strip a_along a_rowSize a_endAt a_turns a_plan a_slantA a_slantB a_yields a_bears a_seen a_wagons a_pile a_far a_waiting a_isWaiting a_rest a_isUsed c_thrown c_isLaid c_head c_hasRows c_hasPlan c_rows c_slants c_capacity c_weight c_unload c_source c_bunker) H locs → W p l e (rm9 0 0) s m args below meth c H locs 0 0 Q (F0 m 0 ls []) by
    rw [← eH] at hW ⊢
    exact hS9 hW
  clear hW eH eL
  intro hW
  refine lv_iload_n (pc := 0) hx hb (dd dX10_throwsIf 0 rfl) rfl (lv_at hl 1 rfl) ?_
  refine lv_if_eq (pc := 1) (tgt := 9) hx hb (dd dX10_throwsIf 1 rfl) (by decide) (fun hc => ?_) (fun hc => ?_)
  · have h := it_t hc h
    refine lv_iload_n (pc := 9) hx hb (dd dX10_throwsIf 5 rfl) rfl (lv_at hl 1 rfl) ?_
    obtain ⟨hi9, h⟩ := ck_ex h
    have hW9 := hW
    cases h
    exact ret _ _ _ 10 hW9 (bl_nar hi9) (dd dX10_throwsIf 6 rfl)
  · have h := it_f hc h
    refine lv_aload_n (pc := 4) hx hb (dd dX10_throwsIf 2 rfl) rfl (lv_at hl 0 rfl) ?_
    refine lv_iload_n (pc := 5) hx hb (dd dX10_throwsIf 3 rfl) rfl (lv_at hl 2 rfl) ?_
    refine rPut (pc := 6) M hW 0 0 tyX10 tyX10_ok nmX10 iU10 rfl rfl (by decide) (uw4 213 rfl rfl) rfl rfl rfl (Nat.le_of_ble_eq_true rfl) (dd dX10_throwsIf 4 rfl) (ws' := (w_X10_throwsIf g a_t a_cornerX a_cornerY a_corners a_what a_rowAt a_strip a_along a_rowSize a_endAt a_turns a_plan a_slantA a_slantB a_yields a_bears a_seen a_wagons a_pile a_far a_waiting a_isWaiting a_rest a_isUsed v2 c_isLaid c_head c_hasRows c_hasPlan c_rows c_slants c_capacity c_weight c_unload c_source c_bunker)) rfl (fun H locs hW => ?_)
    refine lv_iload_n (pc := 9) hx hb (dd dX10_throwsIf 5 rfl) rfl (lv_at hl 1 rfl) ?_
    obtain ⟨hi9, h⟩ := ck_ex h
    have hW9 := hW
    cases h
    exact ret _ _ _ 10 hW9 (bl_nar hi9) (dd dX10_throwsIf 6 rfl)
abbrev w_X10_takesAway (g : G9) (a_t a_cornerX a_cornerY a_corners a_what a_rowAt a_strip a_along a_rowSize a_endAt a_turns a_plan a_slantA a_slantB a_yields a_bears a_seen a_wagons a_pile a_far a_waiting a_isWaiting a_rest a_isUsed : Nat) (c_thrown c_isLaid c_head c_hasRows c_hasPlan c_rows c_slants c_capacity c_weight c_unload c_source c_bunker : Int32) : va_W := [ob a_t 10 [.int c_thrown, .ref a_cornerX, .ref a_cornerY, .ref a_corners, .ref a_what, .int c_isLaid, .int c_head, .int c_hasRows, .int c_hasPlan, .int c_rows, .ref a_rowAt, .ref a_strip, .ref a_along, .ref a_rowSize, .ref a_endAt, .ref a_turns, .ref a_plan, .ref a_slantA, .ref a_slantB, .int c_slants, .ref a_yields, .ref a_bears, .int c_capacity, .int c_weight, .int c_unload, .ref a_seen, .ref a_wagons, .ref a_pile, .ref a_far, .int c_source, .ref a_waiting, .ref a_isWaiting, .ref a_rest, .ref a_isUsed, .int c_bunker]]
noncomputable def X10_takesAway (c_isLaid c_hasRows c_hasPlan : Int32) : Option (Int32 × Int32 × Int32) :=
  some (0, 0, 0)
set_option maxHeartbeats 4000000 in
set_option maxRecDepth 100000 in
theorem t_X10_takesAway (l : Launch) (g : G9) (a_t a_cornerX a_cornerY a_corners a_what a_rowAt a_strip a_along a_rowSize a_endAt a_turns a_plan a_slantA a_slantB a_yields a_bears a_seen a_wagons a_pile a_far a_waiting a_isWaiting a_rest a_isUsed : Nat) (c_thrown c_isLaid c_head c_hasRows c_hasPlan c_rows c_slants c_capacity c_weight c_unload c_source c_bunker o_isLaid o_hasRows o_hasPlan : Int32) (h : X10_takesAway c_isLaid c_hasRows c_hasPlan = some (o_isLaid, o_hasRows, o_hasPlan)) : CtV l g yX10_takesAway cX10_takesAway 1 0 0 [.ref a_t] (w_X10_takesAway g a_t a_cornerX a_cornerY a_corners a_what a_rowAt a_strip a_along a_rowSize a_endAt a_turns a_plan a_slantA a_slantB a_yields a_bears a_seen a_wagons a_pile a_far a_waiting a_isWaiting a_rest a_isUsed c_thrown c_isLaid c_head c_hasRows c_hasPlan c_rows c_slants c_capacity c_weight c_unload c_source c_bunker) (w_X10_takesAway g a_t a_cornerX a_cornerY a_corners a_what a_rowAt a_strip a_along a_rowSize a_endAt a_turns a_plan a_slantA a_slantB a_yields a_bears a_seen a_wagons a_pile a_far a_waiting a_isWaiting a_rest a_isUsed c_thrown o_isLaid c_head o_hasRows o_hasPlan c_rows c_slants c_capacity c_weight c_unload c_source c_bunker) := by
  refine startV (by decide) (Nat.le_of_ble_eq_true rfl) ?_
  intro p e s m below meth c A Q ls args M hW hl ret
  have hx := M.1
  have hb := M.2.1
  have hown := M.2.2.2.1
  have hu := M.2.2.2.2.1
  have hl : lv_has ls 1 [(0, .ref a_t)] := hl
  unfold X10_takesAway at h
  obtain ⟨H, eH⟩ : ∃ z, z = s.heap := ⟨_, rfl⟩
  obtain ⟨locs, eL⟩ : ∃ z, z = ([] : List Loc) := ⟨_, rfl⟩
  rw [← eL] at hW ⊢
  suffices hS9 : WD g s A (w_X10_takesAway g a_t a_cornerX a_cornerY a_corners a_what a_rowAt a_strip a_along a_rowSize a_endAt a_turns a_plan a_slantA a_slantB a_yields a_bears a_seen a_wagons a_pile a_far a_waiting a_isWaiting a_rest a_isUsed c_thrown c_isLaid c_head c_hasRows c_hasPlan c_rows c_slants c_capacity c_weight c_unload c_source c_bunker) H locs → W p l e (rm9 0 0) s m args below meth c H locs 0 0 Q (F0 m 0 ls []) by
    rw [← eH] at hW ⊢
    exact hS9 hW
  clear hW eH eL
  intro hW
  refine lv_aload_n (pc := 0) hx hb (dd dX10_takesAway 0 rfl) rfl (lv_at hl 0 rfl) ?_
  refine lv_iconst (pc := 1) (v := 0) hx hb (dd dX10_takesAway 1 rfl) (by decide) ?_
  refine rPut (pc := 2) M hW 0 5 tyX10 tyX10_ok nmX10 iU10 rfl rfl (by decide) (uw4 218 rfl rfl) rfl rfl rfl (Nat.le_of_ble_eq_true rfl) (dd dX10_takesAway 2 rfl) (ws' := (w_X10_takesAway g a_t a_cornerX a_cornerY a_corners a_what a_rowAt a_strip a_along a_rowSize a_endAt a_turns a_plan a_slantA a_slantB a_yields a_bears a_seen a_wagons a_pile a_far a_waiting a_isWaiting a_rest a_isUsed c_thrown 0 c_head c_hasRows c_hasPlan c_rows c_slants c_capacity c_weight c_unload c_source c_bunker)) rfl (fun H locs hW => ?_)
  refine lv_aload_n (pc := 5) hx hb (dd dX10_takesAway 3 rfl) rfl (lv_at hl 0 rfl) ?_
  refine lv_iconst (pc := 6) (v := 0) hx hb (dd dX10_takesAway 4 rfl) (by decide) ?_
  refine rPut (pc := 7) M hW 0 7 tyX10 tyX10_ok nmX10 iU10 rfl rfl (by decide) (uw4 220 rfl rfl) rfl rfl rfl (Nat.le_of_ble_eq_true rfl) (dd dX10_takesAway 5 rfl) (ws' := (w_X10_takesAway g a_t a_cornerX a_cornerY a_corners a_what a_rowAt a_strip a_along a_rowSize a_endAt a_turns a_plan a_slantA a_slantB a_yields a_bears a_seen a_wagons a_pile a_far a_waiting a_isWaiting a_rest a_isUsed c_thrown 0 c_head 0 c_hasPlan c_rows c_slants c_capacity c_weight c_unload c_source c_bunker)) rfl (fun H locs hW => ?_)
  refine lv_aload_n (pc := 10) hx hb (dd dX10_takesAway 6 rfl) rfl (lv_at hl 0 rfl) ?_
  refine lv_iconst (pc := 11) (v := 0) hx hb (dd dX10_takesAway 7 rfl) (by decide) ?_
  refine rPut (pc := 12) M hW 0 8 tyX10 tyX10_ok nmX10 iU10 rfl rfl (by decide) (uw4 221 rfl rfl) rfl rfl rfl (Nat.le_of_ble_eq_true rfl) (dd dX10_takesAway 8 rfl) (ws' := (w_X10_takesAway g a_t a_cornerX a_cornerY a_corners a_what a_rowAt a_strip a_along a_rowSize a_endAt a_turns a_plan a_slantA a_slantB a_yields a_bears a_seen a_wagons a_pile a_far a_waiting a_isWaiting a_rest a_isUsed c_thrown 0 c_head 0 0 c_rows c_slants c_capacity c_weight c_unload c_source c_bunker)) rfl (fun H locs hW => ?_)
  have hW9 := hW
  cases h
  exact ret _ _ _ 15 hW9 (dd dX10_takesAway 9 rfl)
abbrev w_X10_corner (g : G9) (a_t a_cornerX a_cornerY a_corners a_what a_rowAt a_strip a_along a_rowSize a_endAt a_turns a_plan a_slantA a_slantB a_yields a_bears a_seen a_wagons a_pile a_far a_waiting a_isWaiting a_rest a_isUsed : Nat) (c_thrown c_isLaid c_head c_hasRows c_hasPlan c_rows c_slants c_capacity c_weight c_unload c_source c_bunker : Int32) (c_cornerX c_cornerY c_corners : Ar) : va_W := [ob a_t 10 [.int c_thrown, .ref a_cornerX, .ref a_cornerY, .ref a_corners, .ref a_what, .int c_isLaid, .int c_head, .int c_hasRows, .int c_hasPlan, .int c_rows, .ref a_rowAt, .ref a_strip, .ref a_along, .ref a_rowSize, .ref a_endAt, .ref a_turns, .ref a_plan, .ref a_slantA, .ref a_slantB, .int c_slants, .ref a_yields, .ref a_bears, .int c_capacity, .int c_weight, .int c_unload, .ref a_seen, .ref a_wagons, .ref a_pile, .ref a_far, .int c_source, .ref a_waiting, .ref a_isWaiting, .ref a_rest, .ref a_isUsed, .int c_bunker], ia g a_cornerX 48 c_cornerX, ia g a_cornerY 48 c_cornerY, ia g a_corners 4 c_corners]
noncomputable def X10_corner_b77 (c_thrown c_isLaid c_hasRows c_hasPlan : Int32) (c_cornerX c_cornerY c_corners : Ar) (v1 v2 v3 k1 : Int32) : Option (Int32 × Int32 × Int32 × Int32 × Int32 × Ar × Ar × Ar) :=
  bnd (X10_throwsIf c_thrown k1 3) <| un2 fun r_78 c_thrown_78 => if r_78 = 0 then (ck (ix v1 4) <| ck (ix ((12 * v1) + (ag c_corners v1)) 48) <| nm (au c_cornerX ((12 * v1) + (ag c_corners v1)) v2) fun c_cornerX_102 => ck (ix v1 4) <| ck (ix ((12 * v1) + (ag c_corners v1)) 48) <| nm (au c_cornerY ((12 * v1) + (ag c_corners v1)) v3) fun c_cornerY_119 => ck (ix v1 4) <| ck (ix v1 4) <| nm (au c_corners v1 ((ag c_corners v1) + 1)) fun c_corners_129 => bnd (X10_takesAway c_isLaid c_hasRows c_hasPlan) <| un3 fun c_isLaid_131 c_hasRows_131 c_hasPlan_131 => ck (ix v1 4) <| some ((ag c_corners_129 v1), c_thrown_78, c_isLaid_131, c_hasRows_131, c_hasPlan_131, c_cornerX_102, c_cornerY_119, c_corners_129)) else (some (0, c_thrown_78, c_isLaid, c_hasRows, c_hasPlan, c_cornerX, c_cornerY, c_corners))
noncomputable def X10_corner_b53 (c_thrown c_isLaid c_hasRows c_hasPlan : Int32) (c_cornerX c_cornerY c_corners : Ar) (v1 v2 v3 k1 : Int32) : Option (Int32 × Int32 × Int32 × Int32 × Int32 × Ar × Ar × Ar) :=
  bnd (X10_throwsIf c_thrown k1 2) <| un2 fun r_54 c_thrown_54 => if r_54 = 0 then (ck (ix v1 4) <| if (ag c_corners v1) = 12 then (X10_corner_b77 c_thrown_54 c_isLaid c_hasRows c_hasPlan c_cornerX c_cornerY c_corners v1 v2 v3 1) else (X10_corner_b77 c_thrown_54 c_isLaid c_hasRows c_hasPlan c_cornerX c_cornerY c_corners v1 v2 v3 0)) else (some (0, c_thrown_54, c_isLaid, c_hasRows, c_hasPlan, c_cornerX, c_cornerY, c_corners))
noncomputable def X10_corner_b48 (c_thrown c_isLaid c_hasRows c_hasPlan : Int32) (c_cornerX c_cornerY c_corners : Ar) (v1 v2 v3 : Int32) : Option (Int32 × Int32 × Int32 × Int32 × Int32 × Ar × Ar × Ar) :=
  X10_corner_b53 c_thrown c_isLaid c_hasRows c_hasPlan c_cornerX c_cornerY c_corners v1 v2 v3 1
noncomputable def X10_corner_b20 (c_thrown c_isLaid c_hasRows c_hasPlan : Int32) (c_cornerX c_cornerY c_corners : Ar) (v1 v2 v3 k1 : Int32) : Option (Int32 × Int32 × Int32 × Int32 × Int32 × Ar × Ar × Ar) :=
  bnd (X10_throwsIf c_thrown k1 1) <| un2 fun r_21 c_thrown_21 => if r_21 = 0 then (if v2 < 0 then (X10_corner_b48 c_thrown_21 c_isLaid c_hasRows c_hasPlan c_cornerX c_cornerY c_corners v1 v2 v3) else (if v3 < 0 then (X10_corner_b48 c_thrown_21 c_isLaid c_hasRows c_hasPlan c_cornerX c_cornerY c_corners v1 v2 v3) else (if 40 < v2 then (X10_corner_b48 c_thrown_21 c_isLaid c_hasRows c_hasPlan c_cornerX c_cornerY c_corners v1 v2 v3) else (if v3 ≤ 30 then (X10_corner_b53 c_thrown_21 c_isLaid c_hasRows c_hasPlan c_cornerX c_cornerY c_corners v1 v2 v3 0) else (X10_corner_b48 c_thrown_21 c_isLaid c_hasRows c_hasPlan c_cornerX c_cornerY c_corners v1 v2 v3))))) else (some (0, c_thrown_21, c_isLaid, c_hasRows, c_hasPlan, c_cornerX, c_cornerY, c_corners))
noncomputable def X10_corner_b15 (c_thrown c_isLaid c_hasRows c_hasPlan : Int32) (c_cornerX c_cornerY c_corners : Ar) (v1 v2 v3 : Int32) : Option (Int32 × Int32 × Int32 × Int32 × Int32 × Ar × Ar × Ar) :=
  X10_corner_b20 c_thrown c_isLaid c_hasRows c_hasPlan c_cornerX c_cornerY c_corners v1 v2 v3 1
noncomputable def X10_corner (c_thrown c_isLaid c_hasRows c_hasPlan : Int32) (c_cornerX c_cornerY c_corners : Ar) (v1 v2 v3 : Int32) : Option (Int32 × Int32 × Int32 × Int32 × Int32 × Ar × Ar × Ar) :=
  if v1 < 0 then (X10_corner_b15 0 c_isLaid c_hasRows c_hasPlan c_cornerX c_cornerY c_corners v1 v2 v3) else (if v1 ≤ 3 then (X10_corner_b20 0 c_isLaid c_hasRows c_hasPlan c_cornerX c_cornerY c_corners v1 v2 v3 0) else (X10_corner_b15 0 c_isLaid c_hasRows c_hasPlan c_cornerX c_cornerY c_corners v1 v2 v3))
set_option maxHeartbeats 4000000 in
set_option maxRecDepth 100000 in
theorem t_X10_corner (l : Launch) (g : G9) (a_t a_cornerX a_cornerY a_corners a_what a_rowAt a_strip a_along a_rowSize a_endAt a_turns a_plan a_slantA a_slantB a_yields a_bears a_seen a_wagons a_pile a_far a_waiting a_isWaiting a_rest a_isUsed : Nat) (c_thrown c_isLaid c_head c_hasRows c_hasPlan c_rows c_slants c_capacity c_weight c_unload c_source c_bunker : Int32) (c_cornerX c_cornerY c_corners : Ar) (v1 v2 v3 r0 o_thrown o_isLaid o_hasRows o_hasPlan : Int32) (o_cornerX o_cornerY o_corners : Ar) (h : X10_corner c_thrown c_isLaid c_hasRows c_hasPlan c_cornerX c_cornerY c_corners v1 v2 v3 = some (r0, o_thrown, o_isLaid, o_hasRows, o_hasPlan, o_cornerX, o_cornerY, o_corners)) : CtI l g yX10_corner cX10_corner 4 .int 1 22 [.ref a_t, .int v1, .int v2, .int v3] (w_X10_corner g a_t a_cornerX a_cornerY a_corners a_what a_rowAt a_strip a_along a_rowSize a_endAt a_turns a_plan a_slantA a_slantB a_yields a_bears a_seen a_wagons a_pile a_far a_waiting a_isWaiting a_rest a_isUsed c_thrown c_isLaid c_head c_hasRows c_hasPlan c_rows c_slants c_capacity c_weight c_unload c_source c_bunker c_cornerX c_cornerY c_corners) r0 (w_X10_corner g a_t a_cornerX a_cornerY a_corners a_what a_rowAt a_strip a_along a_rowSize a_endAt a_turns a_plan a_slantA a_slantB a_yields a_bears a_seen a_wagons a_pile a_far a_waiting a_isWaiting a_rest a_isUsed o_thrown o_isLaid c_head o_hasRows o_hasPlan c_rows c_slants c_capacity c_weight c_unload c_source c_bunker o_cornerX o_cornerY o_corners) := by
  refine startI (by decide) (Nat.le_of_ble_eq_true rfl) ?_
  intro p e s m below meth c A Q ls args M hW hl ret
  have hx := M.1
  have hb := M.2.1
  have hown := M.2.2.2.1
  have hu := M.2.2.2.2.1
  have hl : lv_has ls 4 [(0, .ref a_t), (1, .int v1), (2, .int v2), (3, .int v3)] := hl
  unfold X10_corner at h
  obtain ⟨H, eH⟩ : ∃ z, z = s.heap := ⟨_, rfl⟩
  obtain ⟨locs, eL⟩ : ∃ z, z = ([] : List Loc) := ⟨_, rfl⟩
  rw [← eL] at hW ⊢
  suffices hS9 : WD g s A (w_X10_corner g a_t a_cornerX a_cornerY a_corners a_what a_rowAt a_strip a_along a_rowSize a_endAt a_turns a_plan a_slantA a_slantB a_yields a_bears a_seen a_wagons a_pile a_far a_waiting a_isWaiting a_rest a_isUsed c_thrown c_isLaid c_head c_hasRows c_hasPlan c_rows c_slants c_capacity c_weight c_unload c_source c_bunker c_cornerX c_cornerY c_corners) H locs → W p l e (rm9 1 22) s m args below meth c H locs 0 0 Q (F0 m 0 ls []) by
    rw [← eH] at hW ⊢
    exact hS9 hW
  clear hW eH eL
  intro hW
  have J77 : ∀ (c_thrown c_isLaid c_hasRows c_hasPlan : Int32) (c_cornerX c_cornerY c_corners : Ar) (k1 : Int32) (H : Heap) (locs : List Loc) (ls : Array Slot), X10_corner_b77 c_thrown c_isLaid c_hasRows c_hasPlan c_cornerX c_cornerY c_corners v1 v2 v3 k1 = some (r0, o_thrown, o_isLaid, o_hasRows, o_hasPlan, o_cornerX, o_cornerY, o_corners) → WD g s A (w_X10_corner g a_t a_cornerX a_cornerY a_corners a_what a_rowAt a_strip a_along a_rowSize a_endAt a_turns a_plan a_slantA a_slantB a_yields a_bears a_seen a_wagons a_pile a_far a_waiting a_isWaiting a_rest a_isUsed c_thrown c_isLaid c_head c_hasRows c_hasPlan c_rows c_slants c_capacity c_weight c_unload c_source c_bunker c_cornerX c_cornerY c_corners) H locs → lv_has ls 4 [(0, .ref a_t), (1, .int v1), (2, .int v2), (3, .int v3)] → W p l e (rm9 1 22) s m args below meth c H locs 0 0 Q (F0 m 77 ls [.int k1, .ref a_t]) := by
    intro c_thrown c_isLaid c_hasRows c_hasPlan c_cornerX c_cornerY c_corners k1 H locs ls h hW hl
    unfold X10_corner_b77 at h
    refine lv_iconst (pc := 77) (v := 3) hx hb (dd dX10_corner_p0 42 rfl) (by decide) ?_
    obtain ⟨⟨r_78, c_thrown_78⟩, hr, h⟩ := bnd_ex h
    have h := un2_at h
    refine callVI (pc := 78) (na := 2) (As := [.int k1, .int 3]) (rest := []) (ws2 := (w_X10_corner g a_t a_cornerX a_cornerY a_corners a_what a_rowAt a_strip a_along a_rowSize a_endAt a_turns a_plan a_slantA a_slantB a_yields a_bears a_seen a_wagons a_pile a_far a_waiting a_isWaiting a_rest a_isUsed c_thrown_78 c_isLaid c_head c_hasRows c_hasPlan c_rows c_slants c_capacity c_weight c_unload c_source c_bunker c_cornerX c_cornerY c_corners)) M hl.1 hW (t_X10_throwsIf l g a_t a_cornerX a_cornerY a_corners a_what a_rowAt a_strip a_along a_rowSize a_endAt a_turns a_plan a_slantA a_slantB a_yields a_bears a_seen a_wagons a_pile a_far a_waiting a_isWaiting a_rest a_isUsed c_thrown c_isLaid c_head c_hasRows c_hasPlan c_rows c_slants c_capacity c_weight c_unload c_source c_bunker k1 3 r_78 c_thrown_78 hr) rfl [0] [1, 2, 3] [3, 0, 1, 2] rfl rfl rfl rfl rfl rfl rfl 0 10 rfl rfl rfl (uw5 86 rfl rfl) (uw5 83 rfl rfl) (uw5 85 rfl rfl) (uwp 41 rfl rfl) (uw1 13 rfl rfl) ⟨by decide, by decide, by decide⟩ rfl ⟨by decide, by decide⟩ (Nat.le_of_ble_eq_true rfl) ⟨Nat.zero_le _, Nat.zero_le _⟩ (dd dX10_corner_p0 43 rfl) (fun H locs hW => ?_)
    refine lv_if_eq (pc := 81) (tgt := 86) hx hb (dd dX10_corner_p0 44 rfl) (by decide) (fun hc => ?_) (fun hc => ?_)
    · have h := it_t hc h
      refine lv_aload_n (pc := 86) hx hb (dd dX10_corner_p0 47 rfl) rfl (lv_at hl 0 rfl) ?_
      refine rGet (pc := 87) M hW 0 1 iU10 rfl rfl (by decide) (uw4 214 rfl rfl) rfl (dd dX10_corner_p0 48 rfl) ?_
      refine lv_bipush (pc := 90) (v := 12) hx hb (dd dX10_corner_p0 49 rfl) (by decide) ?_
      refine lv_iload_n (pc := 92) hx hb (dd dX10_corner_p0 50 rfl) rfl (lv_at hl 1 rfl) ?_
      refine lv_imul (pc := 93) hx hb (dd dX10_corner_p0 51 rfl) ?_
      refine lv_aload_n (pc := 94) hx hb (dd dX10_corner_p0 52 rfl) rfl (lv_at hl 0 rfl) ?_
      refine rGet (pc := 95) M hW 0 3 iU10 rfl rfl (by decide) (uw4 216 rfl rfl) rfl (dd dX10_corner_p0 53 rfl) ?_
      refine lv_iload_n (pc := 98) hx hb (dd dX10_corner_p0 54 rfl) rfl (lv_at hl 1 rfl) ?_
      obtain ⟨hi, h⟩ := ck_ex h
      refine rIald (pc := 99) M hW 3 rfl hi (dd dX10_corner_p0 55 rfl) ?_
      refine lv_iadd (pc := 100) hx hb (dd dX10_corner_p0 56 rfl) ?_
      refine lv_iload_n (pc := 101) hx hb (dd dX10_corner_p0 57 rfl) rfl (lv_at hl 2 rfl) ?_
      obtain ⟨hi, h⟩ := ck_ex h
      obtain ⟨c_cornerX_102, ec_cornerX_102, h⟩ := nm_ex h
      refine rIast (pc := 102) M hW 1 rfl hi ec_cornerX_102 (ws' := (w_X10_corner g a_t a_cornerX a_cornerY a_corners a_what a_rowAt a_strip a_along a_rowSize a_endAt a_turns a_plan a_slantA a_slantB a_yields a_bears a_seen a_wagons a_pile a_far a_waiting a_isWaiting a_rest a_isUsed c_thrown_78 c_isLaid c_head c_hasRows c_hasPlan c_rows c_slants c_capacity c_weight c_unload c_source c_bunker c_cornerX_102 c_cornerY c_corners)) rfl (dd dX10_corner_p0 58 rfl) (fun H locs hW => ?_)
      refine lv_aload_n (pc := 103) hx hb (dd dX10_corner_p0 59 rfl) rfl (lv_at hl 0 rfl) ?_
      refine rGet (pc := 104) M hW 0 2 iU10 rfl rfl (by decide) (uw4 215 rfl rfl) rfl (dd dX10_corner_p1 0 rfl) ?_
      refine lv_bipush (pc := 107) (v := 12) hx hb (dd dX10_corner_p1 1 rfl) (by decide) ?_
      refine lv_iload_n (pc := 109) hx hb (dd dX10_corner_p1 2 rfl) rfl (lv_at hl 1 rfl) ?_
      refine lv_imul (pc := 110) hx hb (dd dX10_corner_p1 3 rfl) ?_
      refine lv_aload_n (pc := 111) hx hb (dd dX10_corner_p1 4 rfl) rfl (lv_at hl 0 rfl) ?_
      refine rGet (pc := 112) M hW 0 3 iU10 rfl rfl (by decide) (uw4 216 rfl rfl) rfl (dd dX10_corner_p1 5 rfl) ?_
      refine lv_iload_n (pc := 115) hx hb (dd dX10_corner_p1 6 rfl) rfl (lv_at hl 1 rfl) ?_
      obtain ⟨hi, h⟩ := ck_ex h
      refine rIald (pc := 116) M hW 3 rfl hi (dd dX10_corner_p1 7 rfl) ?_
      refine lv_iadd (pc := 117) hx hb (dd dX10_corner_p1 8 rfl) ?_
      refine lv_iload_n (pc := 118) hx hb (dd dX10_corner_p1 9 rfl) rfl (lv_at hl 3 rfl) ?_
      obtain ⟨hi, h⟩ := ck_ex h
      obtain ⟨c_cornerY_119, ec_cornerY_119, h⟩ := nm_ex h
      refine rIast (pc := 119) M hW 2 rfl hi ec_cornerY_119 (ws' := (w_X10_corner g a_t a_cornerX a_cornerY a_corners a_what a_rowAt a_strip a_along a_rowSize a_endAt a_turns a_plan a_slantA a_slantB a_yields a_bears a_seen a_wagons a_pile a_far a_waiting a_isWaiting a_rest a_isUsed c_thrown_78 c_isLaid c_head c_hasRows c_hasPlan c_rows c_slants c_capacity c_weight c_unload c_source c_bunker c_cornerX_102 c_cornerY_119 c_corners)) rfl (dd dX10_corner_p1 10 rfl) (fun H locs hW => ?_)
      refine lv_aload_n (pc := 120) hx hb (dd dX10_corner_p1 11 rfl) rfl (lv_at hl 0 rfl) ?_
      refine rGet (pc := 121) M hW 0 3 iU10 rfl rfl (by decide) (uw4 216 rfl rfl) rfl (dd dX10_corner_p1 12 rfl) ?_
      refine lv_iload_n (pc := 124) hx hb (dd dX10_corner_p1 13 rfl) rfl (lv_at hl 1 rfl) ?_
      refine lv_dup2_11 (pc := 125) hx hb (dd dX10_corner_p1 14 rfl) rfl rfl ?_
      obtain ⟨hi, h⟩ := ck_ex h
      refine rIald (pc := 126) M hW 3 rfl hi (dd dX10_corner_p1 15 rfl) ?_
      refine lv_iconst (pc := 127) (v := 1) hx hb (dd dX10_corner_p1 16 rfl) (by decide) ?_
      refine lv_iadd (pc := 128) hx hb (dd dX10_corner_p1 17 rfl) ?_
      obtain ⟨hi, h⟩ := ck_ex h
      obtain ⟨c_corners_129, ec_corners_129, h⟩ := nm_ex h
      refine rIast (pc := 129) M hW 3 rfl hi ec_corners_129 (ws' := (w_X10_corner g a_t a_cornerX a_cornerY a_corners a_what a_rowAt a_strip a_along a_rowSize a_endAt a_turns a_plan a_slantA a_slantB a_yields a_bears a_seen a_wagons a_pile a_far a_waiting a_isWaiting a_rest a_isUsed c_thrown_78 c_isLaid c_head c_hasRows c_hasPlan c_rows c_slants c_capacity c_weight c_unload c_source c_bunker c_cornerX_102 c_cornerY_119 c_corners_129)) rfl (dd dX10_corner_p1 18 rfl) (fun H locs hW => ?_)
      refine lv_aload_n (pc := 130) hx hb (dd dX10_corner_p1 19 rfl) rfl (lv_at hl 0 rfl) ?_
      obtain ⟨⟨c_isLaid_131, c_hasRows_131, c_hasPlan_131⟩, hr, h⟩ := bnd_ex h
      have h := un3_at h
      refine callVV (pc := 131) (na := 0) (As := []) (rest := []) (ws2 := (w_X10_corner g a_t a_cornerX a_cornerY a_corners a_what a_rowAt a_strip a_along a_rowSize a_endAt a_turns a_plan a_slantA a_slantB a_yields a_bears a_seen a_wagons a_pile a_far a_waiting a_isWaiting a_rest a_isUsed c_thrown_78 c_isLaid_131 c_head c_hasRows_131 c_hasPlan_131 c_rows c_slants c_capacity c_weight c_unload c_source c_bunker c_cornerX_102 c_cornerY_119 c_corners_129)) M hl.1 hW (t_X10_takesAway l g a_t a_cornerX a_cornerY a_corners a_what a_rowAt a_strip a_along a_rowSize a_endAt a_turns a_plan a_slantA a_slantB a_yields a_bears a_seen a_wagons a_pile a_far a_waiting a_isWaiting a_rest a_isUsed c_thrown_78 c_isLaid c_head c_hasRows c_hasPlan c_rows c_slants c_capacity c_weight c_unload c_source c_bunker c_isLaid_131 c_hasRows_131 c_hasPlan_131 hr) rfl [0] [1, 2, 3] [3, 0, 1, 2] rfl rfl rfl rfl rfl rfl rfl 0 10 rfl rfl rfl (uw5 90 rfl rfl) (uw5 87 rfl rfl) (uw5 89 rfl rfl) (uwp 42 rfl rfl) (uw1 13 rfl rfl) ⟨by decide, by decide, by decide⟩ rfl ⟨by decide, by decide⟩ (Nat.le_of_ble_eq_true rfl) ⟨Nat.zero_le _, Nat.zero_le _⟩ (dd dX10_corner_p1 20 rfl) (fun H locs hW => ?_)
      refine lv_aload_n (pc := 134) hx hb (dd dX10_corner_p1 21 rfl) rfl (lv_at hl 0 rfl) ?_
      refine rGet (pc := 135) M hW 0 3 iU10 rfl rfl (by decide) (uw4 216 rfl rfl) rfl (dd dX10_corner_p1 22 rfl) ?_
      refine lv_iload_n (pc := 138) hx hb (dd dX10_corner_p1 23 rfl) rfl (lv_at hl 1 rfl) ?_
      obtain ⟨hi, h⟩ := ck_ex h
      refine rIald (pc := 139) M hW 3 rfl hi (dd dX10_corner_p1 24 rfl) ?_
      have hW9 := hW
      cases h
      exact ret _ _ _ 140 hW9 rfl (dd dX10_corner_p1 25 rfl)
    · have h := it_f hc h
      refine lv_iconst (pc := 84) (v := 0) hx hb (dd dX10_corner_p0 45 rfl) (by decide) ?_
      have hW9 := hW
      cases h
      exact ret _ _ _ 85 hW9 rfl (dd dX10_corner_p0 46 rfl)
  have J53 : ∀ (c_thrown c_isLaid c_hasRows c_hasPlan : Int32) (c_cornerX c_cornerY c_corners : Ar) (k1 : Int32) (H : Heap) (locs : List Loc) (ls : Array Slot), X10_corner_b53 c_thrown c_isLaid c_hasRows c_hasPlan c_cornerX c_cornerY c_corners v1 v2 v3 k1 = some (r0, o_thrown, o_isLaid, o_hasRows, o_hasPlan, o_cornerX, o_cornerY, o_corners) → WD g s A (w_X10_corner g a_t a_cornerX a_cornerY a_corners a_what a_rowAt a_strip a_along a_rowSize a_endAt a_turns a_plan a_slantA a_slantB a_yields a_bears a_seen a_wagons a_pile a_far a_waiting a_isWaiting a_rest a_isUsed c_thrown c_isLaid c_head c_hasRows c_hasPlan c_rows c_slants c_capacity c_weight c_unload c_source c_bunker c_cornerX c_cornerY c_corners) H locs → lv_has ls 4 [(0, .ref a_t), (1, .int v1), (2, .int v2), (3, .int v3)] → W p l e (rm9 1 22) s m args below meth c H locs 0 0 Q (F0 m 53 ls [.int k1, .ref a_t]) := by
    intro c_thrown c_isLaid c_hasRows c_hasPlan c_cornerX c_cornerY c_corners k1 H locs ls h hW hl
    unfold X10_corner_b53 at h
    refine lv_iconst (pc := 53) (v := 2) hx hb (dd dX10_corner_p0 29 rfl) (by decide) ?_
    obtain ⟨⟨r_54, c_thrown_54⟩, hr, h⟩ := bnd_ex h
    have h := un2_at h
    refine callVI (pc := 54) (na := 2) (As := [.int k1, .int 2]) (rest := []) (ws2 := (w_X10_corner g a_t a_cornerX a_cornerY a_corners a_what a_rowAt a_strip a_along a_rowSize a_endAt a_turns a_plan a_slantA a_slantB a_yields a_bears a_seen a_wagons a_pile a_far a_waiting a_isWaiting a_rest a_isUsed c_thrown_54 c_isLaid c_head c_hasRows c_hasPlan c_rows c_slants c_capacity c_weight c_unload c_source c_bunker c_cornerX c_cornerY c_corners)) M hl.1 hW (t_X10_throwsIf l g a_t a_cornerX a_cornerY a_corners a_what a_rowAt a_strip a_along a_rowSize a_endAt a_turns a_plan a_slantA a_slantB a_yields a_bears a_seen a_wagons a_pile a_far a_waiting a_isWaiting a_rest a_isUsed c_thrown c_isLaid c_head c_hasRows c_hasPlan c_rows c_slants c_capacity c_weight c_unload c_source c_bunker k1 2 r_54 c_thrown_54 hr) rfl [0] [1, 2, 3] [3, 0, 1, 2] rfl rfl rfl rfl rfl rfl rfl 0 10 rfl rfl rfl (uw5 86 rfl rfl) (uw5 83 rfl rfl) (uw5 85 rfl rfl) (uwp 41 rfl rfl) (uw1 13 rfl rfl) ⟨by decide, by decide, by decide⟩ rfl ⟨by decide, by decide⟩ (Nat.le_of_ble_eq_true rfl) ⟨Nat.zero_le _, Nat.zero_le _⟩ (dd dX10_corner_p0 30 rfl) (fun H locs hW => ?_)
    refine lv_if_ne (pc := 57) (tgt := 84) hx hb (dd dX10_corner_p0 31 rfl) (by decide) (fun hc => ?_) (fun hc => ?_)
    · have h := it_f hc h
      refine lv_iconst (pc := 84) (v := 0) hx hb (dd dX10_corner_p0 45 rfl) (by decide) ?_
      have hW9 := hW
      cases h
      exact ret _ _ _ 85 hW9 rfl (dd dX10_corner_p0 46 rfl)
    · have h := it_t hc h
      refine lv_aload_n (pc := 60) hx hb (dd dX10_corner_p0 32 rfl) rfl (lv_at hl 0 rfl) ?_
      refine lv_aload_n (pc := 61) hx hb (dd dX10_corner_p0 33 rfl) rfl (lv_at hl 0 rfl) ?_
      refine rGet (pc := 62) M hW 0 3 iU10 rfl rfl (by decide) (uw4 216 rfl rfl) rfl (dd dX10_corner_p0 34 rfl) ?_
      refine lv_iload_n (pc := 65) hx hb (dd dX10_corner_p0 35 rfl) rfl (lv_at hl 1 rfl) ?_
      obtain ⟨hi, h⟩ := ck_ex h
      refine rIald (pc := 66) M hW 3 rfl hi (dd dX10_corner_p0 36 rfl) ?_
      refine lv_bipush (pc := 67) (v := 12) hx hb (dd dX10_corner_p0 37 rfl) (by decide) ?_
      refine lv_icmp_ne (pc := 69) (tgt := 76) hx hb (dd dX10_corner_p0 38 rfl) (by decide) (fun hc => ?_) (fun hc => ?_)
      · have h := it_f hc h
        refine lv_iconst (pc := 76) (v := 0) hx hb (dd dX10_corner_p0 41 rfl) (by decide) ?_
        exact J77 _ _ _ _ _ _ _ _ _ _ _ h hW (lv_sub hl [0, 1, 2, 3] rfl)
      · have h := it_t hc h
        refine lv_iconst (pc := 72) (v := 1) hx hb (dd dX10_corner_p0 39 rfl) (by decide) ?_
        refine lv_goto (pc := 73) (tgt := 77) hx hb (dd dX10_corner_p0 40 rfl) (by decide) ?_
        exact J77 _ _ _ _ _ _ _ _ _ _ _ h hW (lv_sub hl [0, 1, 2, 3] rfl)
  have J48 : ∀ (c_thrown c_isLaid c_hasRows c_hasPlan : Int32) (c_cornerX c_cornerY c_corners : Ar) (H : Heap) (locs : List Loc) (ls : Array Slot), X10_corner_b48 c_thrown c_isLaid c_hasRows c_hasPlan c_cornerX c_cornerY c_corners v1 v2 v3 = some (r0, o_thrown, o_isLaid, o_hasRows, o_hasPlan, o_cornerX, o_cornerY, o_corners) → WD g s A (w_X10_corner g a_t a_cornerX a_cornerY a_corners a_what a_rowAt a_strip a_along a_rowSize a_endAt a_turns a_plan a_slantA a_slantB a_yields a_bears a_seen a_wagons a_pile a_far a_waiting a_isWaiting a_rest a_isUsed c_thrown c_isLaid c_head c_hasRows c_hasPlan c_rows c_slants c_capacity c_weight c_unload c_source c_bunker c_cornerX c_cornerY c_corners) H locs → lv_has ls 4 [(0, .ref a_t), (1, .int v1), (2, .int v2), (3, .int v3)] → W p l e (rm9 1 22) s m args below meth c H locs 0 0 Q (F0 m 48 ls [.ref a_t]) := by
    intro c_thrown c_isLaid c_hasRows c_hasPlan c_cornerX c_cornerY c_corners H locs ls h hW hl
    unfold X10_corner_b48 at h
    refine lv_iconst (pc := 48) (v := 1) hx hb (dd dX10_corner_p0 26 rfl) (by decide) ?_
    refine lv_goto (pc := 49) (tgt := 53) hx hb (dd dX10_corner_p0 27 rfl) (by decide) ?_
    exact J53 _ _ _ _ _ _ _ _ _ _ _ h hW (lv_sub hl [0, 1, 2, 3] rfl)
  have J20 : ∀ (c_thrown c_isLaid c_hasRows c_hasPlan : Int32) (c_cornerX c_cornerY c_corners : Ar) (k1 : Int32) (H : Heap) (locs : List Loc) (ls : Array Slot), X10_corner_b20 c_thrown c_isLaid c_hasRows c_hasPlan c_cornerX c_cornerY c_corners v1 v2 v3 k1 = some (r0, o_thrown, o_isLaid, o_hasRows, o_hasPlan, o_cornerX, o_cornerY, o_corners) → WD g s A (w_X10_corner g a_t a_cornerX a_cornerY a_corners a_what a_rowAt a_strip a_along a_rowSize a_endAt a_turns a_plan a_slantA a_slantB a_yields a_bears a_seen a_wagons a_pile a_far a_waiting a_isWaiting a_rest a_isUsed c_thrown c_isLaid c_head c_hasRows c_hasPlan c_rows c_slants c_capacity c_weight c_unload c_source c_bunker c_cornerX c_cornerY c_corners) H locs → lv_has ls 4 [(0, .ref a_t), (1, .int v1), (2, .int v2), (3, .int v3)] → W p l e (rm9 1 22) s m args below meth c H locs 0 0 Q (F0 m 20 ls [.int k1, .ref a_t]) := by
    intro c_thrown c_isLaid c_hasRows c_hasPlan c_cornerX c_cornerY c_corners k1 H locs ls h hW hl
    unfold X10_corner_b20 at h
    refine lv_iconst (pc := 20) (v := 1) hx hb (dd dX10_corner_p0 12 rfl) (by decide) ?_
    obtain ⟨⟨r_21, c_thrown_21⟩, hr, h⟩ := bnd_ex h
    have h := un2_at h
    refine callVI (pc := 21) (na := 2) (As := [.int k1, .int 1]) (rest := []) (ws2 := (w_X10_corner g a_t a_cornerX a_cornerY a_corners a_what a_rowAt a_strip a_along a_rowSize a_endAt a_turns a_plan a_slantA a_slantB a_yields a_bears a_seen a_wagons a_pile a_far a_waiting a_isWaiting a_rest a_isUsed c_thrown_21 c_isLaid c_head c_hasRows c_hasPlan c_rows c_slants c_capacity c_weight c_unload c_source c_bunker c_cornerX c_cornerY c_corners)) M hl.1 hW (t_X10_throwsIf l g a_t a_cornerX a_cornerY a_corners a_what a_rowAt a_strip a_along a_rowSize a_endAt a_turns a_plan a_slantA a_slantB a_yields a_bears a_seen a_wagons a_pile a_far a_waiting a_isWaiting a_rest a_isUsed c_thrown c_isLaid c_head c_hasRows c_hasPlan c_rows c_slants c_capacity c_weight c_unload c_source c_bunker k1 1 r_21 c_thrown_21 hr) rfl [0] [1, 2, 3] [3, 0, 1, 2] rfl rfl rfl rfl rfl rfl rfl 0 10 rfl rfl rfl (uw5 86 rfl rfl) (uw5 83 rfl rfl) (uw5 85 rfl rfl) (uwp 41 rfl rfl) (uw1 13 rfl rfl) ⟨by decide, by decide, by decide⟩ rfl ⟨by decide, by decide⟩ (Nat.le_of_ble_eq_true rfl) ⟨Nat.zero_le _, Nat.zero_le _⟩ (dd dX10_corner_p0 13 rfl) (fun H locs hW => ?_)
    refine lv_if_ne (pc := 24) (tgt := 84) hx hb (dd dX10_corner_p0 14 rfl) (by decide) (fun hc => ?_) (fun hc => ?_)
    · have h := it_f hc h
      refine lv_iconst (pc := 84) (v := 0) hx hb (dd dX10_corner_p0 45 rfl) (by decide) ?_
      have hW9 := hW
      cases h
      exact ret _ _ _ 85 hW9 rfl (dd dX10_corner_p0 46 rfl)
    · have h := it_t hc h
      refine lv_aload_n (pc := 27) hx hb (dd dX10_corner_p0 15 rfl) rfl (lv_at hl 0 rfl) ?_
      refine lv_iload_n (pc := 28) hx hb (dd dX10_corner_p0 16 rfl) rfl (lv_at hl 2 rfl) ?_
      refine lv_if_lt (pc := 29) (tgt := 48) hx hb (dd dX10_corner_p0 17 rfl) (by decide) (fun hc => ?_) (fun hc => ?_)
      · have h := it_t hc h
        exact J48 _ _ _ _ _ _ _ _ _ _ h hW (lv_sub hl [0, 1, 2, 3] rfl)
      · have h := it_f hc h
        refine lv_iload_n (pc := 32) hx hb (dd dX10_corner_p0 18 rfl) rfl (lv_at hl 3 rfl) ?_
        refine lv_if_lt (pc := 33) (tgt := 48) hx hb (dd dX10_corner_p0 19 rfl) (by decide) (fun hc => ?_) (fun hc => ?_)
        · have h := it_t hc h
          exact J48 _ _ _ _ _ _ _ _ _ _ h hW (lv_sub hl [0, 1, 2, 3] rfl)
        · have h := it_f hc h
          refine lv_iload_n (pc := 36) hx hb (dd dX10_corner_p0 20 rfl) rfl (lv_at hl 2 rfl) ?_
          refine lv_bipush (pc := 37) (v := 40) hx hb (dd dX10_corner_p0 21 rfl) (by decide) ?_
          refine lv_icmp_gt (pc := 39) (tgt := 48) hx hb (dd dX10_corner_p0 22 rfl) (by decide) (fun hc => ?_) (fun hc => ?_)
          · have h := it_t hc h
            exact J48 _ _ _ _ _ _ _ _ _ _ h hW (lv_sub hl [0, 1, 2, 3] rfl)
          · have h := it_f hc h
            refine lv_iload_n (pc := 42) hx hb (dd dX10_corner_p0 23 rfl) rfl (lv_at hl 3 rfl) ?_
            refine lv_bipush (pc := 43) (v := 30) hx hb (dd dX10_corner_p0 24 rfl) (by decide) ?_
            refine lv_icmp_le (pc := 45) (tgt := 52) hx hb (dd dX10_corner_p0 25 rfl) (by decide) (fun hc => ?_) (fun hc => ?_)
            · have h := it_t hc h
              refine lv_iconst (pc := 52) (v := 0) hx hb (dd dX10_corner_p0 28 rfl) (by decide) ?_
              exact J53 _ _ _ _ _ _ _ _ _ _ _ h hW (lv_sub hl [0, 1, 2, 3] rfl)
            · have h := it_f hc h
              exact J48 _ _ _ _ _ _ _ _ _ _ h hW (lv_sub hl [0, 1, 2, 3] rfl)
  have J15 : ∀ (c_thrown c_isLaid c_hasRows c_hasPlan : Int32) (c_cornerX c_cornerY c_corners : Ar) (H : Heap) (locs : List Loc) (ls : Array Slot), X10_corner_b15 c_thrown c_isLaid c_hasRows c_hasPlan c_cornerX c_cornerY c_corners v1 v2 v3 = some (r0, o_thrown, o_isLaid, o_hasRows, o_hasPlan, o_cornerX, o_cornerY, o_corners) → WD g s A (w_X10_corner g a_t a_cornerX a_cornerY a_corners a_what a_rowAt a_strip a_along a_rowSize a_endAt a_turns a_plan a_slantA a_slantB a_yields a_bears a_seen a_wagons a_pile a_far a_waiting a_isWaiting a_rest a_isUsed c_thrown c_isLaid c_head c_hasRows c_hasPlan c_rows c_slants c_capacity c_weight c_unload c_source c_bunker c_cornerX c_cornerY c_corners) H locs → lv_has ls 4 [(0, .ref a_t), (1, .int v1), (2, .int v2), (3, .int v3)] → W p l e (rm9 1 22) s m args below meth c H locs 0 0 Q (F0 m 15 ls [.ref a_t]) := by
    intro c_thrown c_isLaid c_hasRows c_hasPlan c_cornerX c_cornerY c_corners H locs ls h hW hl
    unfold X10_corner_b15 at h
    refine lv_iconst (pc := 15) (v := 1) hx hb (dd dX10_corner_p0 9 rfl) (by decide) ?_
    refine lv_goto (pc := 16) (tgt := 20) hx hb (dd dX10_corner_p0 10 rfl) (by decide) ?_
    exact J20 _ _ _ _ _ _ _ _ _ _ _ h hW (lv_sub hl [0, 1, 2, 3] rfl)
  refine lv_aload_n (pc := 0) hx hb (dd dX10_corner_p0 0 rfl) rfl (lv_at hl 0 rfl) ?_
  refine lv_iconst (pc := 1) (v := 0) hx hb (dd dX10_corner_p0 1 rfl) (by decide) ?_
  refine rPut (pc := 2) M hW 0 0 tyX10 tyX10_ok nmX10 iU10 rfl rfl (by decide) (uw4 213 rfl rfl) rfl rfl rfl (Nat.le_of_ble_eq_true rfl) (dd dX10_corner_p0 2 rfl) (ws' := (w_X10_corner g a_t a_cornerX a_cornerY a_corners a_what a_rowAt a_strip a_along a_rowSize a_endAt a_turns a_plan a_slantA a_slantB a_yields a_bears a_seen a_wagons a_pile a_far a_waiting a_isWaiting a_rest a_isUsed 0 c_isLaid c_head c_hasRows c_hasPlan c_rows c_slants c_capacity c_weight c_unload c_source c_bunker c_cornerX c_cornerY c_corners)) rfl (fun H locs hW => ?_)
  refine lv_aload_n (pc := 5) hx hb (dd dX10_corner_p0 3 rfl) rfl (lv_at hl 0 rfl) ?_
  refine lv_iload_n (pc := 6) hx hb (dd dX10_corner_p0 4 rfl) rfl (lv_at hl 1 rfl) ?_
  refine lv_if_lt (pc := 7) (tgt := 15) hx hb (dd dX10_corner_p0 5 rfl) (by decide) (fun hc => ?_) (fun hc => ?_)
  · have h := it_t hc h
    exact J15 _ _ _ _ _ _ _ _ _ _ h hW (lv_sub hl [0, 1, 2, 3] rfl)
  · have h := it_f hc h
    refine lv_iload_n (pc := 10) hx hb (dd dX10_corner_p0 6 rfl) rfl (lv_at hl 1 rfl) ?_
    refine lv_iconst (pc := 11) (v := 3) hx hb (dd dX10_corner_p0 7 rfl) (by decide) ?_
    refine lv_icmp_le (pc := 12) (tgt := 19) hx hb (dd dX10_corner_p0 8 rfl) (by decide) (fun hc => ?_) (fun hc => ?_)
    · have h := it_t hc h
      refine lv_iconst (pc := 19) (v := 0) hx hb (dd dX10_corner_p0 11 rfl) (by decide) ?_
      exact J20 _ _ _ _ _ _ _ _ _ _ _ h hW (lv_sub hl [0, 1, 2, 3] rfl)
    · have h := it_f hc h
      exact J15 _ _ _ _ _ _ _ _ _ _ h hW (lv_sub hl [0, 1, 2, 3] rfl)
abbrev w_X10_clear (g : G9) (a_t a_corners a_cornerX a_cornerY a_what a_rowAt a_strip a_along a_rowSize a_endAt a_turns a_plan a_slantA a_slantB a_yields a_bears a_seen a_wagons a_pile a_far a_waiting a_isWaiting a_rest a_isUsed : Nat) (c_thrown c_isLaid c_head c_hasRows c_hasPlan c_rows c_slants c_capacity c_weight c_unload c_source c_bunker : Int32) (c_corners : Ar) : va_W := [ob a_t 10 [.int c_thrown, .ref a_cornerX, .ref a_cornerY, .ref a_corners, .ref a_what, .int c_isLaid, .int c_head, .int c_hasRows, .int c_hasPlan, .int c_rows, .ref a_rowAt, .ref a_strip, .ref a_along, .ref a_rowSize, .ref a_endAt, .ref a_turns, .ref a_plan, .ref a_slantA, .ref a_slantB, .int c_slants, .ref a_yields, .ref a_bears, .int c_capacity, .int c_weight, .int c_unload, .ref a_seen, .ref a_wagons, .ref a_pile, .ref a_far, .int c_source, .ref a_waiting, .ref a_isWaiting, .ref a_rest, .ref a_isUsed, .int c_bunker], ia g a_corners 4 c_corners]
noncomputable def X10_clear_b20 (c_thrown c_isLaid c_hasRows c_hasPlan : Int32) (c_corners : Ar) (v1 k1 : Int32) : Option (Int32 × Int32 × Int32 × Int32 × Int32 × Ar) :=
  bnd (X10_throwsIf c_thrown k1 1) <| un2 fun r_21 c_thrown_21 => if r_21 = 0 then (ck (ix v1 4) <| nm ((ag c_corners v1)) fun v2_35 => ck (ix v1 4) <| nm (au c_corners v1 0) fun c_corners_42 => bnd (X10_takesAway c_isLaid c_hasRows c_hasPlan) <| un3 fun c_isLaid_44 c_hasRows_44 c_hasPlan_44 => some (v2_35, c_thrown_21, c_isLaid_44, c_hasRows_44, c_hasPlan_44, c_corners_42)) else (some (0, c_thrown_21, c_isLaid, c_hasRows, c_hasPlan, c_corners))
noncomputable def X10_clear_b15 (c_thrown c_isLaid c_hasRows c_hasPlan : Int32) (c_corners : Ar) (v1 : Int32) : Option (Int32 × Int32 × Int32 × Int32 × Int32 × Ar) :=
  X10_clear_b20 c_thrown c_isLaid c_hasRows c_hasPlan c_corners v1 1
noncomputable def X10_clear (c_thrown c_isLaid c_hasRows c_hasPlan : Int32) (c_corners : Ar) (v1 : Int32) : Option (Int32 × Int32 × Int32 × Int32 × Int32 × Ar) :=
  if v1 < 0 then (X10_clear_b15 0 c_isLaid c_hasRows c_hasPlan c_corners v1) else (if v1 ≤ 3 then (X10_clear_b20 0 c_isLaid c_hasRows c_hasPlan c_corners v1 0) else (X10_clear_b15 0 c_isLaid c_hasRows c_hasPlan c_corners v1))
set_option maxHeartbeats 4000000 in
set_option maxRecDepth 100000 in
theorem t_X10_clear (l : Launch) (g : G9) (a_t a_corners a_cornerX a_cornerY a_what a_rowAt a_strip a_along a_rowSize a_endAt a_turns a_plan a_slantA a_slantB a_yields a_bears a_seen a_wagons a_pile a_far a_waiting a_isWaiting a_rest a_isUsed : Nat) (c_thrown c_isLaid c_head c_hasRows c_hasPlan c_rows c_slants c_capacity c_weight c_unload c_source c_bunker : Int32) (c_corners : Ar) (v1 r0 o_thrown o_isLaid o_hasRows o_hasPlan : Int32) (o_corners : Ar) (h : X10_clear c_thrown c_isLaid c_hasRows c_hasPlan c_corners v1 = some (r0, o_thrown, o_isLaid, o_hasRows, o_hasPlan, o_corners)) : CtI l g yX10_clear cX10_clear 3 .int 1 22 [.ref a_t, .int v1] (w_X10_clear g a_t a_corners a_cornerX a_cornerY a_what a_rowAt a_strip a_along a_rowSize a_endAt a_turns a_plan a_slantA a_slantB a_yields a_bears a_seen a_wagons a_pile a_far a_waiting a_isWaiting a_rest a_isUsed c_thrown c_isLaid c_head c_hasRows c_hasPlan c_rows c_slants c_capacity c_weight c_unload c_source c_bunker c_corners) r0 (w_X10_clear g a_t a_corners a_cornerX a_cornerY a_what a_rowAt a_strip a_along a_rowSize a_endAt a_turns a_plan a_slantA a_slantB a_yields a_bears a_seen a_wagons a_pile a_far a_waiting a_isWaiting a_rest a_isUsed o_thrown o_isLaid c_head o_hasRows o_hasPlan c_rows c_slants c_capacity c_weight c_unload c_source c_bunker o_corners) := by
  refine startI (by decide) (Nat.le_of_ble_eq_true rfl) ?_
  intro p e s m below meth c A Q ls args M hW hl ret
  have hx := M.1
  have hb := M.2.1
  have hown := M.2.2.2.1
  have hu := M.2.2.2.2.1
  have hl : lv_has ls 3 [(0, .ref a_t), (1, .int v1)] := hl
  unfold X10_clear at h
  obtain ⟨H, eH⟩ : ∃ z, z = s.heap := ⟨_, rfl⟩
  obtain ⟨locs, eL⟩ : ∃ z, z = ([] : List Loc) := ⟨_, rfl⟩
  rw [← eL] at hW ⊢
  suffices hS9 : WD g s A (w_X10_clear g a_t a_corners a_cornerX a_cornerY a_what a_rowAt a_strip a_along a_rowSize a_endAt a_turns a_plan a_slantA a_slantB a_yields a_bears a_seen a_wagons a_pile a_far a_waiting a_isWaiting a_rest a_isUsed c_thrown c_isLaid c_head c_hasRows c_hasPlan c_rows c_slants c_capacity c_weight c_unload c_source c_bunker c_corners) H locs → W p l e (rm9 1 22) s m args below meth c H locs 0 0 Q (F0 m 0 ls []) by
    rw [← eH] at hW ⊢
    exact hS9 hW
  clear hW eH eL
  intro hW
  have J20 : ∀ (c_thrown c_isLaid c_hasRows c_hasPlan : Int32) (c_corners : Ar) (k1 : Int32) (H : Heap) (locs : List Loc) (ls : Array Slot), X10_clear_b20 c_thrown c_isLaid c_hasRows c_hasPlan c_corners v1 k1 = some (r0, o_thrown, o_isLaid, o_hasRows, o_hasPlan, o_corners) → WD g s A (w_X10_clear g a_t a_corners a_cornerX a_cornerY a_what a_rowAt a_strip a_along a_rowSize a_endAt a_turns a_plan a_slantA a_slantB a_yields a_bears a_seen a_wagons a_pile a_far a_waiting a_isWaiting a_rest a_isUsed c_thrown c_isLaid c_head c_hasRows c_hasPlan c_rows c_slants c_capacity c_weight c_unload c_source c_bunker c_corners) H locs → lv_has ls 3 [(0, .ref a_t), (1, .int v1)] → W p l e (rm9 1 22) s m args below meth c H locs 0 0 Q (F0 m 20 ls [.int k1, .ref a_t]) := by
    intro c_thrown c_isLaid c_hasRows c_hasPlan c_corners k1 H locs ls h hW hl
    unfold X10_clear_b20 at h
    refine lv_iconst (pc := 20) (v := 1) hx hb (dd dX10_clear 12 rfl) (by decide) ?_
    obtain ⟨⟨r_21, c_thrown_21⟩, hr, h⟩ := bnd_ex h
    have h := un2_at h
    refine callVI (pc := 21) (na := 2) (As := [.int k1, .int 1]) (rest := []) (ws2 := (w_X10_clear g a_t a_corners a_cornerX a_cornerY a_what a_rowAt a_strip a_along a_rowSize a_endAt a_turns a_plan a_slantA a_slantB a_yields a_bears a_seen a_wagons a_pile a_far a_waiting a_isWaiting a_rest a_isUsed c_thrown_21 c_isLaid c_head c_hasRows c_hasPlan c_rows c_slants c_capacity c_weight c_unload c_source c_bunker c_corners)) M hl.1 hW (t_X10_throwsIf l g a_t a_cornerX a_cornerY a_corners a_what a_rowAt a_strip a_along a_rowSize a_endAt a_turns a_plan a_slantA a_slantB a_yields a_bears a_seen a_wagons a_pile a_far a_waiting a_isWaiting a_rest a_isUsed c_thrown c_isLaid c_head c_hasRows c_hasPlan c_rows c_slants c_capacity c_weight c_unload c_source c_bunker k1 1 r_21 c_thrown_21 hr) rfl [0] [1] [1, 0] rfl rfl rfl rfl rfl rfl rfl 0 10 rfl rfl rfl (uw5 86 rfl rfl) (uw5 83 rfl rfl) (uw5 85 rfl rfl) (uwp 41 rfl rfl) (uw1 13 rfl rfl) ⟨by decide, by decide, by decide⟩ rfl ⟨by decide, by decide⟩ (Nat.le_of_ble_eq_true rfl) ⟨Nat.zero_le _, Nat.zero_le _⟩ (dd dX10_clear 13 rfl) (fun H locs hW => ?_)
    refine lv_if_eq (pc := 24) (tgt := 29) hx hb (dd dX10_clear 14 rfl) (by decide) (fun hc => ?_) (fun hc => ?_)
    · have h := it_t hc h
      refine lv_aload_n (pc := 29) hx hb (dd dX10_clear 17 rfl) rfl (lv_at hl 0 rfl) ?_
      refine rGet (pc := 30) M hW 0 3 iU10 rfl rfl (by decide) (uw4 216 rfl rfl) rfl (dd dX10_clear 18 rfl) ?_
      refine lv_iload_n (pc := 33) hx hb (dd dX10_clear 19 rfl) rfl (lv_at hl 1 rfl) ?_
      obtain ⟨hi, h⟩ := ck_ex h
      refine rIald (pc := 34) M hW 1 rfl hi (dd dX10_clear 20 rfl) ?_
      obtain ⟨v2_35, ev2_35, h⟩ := nm_ex h
      refine rTopi (pc := 35) ev2_35 ?_
      refine lv_istore_n (pc := 35) (lv' := [(2, .int v2_35), (0, .ref a_t), (1, .int v1)]) hx hb (dd dX10_clear 21 rfl) rfl hl (by decide) rfl (fun ls hl => ?_)
      refine lv_aload_n (pc := 36) hx hb (dd dX10_clear 22 rfl) rfl (lv_at hl 1 rfl) ?_
      refine rGet (pc := 37) M hW 0 3 iU10 rfl rfl (by decide) (uw4 216 rfl rfl) rfl (dd dX10_clear 23 rfl) ?_
      refine lv_iload_n (pc := 40) hx hb (dd dX10_clear 24 rfl) rfl (lv_at hl 2 rfl) ?_
      refine lv_iconst (pc := 41) (v := 0) hx hb (dd dX10_clear 25 rfl) (by decide) ?_
      obtain ⟨hi, h⟩ := ck_ex h
      obtain ⟨c_corners_42, ec_corners_42, h⟩ := nm_ex h
      refine rIast (pc := 42) M hW 1 rfl hi ec_corners_42 (ws' := (w_X10_clear g a_t a_corners a_cornerX a_cornerY a_what a_rowAt a_strip a_along a_rowSize a_endAt a_turns a_plan a_slantA a_slantB a_yields a_bears a_seen a_wagons a_pile a_far a_waiting a_isWaiting a_rest a_isUsed c_thrown_21 c_isLaid c_head c_hasRows c_hasPlan c_rows c_slants c_capacity c_weight c_unload c_source c_bunker c_corners_42)) rfl (dd dX10_clear 26 rfl) (fun H locs hW => ?_)
      refine lv_aload_n (pc := 43) hx hb (dd dX10_clear 27 rfl) rfl (lv_at hl 1 rfl) ?_
      obtain ⟨⟨c_isLaid_44, c_hasRows_44, c_hasPlan_44⟩, hr, h⟩ := bnd_ex h
      have h := un3_at h
      refine callVV (pc := 44) (na := 0) (As := []) (rest := []) (ws2 := (w_X10_clear g a_t a_corners a_cornerX a_cornerY a_what a_rowAt a_strip a_along a_rowSize a_endAt a_turns a_plan a_slantA a_slantB a_yields a_bears a_seen a_wagons a_pile a_far a_waiting a_isWaiting a_rest a_isUsed c_thrown_21 c_isLaid_44 c_head c_hasRows_44 c_hasPlan_44 c_rows c_slants c_capacity c_weight c_unload c_source c_bunker c_corners_42)) M hl.1 hW (t_X10_takesAway l g a_t a_cornerX a_cornerY a_corners a_what a_rowAt a_strip a_along a_rowSize a_endAt a_turns a_plan a_slantA a_slantB a_yields a_bears a_seen a_wagons a_pile a_far a_waiting a_isWaiting a_rest a_isUsed c_thrown_21 c_isLaid c_head c_hasRows c_hasPlan c_rows c_slants c_capacity c_weight c_unload c_source c_bunker c_isLaid_44 c_hasRows_44 c_hasPlan_44 hr) rfl [0] [1] [1, 0] rfl rfl rfl rfl rfl rfl rfl 0 10 rfl rfl rfl (uw5 90 rfl rfl) (uw5 87 rfl rfl) (uw5 89 rfl rfl) (uwp 42 rfl rfl) (uw1 13 rfl rfl) ⟨by decide, by decide, by decide⟩ rfl ⟨by decide, by decide⟩ (Nat.le_of_ble_eq_true rfl) ⟨Nat.zero_le _, Nat.zero_le _⟩ (dd dX10_clear 28 rfl) (fun H locs hW => ?_)
      refine lv_iload_n (pc := 47) hx hb (dd dX10_clear 29 rfl) rfl (lv_at hl 0 rfl) ?_
      have hW9 := hW
      cases h
      exact ret _ _ _ 48 hW9 rfl (dd dX10_clear 30 rfl)
    · have h := it_f hc h
      refine lv_iconst (pc := 27) (v := 0) hx hb (dd dX10_clear 15 rfl) (by decide) ?_
      have hW9 := hW
      cases h
      exact ret _ _ _ 28 hW9 rfl (dd dX10_clear 16 rfl)
  have J15 : ∀ (c_thrown c_isLaid c_hasRows c_hasPlan : Int32) (c_corners : Ar) (H : Heap) (locs : List Loc) (ls : Array Slot), X10_clear_b15 c_thrown c_isLaid c_hasRows c_hasPlan c_corners v1 = some (r0, o_thrown, o_isLaid, o_hasRows, o_hasPlan, o_corners) → WD g s A (w_X10_clear g a_t a_corners a_cornerX a_cornerY a_what a_rowAt a_strip a_along a_rowSize a_endAt a_turns a_plan a_slantA a_slantB a_yields a_bears a_seen a_wagons a_pile a_far a_waiting a_isWaiting a_rest a_isUsed c_thrown c_isLaid c_head c_hasRows c_hasPlan c_rows c_slants c_capacity c_weight c_unload c_source c_bunker c_corners) H locs → lv_has ls 3 [(0, .ref a_t), (1, .int v1)] → W p l e (rm9 1 22) s m args below meth c H locs 0 0 Q (F0 m 15 ls [.ref a_t]) := by
    intro c_thrown c_isLaid c_hasRows c_hasPlan c_corners H locs ls h hW hl
    unfold X10_clear_b15 at h
    refine lv_iconst (pc := 15) (v := 1) hx hb (dd dX10_clear 9 rfl) (by decide) ?_
    refine lv_goto (pc := 16) (tgt := 20) hx hb (dd dX10_clear 10 rfl) (by decide) ?_
    exact J20 _ _ _ _ _ _ _ _ _ h hW (lv_sub hl [0, 1] rfl)
  refine lv_aload_n (pc := 0) hx hb (dd dX10_clear 0 rfl) rfl (lv_at hl 0 rfl) ?_
  refine lv_iconst (pc := 1) (v := 0) hx hb (dd dX10_clear 1 rfl) (by decide) ?_
  refine rPut (pc := 2) M hW 0 0 tyX10 tyX10_ok nmX10 iU10 rfl rfl (by decide) (uw4 213 rfl rfl) rfl rfl rfl (Nat.le_of_ble_eq_true rfl) (dd dX10_clear 2 rfl) (ws' := (w_X10_clear g a_t a_corners a_cornerX a_cornerY a_what a_rowAt a_strip a_along a_rowSize a_endAt a_turns a_plan a_slantA a_slantB a_yields a_bears a_seen a_wagons a_pile a_far a_waiting a_isWaiting a_rest a_isUsed 0 c_isLaid c_head c_hasRows c_hasPlan c_rows c_slants c_capacity c_weight c_unload c_source c_bunker c_corners)) rfl (fun H locs hW => ?_)
  refine lv_aload_n (pc := 5) hx hb (dd dX10_clear 3 rfl) rfl (lv_at hl 0 rfl) ?_
  refine lv_iload_n (pc := 6) hx hb (dd dX10_clear 4 rfl) rfl (lv_at hl 1 rfl) ?_
  refine lv_if_lt (pc := 7) (tgt := 15) hx hb (dd dX10_clear 5 rfl) (by decide) (fun hc => ?_) (fun hc => ?_)
  · have h := it_t hc h
    exact J15 _ _ _ _ _ _ _ _ h hW (lv_sub hl [0, 1] rfl)
  · have h := it_f hc h
    refine lv_iload_n (pc := 10) hx hb (dd dX10_clear 6 rfl) rfl (lv_at hl 1 rfl) ?_
    refine lv_iconst (pc := 11) (v := 3) hx hb (dd dX10_clear 7 rfl) (by decide) ?_
    refine lv_icmp_le (pc := 12) (tgt := 19) hx hb (dd dX10_clear 8 rfl) (by decide) (fun hc => ?_) (fun hc => ?_)
    · have h := it_t hc h
      refine lv_iconst (pc := 19) (v := 0) hx hb (dd dX10_clear 11 rfl) (by decide) ?_
      exact J20 _ _ _ _ _ _ _ _ _ h hW (lv_sub hl [0, 1] rfl)
    · have h := it_f hc h
      exact J15 _ _ _ _ _ _ _ _ h hW (lv_sub hl [0, 1] rfl)
abbrev w_X10_area (g : G9) (a_t a_cornerX a_cornerY a_corners a_what a_rowAt a_strip a_along a_rowSize a_endAt a_turns a_plan a_slantA a_slantB a_yields a_bears a_seen a_wagons a_pile a_far a_waiting a_isWaiting a_rest a_isUsed : Nat) (c_thrown c_isLaid c_head c_hasRows c_hasPlan c_rows c_slants c_capacity c_weight c_unload c_source c_bunker : Int32) (c_cornerX c_cornerY c_corners : Ar) : va_W := [ob a_t 10 [.int c_thrown, .ref a_cornerX, .ref a_cornerY, .ref a_corners, .ref a_what, .int c_isLaid, .int c_head, .int c_hasRows, .int c_hasPlan, .int c_rows, .ref a_rowAt, .ref a_strip, .ref a_along, .ref a_rowSize, .ref a_endAt, .ref a_turns, .ref a_plan, .ref a_slantA, .ref a_slantB, .int c_slants, .ref a_yields, .ref a_bears, .int c_capacity, .int c_weight, .int c_unload, .ref a_seen, .ref a_wagons, .ref a_pile, .ref a_far, .int c_source, .ref a_waiting, .ref a_isWaiting, .ref a_rest, .ref a_isUsed, .int c_bunker], ia g a_cornerX 48 c_cornerX, ia g a_cornerY 48 c_cornerY, ia g a_corners 4 c_corners]
noncomputable def X10_area_L43 (c_cornerX c_cornerY c_corners : Ar) (v1 v2 v3 : Int32) : Option ((Int32 × Int32) ⊕ Int32) :=
  ck (ix v1 4) <| if (ag c_corners v1) ≤ v3 then (some (.inr v2)) else (nm (((12 * v1) + v3)) fun v4_59 => ck (ix v1 4) <| ck (nz (ag c_corners v1)) <| nm (((12 * v1) + ((v3 + 1) - (v3 + 1) / (ag c_corners v1) * (ag c_corners v1)))) fun v5_76 => ck (ix v4_59 48) <| ck (ix v5_76 48) <| ck (ix v5_76 48) <| ck (ix v4_59 48) <| nm ((v2 + (((ag c_cornerX v4_59) * (ag c_cornerY v5_76)) - ((ag c_cornerX v5_76) * (ag c_cornerY v4_59))))) fun v2_111 => nm (v3 + 1) fun v3_112 => some (.inl (v2_111, v3_112)))
noncomputable def X10_area_b20 (c_thrown : Int32) (c_cornerX c_cornerY c_corners : Ar) (v1 k1 : Int32) : Option (Int32 × Int32) :=
  bnd (X10_throwsIf c_thrown k1 1) <| un2 fun r_21 c_thrown_21 => if r_21 = 0 then (ck (ix v1 4) <| if 3 ≤ (ag c_corners v1) then (bnd (whileV (fun st => X10_area_L43 c_cornerX c_cornerY c_corners v1 st.1 st.2) (0, 0)) <| (fun v2_118 => if 0 ≤ v2_118 then (some (v2_118, c_thrown_21)) else (some ((-v2_118), c_thrown_21)))) else (some (0, c_thrown_21))) else (some (0, c_thrown_21))
noncomputable def X10_area_b15 (c_thrown : Int32) (c_cornerX c_cornerY c_corners : Ar) (v1 : Int32) : Option (Int32 × Int32) :=
  X10_area_b20 c_thrown c_cornerX c_cornerY c_corners v1 1
noncomputable def X10_area (c_thrown : Int32) (c_cornerX c_cornerY c_corners : Ar) (v1 : Int32) : Option (Int32 × Int32) :=
  if v1 < 0 then (X10_area_b15 0 c_cornerX c_cornerY c_corners v1) else (if v1 ≤ 3 then (X10_area_b20 0 c_cornerX c_cornerY c_corners v1 0) else (X10_area_b15 0 c_cornerX c_cornerY c_corners v1))
set_option maxHeartbeats 4000000 in
set_option maxRecDepth 100000 in
theorem t_X10_area (l : Launch) (g : G9) (a_t a_cornerX a_cornerY a_corners a_what a_rowAt a_strip a_along a_rowSize a_endAt a_turns a_plan a_slantA a_slantB a_yields a_bears a_seen a_wagons a_pile a_far a_waiting a_isWaiting a_rest a_isUsed : Nat) (c_thrown c_isLaid c_head c_hasRows c_hasPlan c_rows c_slants c_capacity c_weight c_unload c_source c_bunker : Int32) (c_cornerX c_cornerY c_corners : Ar) (v1 r0 o_thrown : Int32) (h : X10_area c_thrown c_cornerX c_cornerY c_corners v1 = some (r0, o_thrown)) : CtI l g yX10_area cX10_area 6 .int 1 22 [.ref a_t, .int v1] (w_X10_area g a_t a_cornerX a_cornerY a_corners a_what a_rowAt a_strip a_along a_rowSize a_endAt a_turns a_plan a_slantA a_slantB a_yields a_bears a_seen a_wagons a_pile a_far a_waiting a_isWaiting a_rest a_isUsed c_thrown c_isLaid c_head c_hasRows c_hasPlan c_rows c_slants c_capacity c_weight c_unload c_source c_bunker c_cornerX c_cornerY c_corners) r0 (w_X10_area g a_t a_cornerX a_cornerY a_corners a_what a_rowAt a_strip a_along a_rowSize a_endAt a_turns a_plan a_slantA a_slantB a_yields a_bears a_seen a_wagons a_pile a_far a_waiting a_isWaiting a_rest a_isUsed o_thrown c_isLaid c_head c_hasRows c_hasPlan c_rows c_slants c_capacity c_weight c_unload c_source c_bunker c_cornerX c_cornerY c_corners) := by
  refine startI (by decide) (Nat.le_of_ble_eq_true rfl) ?_
  intro p e s m below meth c A Q ls args M hW hl ret
  have hx := M.1
  have hb := M.2.1
  have hown := M.2.2.2.1
  have hu := M.2.2.2.2.1
  have hl : lv_has ls 6 [(0, .ref a_t), (1, .int v1)] := hl
  unfold X10_area at h
  obtain ⟨H, eH⟩ : ∃ z, z = s.heap := ⟨_, rfl⟩
  obtain ⟨locs, eL⟩ : ∃ z, z = ([] : List Loc) := ⟨_, rfl⟩
  rw [← eL] at hW ⊢
  suffices hS9 : WD g s A (w_X10_area g a_t a_cornerX a_cornerY a_corners a_what a_rowAt a_strip a_along a_rowSize a_endAt a_turns a_plan a_slantA a_slantB a_yields a_bears a_seen a_wagons a_pile a_far a_waiting a_isWaiting a_rest a_isUsed c_thrown c_isLaid c_head c_hasRows c_hasPlan c_rows c_slants c_capacity c_weight c_unload c_source c_bunker c_cornerX c_cornerY c_corners) H locs → W p l e (rm9 1 22) s m args below meth c H locs 0 0 Q (F0 m 0 ls []) by
    rw [← eH] at hW ⊢
    exact hS9 hW
  clear hW eH eL
  intro hW
  have J20 : ∀ (c_thrown k1 : Int32) (H : Heap) (locs : List Loc) (ls : Array Slot), X10_area_b20 c_thrown c_cornerX c_cornerY c_corners v1 k1 = some (r0, o_thrown) → WD g s A (w_X10_area g a_t a_cornerX a_cornerY a_corners a_what a_rowAt a_strip a_along a_rowSize a_endAt a_turns a_plan a_slantA a_slantB a_yields a_bears a_seen a_wagons a_pile a_far a_waiting a_isWaiting a_rest a_isUsed c_thrown c_isLaid c_head c_hasRows c_hasPlan c_rows c_slants c_capacity c_weight c_unload c_source c_bunker c_cornerX c_cornerY c_corners) H locs → lv_has ls 6 [(0, .ref a_t), (1, .int v1)] → W p l e (rm9 1 22) s m args below meth c H locs 0 0 Q (F0 m 20 ls [.int k1, .ref a_t]) := by
    intro c_thrown k1 H locs ls h hW hl
    unfold X10_area_b20 at h
    refine lv_iconst (pc := 20) (v := 1) hx hb (dd dX10_area_p0 12 rfl) (by decide) ?_
    obtain ⟨⟨r_21, c_thrown_21⟩, hr, h⟩ := bnd_ex h
    have h := un2_at h
    refine callVI (pc := 21) (na := 2) (As := [.int k1, .int 1]) (rest := []) (ws2 := (w_X10_area g a_t a_cornerX a_cornerY a_corners a_what a_rowAt a_strip a_along a_rowSize a_endAt a_turns a_plan a_slantA a_slantB a_yields a_bears a_seen a_wagons a_pile a_far a_waiting a_isWaiting a_rest a_isUsed c_thrown_21 c_isLaid c_head c_hasRows c_hasPlan c_rows c_slants c_capacity c_weight c_unload c_source c_bunker c_cornerX c_cornerY c_corners)) M hl.1 hW (t_X10_throwsIf l g a_t a_cornerX a_cornerY a_corners a_what a_rowAt a_strip a_along a_rowSize a_endAt a_turns a_plan a_slantA a_slantB a_yields a_bears a_seen a_wagons a_pile a_far a_waiting a_isWaiting a_rest a_isUsed c_thrown c_isLaid c_head c_hasRows c_hasPlan c_rows c_slants c_capacity c_weight c_unload c_source c_bunker k1 1 r_21 c_thrown_21 hr) rfl [0] [1, 2, 3] [3, 0, 1, 2] rfl rfl rfl rfl rfl rfl rfl 0 10 rfl rfl rfl (uw5 86 rfl rfl) (uw5 83 rfl rfl) (uw5 85 rfl rfl) (uwp 41 rfl rfl) (uw1 13 rfl rfl) ⟨by decide, by decide, by decide⟩ rfl ⟨by decide, by decide⟩ (Nat.le_of_ble_eq_true rfl) ⟨Nat.zero_le _, Nat.zero_le _⟩ (dd dX10_area_p0 13 rfl) (fun H locs hW => ?_)
    refine lv_if_ne (pc := 24) (tgt := 37) hx hb (dd dX10_area_p0 14 rfl) (by decide) (fun hc => ?_) (fun hc => ?_)
    · have h := it_f hc h
      refine lv_iconst (pc := 37) (v := 0) hx hb (dd dX10_area_p0 21 rfl) (by decide) ?_
      have hW9 := hW
      cases h
      exact ret _ _ _ 38 hW9 rfl (dd dX10_area_p0 22 rfl)
    · have h := it_t hc h
      refine lv_aload_n (pc := 27) hx hb (dd dX10_area_p0 15 rfl) rfl (lv_at hl 0 rfl) ?_
      refine rGet (pc := 28) M hW 0 3 iU10 rfl rfl (by decide) (uw4 216 rfl rfl) rfl (dd dX10_area_p0 16 rfl) ?_
      refine lv_iload_n (pc := 31) hx hb (dd dX10_area_p0 17 rfl) rfl (lv_at hl 1 rfl) ?_
      obtain ⟨hi, h⟩ := ck_ex h
      refine rIald (pc := 32) M hW 3 rfl hi (dd dX10_area_p0 18 rfl) ?_
      refine lv_iconst (pc := 33) (v := 3) hx hb (dd dX10_area_p0 19 rfl) (by decide) ?_
      refine lv_icmp_ge (pc := 34) (tgt := 39) hx hb (dd dX10_area_p0 20 rfl) (by decide) (fun hc => ?_) (fun hc => ?_)
      · have h := it_t hc h
        refine lv_iconst (pc := 39) (v := 0) hx hb (dd dX10_area_p0 23 rfl) (by decide) ?_
        refine lv_istore_n (pc := 40) (lv' := [(2, .int 0), (0, .ref a_t), (1, .int v1)]) hx hb (dd dX10_area_p0 24 rfl) rfl hl (by decide) rfl (fun ls hl => ?_)
        refine lv_iconst (pc := 41) (v := 0) hx hb (dd dX10_area_p0 25 rfl) (by decide) ?_
        refine lv_istore_n (pc := 42) (lv' := [(3, .int 0), (2, .int 0), (0, .ref a_t), (1, .int v1)]) hx hb (dd dX10_area_p0 26 rfl) rfl hl (by decide) rfl (fun ls hl => ?_)
        obtain ⟨ex, hw, h⟩ := bnd_ex h
        refine loopW (fun st => ∀ (H : Heap) (locs : List Loc) (ls : Array Slot), WD g s A (w_X10_area g a_t a_cornerX a_cornerY a_corners a_what a_rowAt a_strip a_along a_rowSize a_endAt a_turns a_plan a_slantA a_slantB a_yields a_bears a_seen a_wagons a_pile a_far a_waiting a_isWaiting a_rest a_isUsed c_thrown_21 c_isLaid c_head c_hasRows c_hasPlan c_rows c_slants c_capacity c_weight c_unload c_source c_bunker c_cornerX c_cornerY c_corners) H locs → lv_has ls 6 [(0, .ref a_t), (1, .int v1), (2, .int (st.1)), (3, .int (st.2))] → W p l e (rm9 1 22) s m args below meth c H locs 0 0 Q (F0 m 43 ls [])) (fun (ex : Int32) => ∀ (H : Heap) (locs : List Loc) (ls : Array Slot), WD g s A (w_X10_area g a_t a_cornerX a_cornerY a_corners a_what a_rowAt a_strip a_along a_rowSize a_endAt a_turns a_plan a_slantA a_slantB a_yields a_bears a_seen a_wagons a_pile a_far a_waiting a_isWaiting a_rest a_isUsed c_thrown_21 c_isLaid c_head c_hasRows c_hasPlan c_rows c_slants c_capacity c_weight c_unload c_source c_bunker c_cornerX c_cornerY c_corners) H locs → lv_has ls 6 [(2, .int ex)] → W p l e (rm9 1 22) s m args below meth c H locs 0 0 Q (F0 m 118 ls [])) ?_ hw ?_ H locs ls hW (lv_sub hl [2, 3, 1, 0] rfl)
        · rintro ⟨v2, v3⟩ o hb9 hk H locs ls hW hl
          have h : X10_area_L43 c_cornerX c_cornerY c_corners v1 v2 v3 = some o := hb9
          clear hb9
          unfold X10_area_L43 at h
          refine lv_iload_n (pc := 43) hx hb (dd dX10_area_p0 27 rfl) rfl (lv_at hl 3 rfl) ?_
          refine lv_aload_n (pc := 44) hx hb (dd dX10_area_p0 28 rfl) rfl (lv_at hl 0 rfl) ?_
          refine rGet (pc := 45) M hW 0 3 iU10 rfl rfl (by decide) (uw4 216 rfl rfl) rfl (dd dX10_area_p0 29 rfl) ?_
          refine lv_iload_n (pc := 48) hx hb (dd dX10_area_p0 30 rfl) rfl (lv_at hl 1 rfl) ?_
          obtain ⟨hi, h⟩ := ck_ex h
          refine rIald (pc := 49) M hW 3 rfl hi (dd dX10_area_p0 31 rfl) ?_
          refine lv_icmp_ge (pc := 50) (tgt := 118) hx hb (dd dX10_area_p0 32 rfl) (by decide) (fun hc => ?_) (fun hc => ?_)
          · have h := it_t hc h
            obtain rfl := Option.some.inj h
            exact hk _ _ _ hW (lv_sub hl [2] rfl)
          · have h := it_f hc h
            refine lv_bipush (pc := 53) (v := 12) hx hb (dd dX10_area_p0 33 rfl) (by decide) ?_
            refine lv_iload_n (pc := 55) hx hb (dd dX10_area_p0 34 rfl) rfl (lv_at hl 1 rfl) ?_
            refine lv_imul (pc := 56) hx hb (dd dX10_area_p0 35 rfl) ?_
            refine lv_iload_n (pc := 57) hx hb (dd dX10_area_p0 36 rfl) rfl (lv_at hl 3 rfl) ?_
            refine lv_iadd (pc := 58) hx hb (dd dX10_area_p0 37 rfl) ?_
            obtain ⟨v4_59, ev4_59, h⟩ := nm_ex h
            refine rTopi (pc := 59) ev4_59 ?_
            refine lv_istore (pc := 59) (lv' := [(4, .int v4_59), (0, .ref a_t), (1, .int v1), (2, .int v2), (3, .int v3)]) hx hb (dd dX10_area_p0 38 rfl) hl (by decide) rfl (fun ls hl => ?_)
            refine lv_bipush (pc := 61) (v := 12) hx hb (dd dX10_area_p0 39 rfl) (by decide) ?_
            refine lv_iload_n (pc := 63) hx hb (dd dX10_area_p0 40 rfl) rfl (lv_at hl 2 rfl) ?_
            refine lv_imul (pc := 64) hx hb (dd dX10_area_p0 41 rfl) ?_
            refine lv_iload_n (pc := 65) hx hb (dd dX10_area_p0 42 rfl) rfl (lv_at hl 4 rfl) ?_
            refine lv_iconst (pc := 66) (v := 1) hx hb (dd dX10_area_p0 43 rfl) (by decide) ?_
            refine lv_iadd (pc := 67) hx hb (dd dX10_area_p0 44 rfl) ?_
            refine lv_aload_n (pc := 68) hx hb (dd dX10_area_p0 45 rfl) rfl (lv_at hl 1 rfl) ?_
            refine rGet (pc := 69) M hW 0 3 iU10 rfl rfl (by decide) (uw4 216 rfl rfl) rfl (dd dX10_area_p0 46 rfl) ?_
            refine lv_iload_n (pc := 72) hx hb (dd dX10_area_p0 47 rfl) rfl (lv_at hl 2 rfl) ?_
            obtain ⟨hi, h⟩ := ck_ex h
            refine rIald (pc := 73) M hW 3 rfl hi (dd dX10_area_p0 48 rfl) ?_
            obtain ⟨hi, h⟩ := ck_ex h
            refine lv_irem (pc := 74) hx hb (dd dX10_area_p0 49 rfl) (nz_ne hi) ?_
            refine lv_iadd (pc := 75) hx hb (dd dX10_area_p0 50 rfl) ?_
            obtain ⟨v5_76, ev5_76, h⟩ := nm_ex h
            refine rTopi (pc := 76) ev5_76 ?_
            refine lv_istore (pc := 76) (lv' := [(5, .int v5_76), (4, .int v4_59), (0, .ref a_t), (1, .int v1), (2, .int v2), (3, .int v3)]) hx hb (dd dX10_area_p0 51 rfl) hl (by decide) rfl (fun ls hl => ?_)
            refine lv_iload_n (pc := 78) hx hb (dd dX10_area_p0 52 rfl) rfl (lv_at hl 4 rfl) ?_
            refine lv_aload_n (pc := 79) hx hb (dd dX10_area_p0 53 rfl) rfl (lv_at hl 2 rfl) ?_
            refine rGet (pc := 80) M hW 0 1 iU10 rfl rfl (by decide) (uw4 214 rfl rfl) rfl (dd dX10_area_p0 54 rfl) ?_
            refine lv_iload (pc := 83) hx hb (dd dX10_area_p0 55 rfl) (lv_at hl 1 rfl) ?_
            obtain ⟨hi, h⟩ := ck_ex h
            refine rIald (pc := 85) M hW 1 rfl hi (dd dX10_area_p0 56 rfl) ?_
            refine lv_aload_n (pc := 86) hx hb (dd dX10_area_p0 57 rfl) rfl (lv_at hl 2 rfl) ?_
            refine rGet (pc := 87) M hW 0 2 iU10 rfl rfl (by decide) (uw4 215 rfl rfl) rfl (dd dX10_area_p0 58 rfl) ?_
            refine lv_iload (pc := 90) hx hb (dd dX10_area_p0 59 rfl) (lv_at hl 0 rfl) ?_
            obtain ⟨hi, h⟩ := ck_ex h
            refine rIald (pc := 92) M hW 2 rfl hi (dd dX10_area_p1 0 rfl) ?_
            refine lv_imul (pc := 93) hx hb (dd dX10_area_p1 1 rfl) ?_
            refine lv_aload_n (pc := 94) hx hb (dd dX10_area_p1 2 rfl) rfl (lv_at hl 2 rfl) ?_
            refine rGet (pc := 95) M hW 0 1 iU10 rfl rfl (by decide) (uw4 214 rfl rfl) rfl (dd dX10_area_p1 3 rfl) ?_
            refine lv_iload (pc := 98) hx hb (dd dX10_area_p1 4 rfl) (lv_at hl 0 rfl) ?_
            obtain ⟨hi, h⟩ := ck_ex h
            refine rIald (pc := 100) M hW 1 rfl hi (dd dX10_area_p1 5 rfl) ?_
            refine lv_aload_n (pc := 101) hx hb (dd dX10_area_p1 6 rfl) rfl (lv_at hl 2 rfl) ?_
            refine rGet (pc := 102) M hW 0 2 iU10 rfl rfl (by decide) (uw4 215 rfl rfl) rfl (dd dX10_area_p1 7 rfl) ?_
            refine lv_iload (pc := 105) hx hb (dd dX10_area_p1 8 rfl) (lv_at hl 1 rfl) ?_
            obtain ⟨hi, h⟩ := ck_ex h
            refine rIald (pc := 107) M hW 2 rfl hi (dd dX10_area_p1 9 rfl) ?_
            refine lv_imul (pc := 108) hx hb (dd dX10_area_p1 10 rfl) ?_
            refine lv_isub (pc := 109) hx hb (dd dX10_area_p1 11 rfl) ?_
            refine lv_iadd (pc := 110) hx hb (dd dX10_area_p1 12 rfl) ?_
            obtain ⟨v2_111, ev2_111, h⟩ := nm_ex h
            refine rTopi (pc := 111) ev2_111 ?_
            refine lv_istore_n (pc := 111) (lv' := [(2, .int v2_111), (5, .int v5_76), (4, .int v4_59), (0, .ref a_t), (1, .int v1), (3, .int v3)]) hx hb (dd dX10_area_p1 13 rfl) rfl hl (by decide) rfl (fun ls hl => ?_)
            obtain ⟨v3_112, ev3_112, h⟩ := nm_ex h
            refine lv_iinc (pc := 112) (v := v3_112) (lv' := [(3, .int v3_112), (2, .int v2_111), (5, .int v5_76), (4, .int v4_59), (0, .ref a_t), (1, .int v1)]) hx hb (dd dX10_area_p1 14 rfl) hl (k := 5) rfl (by rw [ev3_112]; rfl) (by decide) rfl (fun ls hl => ?_)
            refine lv_goto (pc := 115) (tgt := 43) hx hb (dd dX10_area_p1 15 rfl) (by decide) ?_
            obtain rfl := Option.some.inj h
            exact hk _ _ _ hW (lv_sub hl [4, 5, 1, 0] rfl)
        · obtain ⟨v2_118, e9⟩ : ∃ z, z = ex := ⟨_, rfl⟩
          subst e9
          intro H locs ls hW hl
          refine lv_iload_n (pc := 118) hx hb (dd dX10_area_p1 16 rfl) rfl (lv_at hl 0 rfl) ?_
          refine lv_if_ge (pc := 119) (tgt := 127) hx hb (dd dX10_area_p1 17 rfl) (by decide) (fun hc => ?_) (fun hc => ?_)
          · have h := it_t hc h
            refine lv_iload_n (pc := 127) hx hb (dd dX10_area_p1 21 rfl) rfl (lv_at hl 0 rfl) ?_
            have hW9 := hW
            cases h
            exact ret _ _ _ 128 hW9 rfl (dd dX10_area_p1 22 rfl)
          · have h := it_f hc h
            refine lv_iload_n (pc := 122) hx hb (dd dX10_area_p1 18 rfl) rfl (lv_at hl 0 rfl) ?_
            refine lv_ineg (pc := 123) hx hb (dd dX10_area_p1 19 rfl) ?_
            refine lv_goto (pc := 124) (tgt := 128) hx hb (dd dX10_area_p1 20 rfl) (by decide) ?_
            have hW9 := hW
            cases h
            exact ret _ _ _ 128 hW9 rfl (dd dX10_area_p1 22 rfl)
      · have h := it_f hc h
        refine lv_iconst (pc := 37) (v := 0) hx hb (dd dX10_area_p0 21 rfl) (by decide) ?_
        have hW9 := hW
        cases h
        exact ret _ _ _ 38 hW9 rfl (dd dX10_area_p0 22 rfl)
  have J15 : ∀ (c_thrown : Int32) (H : Heap) (locs : List Loc) (ls : Array Slot), X10_area_b15 c_thrown c_cornerX c_cornerY c_corners v1 = some (r0, o_thrown) → WD g s A (w_X10_area g a_t a_cornerX a_cornerY a_corners a_what a_rowAt a_strip a_along a_rowSize a_endAt a_turns a_plan a_slantA a_slantB a_yields a_bears a_seen a_wagons a_pile a_far a_waiting a_isWaiting a_rest a_isUsed c_thrown c_isLaid c_head c_hasRows c_hasPlan c_rows c_slants c_capacity c_weight c_unload c_source c_bunker c_cornerX c_cornerY c_corners) H locs → lv_has ls 6 [(0, .ref a_t), (1, .int v1)] → W p l e (rm9 1 22) s m args below meth c H locs 0 0 Q (F0 m 15 ls [.ref a_t]) := by
    intro c_thrown H locs ls h hW hl
    unfold X10_area_b15 at h
    refine lv_iconst (pc := 15) (v := 1) hx hb (dd dX10_area_p0 9 rfl) (by decide) ?_
    refine lv_goto (pc := 16) (tgt := 20) hx hb (dd dX10_area_p0 10 rfl) (by decide) ?_
    exact J20 _ _ _ _ _ h hW (lv_sub hl [0, 1] rfl)
  refine lv_aload_n (pc := 0) hx hb (dd dX10_area_p0 0 rfl) rfl (lv_at hl 0 rfl) ?_
  refine lv_iconst (pc := 1) (v := 0) hx hb (dd dX10_area_p0 1 rfl) (by decide) ?_
  refine rPut (pc := 2) M hW 0 0 tyX10 tyX10_ok nmX10 iU10 rfl rfl (by decide) (uw4 213 rfl rfl) rfl rfl rfl (Nat.le_of_ble_eq_true rfl) (dd dX10_area_p0 2 rfl) (ws' := (w_X10_area g a_t a_cornerX a_cornerY a_corners a_what a_rowAt a_strip a_along a_rowSize a_endAt a_turns a_plan a_slantA a_slantB a_yields a_bears a_seen a_wagons a_pile a_far a_waiting a_isWaiting a_rest a_isUsed 0 c_isLaid c_head c_hasRows c_hasPlan c_rows c_slants c_capacity c_weight c_unload c_source c_bunker c_cornerX c_cornerY c_corners)) rfl (fun H locs hW => ?_)
  refine lv_aload_n (pc := 5) hx hb (dd dX10_area_p0 3 rfl) rfl (lv_at hl 0 rfl) ?_
  refine lv_iload_n (pc := 6) hx hb (dd dX10_area_p0 4 rfl) rfl (lv_at hl 1 rfl) ?_
  refine lv_if_lt (pc := 7) (tgt := 15) hx hb (dd dX10_area_p0 5 rfl) (by decide) (fun hc => ?_) (fun hc => ?_)
  · have h := it_t hc h
    exact J15 _ _ _ _ h hW (lv_sub hl [0, 1] rfl)
  · have h := it_f hc h
    refine lv_iload_n (pc := 10) hx hb (dd dX10_area_p0 6 rfl) rfl (lv_at hl 1 rfl) ?_
    refine lv_iconst (pc := 11) (v := 3) hx hb (dd dX10_area_p0 7 rfl) (by decide) ?_
    refine lv_icmp_le (pc := 12) (tgt := 19) hx hb (dd dX10_area_p0 8 rfl) (by decide) (fun hc => ?_) (fun hc => ?_)
    · have h := it_t hc h
      refine lv_iconst (pc := 19) (v := 0) hx hb (dd dX10_area_p0 11 rfl) (by decide) ?_
      exact J20 _ _ _ _ _ h hW (lv_sub hl [0, 1] rfl)
    · have h := it_f hc h
      exact J15 _ _ _ _ h hW (lv_sub hl [0, 1] rfl)
abbrev w_X10_counts (g : G9) (a_t a_what a_cornerX a_cornerY a_corners a_rowAt a_strip a_along a_rowSize a_endAt a_turns a_plan a_slantA a_slantB a_yields a_bears a_seen a_wagons a_pile a_far a_waiting a_isWaiting a_rest a_isUsed : Nat) (c_thrown c_isLaid c_head c_hasRows c_hasPlan c_rows c_slants c_capacity c_weight c_unload c_source c_bunker : Int32) (c_what : Ar) : va_W := [ob a_t 10 [.int c_thrown, .ref a_cornerX, .ref a_cornerY, .ref a_corners, .ref a_what, .int c_isLaid, .int c_head, .int c_hasRows, .int c_hasPlan, .int c_rows, .ref a_rowAt, .ref a_strip, .ref a_along, .ref a_rowSize, .ref a_endAt, .ref a_turns, .ref a_plan, .ref a_slantA, .ref a_slantB, .int c_slants, .ref a_yields, .ref a_bears, .int c_capacity, .int c_weight, .int c_unload, .ref a_seen, .ref a_wagons, .ref a_pile, .ref a_far, .int c_source, .ref a_waiting, .ref a_isWaiting, .ref a_rest, .ref a_isUsed, .int c_bunker], ia g a_what 1200 c_what]
noncomputable def X10_counts_b4_27 (v1 v3 k0 k1 : Int32) : Option ((Int32 × Int32) ⊕ Int32) :=
  nm ((k0 + k1)) fun v2_28 => nm (v3 + 1) fun v3_29 => some (.inl (v2_28, v3_29))
noncomputable def X10_counts_L4 (c_what : Ar) (v1 v2 v3 : Int32) : Option ((Int32 × Int32) ⊕ Int32) :=
  if 1200 ≤ v3 then (some (.inr v2)) else (ck (ix v3 1200) <| if (ag c_what v3) = v1 then (X10_counts_b4_27 v1 v3 v2 1) else (X10_counts_b4_27 v1 v3 v2 0))
noncomputable def X10_counts (c_what : Ar) (v1 : Int32) : Option Int32 :=
  bnd (whileV (fun st => X10_counts_L4 c_what v1 st.1 st.2) (0, 0)) <| (fun v2_35 => some v2_35)
set_option maxHeartbeats 4000000 in
set_option maxRecDepth 100000 in
theorem t_X10_counts (l : Launch) (g : G9) (a_t a_what a_cornerX a_cornerY a_corners a_rowAt a_strip a_along a_rowSize a_endAt a_turns a_plan a_slantA a_slantB a_yields a_bears a_seen a_wagons a_pile a_far a_waiting a_isWaiting a_rest a_isUsed : Nat) (c_thrown c_isLaid c_head c_hasRows c_hasPlan c_rows c_slants c_capacity c_weight c_unload c_source c_bunker : Int32) (c_what : Ar) (v1 r0 : Int32) (h : X10_counts c_what v1 = some r0) : CtI l g yX10_counts cX10_counts 4 .int 0 0 [.ref a_t, .int v1] (w_X10_counts g a_t a_what a_cornerX a_cornerY a_corners a_rowAt a_strip a_along a_rowSize a_endAt a_turns a_plan a_slantA a_slantB a_yields a_bears a_seen a_wagons a_pile a_far a_waiting a_isWaiting a_rest a_isUsed c_thrown c_isLaid c_head c_hasRows c_hasPlan c_rows c_slants c_capacity c_weight c_unload c_source c_bunker c_what) r0 (w_X10_counts g a_t a_what a_cornerX a_cornerY a_corners a_rowAt a_strip a_along a_rowSize a_endAt a_turns a_plan a_slantA a_slantB a_yields a_bears a_seen a_wagons a_pile a_far a_waiting a_isWaiting a_rest a_isUsed c_thrown c_isLaid c_head c_hasRows c_hasPlan c_rows c_slants c_capacity c_weight c_unload c_source c_bunker c_what) := by
  refine startI (by decide) (Nat.le_of_ble_eq_true rfl) ?_
  intro p e s m below meth c A Q ls args M hW hl ret
  have hx := M.1
  have hb := M.2.1
  have hown := M.2.2.2.1
  have hu := M.2.2.2.2.1
  have hl : lv_has ls 4 [(0, .ref a_t), (1, .int v1)] := hl
  unfold X10_counts at h
  obtain ⟨H, eH⟩ : ∃ z, z = s.heap := ⟨_, rfl⟩
  obtain ⟨locs, eL⟩ : ∃ z, z = ([] : List Loc) := ⟨_, rfl⟩
  rw [← eL] at hW ⊢
  suffices hS9 : WD g s A (w_X10_counts g a_t a_what a_cornerX a_cornerY a_corners a_rowAt a_strip a_along a_rowSize a_endAt a_turns a_plan a_slantA a_slantB a_yields a_bears a_seen a_wagons a_pile a_far a_waiting a_isWaiting a_rest a_isUsed c_thrown c_isLaid c_head c_hasRows c_hasPlan c_rows c_slants c_capacity c_weight c_unload c_source c_bunker c_what) H locs → W p l e (rm9 0 0) s m args below meth c H locs 0 0 Q (F0 m 0 ls []) by
    rw [← eH] at hW ⊢
    exact hS9 hW
  clear hW eH eL
  intro hW
  refine lv_iconst (pc := 0) (v := 0) hx hb (dd dX10_counts 0 rfl) (by decide) ?_
  refine lv_istore_n (pc := 1) (lv' := [(2, .int 0), (0, .ref a_t), (1, .int v1)]) hx hb (dd dX10_counts 1 rfl) rfl hl (by decide) rfl (fun ls hl => ?_)
  refine lv_iconst (pc := 2) (v := 0) hx hb (dd dX10_counts 2 rfl) (by decide) ?_
  refine lv_istore_n (pc := 3) (lv' := [(3, .int 0), (2, .int 0), (0, .ref a_t), (1, .int v1)]) hx hb (dd dX10_counts 3 rfl) rfl hl (by decide) rfl (fun ls hl => ?_)
  obtain ⟨ex, hw, h⟩ := bnd_ex h
  refine loopW (fun st => ∀ (H : Heap) (locs : List Loc) (ls : Array Slot), WD g s A (w_X10_counts g a_t a_what a_cornerX a_cornerY a_corners a_rowAt a_strip a_along a_rowSize a_endAt a_turns a_plan a_slantA a_slantB a_yields a_bears a_seen a_wagons a_pile a_far a_waiting a_isWaiting a_rest a_isUsed c_thrown c_isLaid c_head c_hasRows c_hasPlan c_rows c_slants c_capacity c_weight c_unload c_source c_bunker c_what) H locs → lv_has ls 4 [(0, .ref a_t), (1, .int v1), (2, .int (st.1)), (3, .int (st.2))] → W p l e (rm9 0 0) s m args below meth c H locs 0 0 Q (F0 m 4 ls [])) (fun (ex : Int32) => ∀ (H : Heap) (locs : List Loc) (ls : Array Slot), WD g s A (w_X10_counts g a_t a_what a_cornerX a_cornerY a_corners a_rowAt a_strip a_along a_rowSize a_endAt a_turns a_plan a_slantA a_slantB a_yields a_bears a_seen a_wagons a_pile a_far a_waiting a_isWaiting a_rest a_isUsed c_thrown c_isLaid c_head c_hasRows c_hasPlan c_rows c_slants c_capacity c_weight c_unload c_source c_bunker c_what) H locs → lv_has ls 4 [(2, .int ex)] → W p l e (rm9 0 0) s m args below meth c H locs 0 0 Q (F0 m 35 ls [])) ?_ hw ?_ H locs ls hW (lv_sub hl [2, 3, 1, 0] rfl)
  · rintro ⟨v2, v3⟩ o hb9 hk H locs ls hW hl
    have h : X10_counts_L4 c_what v1 v2 v3 = some o := hb9
    clear hb9
    unfold X10_counts_L4 at h
    have J27 : ∀ (v3 k0 k1 : Int32) (H : Heap) (locs : List Loc) (ls : Array Slot), X10_counts_b4_27 v1 v3 k0 k1 = some o → WD g s A (w_X10_counts g a_t a_what a_cornerX a_cornerY a_corners a_rowAt a_strip a_along a_rowSize a_endAt a_turns a_plan a_slantA a_slantB a_yields a_bears a_seen a_wagons a_pile a_far a_waiting a_isWaiting a_rest a_isUsed c_thrown c_isLaid c_head c_hasRows c_hasPlan c_rows c_slants c_capacity c_weight c_unload c_source c_bunker c_what) H locs → lv_has ls 4 [(0, .ref a_t), (1, .int v1), (3, .int v3)] → W p l e (rm9 0 0) s m args below meth c H locs 0 0 Q (F0 m 27 ls [.int k1, .int k0]) := by
      intro v3 k0 k1 H locs ls h hW hl
      unfold X10_counts_b4_27 at h
      refine lv_iadd (pc := 27) hx hb (dd dX10_counts 17 rfl) ?_
      obtain ⟨v2_28, ev2_28, h⟩ := nm_ex h
      refine rTopi (pc := 28) ev2_28 ?_
      refine lv_istore_n (pc := 28) (lv' := [(2, .int v2_28), (0, .ref a_t), (1, .int v1), (3, .int v3)]) hx hb (dd dX10_counts 18 rfl) rfl hl (by decide) rfl (fun ls hl => ?_)
      obtain ⟨v3_29, ev3_29, h⟩ := nm_ex h
      refine lv_iinc (pc := 29) (v := v3_29) (lv' := [(3, .int v3_29), (2, .int v2_28), (0, .ref a_t), (1, .int v1)]) hx hb (dd dX10_counts 19 rfl) hl (k := 3) rfl (by rw [ev3_29]; rfl) (by decide) rfl (fun ls hl => ?_)
      refine lv_goto (pc := 32) (tgt := 4) hx hb (dd dX10_counts 20 rfl) (by decide) ?_
      obtain rfl := Option.some.inj h
      exact hk _ _ _ hW (lv_sub hl [2, 3, 1, 0] rfl)
    refine lv_iload_n (pc := 4) hx hb (dd dX10_counts 4 rfl) rfl (lv_at hl 3 rfl) ?_
    refine lv_sipush (pc := 5) (v := 1200) hx hb (dd dX10_counts 5 rfl) (by decide) ?_
    refine lv_icmp_ge (pc := 8) (tgt := 35) hx hb (dd dX10_counts 6 rfl) (by decide) (fun hc => ?_) (fun hc => ?_)
    · have h := it_t hc h
      obtain rfl := Option.some.inj h
      exact hk _ _ _ hW (lv_sub hl [2] rfl)
    · have h := it_f hc h
      refine lv_iload_n (pc := 11) hx hb (dd dX10_counts 7 rfl) rfl (lv_at hl 2 rfl) ?_
      refine lv_aload_n (pc := 12) hx hb (dd dX10_counts 8 rfl) rfl (lv_at hl 0 rfl) ?_
      refine rGet (pc := 13) M hW 0 4 iU10 rfl rfl (by decide) (uw4 217 rfl rfl) rfl (dd dX10_counts 9 rfl) ?_
      refine lv_iload_n (pc := 16) hx hb (dd dX10_counts 10 rfl) rfl (lv_at hl 3 rfl) ?_
      obtain ⟨hi, h⟩ := ck_ex h
      refine rIald (pc := 17) M hW 1 rfl hi (dd dX10_counts 11 rfl) ?_
      refine lv_iload_n (pc := 18) hx hb (dd dX10_counts 12 rfl) rfl (lv_at hl 1 rfl) ?_
      refine lv_icmp_ne (pc := 19) (tgt := 26) hx hb (dd dX10_counts 13 rfl) (by decide) (fun hc => ?_) (fun hc => ?_)
      · have h := it_f hc h
        refine lv_iconst (pc := 26) (v := 0) hx hb (dd dX10_counts 16 rfl) (by decide) ?_
        exact J27 _ _ _ _ _ _ h hW (lv_sub hl [0, 1, 3] rfl)
      · have h := it_t hc h
        refine lv_iconst (pc := 22) (v := 1) hx hb (dd dX10_counts 14 rfl) (by decide) ?_
        refine lv_goto (pc := 23) (tgt := 27) hx hb (dd dX10_counts 15 rfl) (by decide) ?_
        exact J27 _ _ _ _ _ _ h hW (lv_sub hl [0, 1, 3] rfl)
  · obtain ⟨v2_35, e9⟩ : ∃ z, z = ex := ⟨_, rfl⟩
    subst e9
    intro H locs ls hW hl
    refine lv_iload_n (pc := 35) hx hb (dd dX10_counts 21 rfl) rfl (lv_at hl 0 rfl) ?_
    have hW9 := hW
    cases h
    exact ret _ _ _ 36 hW9 rfl (dd dX10_counts 22 rfl)
noncomputable def X10_noSquare_b20  : Option Int32 :=
  some 1
noncomputable def X10_noSquare (v0 v1 : Int32) : Option Int32 :=
  if v0 < 0 then (X10_noSquare_b20 ) else (if v1 < 0 then (X10_noSquare_b20 ) else (if 40 ≤ v0 then (X10_noSquare_b20 ) else (if v1 < 30 then (some 0) else (X10_noSquare_b20 ))))
set_option maxHeartbeats 4000000 in
set_option maxRecDepth 100000 in
theorem t_X10_noSquare (l : Launch) (g : G9) (v0 v1 r0 : Int32) (h : X10_noSquare v0 v1 = some r0) : CtI l g yX10_noSquare cX10_noSquare 2 .boolean 0 0 [.int v0, .int v1] [] r0 [] := by
  refine startI (by decide) (Nat.le_of_ble_eq_true rfl) ?_
  intro p e s m below meth c A Q ls args M hW hl ret
  have hx := M.1
  have hb := M.2.1
  have hown := M.2.2.2.1
  have hu := M.2.2.2.2.1
  have hl : lv_has ls 2 [(0, .int v0), (1, .int v1)] := hl
  unfold X10_noSquare at h
  obtain ⟨H, eH⟩ : ∃ z, z = s.heap := ⟨_, rfl⟩
  obtain ⟨locs, eL⟩ : ∃ z, z = ([] : List Loc) := ⟨_, rfl⟩
  rw [← eL] at hW ⊢
  suffices hS9 : WD g s A [] H locs → W p l e (rm9 0 0) s m args below meth c H locs 0 0 Q (F0 m 0 ls []) by
    rw [← eH] at hW ⊢
    exact hS9 hW
  clear hW eH eL
  intro hW
  have J20 : ∀ (H : Heap) (locs : List Loc) (ls : Array Slot), X10_noSquare_b20  = some r0 → WD g s A [] H locs → lv_has ls 2 [] → W p l e (rm9 0 0) s m args below meth c H locs 0 0 Q (F0 m 20 ls []) := by
    intro H locs ls h hW hl
    unfold X10_noSquare_b20 at h
    refine lv_iconst (pc := 20) (v := 1) hx hb (dd dX10_noSquare 10 rfl) (by decide) ?_
    refine lv_goto (pc := 21) (tgt := 25) hx hb (dd dX10_noSquare 11 rfl) (by decide) ?_
    have hW9 := hW
    cases h
    exact ret _ _ _ 25 hW9 rfl (dd dX10_noSquare 13 rfl)
  refine lv_iload_n (pc := 0) hx hb (dd dX10_noSquare 0 rfl) rfl (lv_at hl 0 rfl) ?_
  refine lv_if_lt (pc := 1) (tgt := 20) hx hb (dd dX10_noSquare 1 rfl) (by decide) (fun hc => ?_) (fun hc => ?_)
  · have h := it_t hc h
    exact J20 _ _ _ h hW (lv_sub hl [] rfl)
  · have h := it_f hc h
    refine lv_iload_n (pc := 4) hx hb (dd dX10_noSquare 2 rfl) rfl (lv_at hl 1 rfl) ?_
    refine lv_if_lt (pc := 5) (tgt := 20) hx hb (dd dX10_noSquare 3 rfl) (by decide) (fun hc => ?_) (fun hc => ?_)
    · have h := it_t hc h
      exact J20 _ _ _ h hW (lv_sub hl [] rfl)
    · have h := it_f hc h
      refine lv_iload_n (pc := 8) hx hb (dd dX10_noSquare 4 rfl) rfl (lv_at hl 0 rfl) ?_
      refine lv_bipush (pc := 9) (v := 40) hx hb (dd dX10_noSquare 5 rfl) (by decide) ?_
      refine lv_icmp_ge (pc := 11) (tgt := 20) hx hb (dd dX10_noSquare 6 rfl) (by decide) (fun hc => ?_) (fun hc => ?_)
      · have h := it_t hc h
        exact J20 _ _ _ h hW (lv_sub hl [] rfl)
      · have h := it_f hc h
        refine lv_iload_n (pc := 14) hx hb (dd dX10_noSquare 7 rfl) rfl (lv_at hl 1 rfl) ?_
        refine lv_bipush (pc := 15) (v := 30) hx hb (dd dX10_noSquare 8 rfl) (by decide) ?_
        refine lv_icmp_lt (pc := 17) (tgt := 24) hx hb (dd dX10_noSquare 9 rfl) (by decide) (fun hc => ?_) (fun hc => ?_)
        · have h := it_t hc h
          refine lv_iconst (pc := 24) (v := 0) hx hb (dd dX10_noSquare 12 rfl) (by decide) ?_
          have hW9 := hW
          cases h
          exact ret _ _ _ 25 hW9 rfl (dd dX10_noSquare 13 rfl)
        · have h := it_f hc h
          exact J20 _ _ _ h hW (lv_sub hl [] rfl)
abbrev w_X10_isNearOut (g : G9) (a_t a_what a_cornerX a_cornerY a_corners a_rowAt a_strip a_along a_rowSize a_endAt a_turns a_plan a_slantA a_slantB a_yields a_bears a_seen a_wagons a_pile a_far a_waiting a_isWaiting a_rest a_isUsed : Nat) (c_thrown c_isLaid c_head c_hasRows c_hasPlan c_rows c_slants c_capacity c_weight c_unload c_source c_bunker : Int32) (c_what : Ar) : va_W := [ob a_t 10 [.int c_thrown, .ref a_cornerX, .ref a_cornerY, .ref a_corners, .ref a_what, .int c_isLaid, .int c_head, .int c_hasRows, .int c_hasPlan, .int c_rows, .ref a_rowAt, .ref a_strip, .ref a_along, .ref a_rowSize, .ref a_endAt, .ref a_turns, .ref a_plan, .ref a_slantA, .ref a_slantB, .int c_slants, .ref a_yields, .ref a_bears, .int c_capacity, .int c_weight, .int c_unload, .ref a_seen, .ref a_wagons, .ref a_pile, .ref a_far, .int c_source, .ref a_waiting, .ref a_isWaiting, .ref a_rest, .ref a_isUsed, .int c_bunker], ia g a_what 1200 c_what]
noncomputable def X10_isNearOut_L25 (c_head : Int32) (c_what : Ar) (v1 v2 v3 v4 : Int32) : Option (Int32 ⊕ (Unit ⊕ Unit)) :=
  if (v1 + c_head) < v4 then (some (.inr (.inl ()))) else (bnd (X10_noSquare v4 v3) <| fun r_39 => if r_39 = 0 then (ck (ix ((40 * v3) + v4) 1200) <| if (ag c_what ((40 * v3) + v4)) = 0 then (some (.inr (.inr (())))) else (nm (v4 + 1) fun v4_62 => some (.inl v4_62))) else (some (.inr (.inr (())))))
noncomputable def X10_isNearOut_L7 (c_head : Int32) (c_what : Ar) (v1 v2 v3 : Int32) : Option (Int32 ⊕ (Unit ⊕ Unit)) :=
  if (v2 + c_head) < v3 then (some (.inr (.inl ()))) else (nm ((v1 - c_head)) fun v4_23 => bnd (whileV (fun st => X10_isNearOut_L25 c_head c_what v1 v2 v3 st) v4_23) <| (Sum.elim (fun (_ : Unit) => nm (v3 + 1) fun v3_68 => some (.inl v3_68)) (fun (_ : Unit) => some (.inr (.inr (()))))))
noncomputable def X10_isNearOut (c_head : Int32) (c_what : Ar) (v1 v2 : Int32) : Option Int32 :=
  nm ((v2 - c_head)) fun v3_6 => bnd (whileV (fun st => X10_isNearOut_L7 c_head c_what v1 v2 st) v3_6) <| (Sum.elim (fun (_ : Unit) => some 0) (fun (_ : Unit) => some 1))
set_option maxHeartbeats 4000000 in
set_option maxRecDepth 100000 in
theorem t_X10_isNearOut (l : Launch) (g : G9) (a_t a_what a_cornerX a_cornerY a_corners a_rowAt a_strip a_along a_rowSize a_endAt a_turns a_plan a_slantA a_slantB a_yields a_bears a_seen a_wagons a_pile a_far a_waiting a_isWaiting a_rest a_isUsed : Nat) (c_thrown c_isLaid c_head c_hasRows c_hasPlan c_rows c_slants c_capacity c_weight c_unload c_source c_bunker : Int32) (c_what : Ar) (v1 v2 r0 : Int32) (h : X10_isNearOut c_head c_what v1 v2 = some r0) : CtI l g yX10_isNearOut cX10_isNearOut 5 .boolean 1 21 [.ref a_t, .int v1, .int v2] (w_X10_isNearOut g a_t a_what a_cornerX a_cornerY a_corners a_rowAt a_strip a_along a_rowSize a_endAt a_turns a_plan a_slantA a_slantB a_yields a_bears a_seen a_wagons a_pile a_far a_waiting a_isWaiting a_rest a_isUsed c_thrown c_isLaid c_head c_hasRows c_hasPlan c_rows c_slants c_capacity c_weight c_unload c_source c_bunker c_what) r0 (w_X10_isNearOut g a_t a_what a_cornerX a_cornerY a_corners a_rowAt a_strip a_along a_rowSize a_endAt a_turns a_plan a_slantA a_slantB a_yields a_bears a_seen a_wagons a_pile a_far a_waiting a_isWaiting a_rest a_isUsed c_thrown c_isLaid c_head c_hasRows c_hasPlan c_rows c_slants c_capacity c_weight c_unload c_source c_bunker c_what) := by
  refine startI (by decide) (Nat.le_of_ble_eq_true rfl) ?_
  intro p e s m below meth c A Q ls args M hW hl ret
  have hx := M.1
  have hb := M.2.1
  have hown := M.2.2.2.1
  have hu := M.2.2.2.2.1
  have hl : lv_has ls 5 [(0, .ref a_t), (1, .int v1), (2, .int v2)] := hl
  unfold X10_isNearOut at h
  obtain ⟨H, eH⟩ : ∃ z, z = s.heap := ⟨_, rfl⟩
  obtain ⟨locs, eL⟩ : ∃ z, z = ([] : List Loc) := ⟨_, rfl⟩
  rw [← eL] at hW ⊢
  suffices hS9 : WD g s A (w_X10_isNearOut g a_t a_what a_cornerX a_cornerY a_corners a_rowAt a_strip a_along a_rowSize a_endAt a_turns a_plan a_slantA a_slantB a_yields a_bears a_seen a_wagons a_pile a_far a_waiting a_isWaiting a_rest a_isUsed c_thrown c_isLaid c_head c_hasRows c_hasPlan c_rows c_slants c_capacity c_weight c_unload c_source c_bunker c_what) H locs → W p l e (rm9 1 21) s m args below meth c H locs 0 0 Q (F0 m 0 ls []) by
    rw [← eH] at hW ⊢
    exact hS9 hW
  clear hW eH eL
  intro hW
  refine lv_iload_n (pc := 0) hx hb (dd dX10_isNearOut 0 rfl) rfl (lv_at hl 2 rfl) ?_
  refine lv_aload_n (pc := 1) hx hb (dd dX10_isNearOut 1 rfl) rfl (lv_at hl 0 rfl) ?_
  refine rGet (pc := 2) M hW 0 6 iU10 rfl rfl (by decide) (uw4 219 rfl rfl) rfl (dd dX10_isNearOut 2 rfl) ?_
  refine lv_isub (pc := 5) hx hb (dd dX10_isNearOut 3 rfl) ?_
  obtain ⟨v3_6, ev3_6, h⟩ := nm_ex h
  refine rTopi (pc := 6) ev3_6 ?_
  refine lv_istore_n (pc := 6) (lv' := [(3, .int v3_6), (0, .ref a_t), (1, .int v1), (2, .int v2)]) hx hb (dd dX10_isNearOut 4 rfl) rfl hl (by decide) rfl (fun ls hl => ?_)
  obtain ⟨ex, hw, h⟩ := bnd_ex h
  refine loopW (fun st => ∀ (H : Heap) (locs : List Loc) (ls : Array Slot), WD g s A (w_X10_isNearOut g a_t a_what a_cornerX a_cornerY a_corners a_rowAt a_strip a_along a_rowSize a_endAt a_turns a_plan a_slantA a_slantB a_yields a_bears a_seen a_wagons a_pile a_far a_waiting a_isWaiting a_rest a_isUsed c_thrown c_isLaid c_head c_hasRows c_hasPlan c_rows c_slants c_capacity c_weight c_unload c_source c_bunker c_what) H locs → lv_has ls 5 [(0, .ref a_t), (1, .int v1), (2, .int v2), (3, .int st)] → W p l e (rm9 1 21) s m args below meth c H locs 0 0 Q (F0 m 7 ls [])) (Sum.elim (fun (ex : Unit) => ∀ (H : Heap) (locs : List Loc) (ls : Array Slot), WD g s A (w_X10_isNearOut g a_t a_what a_cornerX a_cornerY a_corners a_rowAt a_strip a_along a_rowSize a_endAt a_turns a_plan a_slantA a_slantB a_yields a_bears a_seen a_wagons a_pile a_far a_waiting a_isWaiting a_rest a_isUsed c_thrown c_isLaid c_head c_hasRows c_hasPlan c_rows c_slants c_capacity c_weight c_unload c_source c_bunker c_what) H locs → lv_has ls 5 [] → W p l e (rm9 1 21) s m args below meth c H locs 0 0 Q (F0 m 74 ls [])) (fun (ex : Unit) => ∀ (H : Heap) (locs : List Loc) (ls : Array Slot), WD g s A (w_X10_isNearOut g a_t a_what a_cornerX a_cornerY a_corners a_rowAt a_strip a_along a_rowSize a_endAt a_turns a_plan a_slantA a_slantB a_yields a_bears a_seen a_wagons a_pile a_far a_waiting a_isWaiting a_rest a_isUsed c_thrown c_isLaid c_head c_hasRows c_hasPlan c_rows c_slants c_capacity c_weight c_unload c_source c_bunker c_what) H locs → lv_has ls 5 [] → W p l e (rm9 1 21) s m args below meth c H locs 0 0 Q (F0 m 60 ls []))) ?_ hw ?_ H locs ls hW (lv_sub hl [1, 2, 3, 0] rfl)
  · rintro v3 o hb9 hk H locs ls hW hl
    have h : X10_isNearOut_L7 c_head c_what v1 v2 v3 = some o := hb9
    clear hb9
    unfold X10_isNearOut_L7 at h
    refine lv_iload_n (pc := 7) hx hb (dd dX10_isNearOut 5 rfl) rfl (lv_at hl 3 rfl) ?_
    refine lv_iload_n (pc := 8) hx hb (dd dX10_isNearOut 6 rfl) rfl (lv_at hl 2 rfl) ?_
    refine lv_aload_n (pc := 9) hx hb (dd dX10_isNearOut 7 rfl) rfl (lv_at hl 0 rfl) ?_
    refine rGet (pc := 10) M hW 0 6 iU10 rfl rfl (by decide) (uw4 219 rfl rfl) rfl (dd dX10_isNearOut 8 rfl) ?_
    refine lv_iadd (pc := 13) hx hb (dd dX10_isNearOut 9 rfl) ?_
    refine lv_icmp_gt (pc := 14) (tgt := 74) hx hb (dd dX10_isNearOut 10 rfl) (by decide) (fun hc => ?_) (fun hc => ?_)
    · have h := it_t hc h
      obtain rfl := Option.some.inj h
      exact hk _ _ _ hW (lv_sub hl [] rfl)
    · have h := it_f hc h
      refine lv_iload_n (pc := 17) hx hb (dd dX10_isNearOut 11 rfl) rfl (lv_at hl 1 rfl) ?_
      refine lv_aload_n (pc := 18) hx hb (dd dX10_isNearOut 12 rfl) rfl (lv_at hl 0 rfl) ?_
      refine rGet (pc := 19) M hW 0 6 iU10 rfl rfl (by decide) (uw4 219 rfl rfl) rfl (dd dX10_isNearOut 13 rfl) ?_
      refine lv_isub (pc := 22) hx hb (dd dX10_isNearOut 14 rfl) ?_
      obtain ⟨v4_23, ev4_23, h⟩ := nm_ex h
      refine rTopi (pc := 23) ev4_23 ?_
      refine lv_istore (pc := 23) (lv' := [(4, .int v4_23), (0, .ref a_t), (1, .int v1), (2, .int v2), (3, .int v3)]) hx hb (dd dX10_isNearOut 15 rfl) hl (by decide) rfl (fun ls hl => ?_)
      obtain ⟨ex, hw, h⟩ := bnd_ex h
      refine loopW (fun st => ∀ (H : Heap) (locs : List Loc) (ls : Array Slot), WD g s A (w_X10_isNearOut g a_t a_what a_cornerX a_cornerY a_corners a_rowAt a_strip a_along a_rowSize a_endAt a_turns a_plan a_slantA a_slantB a_yields a_bears a_seen a_wagons a_pile a_far a_waiting a_isWaiting a_rest a_isUsed c_thrown c_isLaid c_head c_hasRows c_hasPlan c_rows c_slants c_capacity c_weight c_unload c_source c_bunker c_what) H locs → lv_has ls 5 [(0, .ref a_t), (1, .int v1), (2, .int v2), (3, .int v3), (4, .int st)] → W p l e (rm9 1 21) s m args below meth c H locs 0 0 Q (F0 m 25 ls [])) (Sum.elim (fun (ex : Unit) => ∀ (H : Heap) (locs : List Loc) (ls : Array Slot), WD g s A (w_X10_isNearOut g a_t a_what a_cornerX a_cornerY a_corners a_rowAt a_strip a_along a_rowSize a_endAt a_turns a_plan a_slantA a_slantB a_yields a_bears a_seen a_wagons a_pile a_far a_waiting a_isWaiting a_rest a_isUsed c_thrown c_isLaid c_head c_hasRows c_hasPlan c_rows c_slants c_capacity c_weight c_unload c_source c_bunker c_what) H locs → lv_has ls 5 [(0, .ref a_t), (1, .int v1), (2, .int v2), (3, .int v3)] → W p l e (rm9 1 21) s m args below meth c H locs 0 0 Q (F0 m 68 ls [])) (fun (ex : Unit) => ∀ (H : Heap) (locs : List Loc) (ls : Array Slot), WD g s A (w_X10_isNearOut g a_t a_what a_cornerX a_cornerY a_corners a_rowAt a_strip a_along a_rowSize a_endAt a_turns a_plan a_slantA a_slantB a_yields a_bears a_seen a_wagons a_pile a_far a_waiting a_isWaiting a_rest a_isUsed c_thrown c_isLaid c_head c_hasRows c_hasPlan c_rows c_slants c_capacity c_weight c_unload c_source c_bunker c_what) H locs → lv_has ls 5 [] → W p l e (rm9 1 21) s m args below meth c H locs 0 0 Q (F0 m 60 ls []))) ?_ hw ?_ H locs ls hW (lv_sub hl [1, 2, 3, 4, 0] rfl)
      · rintro v4 o hb9 hk H locs ls hW hl
        have h : X10_isNearOut_L25 c_head c_what v1 v2 v3 v4 = some o := hb9
        clear hb9
        unfold X10_isNearOut_L25 at h
        refine lv_iload (pc := 25) hx hb (dd dX10_isNearOut 16 rfl) (lv_at hl 4 rfl) ?_
        refine lv_iload_n (pc := 27) hx hb (dd dX10_isNearOut 17 rfl) rfl (lv_at hl 1 rfl) ?_
        refine lv_aload_n (pc := 28) hx hb (dd dX10_isNearOut 18 rfl) rfl (lv_at hl 0 rfl) ?_
        refine rGet (pc := 29) M hW 0 6 iU10 rfl rfl (by decide) (uw4 219 rfl rfl) rfl (dd dX10_isNearOut 19 rfl) ?_
        refine lv_iadd (pc := 32) hx hb (dd dX10_isNearOut 20 rfl) ?_
        refine lv_icmp_gt (pc := 33) (tgt := 68) hx hb (dd dX10_isNearOut 21 rfl) (by decide) (fun hc => ?_) (fun hc => ?_)
        · have h := it_t hc h
          obtain rfl := Option.some.inj h
          exact hk _ _ _ hW (lv_sub hl [0, 1, 2, 3] rfl)
        · have h := it_f hc h
          refine lv_iload (pc := 36) hx hb (dd dX10_isNearOut 22 rfl) (lv_at hl 4 rfl) ?_
          refine lv_iload_n (pc := 38) hx hb (dd dX10_isNearOut 23 rfl) rfl (lv_at hl 3 rfl) ?_
          obtain ⟨r_39, hr, h⟩ := bnd_ex h
          refine callSI (pc := 39) (na := 2) (As := [.int v4, .int v3]) (rest := []) (ws2 := (w_X10_isNearOut g a_t a_what a_cornerX a_cornerY a_corners a_rowAt a_strip a_along a_rowSize a_endAt a_turns a_plan a_slantA a_slantB a_yields a_bears a_seen a_wagons a_pile a_far a_waiting a_isWaiting a_rest a_isUsed c_thrown c_isLaid c_head c_hasRows c_hasPlan c_rows c_slants c_capacity c_weight c_unload c_source c_bunker c_what)) M hl.1 hW (t_X10_noSquare l g v4 v3 r_39 hr) [] [0, 1] [0, 1] rfl rfl rfl rfl rfl rfl rfl (uw5 113 rfl rfl) (uw5 111 rfl rfl) (uw5 112 rfl rfl) (uw1 13 rfl rfl) ⟨by decide, by decide, by decide⟩ rfl ⟨by decide, by decide⟩ (Nat.le_of_ble_eq_true rfl) ⟨Nat.zero_le _, Nat.zero_le _⟩ (dd dX10_isNearOut 24 rfl) (fun H locs hW => ?_)
          refine lv_if_ne (pc := 42) (tgt := 60) hx hb (dd dX10_isNearOut 25 rfl) (by decide) (fun hc => ?_) (fun hc => ?_)
          · have h := it_f hc h
            obtain rfl := Option.some.inj h
            exact hk _ _ _ hW (lv_sub hl [] rfl)
          · have h := it_t hc h
            refine lv_aload_n (pc := 45) hx hb (dd dX10_isNearOut 26 rfl) rfl (lv_at hl 0 rfl) ?_
            refine rGet (pc := 46) M hW 0 4 iU10 rfl rfl (by decide) (uw4 217 rfl rfl) rfl (dd dX10_isNearOut 27 rfl) ?_
            refine lv_bipush (pc := 49) (v := 40) hx hb (dd dX10_isNearOut 28 rfl) (by decide) ?_
            refine lv_iload_n (pc := 51) hx hb (dd dX10_isNearOut 29 rfl) rfl (lv_at hl 3 rfl) ?_
            refine lv_imul (pc := 52) hx hb (dd dX10_isNearOut 30 rfl) ?_
            refine lv_iload (pc := 53) hx hb (dd dX10_isNearOut 31 rfl) (lv_at hl 4 rfl) ?_
            refine lv_iadd (pc := 55) hx hb (dd dX10_isNearOut 32 rfl) ?_
            obtain ⟨hi, h⟩ := ck_ex h
            refine rIald (pc := 56) M hW 1 rfl hi (dd dX10_isNearOut 33 rfl) ?_
            refine lv_if_ne (pc := 57) (tgt := 62) hx hb (dd dX10_isNearOut 34 rfl) (by decide) (fun hc => ?_) (fun hc => ?_)
            · have h := it_f hc h
              obtain ⟨v4_62, ev4_62, h⟩ := nm_ex h
              refine lv_iinc (pc := 62) (v := v4_62) (lv' := [(4, .int v4_62), (0, .ref a_t), (1, .int v1), (2, .int v2), (3, .int v3)]) hx hb (dd dX10_isNearOut 37 rfl) hl (k := 4) rfl (by rw [ev4_62]; rfl) (by decide) rfl (fun ls hl => ?_)
              refine lv_goto (pc := 65) (tgt := 25) hx hb (dd dX10_isNearOut 38 rfl) (by decide) ?_
              obtain rfl := Option.some.inj h
              exact hk _ _ _ hW (lv_sub hl [1, 2, 3, 4, 0] rfl)
            · have h := it_t hc h
              obtain rfl := Option.some.inj h
              exact hk _ _ _ hW (lv_sub hl [] rfl)
      · rcases ex with _ | _
        · intro H locs ls hW hl
          have h := sE_l h
          obtain ⟨v3_68, ev3_68, h⟩ := nm_ex h
          refine lv_iinc (pc := 68) (v := v3_68) (lv' := [(3, .int v3_68), (0, .ref a_t), (1, .int v1), (2, .int v2)]) hx hb (dd dX10_isNearOut 39 rfl) hl (k := 3) rfl (by rw [ev3_68]; rfl) (by decide) rfl (fun ls hl => ?_)
          refine lv_goto (pc := 71) (tgt := 7) hx hb (dd dX10_isNearOut 40 rfl) (by decide) ?_
          obtain rfl := Option.some.inj h
          exact hk _ _ _ hW (lv_sub hl [1, 2, 3, 0] rfl)
        · intro H locs ls hW hl
          have h := sE_r h
          obtain rfl := Option.some.inj h
          exact hk _ _ _ hW (lv_sub hl [] rfl)
  · rcases ex with _ | _
    · intro H locs ls hW hl
      have h := sE_l h
      refine lv_iconst (pc := 74) (v := 0) hx hb (dd dX10_isNearOut 41 rfl) (by decide) ?_
      have hW9 := hW
      cases h
      exact ret _ _ _ 75 hW9 rfl (dd dX10_isNearOut 42 rfl)
    · intro H locs ls hW hl
      have h := sE_r h
      refine lv_iconst (pc := 60) (v := 1) hx hb (dd dX10_isNearOut 35 rfl) (by decide) ?_
      have hW9 := hW
      cases h
      exact ret _ _ _ 61 hW9 rfl (dd dX10_isNearOut 36 rfl)
abbrev w_X10_isIn (g : G9) (a_t a_cornerX a_cornerY a_corners a_what a_rowAt a_strip a_along a_rowSize a_endAt a_turns a_plan a_slantA a_slantB a_yields a_bears a_seen a_wagons a_pile a_far a_waiting a_isWaiting a_rest a_isUsed : Nat) (c_thrown c_isLaid c_head c_hasRows c_hasPlan c_rows c_slants c_capacity c_weight c_unload c_source c_bunker : Int32) (c_cornerX c_cornerY c_corners : Ar) : va_W := [ob a_t 10 [.int c_thrown, .ref a_cornerX, .ref a_cornerY, .ref a_corners, .ref a_what, .int c_isLaid, .int c_head, .int c_hasRows, .int c_hasPlan, .int c_rows, .ref a_rowAt, .ref a_strip, .ref a_along, .ref a_rowSize, .ref a_endAt, .ref a_turns, .ref a_plan, .ref a_slantA, .ref a_slantB, .int c_slants, .ref a_yields, .ref a_bears, .int c_capacity, .int c_weight, .int c_unload, .ref a_seen, .ref a_wagons, .ref a_pile, .ref a_far, .int c_source, .ref a_waiting, .ref a_isWaiting, .ref a_rest, .ref a_isUsed, .int c_bunker], ia g a_cornerX 48 c_cornerX, ia g a_cornerY 48 c_cornerY, ia g a_corners 4 c_corners]
noncomputable def X10_isIn_b32_202 (v1 v4 v5 v6 v7 : Int32) : Option ((Int32 × Int32) ⊕ Int32) :=
  nm (v7 + 1) fun v7_202 => some (.inl (v6, v7_202))
noncomputable def X10_isIn_b32_200 (v1 v4 v5 v7 k0 : Int32) : Option ((Int32 × Int32) ⊕ Int32) :=
  X10_isIn_b32_202 v1 v4 v5 k0 v7
noncomputable def X10_isIn_b32_190 (v1 v4 v5 v6 v7 : Int32) : Option ((Int32 × Int32) ⊕ Int32) :=
  if v6 = 0 then (X10_isIn_b32_200 v1 v4 v5 v7 1) else (X10_isIn_b32_200 v1 v4 v5 v7 0)
noncomputable def X10_isIn_b32_116 (c_cornerX : Ar) (v1 v4 v5 v6 v7 v8 v9 v10 v11 k0 k1 : Int32) : Option ((Int32 × Int32) ⊕ Int32) :=
  if k0 = k1 then (X10_isIn_b32_202 v1 v4 v5 v6 v7) else (ck (ix v8 48) <| nm ((2 * (ag c_cornerX v8))) fun v12_131 => nm (((v4 - v12_131) * (v11 - v10))) fun v13_144 => ck (ix v9 48) <| nm (((v5 - v10) * ((2 * (ag c_cornerX v9)) - v12_131))) fun v14_164 => if v11 ≤ v10 then (if v13_144 ≤ v14_164 then (X10_isIn_b32_202 v1 v4 v5 v6 v7) else (X10_isIn_b32_190 v1 v4 v5 v6 v7)) else (if v14_164 ≤ v13_144 then (X10_isIn_b32_202 v1 v4 v5 v6 v7) else (X10_isIn_b32_190 v1 v4 v5 v6 v7)))
noncomputable def X10_isIn_b32_104 (c_cornerX : Ar) (v1 v4 v5 v6 v7 v8 v9 v10 v11 k0 : Int32) : Option ((Int32 × Int32) ⊕ Int32) :=
  if v11 ≤ v5 then (X10_isIn_b32_116 c_cornerX v1 v4 v5 v6 v7 v8 v9 v10 v11 k0 0) else (X10_isIn_b32_116 c_cornerX v1 v4 v5 v6 v7 v8 v9 v10 v11 k0 1)
noncomputable def X10_isIn_L32 (c_cornerX c_cornerY c_corners : Ar) (v1 v4 v5 v6 v7 : Int32) : Option ((Int32 × Int32) ⊕ Int32) :=
  ck (ix v1 4) <| if (ag c_corners v1) ≤ v7 then (some (.inr v6)) else (nm (((12 * v1) + v7)) fun v8_50 => ck (ix v1 4) <| ck (nz (ag c_corners v1)) <| nm (((12 * v1) + ((v7 + 1) - (v7 + 1) / (ag c_corners v1) * (ag c_corners v1)))) fun v9_68 => ck (ix v8_50 48) <| nm ((2 * (ag c_cornerY v8_50))) fun v10_79 => ck (ix v9_68 48) <| nm ((2 * (ag c_cornerY v9_68))) fun v11_90 => if v10_79 ≤ v5 then (X10_isIn_b32_104 c_cornerX v1 v4 v5 v6 v7 v8_50 v9_68 v10_79 v11_90 0) else (X10_isIn_b32_104 c_cornerX v1 v4 v5 v6 v7 v8_50 v9_68 v10_79 v11_90 1))
noncomputable def X10_isIn (c_cornerX c_cornerY c_corners : Ar) (v1 v2 v3 : Int32) : Option Int32 :=
  ck (ix v1 4) <| if 3 ≤ (ag c_corners v1) then (nm (((2 * v2) + 1)) fun v4_17 => nm (((2 * v3) + 1)) fun v5_24 => bnd (whileV (fun st => X10_isIn_L32 c_cornerX c_cornerY c_corners v1 v4_17 v5_24 st.1 st.2) (0, 0)) <| (fun v6_208 => ck (bl v6_208) <| some v6_208)) else (some 0)
set_option maxHeartbeats 4000000 in
set_option maxRecDepth 100000 in
theorem t_X10_isIn (l : Launch) (g : G9) (a_t a_cornerX a_cornerY a_corners a_what a_rowAt a_strip a_along a_rowSize a_endAt a_turns a_plan a_slantA a_slantB a_yields a_bears a_seen a_wagons a_pile a_far a_waiting a_isWaiting a_rest a_isUsed : Nat) (c_thrown c_isLaid c_head c_hasRows c_hasPlan c_rows c_slants c_capacity c_weight c_unload c_source c_bunker : Int32) (c_cornerX c_cornerY c_corners : Ar) (v1 v2 v3 r0 : Int32) (h : X10_isIn c_cornerX c_cornerY c_corners v1 v2 v3 = some r0) : CtI l g yX10_isIn cX10_isIn 15 .boolean 0 0 [.ref a_t, .int v1, .int v2, .int v3] (w_X10_isIn g a_t a_cornerX a_cornerY a_corners a_what a_rowAt a_strip a_along a_rowSize a_endAt a_turns a_plan a_slantA a_slantB a_yields a_bears a_seen a_wagons a_pile a_far a_waiting a_isWaiting a_rest a_isUsed c_thrown c_isLaid c_head c_hasRows c_hasPlan c_rows c_slants c_capacity c_weight c_unload c_source c_bunker c_cornerX c_cornerY c_corners) r0 (w_X10_isIn g a_t a_cornerX a_cornerY a_corners a_what a_rowAt a_strip a_along a_rowSize a_endAt a_turns a_plan a_slantA a_slantB a_yields a_bears a_seen a_wagons a_pile a_far a_waiting a_isWaiting a_rest a_isUsed c_thrown c_isLaid c_head c_hasRows c_hasPlan c_rows c_slants c_capacity c_weight c_unload c_source c_bunker c_cornerX c_cornerY c_corners) := by
  refine startI (by decide) (Nat.le_of_ble_eq_true rfl) ?_
  intro p e s m below meth c A Q ls args M hW hl ret
  have hx := M.1
  have hb := M.2.1
  have hown := M.2.2.2.1
  have hu := M.2.2.2.2.1
  have hl : lv_has ls 15 [(0, .ref a_t), (1, .int v1), (2, .int v2), (3, .int v3)] := hl
  unfold X10_isIn at h
  obtain ⟨H, eH⟩ : ∃ z, z = s.heap := ⟨_, rfl⟩
  obtain ⟨locs, eL⟩ : ∃ z, z = ([] : List Loc) := ⟨_, rfl⟩
  rw [← eL] at hW ⊢
  suffices hS9 : WD g s A (w_X10_isIn g a_t a_cornerX a_cornerY a_corners a_what a_rowAt a_strip a_along a_rowSize a_endAt a_turns a_plan a_slantA a_slantB a_yields a_bears a_seen a_wagons a_pile a_far a_waiting a_isWaiting a_rest a_isUsed c_thrown c_isLaid c_head c_hasRows c_hasPlan c_rows c_slants c_capacity c_weight c_unload c_source c_bunker c_cornerX c_cornerY c_corners) H locs → W p l e (rm9 0 0) s m args below meth c H locs 0 0 Q (F0 m 0 ls []) by
    rw [← eH] at hW ⊢
    exact hS9 hW
  clear hW eH eL
  intro hW
  refine lv_aload_n (pc := 0) hx hb (dd dX10_isIn_p0 0 rfl) rfl (lv_at hl 0 rfl) ?_
  refine rGet (pc := 1) M hW 0 3 iU10 rfl rfl (by decide) (uw4 216 rfl rfl) rfl (dd dX10_isIn_p0 1 rfl) ?_
  refine lv_iload_n (pc := 4) hx hb (dd dX10_isIn_p0 2 rfl) rfl (lv_at hl 1 rfl) ?_
  obtain ⟨hi, h⟩ := ck_ex h
  refine rIald (pc := 5) M hW 3 rfl hi (dd dX10_isIn_p0 3 rfl) ?_
  refine lv_iconst (pc := 6) (v := 3) hx hb (dd dX10_isIn_p0 4 rfl) (by decide) ?_
  refine lv_icmp_ge (pc := 7) (tgt := 12) hx hb (dd dX10_isIn_p0 5 rfl) (by decide) (fun hc => ?_) (fun hc => ?_)
  · have h := it_t hc h
    refine lv_iconst (pc := 12) (v := 2) hx hb (dd dX10_isIn_p0 8 rfl) (by decide) ?_
    refine lv_iload_n (pc := 13) hx hb (dd dX10_isIn_p0 9 rfl) rfl (lv_at hl 2 rfl) ?_
    refine lv_imul (pc := 14) hx hb (dd dX10_isIn_p0 10 rfl) ?_
    refine lv_iconst (pc := 15) (v := 1) hx hb (dd dX10_isIn_p0 11 rfl) (by decide) ?_
    refine lv_iadd (pc := 16) hx hb (dd dX10_isIn_p0 12 rfl) ?_
    obtain ⟨v4_17, ev4_17, h⟩ := nm_ex h
    refine rTopi (pc := 17) ev4_17 ?_
    refine lv_istore (pc := 17) (lv' := [(4, .int v4_17), (0, .ref a_t), (1, .int v1), (2, .int v2), (3, .int v3)]) hx hb (dd dX10_isIn_p0 13 rfl) hl (by decide) rfl (fun ls hl => ?_)
    refine lv_iconst (pc := 19) (v := 2) hx hb (dd dX10_isIn_p0 14 rfl) (by decide) ?_
    refine lv_iload_n (pc := 20) hx hb (dd dX10_isIn_p0 15 rfl) rfl (lv_at hl 4 rfl) ?_
    refine lv_imul (pc := 21) hx hb (dd dX10_isIn_p0 16 rfl) ?_
    refine lv_iconst (pc := 22) (v := 1) hx hb (dd dX10_isIn_p0 17 rfl) (by decide) ?_
    refine lv_iadd (pc := 23) hx hb (dd dX10_isIn_p0 18 rfl) ?_
    obtain ⟨v5_24, ev5_24, h⟩ := nm_ex h
    refine rTopi (pc := 24) ev5_24 ?_
    refine lv_istore (pc := 24) (lv' := [(5, .int v5_24), (4, .int v4_17), (0, .ref a_t), (1, .int v1), (2, .int v2), (3, .int v3)]) hx hb (dd dX10_isIn_p0 19 rfl) hl (by decide) rfl (fun ls hl => ?_)
    refine lv_iconst (pc := 26) (v := 0) hx hb (dd dX10_isIn_p0 20 rfl) (by decide) ?_
    refine lv_istore (pc := 27) (lv' := [(6, .int 0), (5, .int v5_24), (4, .int v4_17), (0, .ref a_t), (1, .int v1), (2, .int v2), (3, .int v3)]) hx hb (dd dX10_isIn_p0 21 rfl) hl (by decide) rfl (fun ls hl => ?_)
    refine lv_iconst (pc := 29) (v := 0) hx hb (dd dX10_isIn_p0 22 rfl) (by decide) ?_
    refine lv_istore (pc := 30) (lv' := [(7, .int 0), (6, .int 0), (5, .int v5_24), (4, .int v4_17), (0, .ref a_t), (1, .int v1), (2, .int v2), (3, .int v3)]) hx hb (dd dX10_isIn_p0 23 rfl) hl (by decide) rfl (fun ls hl => ?_)
    obtain ⟨ex, hw, h⟩ := bnd_ex h
    refine loopW (fun st => ∀ (H : Heap) (locs : List Loc) (ls : Array Slot), WD g s A (w_X10_isIn g a_t a_cornerX a_cornerY a_corners a_what a_rowAt a_strip a_along a_rowSize a_endAt a_turns a_plan a_slantA a_slantB a_yields a_bears a_seen a_wagons a_pile a_far a_waiting a_isWaiting a_rest a_isUsed c_thrown c_isLaid c_head c_hasRows c_hasPlan c_rows c_slants c_capacity c_weight c_unload c_source c_bunker c_cornerX c_cornerY c_corners) H locs → lv_has ls 15 [(0, .ref a_t), (1, .int v1), (4, .int v4_17), (5, .int v5_24), (6, .int (st.1)), (7, .int (st.2))] → W p l e (rm9 0 0) s m args below meth c H locs 0 0 Q (F0 m 32 ls [])) (fun (ex : Int32) => ∀ (H : Heap) (locs : List Loc) (ls : Array Slot), WD g s A (w_X10_isIn g a_t a_cornerX a_cornerY a_corners a_what a_rowAt a_strip a_along a_rowSize a_endAt a_turns a_plan a_slantA a_slantB a_yields a_bears a_seen a_wagons a_pile a_far a_waiting a_isWaiting a_rest a_isUsed c_thrown c_isLaid c_head c_hasRows c_hasPlan c_rows c_slants c_capacity c_weight c_unload c_source c_bunker c_cornerX c_cornerY c_corners) H locs → lv_has ls 15 [(6, .int ex)] → W p l e (rm9 0 0) s m args below meth c H locs 0 0 Q (F0 m 208 ls [])) ?_ hw ?_ H locs ls hW (lv_sub hl [4, 5, 3, 2, 1, 0] rfl)
    · rintro ⟨v6, v7⟩ o hb9 hk H locs ls hW hl
      have h : X10_isIn_L32 c_cornerX c_cornerY c_corners v1 v4_17 v5_24 v6 v7 = some o := hb9
      clear hb9
      unfold X10_isIn_L32 at h
      have J202 : ∀ (v6 v7 : Int32) (H : Heap) (locs : List Loc) (ls : Array Slot), X10_isIn_b32_202 v1 v4_17 v5_24 v6 v7 = some o → WD g s A (w_X10_isIn g a_t a_cornerX a_cornerY a_corners a_what a_rowAt a_strip a_along a_rowSize a_endAt a_turns a_plan a_slantA a_slantB a_yields a_bears a_seen a_wagons a_pile a_far a_waiting a_isWaiting a_rest a_isUsed c_thrown c_isLaid c_head c_hasRows c_hasPlan c_rows c_slants c_capacity c_weight c_unload c_source c_bunker c_cornerX c_cornerY c_corners) H locs → lv_has ls 15 [(0, .ref a_t), (1, .int v1), (4, .int v4_17), (5, .int v5_24), (6, .int v6), (7, .int v7)] → W p l e (rm9 0 0) s m args below meth c H locs 0 0 Q (F0 m 202 ls []) := by
        intro v6 v7 H locs ls h hW hl
        unfold X10_isIn_b32_202 at h
        obtain ⟨v7_202, ev7_202, h⟩ := nm_ex h
        refine lv_iinc (pc := 202) (v := v7_202) (lv' := [(7, .int v7_202), (0, .ref a_t), (1, .int v1), (4, .int v4_17), (5, .int v5_24), (6, .int v6)]) hx hb (dd dX10_isIn_p2 1 rfl) hl (k := 5) rfl (by rw [ev7_202]; rfl) (by decide) rfl (fun ls hl => ?_)
        refine lv_goto (pc := 205) (tgt := 32) hx hb (dd dX10_isIn_p2 2 rfl) (by decide) ?_
        obtain rfl := Option.some.inj h
        exact hk _ _ _ hW (lv_sub hl [1, 2, 3, 4, 5, 0] rfl)
      have J200 : ∀ (v7 k0 : Int32) (H : Heap) (locs : List Loc) (ls : Array Slot), X10_isIn_b32_200 v1 v4_17 v5_24 v7 k0 = some o → WD g s A (w_X10_isIn g a_t a_cornerX a_cornerY a_corners a_what a_rowAt a_strip a_along a_rowSize a_endAt a_turns a_plan a_slantA a_slantB a_yields a_bears a_seen a_wagons a_pile a_far a_waiting a_isWaiting a_rest a_isUsed c_thrown c_isLaid c_head c_hasRows c_hasPlan c_rows c_slants c_capacity c_weight c_unload c_source c_bunker c_cornerX c_cornerY c_corners) H locs → lv_has ls 15 [(0, .ref a_t), (1, .int v1), (4, .int v4_17), (5, .int v5_24), (7, .int v7)] → W p l e (rm9 0 0) s m args below meth c H locs 0 0 Q (F0 m 200 ls [.int k0]) := by
        intro v7 k0 H locs ls h hW hl
        unfold X10_isIn_b32_200 at h
        refine lv_istore (pc := 200) (lv' := [(6, .int k0), (0, .ref a_t), (1, .int v1), (4, .int v4_17), (5, .int v5_24), (7, .int v7)]) hx hb (dd dX10_isIn_p2 0 rfl) hl (by decide) rfl (fun ls hl => ?_)
        exact J202 _ _ _ _ _ h hW (lv_sub hl [1, 2, 3, 4, 0, 5] rfl)
      have J190 : ∀ (v6 v7 : Int32) (H : Heap) (locs : List Loc) (ls : Array Slot), X10_isIn_b32_190 v1 v4_17 v5_24 v6 v7 = some o → WD g s A (w_X10_isIn g a_t a_cornerX a_cornerY a_corners a_what a_rowAt a_strip a_along a_rowSize a_endAt a_turns a_plan a_slantA a_slantB a_yields a_bears a_seen a_wagons a_pile a_far a_waiting a_isWaiting a_rest a_isUsed c_thrown c_isLaid c_head c_hasRows c_hasPlan c_rows c_slants c_capacity c_weight c_unload c_source c_bunker c_cornerX c_cornerY c_corners) H locs → lv_has ls 15 [(0, .ref a_t), (1, .int v1), (4, .int v4_17), (5, .int v5_24), (6, .int v6), (7, .int v7)] → W p l e (rm9 0 0) s m args below meth c H locs 0 0 Q (F0 m 190 ls []) := by
        intro v6 v7 H locs ls h hW hl
        unfold X10_isIn_b32_190 at h
        refine lv_iload (pc := 190) hx hb (dd dX10_isIn_p1 55 rfl) (lv_at hl 4 rfl) ?_
        refine lv_if_ne (pc := 192) (tgt := 199) hx hb (dd dX10_isIn_p1 56 rfl) (by decide) (fun hc => ?_) (fun hc => ?_)
        · have h := it_f hc h
          refine lv_iconst (pc := 199) (v := 0) hx hb (dd dX10_isIn_p1 59 rfl) (by decide) ?_
          exact J200 _ _ _ _ _ h hW (lv_sub hl [0, 1, 2, 3, 5] rfl)
        · have h := it_t hc h
          refine lv_iconst (pc := 195) (v := 1) hx hb (dd dX10_isIn_p1 57 rfl) (by decide) ?_
          refine lv_goto (pc := 196) (tgt := 200) hx hb (dd dX10_isIn_p1 58 rfl) (by decide) ?_
          exact J200 _ _ _ _ _ h hW (lv_sub hl [0, 1, 2, 3, 5] rfl)
      have J116 : ∀ (v6 v7 v8 v9 v10 v11 k0 k1 : Int32) (H : Heap) (locs : List Loc) (ls : Array Slot), X10_isIn_b32_116 c_cornerX v1 v4_17 v5_24 v6 v7 v8 v9 v10 v11 k0 k1 = some o → WD g s A (w_X10_isIn g a_t a_cornerX a_cornerY a_corners a_what a_rowAt a_strip a_along a_rowSize a_endAt a_turns a_plan a_slantA a_slantB a_yields a_bears a_seen a_wagons a_pile a_far a_waiting a_isWaiting a_rest a_isUsed c_thrown c_isLaid c_head c_hasRows c_hasPlan c_rows c_slants c_capacity c_weight c_unload c_source c_bunker c_cornerX c_cornerY c_corners) H locs → lv_has ls 15 [(0, .ref a_t), (1, .int v1), (4, .int v4_17), (5, .int v5_24), (6, .int v6), (7, .int v7), (8, .int v8), (9, .int v9), (10, .int v10), (11, .int v11)] → W p l e (rm9 0 0) s m args below meth c H locs 0 0 Q (F0 m 116 ls [.int k1, .int k0]) := by
        intro v6 v7 v8 v9 v10 v11 k0 k1 H locs ls h hW hl
        unfold X10_isIn_b32_116 at h
        refine lv_icmp_ne (pc := 116) (tgt := 122) hx hb (dd dX10_isIn_p1 15 rfl) (by decide) (fun hc => ?_) (fun hc => ?_)
        · have h := it_f hc h
          refine lv_iconst (pc := 122) (v := 2) hx hb (dd dX10_isIn_p1 17 rfl) (by decide) ?_
          refine lv_aload_n (pc := 123) hx hb (dd dX10_isIn_p1 18 rfl) rfl (lv_at hl 0 rfl) ?_
          refine rGet (pc := 124) M hW 0 1 iU10 rfl rfl (by decide) (uw4 214 rfl rfl) rfl (dd dX10_isIn_p1 19 rfl) ?_
          refine lv_iload (pc := 127) hx hb (dd dX10_isIn_p1 20 rfl) (lv_at hl 6 rfl) ?_
          obtain ⟨hi, h⟩ := ck_ex h
          refine rIald (pc := 129) M hW 1 rfl hi (dd dX10_isIn_p1 21 rfl) ?_
          refine lv_imul (pc := 130) hx hb (dd dX10_isIn_p1 22 rfl) ?_
          obtain ⟨v12_131, ev12_131, h⟩ := nm_ex h
          refine rTopi (pc := 131) ev12_131 ?_
          refine lv_istore (pc := 131) (lv' := [(12, .int v12_131), (0, .ref a_t), (1, .int v1), (4, .int v4_17), (5, .int v5_24), (6, .int v6), (7, .int v7), (8, .int v8), (9, .int v9), (10, .int v10), (11, .int v11)]) hx hb (dd dX10_isIn_p1 23 rfl) hl (by decide) rfl (fun ls hl => ?_)
          refine lv_iload (pc := 133) hx hb (dd dX10_isIn_p1 24 rfl) (lv_at hl 3 rfl) ?_
          refine lv_iload (pc := 135) hx hb (dd dX10_isIn_p1 25 rfl) (lv_at hl 0 rfl) ?_
          refine lv_isub (pc := 137) hx hb (dd dX10_isIn_p1 26 rfl) ?_
          refine lv_iload (pc := 138) hx hb (dd dX10_isIn_p1 27 rfl) (lv_at hl 10 rfl) ?_
          refine lv_iload (pc := 140) hx hb (dd dX10_isIn_p1 28 rfl) (lv_at hl 9 rfl) ?_
          refine lv_isub (pc := 142) hx hb (dd dX10_isIn_p1 29 rfl) ?_
          refine lv_imul (pc := 143) hx hb (dd dX10_isIn_p1 30 rfl) ?_
          obtain ⟨v13_144, ev13_144, h⟩ := nm_ex h
          refine rTopi (pc := 144) ev13_144 ?_
          refine lv_istore (pc := 144) (lv' := [(13, .int v13_144), (12, .int v12_131), (0, .ref a_t), (1, .int v1), (4, .int v4_17), (5, .int v5_24), (6, .int v6), (7, .int v7), (8, .int v8), (9, .int v9), (10, .int v10), (11, .int v11)]) hx hb (dd dX10_isIn_p1 31 rfl) hl (by decide) rfl (fun ls hl => ?_)
          refine lv_iload (pc := 146) hx hb (dd dX10_isIn_p1 32 rfl) (lv_at hl 5 rfl) ?_
          refine lv_iload (pc := 148) hx hb (dd dX10_isIn_p1 33 rfl) (lv_at hl 10 rfl) ?_
          refine lv_isub (pc := 150) hx hb (dd dX10_isIn_p1 34 rfl) ?_
          refine lv_iconst (pc := 151) (v := 2) hx hb (dd dX10_isIn_p1 35 rfl) (by decide) ?_
          refine lv_aload_n (pc := 152) hx hb (dd dX10_isIn_p1 36 rfl) rfl (lv_at hl 2 rfl) ?_
          refine rGet (pc := 153) M hW 0 1 iU10 rfl rfl (by decide) (uw4 214 rfl rfl) rfl (dd dX10_isIn_p1 37 rfl) ?_
          refine lv_iload (pc := 156) hx hb (dd dX10_isIn_p1 38 rfl) (lv_at hl 9 rfl) ?_
          obtain ⟨hi, h⟩ := ck_ex h
          refine rIald (pc := 158) M hW 1 rfl hi (dd dX10_isIn_p1 39 rfl) ?_
          refine lv_imul (pc := 159) hx hb (dd dX10_isIn_p1 40 rfl) ?_
          refine lv_iload (pc := 160) hx hb (dd dX10_isIn_p1 41 rfl) (lv_at hl 1 rfl) ?_
          refine lv_isub (pc := 162) hx hb (dd dX10_isIn_p1 42 rfl) ?_
          refine lv_imul (pc := 163) hx hb (dd dX10_isIn_p1 43 rfl) ?_
          obtain ⟨v14_164, ev14_164, h⟩ := nm_ex h
          refine rTopi (pc := 164) ev14_164 ?_
          refine lv_istore (pc := 164) (lv' := [(14, .int v14_164), (13, .int v13_144), (12, .int v12_131), (0, .ref a_t), (1, .int v1), (4, .int v4_17), (5, .int v5_24), (6, .int v6), (7, .int v7), (8, .int v8), (9, .int v9), (10, .int v10), (11, .int v11)]) hx hb (dd dX10_isIn_p1 44 rfl) hl (by decide) rfl (fun ls hl => ?_)
          refine lv_iload (pc := 166) hx hb (dd dX10_isIn_p1 45 rfl) (lv_at hl 12 rfl) ?_
          refine lv_iload (pc := 168) hx hb (dd dX10_isIn_p1 46 rfl) (lv_at hl 11 rfl) ?_
          refine lv_icmp_le (pc := 170) (tgt := 183) hx hb (dd dX10_isIn_p1 47 rfl) (by decide) (fun hc => ?_) (fun hc => ?_)
          · have h := it_t hc h
            refine lv_iload (pc := 183) hx hb (dd dX10_isIn_p1 52 rfl) (lv_at hl 1 rfl) ?_
            refine lv_iload (pc := 185) hx hb (dd dX10_isIn_p1 53 rfl) (lv_at hl 0 rfl) ?_
            refine lv_icmp_le (pc := 187) (tgt := 202) hx hb (dd dX10_isIn_p1 54 rfl) (by decide) (fun hc => ?_) (fun hc => ?_)
            · have h := it_t hc h
              exact J202 _ _ _ _ _ h hW (lv_sub hl [3, 4, 5, 6, 7, 8] rfl)
            · have h := it_f hc h
              exact J190 _ _ _ _ _ h hW (lv_sub hl [3, 4, 5, 6, 7, 8] rfl)
          · have h := it_f hc h
            refine lv_iload (pc := 173) hx hb (dd dX10_isIn_p1 48 rfl) (lv_at hl 1 rfl) ?_
            refine lv_iload (pc := 175) hx hb (dd dX10_isIn_p1 49 rfl) (lv_at hl 0 rfl) ?_
            refine lv_icmp_ge (pc := 177) (tgt := 202) hx hb (dd dX10_isIn_p1 50 rfl) (by decide) (fun hc => ?_) (fun hc => ?_)
            · have h := it_t hc h
              exact J202 _ _ _ _ _ h hW (lv_sub hl [3, 4, 5, 6, 7, 8] rfl)
            · have h := it_f hc h
              refine lv_goto (pc := 180) (tgt := 190) hx hb (dd dX10_isIn_p1 51 rfl) (by decide) ?_
              exact J190 _ _ _ _ _ h hW (lv_sub hl [3, 4, 5, 6, 7, 8] rfl)
        · have h := it_t hc h
          refine lv_goto (pc := 119) (tgt := 202) hx hb (dd dX10_isIn_p1 16 rfl) (by decide) ?_
          exact J202 _ _ _ _ _ h hW (lv_sub hl [0, 1, 2, 3, 4, 5] rfl)
      have J104 : ∀ (v6 v7 v8 v9 v10 v11 k0 : Int32) (H : Heap) (locs : List Loc) (ls : Array Slot), X10_isIn_b32_104 c_cornerX v1 v4_17 v5_24 v6 v7 v8 v9 v10 v11 k0 = some o → WD g s A (w_X10_isIn g a_t a_cornerX a_cornerY a_corners a_what a_rowAt a_strip a_along a_rowSize a_endAt a_turns a_plan a_slantA a_slantB a_yields a_bears a_seen a_wagons a_pile a_far a_waiting a_isWaiting a_rest a_isUsed c_thrown c_isLaid c_head c_hasRows c_hasPlan c_rows c_slants c_capacity c_weight c_unload c_source c_bunker c_cornerX c_cornerY c_corners) H locs → lv_has ls 15 [(0, .ref a_t), (1, .int v1), (4, .int v4_17), (5, .int v5_24), (6, .int v6), (7, .int v7), (8, .int v8), (9, .int v9), (10, .int v10), (11, .int v11)] → W p l e (rm9 0 0) s m args below meth c H locs 0 0 Q (F0 m 104 ls [.int k0]) := by
        intro v6 v7 v8 v9 v10 v11 k0 H locs ls h hW hl
        unfold X10_isIn_b32_104 at h
        refine lv_iload (pc := 104) hx hb (dd dX10_isIn_p1 9 rfl) (lv_at hl 9 rfl) ?_
        refine lv_iload (pc := 106) hx hb (dd dX10_isIn_p1 10 rfl) (lv_at hl 3 rfl) ?_
        refine lv_icmp_le (pc := 108) (tgt := 115) hx hb (dd dX10_isIn_p1 11 rfl) (by decide) (fun hc => ?_) (fun hc => ?_)
        · have h := it_t hc h
          refine lv_iconst (pc := 115) (v := 0) hx hb (dd dX10_isIn_p1 14 rfl) (by decide) ?_
          exact J116 _ _ _ _ _ _ _ _ _ _ _ h hW (lv_sub hl [0, 1, 2, 3, 4, 5, 6, 7, 8, 9] rfl)
        · have h := it_f hc h
          refine lv_iconst (pc := 111) (v := 1) hx hb (dd dX10_isIn_p1 12 rfl) (by decide) ?_
          refine lv_goto (pc := 112) (tgt := 116) hx hb (dd dX10_isIn_p1 13 rfl) (by decide) ?_
          exact J116 _ _ _ _ _ _ _ _ _ _ _ h hW (lv_sub hl [0, 1, 2, 3, 4, 5, 6, 7, 8, 9] rfl)
      refine lv_iload (pc := 32) hx hb (dd dX10_isIn_p0 24 rfl) (lv_at hl 5 rfl) ?_
      refine lv_aload_n (pc := 34) hx hb (dd dX10_isIn_p0 25 rfl) rfl (lv_at hl 0 rfl) ?_
      refine rGet (pc := 35) M hW 0 3 iU10 rfl rfl (by decide) (uw4 216 rfl rfl) rfl (dd dX10_isIn_p0 26 rfl) ?_
      refine lv_iload_n (pc := 38) hx hb (dd dX10_isIn_p0 27 rfl) rfl (lv_at hl 1 rfl) ?_
      obtain ⟨hi, h⟩ := ck_ex h
      refine rIald (pc := 39) M hW 3 rfl hi (dd dX10_isIn_p0 28 rfl) ?_
      refine lv_icmp_ge (pc := 40) (tgt := 208) hx hb (dd dX10_isIn_p0 29 rfl) (by decide) (fun hc => ?_) (fun hc => ?_)
      · have h := it_t hc h
        obtain rfl := Option.some.inj h
        exact hk _ _ _ hW (lv_sub hl [4] rfl)
      · have h := it_f hc h
        refine lv_bipush (pc := 43) (v := 12) hx hb (dd dX10_isIn_p0 30 rfl) (by decide) ?_
        refine lv_iload_n (pc := 45) hx hb (dd dX10_isIn_p0 31 rfl) rfl (lv_at hl 1 rfl) ?_
        refine lv_imul (pc := 46) hx hb (dd dX10_isIn_p0 32 rfl) ?_
        refine lv_iload (pc := 47) hx hb (dd dX10_isIn_p0 33 rfl) (lv_at hl 5 rfl) ?_
        refine lv_iadd (pc := 49) hx hb (dd dX10_isIn_p0 34 rfl) ?_
        obtain ⟨v8_50, ev8_50, h⟩ := nm_ex h
        refine rTopi (pc := 50) ev8_50 ?_
        refine lv_istore (pc := 50) (lv' := [(8, .int v8_50), (0, .ref a_t), (1, .int v1), (4, .int v4_17), (5, .int v5_24), (6, .int v6), (7, .int v7)]) hx hb (dd dX10_isIn_p0 35 rfl) hl (by decide) rfl (fun ls hl => ?_)
        refine lv_bipush (pc := 52) (v := 12) hx hb (dd dX10_isIn_p0 36 rfl) (by decide) ?_
        refine lv_iload_n (pc := 54) hx hb (dd dX10_isIn_p0 37 rfl) rfl (lv_at hl 2 rfl) ?_
        refine lv_imul (pc := 55) hx hb (dd dX10_isIn_p0 38 rfl) ?_
        refine lv_iload (pc := 56) hx hb (dd dX10_isIn_p0 39 rfl) (lv_at hl 6 rfl) ?_
        refine lv_iconst (pc := 58) (v := 1) hx hb (dd dX10_isIn_p0 40 rfl) (by decide) ?_
        refine lv_iadd (pc := 59) hx hb (dd dX10_isIn_p0 41 rfl) ?_
        refine lv_aload_n (pc := 60) hx hb (dd dX10_isIn_p0 42 rfl) rfl (lv_at hl 1 rfl) ?_
        refine rGet (pc := 61) M hW 0 3 iU10 rfl rfl (by decide) (uw4 216 rfl rfl) rfl (dd dX10_isIn_p0 43 rfl) ?_
        refine lv_iload_n (pc := 64) hx hb (dd dX10_isIn_p0 44 rfl) rfl (lv_at hl 2 rfl) ?_
        obtain ⟨hi, h⟩ := ck_ex h
        refine rIald (pc := 65) M hW 3 rfl hi (dd dX10_isIn_p0 45 rfl) ?_
        obtain ⟨hi, h⟩ := ck_ex h
        refine lv_irem (pc := 66) hx hb (dd dX10_isIn_p0 46 rfl) (nz_ne hi) ?_
        refine lv_iadd (pc := 67) hx hb (dd dX10_isIn_p0 47 rfl) ?_
        obtain ⟨v9_68, ev9_68, h⟩ := nm_ex h
        refine rTopi (pc := 68) ev9_68 ?_
        refine lv_istore (pc := 68) (lv' := [(9, .int v9_68), (8, .int v8_50), (0, .ref a_t), (1, .int v1), (4, .int v4_17), (5, .int v5_24), (6, .int v6), (7, .int v7)]) hx hb (dd dX10_isIn_p0 48 rfl) hl (by decide) rfl (fun ls hl => ?_)
        refine lv_iconst (pc := 70) (v := 2) hx hb (dd dX10_isIn_p0 49 rfl) (by decide) ?_
        refine lv_aload_n (pc := 71) hx hb (dd dX10_isIn_p0 50 rfl) rfl (lv_at hl 2 rfl) ?_
        refine rGet (pc := 72) M hW 0 2 iU10 rfl rfl (by decide) (uw4 215 rfl rfl) rfl (dd dX10_isIn_p0 51 rfl) ?_
        refine lv_iload (pc := 75) hx hb (dd dX10_isIn_p0 52 rfl) (lv_at hl 1 rfl) ?_
        obtain ⟨hi, h⟩ := ck_ex h
        refine rIald (pc := 77) M hW 2 rfl hi (dd dX10_isIn_p0 53 rfl) ?_
        refine lv_imul (pc := 78) hx hb (dd dX10_isIn_p0 54 rfl) ?_
        obtain ⟨v10_79, ev10_79, h⟩ := nm_ex h
        refine rTopi (pc := 79) ev10_79 ?_
        refine lv_istore (pc := 79) (lv' := [(10, .int v10_79), (9, .int v9_68), (8, .int v8_50), (0, .ref a_t), (1, .int v1), (4, .int v4_17), (5, .int v5_24), (6, .int v6), (7, .int v7)]) hx hb (dd dX10_isIn_p0 55 rfl) hl (by decide) rfl (fun ls hl => ?_)
        refine lv_iconst (pc := 81) (v := 2) hx hb (dd dX10_isIn_p0 56 rfl) (by decide) ?_
        refine lv_aload_n (pc := 82) hx hb (dd dX10_isIn_p0 57 rfl) rfl (lv_at hl 3 rfl) ?_
        refine rGet (pc := 83) M hW 0 2 iU10 rfl rfl (by decide) (uw4 215 rfl rfl) rfl (dd dX10_isIn_p0 58 rfl) ?_
        refine lv_iload (pc := 86) hx hb (dd dX10_isIn_p0 59 rfl) (lv_at hl 1 rfl) ?_
        obtain ⟨hi, h⟩ := ck_ex h
        refine rIald (pc := 88) M hW 2 rfl hi (dd dX10_isIn_p1 0 rfl) ?_
        refine lv_imul (pc := 89) hx hb (dd dX10_isIn_p1 1 rfl) ?_
        obtain ⟨v11_90, ev11_90, h⟩ := nm_ex h
        refine rTopi (pc := 90) ev11_90 ?_
        refine lv_istore (pc := 90) (lv' := [(11, .int v11_90), (10, .int v10_79), (9, .int v9_68), (8, .int v8_50), (0, .ref a_t), (1, .int v1), (4, .int v4_17), (5, .int v5_24), (6, .int v6), (7, .int v7)]) hx hb (dd dX10_isIn_p1 2 rfl) hl (by decide) rfl (fun ls hl => ?_)
        refine lv_iload (pc := 92) hx hb (dd dX10_isIn_p1 3 rfl) (lv_at hl 1 rfl) ?_
        refine lv_iload (pc := 94) hx hb (dd dX10_isIn_p1 4 rfl) (lv_at hl 7 rfl) ?_
        refine lv_icmp_le (pc := 96) (tgt := 103) hx hb (dd dX10_isIn_p1 5 rfl) (by decide) (fun hc => ?_) (fun hc => ?_)
        · have h := it_t hc h
          refine lv_iconst (pc := 103) (v := 0) hx hb (dd dX10_isIn_p1 8 rfl) (by decide) ?_
          exact J104 _ _ _ _ _ _ _ _ _ _ h hW (lv_sub hl [4, 5, 6, 7, 8, 9, 3, 2, 1, 0] rfl)
        · have h := it_f hc h
          refine lv_iconst (pc := 99) (v := 1) hx hb (dd dX10_isIn_p1 6 rfl) (by decide) ?_
          refine lv_goto (pc := 100) (tgt := 104) hx hb (dd dX10_isIn_p1 7 rfl) (by decide) ?_
          exact J104 _ _ _ _ _ _ _ _ _ _ h hW (lv_sub hl [4, 5, 6, 7, 8, 9, 3, 2, 1, 0] rfl)
    · obtain ⟨v6_208, e9⟩ : ∃ z, z = ex := ⟨_, rfl⟩
      subst e9
      intro H locs ls hW hl
      refine lv_iload (pc := 208) hx hb (dd dX10_isIn_p2 3 rfl) (lv_at hl 0 rfl) ?_
      obtain ⟨hi9, h⟩ := ck_ex h
      have hW9 := hW
      cases h
      exact ret _ _ _ 210 hW9 (bl_nar hi9) (dd dX10_isIn_p2 4 rfl)
  · have h := it_f hc h
    refine lv_iconst (pc := 10) (v := 0) hx hb (dd dX10_isIn_p0 6 rfl) (by decide) ?_
    have hW9 := hW
    cases h
    exact ret _ _ _ 11 hW9 rfl (dd dX10_isIn_p0 7 rfl)
abbrev w_X10_lay (g : G9) (a_t a_cornerX a_cornerY a_corners a_what a_rowAt a_strip a_along a_rowSize a_endAt a_turns a_plan a_slantA a_slantB a_yields a_bears a_seen a_wagons a_pile a_far a_waiting a_isWaiting a_rest a_isUsed : Nat) (c_thrown c_isLaid c_head c_hasRows c_hasPlan c_rows c_slants c_capacity c_weight c_unload c_source c_bunker : Int32) (c_cornerX c_cornerY c_corners c_what : Ar) : va_W := [ob a_t 10 [.int c_thrown, .ref a_cornerX, .ref a_cornerY, .ref a_corners, .ref a_what, .int c_isLaid, .int c_head, .int c_hasRows, .int c_hasPlan, .int c_rows, .ref a_rowAt, .ref a_strip, .ref a_along, .ref a_rowSize, .ref a_endAt, .ref a_turns, .ref a_plan, .ref a_slantA, .ref a_slantB, .int c_slants, .ref a_yields, .ref a_bears, .int c_capacity, .int c_weight, .int c_unload, .ref a_seen, .ref a_wagons, .ref a_pile, .ref a_far, .int c_source, .ref a_waiting, .ref a_isWaiting, .ref a_rest, .ref a_isUsed, .int c_bunker], ia g a_cornerX 48 c_cornerX, ia g a_cornerY 48 c_cornerY, ia g a_corners 4 c_corners, ia g a_what 1200 c_what]
noncomputable def X10_lay_b40_112 (c_what : Ar) (v2 k1 k2 : Int32) : Option ((Ar × Int32) ⊕ Ar) :=
  ck (ix k1 1200) <| nm (au c_what k1 k2) fun c_what_112 => nm (v2 + 1) fun v2_113 => some (.inl (c_what_112, v2_113))
noncomputable def X10_lay_b40_111 (c_what : Ar) (v2 k1 : Int32) : Option ((Ar × Int32) ⊕ Ar) :=
  X10_lay_b40_112 c_what v2 k1 0
noncomputable def X10_lay_L40 (c_cornerX c_cornerY c_corners c_what : Ar) (v2 : Int32) : Option ((Ar × Int32) ⊕ Ar) :=
  if 1200 ≤ v2 then (some (.inr c_what)) else (nm ((v2 - v2 / 40 * 40)) fun v3_51 => nm ((v2 / 40)) fun v4_56 => bnd (X10_isIn c_cornerX c_cornerY c_corners 0 v3_51 v4_56) <| fun r_68 => if r_68 = 0 then (X10_lay_b40_111 c_what v2 v2) else (bnd (X10_isIn c_cornerX c_cornerY c_corners 1 v3_51 v4_56) <| fun r_79 => if r_79 = 0 then (bnd (X10_isIn c_cornerX c_cornerY c_corners 2 v3_51 v4_56) <| fun r_90 => if r_90 = 0 then (bnd (X10_isIn c_cornerX c_cornerY c_corners 3 v3_51 v4_56) <| fun r_101 => if r_101 = 0 then (X10_lay_b40_112 c_what v2 v2 2) else (X10_lay_b40_111 c_what v2 v2)) else (X10_lay_b40_111 c_what v2 v2)) else (X10_lay_b40_111 c_what v2 v2)))
noncomputable def X10_lay_b121_160 (c_what : Ar) (v2 : Int32) : Option ((Ar × Int32) ⊕ Ar) :=
  nm (v2 + 1) fun v2_160 => some (.inl (c_what, v2_160))
noncomputable def X10_lay_L121 (c_head : Int32) (c_what : Ar) (v2 : Int32) : Option ((Ar × Int32) ⊕ Ar) :=
  if 1200 ≤ v2 then (some (.inr c_what)) else (ck (ix v2 1200) <| if (ag c_what v2) = 2 then (bnd (X10_isNearOut c_head c_what (v2 - v2 / 40 * 40) (v2 / 40)) <| fun r_147 => if r_147 = 0 then (X10_lay_b121_160 c_what v2) else (ck (ix v2 1200) <| nm (au c_what v2 1) fun c_what_159 => X10_lay_b121_160 c_what_159 v2)) else (X10_lay_b121_160 c_what v2))
noncomputable def X10_lay_b20 (c_thrown c_isLaid c_head c_hasRows c_hasPlan : Int32) (c_cornerX c_cornerY c_corners c_what : Ar) (v1 k1 : Int32) : Option (Int32 × Int32 × Int32 × Int32 × Int32 × Int32 × Ar) :=
  bnd (X10_throwsIf c_thrown k1 1) <| un2 fun r_21 c_thrown_21 => if r_21 = 0 then (bnd (X10_takesAway c_isLaid c_hasRows c_hasPlan) <| un3 fun c_isLaid_30 c_hasRows_30 c_hasPlan_30 => bnd (whileV (fun st => X10_lay_L40 c_cornerX c_cornerY c_corners st.1 st.2) (c_what, 0)) <| (fun c_what_119 => bnd (whileV (fun st => X10_lay_L121 v1 st.1 st.2) (c_what_119, 0)) <| (fun c_what_166 => bnd (X10_counts c_what_166 0) <| fun r_176 => some ((1200 - r_176), c_thrown_21, 1, v1, c_hasRows_30, c_hasPlan_30, c_what_166)))) else (some (0, c_thrown_21, c_isLaid, c_head, c_hasRows, c_hasPlan, c_what))
noncomputable def X10_lay_b15 (c_thrown c_isLaid c_head c_hasRows c_hasPlan : Int32) (c_cornerX c_cornerY c_corners c_what : Ar) (v1 : Int32) : Option (Int32 × Int32 × Int32 × Int32 × Int32 × Int32 × Ar) :=
  X10_lay_b20 c_thrown c_isLaid c_head c_hasRows c_hasPlan c_cornerX c_cornerY c_corners c_what v1 1
noncomputable def X10_lay (c_thrown c_isLaid c_head c_hasRows c_hasPlan : Int32) (c_cornerX c_cornerY c_corners c_what : Ar) (v1 : Int32) : Option (Int32 × Int32 × Int32 × Int32 × Int32 × Int32 × Ar) :=
  if v1 < 0 then (X10_lay_b15 0 c_isLaid c_head c_hasRows c_hasPlan c_cornerX c_cornerY c_corners c_what v1) else (if v1 ≤ 5 then (X10_lay_b20 0 c_isLaid c_head c_hasRows c_hasPlan c_cornerX c_cornerY c_corners c_what v1 0) else (X10_lay_b15 0 c_isLaid c_head c_hasRows c_hasPlan c_cornerX c_cornerY c_corners c_what v1))
set_option maxHeartbeats 4000000 in
set_option maxRecDepth 100000 in
theorem t_X10_lay (l : Launch) (g : G9) (a_t a_cornerX a_cornerY a_corners a_what a_rowAt a_strip a_along a_rowSize a_endAt a_turns a_plan a_slantA a_slantB a_yields a_bears a_seen a_wagons a_pile a_far a_waiting a_isWaiting a_rest a_isUsed : Nat) (c_thrown c_isLaid c_head c_hasRows c_hasPlan c_rows c_slants c_capacity c_weight c_unload c_source c_bunker : Int32) (c_cornerX c_cornerY c_corners c_what : Ar) (v1 r0 o_thrown o_isLaid o_head o_hasRows o_hasPlan : Int32) (o_what : Ar) (h : X10_lay c_thrown c_isLaid c_head c_hasRows c_hasPlan c_cornerX c_cornerY c_corners c_what v1 = some (r0, o_thrown, o_isLaid, o_head, o_hasRows, o_hasPlan, o_what)) : CtI l g yX10_lay cX10_lay 5 .int 2 45 [.ref a_t, .int v1] (w_X10_lay g a_t a_cornerX a_cornerY a_corners a_what a_rowAt a_strip a_along a_rowSize a_endAt a_turns a_plan a_slantA a_slantB a_yields a_bears a_seen a_wagons a_pile a_far a_waiting a_isWaiting a_rest a_isUsed c_thrown c_isLaid c_head c_hasRows c_hasPlan c_rows c_slants c_capacity c_weight c_unload c_source c_bunker c_cornerX c_cornerY c_corners c_what) r0 (w_X10_lay g a_t a_cornerX a_cornerY a_corners a_what a_rowAt a_strip a_along a_rowSize a_endAt a_turns a_plan a_slantA a_slantB a_yields a_bears a_seen a_wagons a_pile a_far a_waiting a_isWaiting a_rest a_isUsed o_thrown o_isLaid o_head o_hasRows o_hasPlan c_rows c_slants c_capacity c_weight c_unload c_source c_bunker c_cornerX c_cornerY c_corners o_what) := by
  refine startI (by decide) (Nat.le_of_ble_eq_true rfl) ?_
  intro p e s m below meth c A Q ls args M hW hl ret
  have hx := M.1
  have hb := M.2.1
  have hown := M.2.2.2.1
  have hu := M.2.2.2.2.1
  have hl : lv_has ls 5 [(0, .ref a_t), (1, .int v1)] := hl
  unfold X10_lay at h
  obtain ⟨H, eH⟩ : ∃ z, z = s.heap := ⟨_, rfl⟩
  obtain ⟨locs, eL⟩ : ∃ z, z = ([] : List Loc) := ⟨_, rfl⟩
  rw [← eL] at hW ⊢
  suffices hS9 : WD g s A (w_X10_lay g a_t a_cornerX a_cornerY a_corners a_what a_rowAt a_strip a_along a_rowSize a_endAt a_turns a_plan a_slantA a_slantB a_yields a_bears a_seen a_wagons a_pile a_far a_waiting a_isWaiting a_rest a_isUsed c_thrown c_isLaid c_head c_hasRows c_hasPlan c_rows c_slants c_capacity c_weight c_unload c_source c_bunker c_cornerX c_cornerY c_corners c_what) H locs → W p l e (rm9 2 45) s m args below meth c H locs 0 0 Q (F0 m 0 ls []) by
    rw [← eH] at hW ⊢
    exact hS9 hW
  clear hW eH eL
  intro hW
  have J20 : ∀ (c_thrown c_isLaid c_head c_hasRows c_hasPlan : Int32) (c_what : Ar) (k1 : Int32) (H : Heap) (locs : List Loc) (ls : Array Slot), X10_lay_b20 c_thrown c_isLaid c_head c_hasRows c_hasPlan c_cornerX c_cornerY c_corners c_what v1 k1 = some (r0, o_thrown, o_isLaid, o_head, o_hasRows, o_hasPlan, o_what) → WD g s A (w_X10_lay g a_t a_cornerX a_cornerY a_corners a_what a_rowAt a_strip a_along a_rowSize a_endAt a_turns a_plan a_slantA a_slantB a_yields a_bears a_seen a_wagons a_pile a_far a_waiting a_isWaiting a_rest a_isUsed c_thrown c_isLaid c_head c_hasRows c_hasPlan c_rows c_slants c_capacity c_weight c_unload c_source c_bunker c_cornerX c_cornerY c_corners c_what) H locs → lv_has ls 5 [(0, .ref a_t), (1, .int v1)] → W p l e (rm9 2 45) s m args below meth c H locs 0 0 Q (F0 m 20 ls [.int k1, .ref a_t]) := by
    intro c_thrown c_isLaid c_head c_hasRows c_hasPlan c_what k1 H locs ls h hW hl
    unfold X10_lay_b20 at h
    refine lv_iconst (pc := 20) (v := 1) hx hb (dd dX10_lay_p0 12 rfl) (by decide) ?_
    obtain ⟨⟨r_21, c_thrown_21⟩, hr, h⟩ := bnd_ex h
    have h := un2_at h
    refine callVI (pc := 21) (na := 2) (As := [.int k1, .int 1]) (rest := []) (ws2 := (w_X10_lay g a_t a_cornerX a_cornerY a_corners a_what a_rowAt a_strip a_along a_rowSize a_endAt a_turns a_plan a_slantA a_slantB a_yields a_bears a_seen a_wagons a_pile a_far a_waiting a_isWaiting a_rest a_isUsed c_thrown_21 c_isLaid c_head c_hasRows c_hasPlan c_rows c_slants c_capacity c_weight c_unload c_source c_bunker c_cornerX c_cornerY c_corners c_what)) M hl.1 hW (t_X10_throwsIf l g a_t a_cornerX a_cornerY a_corners a_what a_rowAt a_strip a_along a_rowSize a_endAt a_turns a_plan a_slantA a_slantB a_yields a_bears a_seen a_wagons a_pile a_far a_waiting a_isWaiting a_rest a_isUsed c_thrown c_isLaid c_head c_hasRows c_hasPlan c_rows c_slants c_capacity c_weight c_unload c_source c_bunker k1 1 r_21 c_thrown_21 hr) rfl [0] [1, 2, 3, 4] [4, 0, 1, 2, 3] rfl rfl rfl rfl rfl rfl rfl 0 10 rfl rfl rfl (uw5 86 rfl rfl) (uw5 83 rfl rfl) (uw5 85 rfl rfl) (uwp 41 rfl rfl) (uw1 13 rfl rfl) ⟨by decide, by decide, by decide⟩ rfl ⟨by decide, by decide⟩ (Nat.le_of_ble_eq_true rfl) ⟨Nat.zero_le _, Nat.zero_le _⟩ (dd dX10_lay_p0 13 rfl) (fun H locs hW => ?_)
    refine lv_if_eq (pc := 24) (tgt := 29) hx hb (dd dX10_lay_p0 14 rfl) (by decide) (fun hc => ?_) (fun hc => ?_)
    · have h := it_t hc h
      refine lv_aload_n (pc := 29) hx hb (dd dX10_lay_p0 17 rfl) rfl (lv_at hl 0 rfl) ?_
      obtain ⟨⟨c_isLaid_30, c_hasRows_30, c_hasPlan_30⟩, hr, h⟩ := bnd_ex h
      have h := un3_at h
      refine callVV (pc := 30) (na := 0) (As := []) (rest := []) (ws2 := (w_X10_lay g a_t a_cornerX a_cornerY a_corners a_what a_rowAt a_strip a_along a_rowSize a_endAt a_turns a_plan a_slantA a_slantB a_yields a_bears a_seen a_wagons a_pile a_far a_waiting a_isWaiting a_rest a_isUsed c_thrown_21 c_isLaid_30 c_head c_hasRows_30 c_hasPlan_30 c_rows c_slants c_capacity c_weight c_unload c_source c_bunker c_cornerX c_cornerY c_corners c_what)) M hl.1 hW (t_X10_takesAway l g a_t a_cornerX a_cornerY a_corners a_what a_rowAt a_strip a_along a_rowSize a_endAt a_turns a_plan a_slantA a_slantB a_yields a_bears a_seen a_wagons a_pile a_far a_waiting a_isWaiting a_rest a_isUsed c_thrown_21 c_isLaid c_head c_hasRows c_hasPlan c_rows c_slants c_capacity c_weight c_unload c_source c_bunker c_isLaid_30 c_hasRows_30 c_hasPlan_30 hr) rfl [0] [1, 2, 3, 4] [4, 0, 1, 2, 3] rfl rfl rfl rfl rfl rfl rfl 0 10 rfl rfl rfl (uw5 90 rfl rfl) (uw5 87 rfl rfl) (uw5 89 rfl rfl) (uwp 42 rfl rfl) (uw1 13 rfl rfl) ⟨by decide, by decide, by decide⟩ rfl ⟨by decide, by decide⟩ (Nat.le_of_ble_eq_true rfl) ⟨Nat.zero_le _, Nat.zero_le _⟩ (dd dX10_lay_p0 18 rfl) (fun H locs hW => ?_)
      refine lv_aload_n (pc := 33) hx hb (dd dX10_lay_p0 19 rfl) rfl (lv_at hl 0 rfl) ?_
      refine lv_iload_n (pc := 34) hx hb (dd dX10_lay_p0 20 rfl) rfl (lv_at hl 1 rfl) ?_
      refine rPut (pc := 35) M hW 0 6 tyX10 tyX10_ok nmX10 iU10 rfl rfl (by decide) (uw4 219 rfl rfl) rfl rfl rfl (Nat.le_of_ble_eq_true rfl) (dd dX10_lay_p0 21 rfl) (ws' := (w_X10_lay g a_t a_cornerX a_cornerY a_corners a_what a_rowAt a_strip a_along a_rowSize a_endAt a_turns a_plan a_slantA a_slantB a_yields a_bears a_seen a_wagons a_pile a_far a_waiting a_isWaiting a_rest a_isUsed c_thrown_21 c_isLaid_30 v1 c_hasRows_30 c_hasPlan_30 c_rows c_slants c_capacity c_weight c_unload c_source c_bunker c_cornerX c_cornerY c_corners c_what)) rfl (fun H locs hW => ?_)
      refine lv_iconst (pc := 38) (v := 0) hx hb (dd dX10_lay_p0 22 rfl) (by decide) ?_
      refine lv_istore_n (pc := 39) (lv' := [(2, .int 0), (0, .ref a_t), (1, .int v1)]) hx hb (dd dX10_lay_p0 23 rfl) rfl hl (by decide) rfl (fun ls hl => ?_)
      obtain ⟨ex, hw, h⟩ := bnd_ex h
      refine loopW (fun st => ∀ (H : Heap) (locs : List Loc) (ls : Array Slot), WD g s A (w_X10_lay g a_t a_cornerX a_cornerY a_corners a_what a_rowAt a_strip a_along a_rowSize a_endAt a_turns a_plan a_slantA a_slantB a_yields a_bears a_seen a_wagons a_pile a_far a_waiting a_isWaiting a_rest a_isUsed c_thrown_21 c_isLaid_30 v1 c_hasRows_30 c_hasPlan_30 c_rows c_slants c_capacity c_weight c_unload c_source c_bunker c_cornerX c_cornerY c_corners (st.1)) H locs → lv_has ls 5 [(0, .ref a_t), (2, .int (st.2))] → W p l e (rm9 2 45) s m args below meth c H locs 0 0 Q (F0 m 40 ls [])) (fun (ex : Ar) => ∀ (H : Heap) (locs : List Loc) (ls : Array Slot), WD g s A (w_X10_lay g a_t a_cornerX a_cornerY a_corners a_what a_rowAt a_strip a_along a_rowSize a_endAt a_turns a_plan a_slantA a_slantB a_yields a_bears a_seen a_wagons a_pile a_far a_waiting a_isWaiting a_rest a_isUsed c_thrown_21 c_isLaid_30 v1 c_hasRows_30 c_hasPlan_30 c_rows c_slants c_capacity c_weight c_unload c_source c_bunker c_cornerX c_cornerY c_corners ex) H locs → lv_has ls 5 [(0, .ref a_t)] → W p l e (rm9 2 45) s m args below meth c H locs 0 0 Q (F0 m 119 ls [])) ?_ hw ?_ H locs ls hW (lv_sub hl [1, 0] rfl)
      · rintro ⟨c_what, v2⟩ o hb9 hk H locs ls hW hl
        have h : X10_lay_L40 c_cornerX c_cornerY c_corners c_what v2 = some o := hb9
        clear hb9
        unfold X10_lay_L40 at h
        have J112 : ∀ (c_what : Ar) (v2 k1 k2 : Int32) (H : Heap) (locs : List Loc) (ls : Array Slot), X10_lay_b40_112 c_what v2 k1 k2 = some o → WD g s A (w_X10_lay g a_t a_cornerX a_cornerY a_corners a_what a_rowAt a_strip a_along a_rowSize a_endAt a_turns a_plan a_slantA a_slantB a_yields a_bears a_seen a_wagons a_pile a_far a_waiting a_isWaiting a_rest a_isUsed c_thrown_21 c_isLaid_30 v1 c_hasRows_30 c_hasPlan_30 c_rows c_slants c_capacity c_weight c_unload c_source c_bunker c_cornerX c_cornerY c_corners c_what) H locs → lv_has ls 5 [(0, .ref a_t), (2, .int v2)] → W p l e (rm9 2 45) s m args below meth c H locs 0 0 Q (F0 m 112 ls [.int k2, .int k1, .ref a_what]) := by
          intro c_what v2 k1 k2 H locs ls h hW hl
          unfold X10_lay_b40_112 at h
          obtain ⟨hi, h⟩ := ck_ex h
          obtain ⟨c_what_112, ec_what_112, h⟩ := nm_ex h
          refine rIast (pc := 112) M hW 4 rfl hi ec_what_112 (ws' := (w_X10_lay g a_t a_cornerX a_cornerY a_corners a_what a_rowAt a_strip a_along a_rowSize a_endAt a_turns a_plan a_slantA a_slantB a_yields a_bears a_seen a_wagons a_pile a_far a_waiting a_isWaiting a_rest a_isUsed c_thrown_21 c_isLaid_30 v1 c_hasRows_30 c_hasPlan_30 c_rows c_slants c_capacity c_weight c_unload c_source c_bunker c_cornerX c_cornerY c_corners c_what_112)) rfl (dd dX10_lay_p1 5 rfl) (fun H locs hW => ?_)
          obtain ⟨v2_113, ev2_113, h⟩ := nm_ex h
          refine lv_iinc (pc := 113) (v := v2_113) (lv' := [(2, .int v2_113), (0, .ref a_t)]) hx hb (dd dX10_lay_p1 6 rfl) hl (k := 1) rfl (by rw [ev2_113]; rfl) (by decide) rfl (fun ls hl => ?_)
          refine lv_goto (pc := 116) (tgt := 40) hx hb (dd dX10_lay_p1 7 rfl) (by decide) ?_
          obtain rfl := Option.some.inj h
          exact hk _ _ _ hW (lv_sub hl [1, 0] rfl)
        have J111 : ∀ (c_what : Ar) (v2 k1 : Int32) (H : Heap) (locs : List Loc) (ls : Array Slot), X10_lay_b40_111 c_what v2 k1 = some o → WD g s A (w_X10_lay g a_t a_cornerX a_cornerY a_corners a_what a_rowAt a_strip a_along a_rowSize a_endAt a_turns a_plan a_slantA a_slantB a_yields a_bears a_seen a_wagons a_pile a_far a_waiting a_isWaiting a_rest a_isUsed c_thrown_21 c_isLaid_30 v1 c_hasRows_30 c_hasPlan_30 c_rows c_slants c_capacity c_weight c_unload c_source c_bunker c_cornerX c_cornerY c_corners c_what) H locs → lv_has ls 5 [(0, .ref a_t), (2, .int v2)] → W p l e (rm9 2 45) s m args below meth c H locs 0 0 Q (F0 m 111 ls [.int k1, .ref a_what]) := by
          intro c_what v2 k1 H locs ls h hW hl
          unfold X10_lay_b40_111 at h
          refine lv_iconst (pc := 111) (v := 0) hx hb (dd dX10_lay_p1 4 rfl) (by decide) ?_
          exact J112 _ _ _ _ _ _ _ h hW (lv_sub hl [0, 1] rfl)
        refine lv_iload_n (pc := 40) hx hb (dd dX10_lay_p0 24 rfl) rfl (lv_at hl 1 rfl) ?_
        refine lv_sipush (pc := 41) (v := 1200) hx hb (dd dX10_lay_p0 25 rfl) (by decide) ?_
        refine lv_icmp_ge (pc := 44) (tgt := 119) hx hb (dd dX10_lay_p0 26 rfl) (by decide) (fun hc => ?_) (fun hc => ?_)
        · have h := it_t hc h
          obtain rfl := Option.some.inj h
          exact hk _ _ _ hW (lv_sub hl [0] rfl)
        · have h := it_f hc h
          refine lv_iload_n (pc := 47) hx hb (dd dX10_lay_p0 27 rfl) rfl (lv_at hl 1 rfl) ?_
          refine lv_bipush (pc := 48) (v := 40) hx hb (dd dX10_lay_p0 28 rfl) (by decide) ?_
          refine lv_irem (pc := 50) hx hb (dd dX10_lay_p0 29 rfl) (by decide) ?_
          obtain ⟨v3_51, ev3_51, h⟩ := nm_ex h
          refine rTopi (pc := 51) ev3_51 ?_
          refine lv_istore_n (pc := 51) (lv' := [(3, .int v3_51), (0, .ref a_t), (2, .int v2)]) hx hb (dd dX10_lay_p0 30 rfl) rfl hl (by decide) rfl (fun ls hl => ?_)
          refine lv_iload_n (pc := 52) hx hb (dd dX10_lay_p0 31 rfl) rfl (lv_at hl 2 rfl) ?_
          refine lv_bipush (pc := 53) (v := 40) hx hb (dd dX10_lay_p0 32 rfl) (by decide) ?_
          refine lv_idiv (pc := 55) hx hb (dd dX10_lay_p0 33 rfl) (by decide) ?_
          obtain ⟨v4_56, ev4_56, h⟩ := nm_ex h
          refine rTopi (pc := 56) ev4_56 ?_
          refine lv_istore (pc := 56) (lv' := [(4, .int v4_56), (3, .int v3_51), (0, .ref a_t), (2, .int v2)]) hx hb (dd dX10_lay_p0 34 rfl) hl (by decide) rfl (fun ls hl => ?_)
          refine lv_aload_n (pc := 58) hx hb (dd dX10_lay_p0 35 rfl) rfl (lv_at hl 2 rfl) ?_
          refine rGet (pc := 59) M hW 0 4 iU10 rfl rfl (by decide) (uw4 217 rfl rfl) rfl (dd dX10_lay_p0 36 rfl) ?_
          refine lv_iload_n (pc := 62) hx hb (dd dX10_lay_p0 37 rfl) rfl (lv_at hl 3 rfl) ?_
          refine lv_aload_n (pc := 63) hx hb (dd dX10_lay_p0 38 rfl) rfl (lv_at hl 2 rfl) ?_
          refine lv_iconst (pc := 64) (v := 0) hx hb (dd dX10_lay_p0 39 rfl) (by decide) ?_
          refine lv_iload_n (pc := 65) hx hb (dd dX10_lay_p0 40 rfl) rfl (lv_at hl 1 rfl) ?_
          refine lv_iload (pc := 66) hx hb (dd dX10_lay_p0 41 rfl) (lv_at hl 0 rfl) ?_
          obtain ⟨r_68, hr, h⟩ := bnd_ex h
          refine callVI (pc := 68) (na := 3) (As := [.int 0, .int v3_51, .int v4_56]) (rest := [.int v2, .ref a_what]) (ws2 := (w_X10_lay g a_t a_cornerX a_cornerY a_corners a_what a_rowAt a_strip a_along a_rowSize a_endAt a_turns a_plan a_slantA a_slantB a_yields a_bears a_seen a_wagons a_pile a_far a_waiting a_isWaiting a_rest a_isUsed c_thrown_21 c_isLaid_30 v1 c_hasRows_30 c_hasPlan_30 c_rows c_slants c_capacity c_weight c_unload c_source c_bunker c_cornerX c_cornerY c_corners c_what)) M hl.1 hW (t_X10_isIn l g a_t a_cornerX a_cornerY a_corners a_what a_rowAt a_strip a_along a_rowSize a_endAt a_turns a_plan a_slantA a_slantB a_yields a_bears a_seen a_wagons a_pile a_far a_waiting a_isWaiting a_rest a_isUsed c_thrown_21 c_isLaid_30 v1 c_hasRows_30 c_hasPlan_30 c_rows c_slants c_capacity c_weight c_unload c_source c_bunker c_cornerX c_cornerY c_corners 0 v3_51 v4_56 r_68 hr) rfl [0, 1, 2, 3] [4] [1, 2, 3, 4, 0] rfl rfl rfl rfl rfl rfl rfl 0 10 rfl rfl rfl (uw5 106 rfl rfl) (uw5 103 rfl rfl) (uw5 105 rfl rfl) (uwp 43 rfl rfl) (uw1 13 rfl rfl) ⟨by decide, by decide, by decide⟩ rfl ⟨by decide, by decide⟩ (Nat.le_of_ble_eq_true rfl) ⟨Nat.zero_le _, Nat.zero_le _⟩ (dd dX10_lay_p0 42 rfl) (fun H locs hW => ?_)
          refine lv_if_eq (pc := 71) (tgt := 111) hx hb (dd dX10_lay_p0 43 rfl) (by decide) (fun hc => ?_) (fun hc => ?_)
          · have h := it_t hc h
            exact J111 _ _ _ _ _ _ h hW (lv_sub hl [2, 3] rfl)
          · have h := it_f hc h
            refine lv_aload_n (pc := 74) hx hb (dd dX10_lay_p0 44 rfl) rfl (lv_at hl 2 rfl) ?_
            refine lv_iconst (pc := 75) (v := 1) hx hb (dd dX10_lay_p0 45 rfl) (by decide) ?_
            refine lv_iload_n (pc := 76) hx hb (dd dX10_lay_p0 46 rfl) rfl (lv_at hl 1 rfl) ?_
            refine lv_iload (pc := 77) hx hb (dd dX10_lay_p0 47 rfl) (lv_at hl 0 rfl) ?_
            obtain ⟨r_79, hr, h⟩ := bnd_ex h
            refine callVI (pc := 79) (na := 3) (As := [.int 1, .int v3_51, .int v4_56]) (rest := [.int v2, .ref a_what]) (ws2 := (w_X10_lay g a_t a_cornerX a_cornerY a_corners a_what a_rowAt a_strip a_along a_rowSize a_endAt a_turns a_plan a_slantA a_slantB a_yields a_bears a_seen a_wagons a_pile a_far a_waiting a_isWaiting a_rest a_isUsed c_thrown_21 c_isLaid_30 v1 c_hasRows_30 c_hasPlan_30 c_rows c_slants c_capacity c_weight c_unload c_source c_bunker c_cornerX c_cornerY c_corners c_what)) M hl.1 hW (t_X10_isIn l g a_t a_cornerX a_cornerY a_corners a_what a_rowAt a_strip a_along a_rowSize a_endAt a_turns a_plan a_slantA a_slantB a_yields a_bears a_seen a_wagons a_pile a_far a_waiting a_isWaiting a_rest a_isUsed c_thrown_21 c_isLaid_30 v1 c_hasRows_30 c_hasPlan_30 c_rows c_slants c_capacity c_weight c_unload c_source c_bunker c_cornerX c_cornerY c_corners 1 v3_51 v4_56 r_79 hr) rfl [0, 1, 2, 3] [4] [1, 2, 3, 4, 0] rfl rfl rfl rfl rfl rfl rfl 0 10 rfl rfl rfl (uw5 106 rfl rfl) (uw5 103 rfl rfl) (uw5 105 rfl rfl) (uwp 43 rfl rfl) (uw1 13 rfl rfl) ⟨by decide, by decide, by decide⟩ rfl ⟨by decide, by decide⟩ (Nat.le_of_ble_eq_true rfl) ⟨Nat.zero_le _, Nat.zero_le _⟩ (dd dX10_lay_p0 48 rfl) (fun H locs hW => ?_)
            refine lv_if_ne (pc := 82) (tgt := 111) hx hb (dd dX10_lay_p0 49 rfl) (by decide) (fun hc => ?_) (fun hc => ?_)
            · have h := it_f hc h
              exact J111 _ _ _ _ _ _ h hW (lv_sub hl [2, 3] rfl)
            · have h := it_t hc h
              refine lv_aload_n (pc := 85) hx hb (dd dX10_lay_p0 50 rfl) rfl (lv_at hl 2 rfl) ?_
              refine lv_iconst (pc := 86) (v := 2) hx hb (dd dX10_lay_p0 51 rfl) (by decide) ?_
              refine lv_iload_n (pc := 87) hx hb (dd dX10_lay_p0 52 rfl) rfl (lv_at hl 1 rfl) ?_
              refine lv_iload (pc := 88) hx hb (dd dX10_lay_p0 53 rfl) (lv_at hl 0 rfl) ?_
              obtain ⟨r_90, hr, h⟩ := bnd_ex h
              refine callVI (pc := 90) (na := 3) (As := [.int 2, .int v3_51, .int v4_56]) (rest := [.int v2, .ref a_what]) (ws2 := (w_X10_lay g a_t a_cornerX a_cornerY a_corners a_what a_rowAt a_strip a_along a_rowSize a_endAt a_turns a_plan a_slantA a_slantB a_yields a_bears a_seen a_wagons a_pile a_far a_waiting a_isWaiting a_rest a_isUsed c_thrown_21 c_isLaid_30 v1 c_hasRows_30 c_hasPlan_30 c_rows c_slants c_capacity c_weight c_unload c_source c_bunker c_cornerX c_cornerY c_corners c_what)) M hl.1 hW (t_X10_isIn l g a_t a_cornerX a_cornerY a_corners a_what a_rowAt a_strip a_along a_rowSize a_endAt a_turns a_plan a_slantA a_slantB a_yields a_bears a_seen a_wagons a_pile a_far a_waiting a_isWaiting a_rest a_isUsed c_thrown_21 c_isLaid_30 v1 c_hasRows_30 c_hasPlan_30 c_rows c_slants c_capacity c_weight c_unload c_source c_bunker c_cornerX c_cornerY c_corners 2 v3_51 v4_56 r_90 hr) rfl [0, 1, 2, 3] [4] [1, 2, 3, 4, 0] rfl rfl rfl rfl rfl rfl rfl 0 10 rfl rfl rfl (uw5 106 rfl rfl) (uw5 103 rfl rfl) (uw5 105 rfl rfl) (uwp 43 rfl rfl) (uw1 13 rfl rfl) ⟨by decide, by decide, by decide⟩ rfl ⟨by decide, by decide⟩ (Nat.le_of_ble_eq_true rfl) ⟨Nat.zero_le _, Nat.zero_le _⟩ (dd dX10_lay_p0 54 rfl) (fun H locs hW => ?_)
              refine lv_if_ne (pc := 93) (tgt := 111) hx hb (dd dX10_lay_p0 55 rfl) (by decide) (fun hc => ?_) (fun hc => ?_)
              · have h := it_f hc h
                exact J111 _ _ _ _ _ _ h hW (lv_sub hl [2, 3] rfl)
              · have h := it_t hc h
                refine lv_aload_n (pc := 96) hx hb (dd dX10_lay_p0 56 rfl) rfl (lv_at hl 2 rfl) ?_
                refine lv_iconst (pc := 97) (v := 3) hx hb (dd dX10_lay_p0 57 rfl) (by decide) ?_
                refine lv_iload_n (pc := 98) hx hb (dd dX10_lay_p0 58 rfl) rfl (lv_at hl 1 rfl) ?_
                refine lv_iload (pc := 99) hx hb (dd dX10_lay_p0 59 rfl) (lv_at hl 0 rfl) ?_
                obtain ⟨r_101, hr, h⟩ := bnd_ex h
                refine callVI (pc := 101) (na := 3) (As := [.int 3, .int v3_51, .int v4_56]) (rest := [.int v2, .ref a_what]) (ws2 := (w_X10_lay g a_t a_cornerX a_cornerY a_corners a_what a_rowAt a_strip a_along a_rowSize a_endAt a_turns a_plan a_slantA a_slantB a_yields a_bears a_seen a_wagons a_pile a_far a_waiting a_isWaiting a_rest a_isUsed c_thrown_21 c_isLaid_30 v1 c_hasRows_30 c_hasPlan_30 c_rows c_slants c_capacity c_weight c_unload c_source c_bunker c_cornerX c_cornerY c_corners c_what)) M hl.1 hW (t_X10_isIn l g a_t a_cornerX a_cornerY a_corners a_what a_rowAt a_strip a_along a_rowSize a_endAt a_turns a_plan a_slantA a_slantB a_yields a_bears a_seen a_wagons a_pile a_far a_waiting a_isWaiting a_rest a_isUsed c_thrown_21 c_isLaid_30 v1 c_hasRows_30 c_hasPlan_30 c_rows c_slants c_capacity c_weight c_unload c_source c_bunker c_cornerX c_cornerY c_corners 3 v3_51 v4_56 r_101 hr) rfl [0, 1, 2, 3] [4] [1, 2, 3, 4, 0] rfl rfl rfl rfl rfl rfl rfl 0 10 rfl rfl rfl (uw5 106 rfl rfl) (uw5 103 rfl rfl) (uw5 105 rfl rfl) (uwp 43 rfl rfl) (uw1 13 rfl rfl) ⟨by decide, by decide, by decide⟩ rfl ⟨by decide, by decide⟩ (Nat.le_of_ble_eq_true rfl) ⟨Nat.zero_le _, Nat.zero_le _⟩ (dd dX10_lay_p1 0 rfl) (fun H locs hW => ?_)
                refine lv_if_ne (pc := 104) (tgt := 111) hx hb (dd dX10_lay_p1 1 rfl) (by decide) (fun hc => ?_) (fun hc => ?_)
                · have h := it_f hc h
                  exact J111 _ _ _ _ _ _ h hW (lv_sub hl [2, 3] rfl)
                · have h := it_t hc h
                  refine lv_iconst (pc := 107) (v := 2) hx hb (dd dX10_lay_p1 2 rfl) (by decide) ?_
                  refine lv_goto (pc := 108) (tgt := 112) hx hb (dd dX10_lay_p1 3 rfl) (by decide) ?_
                  exact J112 _ _ _ _ _ _ _ h hW (lv_sub hl [2, 3] rfl)
      · obtain ⟨c_what_119, e9⟩ : ∃ z, z = ex := ⟨_, rfl⟩
        subst e9
        intro H locs ls hW hl
        refine lv_iconst (pc := 119) (v := 0) hx hb (dd dX10_lay_p1 8 rfl) (by decide) ?_
        refine lv_istore_n (pc := 120) (lv' := [(2, .int 0), (0, .ref a_t)]) hx hb (dd dX10_lay_p1 9 rfl) rfl hl (by decide) rfl (fun ls hl => ?_)
        obtain ⟨ex, hw, h⟩ := bnd_ex h
        refine loopW (fun st => ∀ (H : Heap) (locs : List Loc) (ls : Array Slot), WD g s A (w_X10_lay g a_t a_cornerX a_cornerY a_corners a_what a_rowAt a_strip a_along a_rowSize a_endAt a_turns a_plan a_slantA a_slantB a_yields a_bears a_seen a_wagons a_pile a_far a_waiting a_isWaiting a_rest a_isUsed c_thrown_21 c_isLaid_30 v1 c_hasRows_30 c_hasPlan_30 c_rows c_slants c_capacity c_weight c_unload c_source c_bunker c_cornerX c_cornerY c_corners (st.1)) H locs → lv_has ls 5 [(0, .ref a_t), (2, .int (st.2))] → W p l e (rm9 2 45) s m args below meth c H locs 0 0 Q (F0 m 121 ls [])) (fun (ex : Ar) => ∀ (H : Heap) (locs : List Loc) (ls : Array Slot), WD g s A (w_X10_lay g a_t a_cornerX a_cornerY a_corners a_what a_rowAt a_strip a_along a_rowSize a_endAt a_turns a_plan a_slantA a_slantB a_yields a_bears a_seen a_wagons a_pile a_far a_waiting a_isWaiting a_rest a_isUsed c_thrown_21 c_isLaid_30 v1 c_hasRows_30 c_hasPlan_30 c_rows c_slants c_capacity c_weight c_unload c_source c_bunker c_cornerX c_cornerY c_corners ex) H locs → lv_has ls 5 [(0, .ref a_t)] → W p l e (rm9 2 45) s m args below meth c H locs 0 0 Q (F0 m 166 ls [])) ?_ hw ?_ H locs ls hW (lv_sub hl [1, 0] rfl)
        · rintro ⟨c_what, v2⟩ o hb9 hk H locs ls hW hl
          have h : X10_lay_L121 v1 c_what v2 = some o := hb9
          clear hb9
          unfold X10_lay_L121 at h
          have J160 : ∀ (c_what : Ar) (v2 : Int32) (H : Heap) (locs : List Loc) (ls : Array Slot), X10_lay_b121_160 c_what v2 = some o → WD g s A (w_X10_lay g a_t a_cornerX a_cornerY a_corners a_what a_rowAt a_strip a_along a_rowSize a_endAt a_turns a_plan a_slantA a_slantB a_yields a_bears a_seen a_wagons a_pile a_far a_waiting a_isWaiting a_rest a_isUsed c_thrown_21 c_isLaid_30 v1 c_hasRows_30 c_hasPlan_30 c_rows c_slants c_capacity c_weight c_unload c_source c_bunker c_cornerX c_cornerY c_corners c_what) H locs → lv_has ls 5 [(0, .ref a_t), (2, .int v2)] → W p l e (rm9 2 45) s m args below meth c H locs 0 0 Q (F0 m 160 ls []) := by
            intro c_what v2 H locs ls h hW hl
            unfold X10_lay_b121_160 at h
            obtain ⟨v2_160, ev2_160, h⟩ := nm_ex h
            refine lv_iinc (pc := 160) (v := v2_160) (lv' := [(2, .int v2_160), (0, .ref a_t)]) hx hb (dd dX10_lay_p1 33 rfl) hl (k := 1) rfl (by rw [ev2_160]; rfl) (by decide) rfl (fun ls hl => ?_)
            refine lv_goto (pc := 163) (tgt := 121) hx hb (dd dX10_lay_p1 34 rfl) (by decide) ?_
            obtain rfl := Option.some.inj h
            exact hk _ _ _ hW (lv_sub hl [1, 0] rfl)
          refine lv_iload_n (pc := 121) hx hb (dd dX10_lay_p1 10 rfl) rfl (lv_at hl 1 rfl) ?_
          refine lv_sipush (pc := 122) (v := 1200) hx hb (dd dX10_lay_p1 11 rfl) (by decide) ?_
          refine lv_icmp_ge (pc := 125) (tgt := 166) hx hb (dd dX10_lay_p1 12 rfl) (by decide) (fun hc => ?_) (fun hc => ?_)
          · have h := it_t hc h
            obtain rfl := Option.some.inj h
            exact hk _ _ _ hW (lv_sub hl [0] rfl)
          · have h := it_f hc h
            refine lv_aload_n (pc := 128) hx hb (dd dX10_lay_p1 13 rfl) rfl (lv_at hl 0 rfl) ?_
            refine rGet (pc := 129) M hW 0 4 iU10 rfl rfl (by decide) (uw4 217 rfl rfl) rfl (dd dX10_lay_p1 14 rfl) ?_
            refine lv_iload_n (pc := 132) hx hb (dd dX10_lay_p1 15 rfl) rfl (lv_at hl 1 rfl) ?_
            obtain ⟨hi, h⟩ := ck_ex h
            refine rIald (pc := 133) M hW 4 rfl hi (dd dX10_lay_p1 16 rfl) ?_
            refine lv_iconst (pc := 134) (v := 2) hx hb (dd dX10_lay_p1 17 rfl) (by decide) ?_
            refine lv_icmp_ne (pc := 135) (tgt := 160) hx hb (dd dX10_lay_p1 18 rfl) (by decide) (fun hc => ?_) (fun hc => ?_)
            · have h := it_f hc h
              exact J160 _ _ _ _ _ h hW (lv_sub hl [0, 1] rfl)
            · have h := it_t hc h
              refine lv_aload_n (pc := 138) hx hb (dd dX10_lay_p1 19 rfl) rfl (lv_at hl 0 rfl) ?_
              refine lv_iload_n (pc := 139) hx hb (dd dX10_lay_p1 20 rfl) rfl (lv_at hl 1 rfl) ?_
              refine lv_bipush (pc := 140) (v := 40) hx hb (dd dX10_lay_p1 21 rfl) (by decide) ?_
              refine lv_irem (pc := 142) hx hb (dd dX10_lay_p1 22 rfl) (by decide) ?_
              refine lv_iload_n (pc := 143) hx hb (dd dX10_lay_p1 23 rfl) rfl (lv_at hl 1 rfl) ?_
              refine lv_bipush (pc := 144) (v := 40) hx hb (dd dX10_lay_p1 24 rfl) (by decide) ?_
              refine lv_idiv (pc := 146) hx hb (dd dX10_lay_p1 25 rfl) (by decide) ?_
              obtain ⟨r_147, hr, h⟩ := bnd_ex h
              refine callVI (pc := 147) (na := 2) (As := [.int (v2 - v2 / 40 * 40), .int (v2 / 40)]) (rest := []) (ws2 := (w_X10_lay g a_t a_cornerX a_cornerY a_corners a_what a_rowAt a_strip a_along a_rowSize a_endAt a_turns a_plan a_slantA a_slantB a_yields a_bears a_seen a_wagons a_pile a_far a_waiting a_isWaiting a_rest a_isUsed c_thrown_21 c_isLaid_30 v1 c_hasRows_30 c_hasPlan_30 c_rows c_slants c_capacity c_weight c_unload c_source c_bunker c_cornerX c_cornerY c_corners c_what)) M hl.1 hW (t_X10_isNearOut l g a_t a_what a_cornerX a_cornerY a_corners a_rowAt a_strip a_along a_rowSize a_endAt a_turns a_plan a_slantA a_slantB a_yields a_bears a_seen a_wagons a_pile a_far a_waiting a_isWaiting a_rest a_isUsed c_thrown_21 c_isLaid_30 v1 c_hasRows_30 c_hasPlan_30 c_rows c_slants c_capacity c_weight c_unload c_source c_bunker c_what (v2 - v2 / 40 * 40) (v2 / 40) r_147 hr) rfl [0, 4] [1, 2, 3] [3, 0, 1, 2, 4] rfl rfl rfl rfl rfl rfl rfl 0 10 rfl rfl rfl (uw5 110 rfl rfl) (uw5 107 rfl rfl) (uw5 109 rfl rfl) (uwp 44 rfl rfl) (uw1 13 rfl rfl) ⟨by decide, by decide, by decide⟩ rfl ⟨by decide, by decide⟩ (Nat.le_of_ble_eq_true rfl) ⟨Nat.zero_le _, Nat.zero_le _⟩ (dd dX10_lay_p1 26 rfl) (fun H locs hW => ?_)
              refine lv_if_eq (pc := 150) (tgt := 160) hx hb (dd dX10_lay_p1 27 rfl) (by decide) (fun hc => ?_) (fun hc => ?_)
              · have h := it_t hc h
                exact J160 _ _ _ _ _ h hW (lv_sub hl [0, 1] rfl)
              · have h := it_f hc h
                refine lv_aload_n (pc := 153) hx hb (dd dX10_lay_p1 28 rfl) rfl (lv_at hl 0 rfl) ?_
                refine rGet (pc := 154) M hW 0 4 iU10 rfl rfl (by decide) (uw4 217 rfl rfl) rfl (dd dX10_lay_p1 29 rfl) ?_
                refine lv_iload_n (pc := 157) hx hb (dd dX10_lay_p1 30 rfl) rfl (lv_at hl 1 rfl) ?_
                refine lv_iconst (pc := 158) (v := 1) hx hb (dd dX10_lay_p1 31 rfl) (by decide) ?_
                obtain ⟨hi, h⟩ := ck_ex h
                obtain ⟨c_what_159, ec_what_159, h⟩ := nm_ex h
                refine rIast (pc := 159) M hW 4 rfl hi ec_what_159 (ws' := (w_X10_lay g a_t a_cornerX a_cornerY a_corners a_what a_rowAt a_strip a_along a_rowSize a_endAt a_turns a_plan a_slantA a_slantB a_yields a_bears a_seen a_wagons a_pile a_far a_waiting a_isWaiting a_rest a_isUsed c_thrown_21 c_isLaid_30 v1 c_hasRows_30 c_hasPlan_30 c_rows c_slants c_capacity c_weight c_unload c_source c_bunker c_cornerX c_cornerY c_corners c_what_159)) rfl (dd dX10_lay_p1 32 rfl) (fun H locs hW => ?_)
                exact J160 _ _ _ _ _ h hW (lv_sub hl [0, 1] rfl)
        · obtain ⟨c_what_166, e9⟩ : ∃ z, z = ex := ⟨_, rfl⟩
          subst e9
          intro H locs ls hW hl
          refine lv_aload_n (pc := 166) hx hb (dd dX10_lay_p1 35 rfl) rfl (lv_at hl 0 rfl) ?_
          refine lv_iconst (pc := 167) (v := 1) hx hb (dd dX10_lay_p1 36 rfl) (by decide) ?_
          refine rPut (pc := 168) M hW 0 5 tyX10 tyX10_ok nmX10 iU10 rfl rfl (by decide) (uw4 218 rfl rfl) rfl rfl rfl (Nat.le_of_ble_eq_true rfl) (dd dX10_lay_p1 37 rfl) (ws' := (w_X10_lay g a_t a_cornerX a_cornerY a_corners a_what a_rowAt a_strip a_along a_rowSize a_endAt a_turns a_plan a_slantA a_slantB a_yields a_bears a_seen a_wagons a_pile a_far a_waiting a_isWaiting a_rest a_isUsed c_thrown_21 1 v1 c_hasRows_30 c_hasPlan_30 c_rows c_slants c_capacity c_weight c_unload c_source c_bunker c_cornerX c_cornerY c_corners c_what_166)) rfl (fun H locs hW => ?_)
          refine lv_sipush (pc := 171) (v := 1200) hx hb (dd dX10_lay_p1 38 rfl) (by decide) ?_
          refine lv_aload_n (pc := 174) hx hb (dd dX10_lay_p1 39 rfl) rfl (lv_at hl 0 rfl) ?_
          refine lv_iconst (pc := 175) (v := 0) hx hb (dd dX10_lay_p1 40 rfl) (by decide) ?_
          obtain ⟨r_176, hr, h⟩ := bnd_ex h
          refine callVI (pc := 176) (na := 1) (As := [.int 0]) (rest := [.int 1200]) (ws2 := (w_X10_lay g a_t a_cornerX a_cornerY a_corners a_what a_rowAt a_strip a_along a_rowSize a_endAt a_turns a_plan a_slantA a_slantB a_yields a_bears a_seen a_wagons a_pile a_far a_waiting a_isWaiting a_rest a_isUsed c_thrown_21 1 v1 c_hasRows_30 c_hasPlan_30 c_rows c_slants c_capacity c_weight c_unload c_source c_bunker c_cornerX c_cornerY c_corners c_what_166)) M hl.1 hW (t_X10_counts l g a_t a_what a_cornerX a_cornerY a_corners a_rowAt a_strip a_along a_rowSize a_endAt a_turns a_plan a_slantA a_slantB a_yields a_bears a_seen a_wagons a_pile a_far a_waiting a_isWaiting a_rest a_isUsed c_thrown_21 1 v1 c_hasRows_30 c_hasPlan_30 c_rows c_slants c_capacity c_weight c_unload c_source c_bunker c_what_166 0 r_176 hr) rfl [0, 4] [1, 2, 3] [3, 0, 1, 2, 4] rfl rfl rfl rfl rfl rfl rfl 0 10 rfl rfl rfl (uw5 117 rfl rfl) (uw5 114 rfl rfl) (uw5 116 rfl rfl) (uwp 45 rfl rfl) (uw1 13 rfl rfl) ⟨by decide, by decide, by decide⟩ rfl ⟨by decide, by decide⟩ (Nat.le_of_ble_eq_true rfl) ⟨Nat.zero_le _, Nat.zero_le _⟩ (dd dX10_lay_p1 41 rfl) (fun H locs hW => ?_)
          refine lv_isub (pc := 179) hx hb (dd dX10_lay_p1 42 rfl) ?_
          have hW9 := hW
          cases h
          exact ret _ _ _ 180 hW9 rfl (dd dX10_lay_p1 43 rfl)
    · have h := it_f hc h
      refine lv_iconst (pc := 27) (v := 0) hx hb (dd dX10_lay_p0 15 rfl) (by decide) ?_
      have hW9 := hW
      cases h
      exact ret _ _ _ 28 hW9 rfl (dd dX10_lay_p0 16 rfl)
  have J15 : ∀ (c_thrown c_isLaid c_head c_hasRows c_hasPlan : Int32) (c_what : Ar) (H : Heap) (locs : List Loc) (ls : Array Slot), X10_lay_b15 c_thrown c_isLaid c_head c_hasRows c_hasPlan c_cornerX c_cornerY c_corners c_what v1 = some (r0, o_thrown, o_isLaid, o_head, o_hasRows, o_hasPlan, o_what) → WD g s A (w_X10_lay g a_t a_cornerX a_cornerY a_corners a_what a_rowAt a_strip a_along a_rowSize a_endAt a_turns a_plan a_slantA a_slantB a_yields a_bears a_seen a_wagons a_pile a_far a_waiting a_isWaiting a_rest a_isUsed c_thrown c_isLaid c_head c_hasRows c_hasPlan c_rows c_slants c_capacity c_weight c_unload c_source c_bunker c_cornerX c_cornerY c_corners c_what) H locs → lv_has ls 5 [(0, .ref a_t), (1, .int v1)] → W p l e (rm9 2 45) s m args below meth c H locs 0 0 Q (F0 m 15 ls [.ref a_t]) := by
    intro c_thrown c_isLaid c_head c_hasRows c_hasPlan c_what H locs ls h hW hl
    unfold X10_lay_b15 at h
    refine lv_iconst (pc := 15) (v := 1) hx hb (dd dX10_lay_p0 9 rfl) (by decide) ?_
    refine lv_goto (pc := 16) (tgt := 20) hx hb (dd dX10_lay_p0 10 rfl) (by decide) ?_
    exact J20 _ _ _ _ _ _ _ _ _ _ h hW (lv_sub hl [0, 1] rfl)
  refine lv_aload_n (pc := 0) hx hb (dd dX10_lay_p0 0 rfl) rfl (lv_at hl 0 rfl) ?_
  refine lv_iconst (pc := 1) (v := 0) hx hb (dd dX10_lay_p0 1 rfl) (by decide) ?_
  refine rPut (pc := 2) M hW 0 0 tyX10 tyX10_ok nmX10 iU10 rfl rfl (by decide) (uw4 213 rfl rfl) rfl rfl rfl (Nat.le_of_ble_eq_true rfl) (dd dX10_lay_p0 2 rfl) (ws' := (w_X10_lay g a_t a_cornerX a_cornerY a_corners a_what a_rowAt a_strip a_along a_rowSize a_endAt a_turns a_plan a_slantA a_slantB a_yields a_bears a_seen a_wagons a_pile a_far a_waiting a_isWaiting a_rest a_isUsed 0 c_isLaid c_head c_hasRows c_hasPlan c_rows c_slants c_capacity c_weight c_unload c_source c_bunker c_cornerX c_cornerY c_corners c_what)) rfl (fun H locs hW => ?_)
  refine lv_aload_n (pc := 5) hx hb (dd dX10_lay_p0 3 rfl) rfl (lv_at hl 0 rfl) ?_
  refine lv_iload_n (pc := 6) hx hb (dd dX10_lay_p0 4 rfl) rfl (lv_at hl 1 rfl) ?_
  refine lv_if_lt (pc := 7) (tgt := 15) hx hb (dd dX10_lay_p0 5 rfl) (by decide) (fun hc => ?_) (fun hc => ?_)
  · have h := it_t hc h
    exact J15 _ _ _ _ _ _ _ _ _ h hW (lv_sub hl [0, 1] rfl)
  · have h := it_f hc h
    refine lv_iload_n (pc := 10) hx hb (dd dX10_lay_p0 6 rfl) rfl (lv_at hl 1 rfl) ?_
    refine lv_iconst (pc := 11) (v := 5) hx hb (dd dX10_lay_p0 7 rfl) (by decide) ?_
    refine lv_icmp_le (pc := 12) (tgt := 19) hx hb (dd dX10_lay_p0 8 rfl) (by decide) (fun hc => ?_) (fun hc => ?_)
    · have h := it_t hc h
      refine lv_iconst (pc := 19) (v := 0) hx hb (dd dX10_lay_p0 11 rfl) (by decide) ?_
      exact J20 _ _ _ _ _ _ _ _ _ _ h hW (lv_sub hl [0, 1] rfl)
    · have h := it_f hc h
      exact J15 _ _ _ _ _ _ _ _ _ h hW (lv_sub hl [0, 1] rfl)
abbrev w_X10_square (g : G9) (a_t a_what a_cornerX a_cornerY a_corners a_rowAt a_strip a_along a_rowSize a_endAt a_turns a_plan a_slantA a_slantB a_yields a_bears a_seen a_wagons a_pile a_far a_waiting a_isWaiting a_rest a_isUsed : Nat) (c_thrown c_isLaid c_head c_hasRows c_hasPlan c_rows c_slants c_capacity c_weight c_unload c_source c_bunker : Int32) (c_what : Ar) : va_W := [ob a_t 10 [.int c_thrown, .ref a_cornerX, .ref a_cornerY, .ref a_corners, .ref a_what, .int c_isLaid, .int c_head, .int c_hasRows, .int c_hasPlan, .int c_rows, .ref a_rowAt, .ref a_strip, .ref a_along, .ref a_rowSize, .ref a_endAt, .ref a_turns, .ref a_plan, .ref a_slantA, .ref a_slantB, .int c_slants, .ref a_yields, .ref a_bears, .int c_capacity, .int c_weight, .int c_unload, .ref a_seen, .ref a_wagons, .ref a_pile, .ref a_far, .int c_source, .ref a_waiting, .ref a_isWaiting, .ref a_rest, .ref a_isUsed, .int c_bunker], ia g a_what 1200 c_what]
noncomputable def X10_square_b18 (c_thrown : Int32) (c_what : Ar) (v1 v2 k1 : Int32) : Option (Int32 × Int32) :=
  bnd (X10_throwsIf c_thrown k1 1) <| un2 fun r_19 c_thrown_19 => if r_19 = 0 then (bnd (X10_noSquare v1 v2) <| fun r_29 => if r_29 = 0 then (ck (ix ((40 * v2) + v1) 1200) <| some ((ag c_what ((40 * v2) + v1)), c_thrown_19)) else (some ((-1), c_thrown_19))) else (some (0, c_thrown_19))
noncomputable def X10_square (c_thrown c_isLaid : Int32) (c_what : Ar) (v1 v2 : Int32) : Option (Int32 × Int32) :=
  if c_isLaid = 0 then (X10_square_b18 0 c_what v1 v2 1) else (X10_square_b18 0 c_what v1 v2 0)
set_option maxHeartbeats 4000000 in
set_option maxRecDepth 100000 in
theorem t_X10_square (l : Launch) (g : G9) (a_t a_what a_cornerX a_cornerY a_corners a_rowAt a_strip a_along a_rowSize a_endAt a_turns a_plan a_slantA a_slantB a_yields a_bears a_seen a_wagons a_pile a_far a_waiting a_isWaiting a_rest a_isUsed : Nat) (c_thrown c_isLaid c_head c_hasRows c_hasPlan c_rows c_slants c_capacity c_weight c_unload c_source c_bunker : Int32) (c_what : Ar) (v1 v2 r0 o_thrown : Int32) (h : X10_square c_thrown c_isLaid c_what v1 v2 = some (r0, o_thrown)) : CtI l g yX10_square cX10_square 3 .int 1 22 [.ref a_t, .int v1, .int v2] (w_X10_square g a_t a_what a_cornerX a_cornerY a_corners a_rowAt a_strip a_along a_rowSize a_endAt a_turns a_plan a_slantA a_slantB a_yields a_bears a_seen a_wagons a_pile a_far a_waiting a_isWaiting a_rest a_isUsed c_thrown c_isLaid c_head c_hasRows c_hasPlan c_rows c_slants c_capacity c_weight c_unload c_source c_bunker c_what) r0 (w_X10_square g a_t a_what a_cornerX a_cornerY a_corners a_rowAt a_strip a_along a_rowSize a_endAt a_turns a_plan a_slantA a_slantB a_yields a_bears a_seen a_wagons a_pile a_far a_waiting a_isWaiting a_rest a_isUsed o_thrown c_isLaid c_head c_hasRows c_hasPlan c_rows c_slants c_capacity c_weight c_unload c_source c_bunker c_what) := by
  refine startI (by decide) (Nat.le_of_ble_eq_true rfl) ?_
  intro p e s m below meth c A Q ls args M hW hl ret
  have hx := M.1
  have hb := M.2.1
  have hown := M.2.2.2.1
  have hu := M.2.2.2.2.1
  have hl : lv_has ls 3 [(0, .ref a_t), (1, .int v1), (2, .int v2)] := hl
  unfold X10_square at h
  obtain ⟨H, eH⟩ : ∃ z, z = s.heap := ⟨_, rfl⟩
  obtain ⟨locs, eL⟩ : ∃ z, z = ([] : List Loc) := ⟨_, rfl⟩
  rw [← eL] at hW ⊢
  suffices hS9 : WD g s A (w_X10_square g a_t a_what a_cornerX a_cornerY a_corners a_rowAt a_strip a_along a_rowSize a_endAt a_turns a_plan a_slantA a_slantB a_yields a_bears a_seen a_wagons a_pile a_far a_waiting a_isWaiting a_rest a_isUsed c_thrown c_isLaid c_head c_hasRows c_hasPlan c_rows c_slants c_capacity c_weight c_unload c_source c_bunker c_what) H locs → W p l e (rm9 1 22) s m args below meth c H locs 0 0 Q (F0 m 0 ls []) by
    rw [← eH] at hW ⊢
    exact hS9 hW
  clear hW eH eL
  intro hW
  have J18 : ∀ (c_thrown k1 : Int32) (H : Heap) (locs : List Loc) (ls : Array Slot), X10_square_b18 c_thrown c_what v1 v2 k1 = some (r0, o_thrown) → WD g s A (w_X10_square g a_t a_what a_cornerX a_cornerY a_corners a_rowAt a_strip a_along a_rowSize a_endAt a_turns a_plan a_slantA a_slantB a_yields a_bears a_seen a_wagons a_pile a_far a_waiting a_isWaiting a_rest a_isUsed c_thrown c_isLaid c_head c_hasRows c_hasPlan c_rows c_slants c_capacity c_weight c_unload c_source c_bunker c_what) H locs → lv_has ls 3 [(0, .ref a_t), (1, .int v1), (2, .int v2)] → W p l e (rm9 1 22) s m args below meth c H locs 0 0 Q (F0 m 18 ls [.int k1, .ref a_t]) := by
    intro c_thrown k1 H locs ls h hW hl
    unfold X10_square_b18 at h
    refine lv_iconst (pc := 18) (v := 1) hx hb (dd dX10_square 10 rfl) (by decide) ?_
    obtain ⟨⟨r_19, c_thrown_19⟩, hr, h⟩ := bnd_ex h
    have h := un2_at h
    refine callVI (pc := 19) (na := 2) (As := [.int k1, .int 1]) (rest := []) (ws2 := (w_X10_square g a_t a_what a_cornerX a_cornerY a_corners a_rowAt a_strip a_along a_rowSize a_endAt a_turns a_plan a_slantA a_slantB a_yields a_bears a_seen a_wagons a_pile a_far a_waiting a_isWaiting a_rest a_isUsed c_thrown_19 c_isLaid c_head c_hasRows c_hasPlan c_rows c_slants c_capacity c_weight c_unload c_source c_bunker c_what)) M hl.1 hW (t_X10_throwsIf l g a_t a_cornerX a_cornerY a_corners a_what a_rowAt a_strip a_along a_rowSize a_endAt a_turns a_plan a_slantA a_slantB a_yields a_bears a_seen a_wagons a_pile a_far a_waiting a_isWaiting a_rest a_isUsed c_thrown c_isLaid c_head c_hasRows c_hasPlan c_rows c_slants c_capacity c_weight c_unload c_source c_bunker k1 1 r_19 c_thrown_19 hr) rfl [0] [1] [1, 0] rfl rfl rfl rfl rfl rfl rfl 0 10 rfl rfl rfl (uw5 86 rfl rfl) (uw5 83 rfl rfl) (uw5 85 rfl rfl) (uwp 41 rfl rfl) (uw1 13 rfl rfl) ⟨by decide, by decide, by decide⟩ rfl ⟨by decide, by decide⟩ (Nat.le_of_ble_eq_true rfl) ⟨Nat.zero_le _, Nat.zero_le _⟩ (dd dX10_square 11 rfl) (fun H locs hW => ?_)
    refine lv_if_eq (pc := 22) (tgt := 27) hx hb (dd dX10_square 12 rfl) (by decide) (fun hc => ?_) (fun hc => ?_)
    · have h := it_t hc h
      refine lv_iload_n (pc := 27) hx hb (dd dX10_square 15 rfl) rfl (lv_at hl 1 rfl) ?_
      refine lv_iload_n (pc := 28) hx hb (dd dX10_square 16 rfl) rfl (lv_at hl 2 rfl) ?_
      obtain ⟨r_29, hr, h⟩ := bnd_ex h
      refine callSI (pc := 29) (na := 2) (As := [.int v1, .int v2]) (rest := []) (ws2 := (w_X10_square g a_t a_what a_cornerX a_cornerY a_corners a_rowAt a_strip a_along a_rowSize a_endAt a_turns a_plan a_slantA a_slantB a_yields a_bears a_seen a_wagons a_pile a_far a_waiting a_isWaiting a_rest a_isUsed c_thrown_19 c_isLaid c_head c_hasRows c_hasPlan c_rows c_slants c_capacity c_weight c_unload c_source c_bunker c_what)) M hl.1 hW (t_X10_noSquare l g v1 v2 r_29 hr) [] [0, 1] [0, 1] rfl rfl rfl rfl rfl rfl rfl (uw5 113 rfl rfl) (uw5 111 rfl rfl) (uw5 112 rfl rfl) (uw1 13 rfl rfl) ⟨by decide, by decide, by decide⟩ rfl ⟨by decide, by decide⟩ (Nat.le_of_ble_eq_true rfl) ⟨Nat.zero_le _, Nat.zero_le _⟩ (dd dX10_square 17 rfl) (fun H locs hW => ?_)
      refine lv_if_eq (pc := 32) (tgt := 39) hx hb (dd dX10_square 18 rfl) (by decide) (fun hc => ?_) (fun hc => ?_)
      · have h := it_t hc h
        refine lv_aload_n (pc := 39) hx hb (dd dX10_square 21 rfl) rfl (lv_at hl 0 rfl) ?_
        refine rGet (pc := 40) M hW 0 4 iU10 rfl rfl (by decide) (uw4 217 rfl rfl) rfl (dd dX10_square 22 rfl) ?_
        refine lv_bipush (pc := 43) (v := 40) hx hb (dd dX10_square 23 rfl) (by decide) ?_
        refine lv_iload_n (pc := 45) hx hb (dd dX10_square 24 rfl) rfl (lv_at hl 2 rfl) ?_
        refine lv_imul (pc := 46) hx hb (dd dX10_square 25 rfl) ?_
        refine lv_iload_n (pc := 47) hx hb (dd dX10_square 26 rfl) rfl (lv_at hl 1 rfl) ?_
        refine lv_iadd (pc := 48) hx hb (dd dX10_square 27 rfl) ?_
        obtain ⟨hi, h⟩ := ck_ex h
        refine rIald (pc := 49) M hW 1 rfl hi (dd dX10_square 28 rfl) ?_
        have hW9 := hW
        cases h
        exact ret _ _ _ 50 hW9 rfl (dd dX10_square 29 rfl)
      · have h := it_f hc h
        refine lv_iconst (pc := 35) (v := (-1)) hx hb (dd dX10_square 19 rfl) (by decide) ?_
        refine lv_goto (pc := 36) (tgt := 50) hx hb (dd dX10_square 20 rfl) (by decide) ?_
        have hW9 := hW
        cases h
        exact ret _ _ _ 50 hW9 rfl (dd dX10_square 29 rfl)
    · have h := it_f hc h
      refine lv_iconst (pc := 25) (v := 0) hx hb (dd dX10_square 13 rfl) (by decide) ?_
      have hW9 := hW
      cases h
      exact ret _ _ _ 26 hW9 rfl (dd dX10_square 14 rfl)
  refine lv_aload_n (pc := 0) hx hb (dd dX10_square 0 rfl) rfl (lv_at hl 0 rfl) ?_
  refine lv_iconst (pc := 1) (v := 0) hx hb (dd dX10_square 1 rfl) (by decide) ?_
  refine rPut (pc := 2) M hW 0 0 tyX10 tyX10_ok nmX10 iU10 rfl rfl (by decide) (uw4 213 rfl rfl) rfl rfl rfl (Nat.le_of_ble_eq_true rfl) (dd dX10_square 2 rfl) (ws' := (w_X10_square g a_t a_what a_cornerX a_cornerY a_corners a_rowAt a_strip a_along a_rowSize a_endAt a_turns a_plan a_slantA a_slantB a_yields a_bears a_seen a_wagons a_pile a_far a_waiting a_isWaiting a_rest a_isUsed 0 c_isLaid c_head c_hasRows c_hasPlan c_rows c_slants c_capacity c_weight c_unload c_source c_bunker c_what)) rfl (fun H locs hW => ?_)
  refine lv_aload_n (pc := 5) hx hb (dd dX10_square 3 rfl) rfl (lv_at hl 0 rfl) ?_
  refine lv_aload_n (pc := 6) hx hb (dd dX10_square 4 rfl) rfl (lv_at hl 0 rfl) ?_
  refine rGet (pc := 7) M hW 0 5 iU10 rfl rfl (by decide) (uw4 218 rfl rfl) rfl (dd dX10_square 5 rfl) ?_
  refine lv_if_ne (pc := 10) (tgt := 17) hx hb (dd dX10_square 6 rfl) (by decide) (fun hc => ?_) (fun hc => ?_)
  · have h := it_f hc h
    refine lv_iconst (pc := 17) (v := 0) hx hb (dd dX10_square 9 rfl) (by decide) ?_
    exact J18 _ _ _ _ _ h hW (lv_sub hl [0, 1, 2] rfl)
  · have h := it_t hc h
    refine lv_iconst (pc := 13) (v := 1) hx hb (dd dX10_square 7 rfl) (by decide) ?_
    refine lv_goto (pc := 14) (tgt := 18) hx hb (dd dX10_square 8 rfl) (by decide) ?_
    exact J18 _ _ _ _ _ h hW (lv_sub hl [0, 1, 2] rfl)
noncomputable def X10_isSlant_b32  : Option Int32 :=
  some 1
noncomputable def X10_isSlant (v0 v1 : Int32) : Option Int32 :=
  if v0 < (-9) then (some 0) else (if 9 < v0 then (some 0) else (if v1 < (-9) then (some 0) else (if 9 < v1 then (some 0) else (if v0 = 0 then (if v1 = 0 then (some 0) else (X10_isSlant_b32 )) else (X10_isSlant_b32 )))))
set_option maxHeartbeats 4000000 in
set_option maxRecDepth 100000 in
theorem t_X10_isSlant (l : Launch) (g : G9) (v0 v1 r0 : Int32) (h : X10_isSlant v0 v1 = some r0) : CtI l g yX10_isSlant cX10_isSlant 2 .boolean 0 0 [.int v0, .int v1] [] r0 [] := by
  refine startI (by decide) (Nat.le_of_ble_eq_true rfl) ?_
  intro p e s m below meth c A Q ls args M hW hl ret
  have hx := M.1
  have hb := M.2.1
  have hown := M.2.2.2.1
  have hu := M.2.2.2.2.1
  have hl : lv_has ls 2 [(0, .int v0), (1, .int v1)] := hl
  unfold X10_isSlant at h
  obtain ⟨H, eH⟩ : ∃ z, z = s.heap := ⟨_, rfl⟩
  obtain ⟨locs, eL⟩ : ∃ z, z = ([] : List Loc) := ⟨_, rfl⟩
  rw [← eL] at hW ⊢
  suffices hS9 : WD g s A [] H locs → W p l e (rm9 0 0) s m args below meth c H locs 0 0 Q (F0 m 0 ls []) by
    rw [← eH] at hW ⊢
    exact hS9 hW
  clear hW eH eL
  intro hW
  have J32 : ∀ (H : Heap) (locs : List Loc) (ls : Array Slot), X10_isSlant_b32  = some r0 → WD g s A [] H locs → lv_has ls 2 [] → W p l e (rm9 0 0) s m args below meth c H locs 0 0 Q (F0 m 32 ls []) := by
    intro H locs ls h hW hl
    unfold X10_isSlant_b32 at h
    refine lv_iconst (pc := 32) (v := 1) hx hb (dd dX10_isSlant 16 rfl) (by decide) ?_
    refine lv_goto (pc := 33) (tgt := 37) hx hb (dd dX10_isSlant 17 rfl) (by decide) ?_
    have hW9 := hW
    cases h
    exact ret _ _ _ 37 hW9 rfl (dd dX10_isSlant 19 rfl)
  refine lv_iload_n (pc := 0) hx hb (dd dX10_isSlant 0 rfl) rfl (lv_at hl 0 rfl) ?_
  refine lv_bipush (pc := 1) (v := (-9)) hx hb (dd dX10_isSlant 1 rfl) (by decide) ?_
  refine lv_icmp_lt (pc := 3) (tgt := 36) hx hb (dd dX10_isSlant 2 rfl) (by decide) (fun hc => ?_) (fun hc => ?_)
  · have h := it_t hc h
    refine lv_iconst (pc := 36) (v := 0) hx hb (dd dX10_isSlant 18 rfl) (by decide) ?_
    have hW9 := hW
    cases h
    exact ret _ _ _ 37 hW9 rfl (dd dX10_isSlant 19 rfl)
  · have h := it_f hc h
    refine lv_iload_n (pc := 6) hx hb (dd dX10_isSlant 3 rfl) rfl (lv_at hl 0 rfl) ?_
    refine lv_bipush (pc := 7) (v := 9) hx hb (dd dX10_isSlant 4 rfl) (by decide) ?_
    refine lv_icmp_gt (pc := 9) (tgt := 36) hx hb (dd dX10_isSlant 5 rfl) (by decide) (fun hc => ?_) (fun hc => ?_)
    · have h := it_t hc h
      refine lv_iconst (pc := 36) (v := 0) hx hb (dd dX10_isSlant 18 rfl) (by decide) ?_
      have hW9 := hW
      cases h
      exact ret _ _ _ 37 hW9 rfl (dd dX10_isSlant 19 rfl)
    · have h := it_f hc h
      refine lv_iload_n (pc := 12) hx hb (dd dX10_isSlant 6 rfl) rfl (lv_at hl 1 rfl) ?_
      refine lv_bipush (pc := 13) (v := (-9)) hx hb (dd dX10_isSlant 7 rfl) (by decide) ?_
      refine lv_icmp_lt (pc := 15) (tgt := 36) hx hb (dd dX10_isSlant 8 rfl) (by decide) (fun hc => ?_) (fun hc => ?_)
      · have h := it_t hc h
        refine lv_iconst (pc := 36) (v := 0) hx hb (dd dX10_isSlant 18 rfl) (by decide) ?_
        have hW9 := hW
        cases h
        exact ret _ _ _ 37 hW9 rfl (dd dX10_isSlant 19 rfl)
      · have h := it_f hc h
        refine lv_iload_n (pc := 18) hx hb (dd dX10_isSlant 9 rfl) rfl (lv_at hl 1 rfl) ?_
        refine lv_bipush (pc := 19) (v := 9) hx hb (dd dX10_isSlant 10 rfl) (by decide) ?_
        refine lv_icmp_gt (pc := 21) (tgt := 36) hx hb (dd dX10_isSlant 11 rfl) (by decide) (fun hc => ?_) (fun hc => ?_)
        · have h := it_t hc h
          refine lv_iconst (pc := 36) (v := 0) hx hb (dd dX10_isSlant 18 rfl) (by decide) ?_
          have hW9 := hW
          cases h
          exact ret _ _ _ 37 hW9 rfl (dd dX10_isSlant 19 rfl)
        · have h := it_f hc h
          refine lv_iload_n (pc := 24) hx hb (dd dX10_isSlant 12 rfl) rfl (lv_at hl 0 rfl) ?_
          refine lv_if_ne (pc := 25) (tgt := 32) hx hb (dd dX10_isSlant 13 rfl) (by decide) (fun hc => ?_) (fun hc => ?_)
          · have h := it_f hc h
            exact J32 _ _ _ h hW (lv_sub hl [] rfl)
          · have h := it_t hc h
            refine lv_iload_n (pc := 28) hx hb (dd dX10_isSlant 14 rfl) rfl (lv_at hl 1 rfl) ?_
            refine lv_if_eq (pc := 29) (tgt := 36) hx hb (dd dX10_isSlant 15 rfl) (by decide) (fun hc => ?_) (fun hc => ?_)
            · have h := it_t hc h
              refine lv_iconst (pc := 36) (v := 0) hx hb (dd dX10_isSlant 18 rfl) (by decide) ?_
              have hW9 := hW
              cases h
              exact ret _ _ _ 37 hW9 rfl (dd dX10_isSlant 19 rfl)
            · have h := it_f hc h
              exact J32 _ _ _ h hW (lv_sub hl [] rfl)
abbrev w_X10_slant (g : G9) (a_t a_slantA a_slantB a_cornerX a_cornerY a_corners a_what a_rowAt a_strip a_along a_rowSize a_endAt a_turns a_plan a_yields a_bears a_seen a_wagons a_pile a_far a_waiting a_isWaiting a_rest a_isUsed : Nat) (c_thrown c_isLaid c_head c_hasRows c_hasPlan c_rows c_slants c_capacity c_weight c_unload c_source c_bunker : Int32) (c_slantA c_slantB : Ar) : va_W := [ob a_t 10 [.int c_thrown, .ref a_cornerX, .ref a_cornerY, .ref a_corners, .ref a_what, .int c_isLaid, .int c_head, .int c_hasRows, .int c_hasPlan, .int c_rows, .ref a_rowAt, .ref a_strip, .ref a_along, .ref a_rowSize, .ref a_endAt, .ref a_turns, .ref a_plan, .ref a_slantA, .ref a_slantB, .int c_slants, .ref a_yields, .ref a_bears, .int c_capacity, .int c_weight, .int c_unload, .ref a_seen, .ref a_wagons, .ref a_pile, .ref a_far, .int c_source, .ref a_waiting, .ref a_isWaiting, .ref a_rest, .ref a_isUsed, .int c_bunker], ia g a_slantA 5 c_slantA, ia g a_slantB 5 c_slantB]
noncomputable def X10_slant (c_thrown c_slants : Int32) (c_slantA c_slantB : Ar) (v1 v2 : Int32) : Option (Int32 × Int32 × Int32 × Ar × Ar) :=
  if c_slants = 5 then (some ((-1), 0, c_slants, c_slantA, c_slantB)) else (bnd (X10_isSlant v1 v2) <| fun r_15 => if r_15 = 0 then (some ((-1), 0, c_slants, c_slantA, c_slantB)) else (ck (ix c_slants 5) <| nm (au c_slantA c_slants v1) fun c_slantA_32 => ck (ix c_slants 5) <| nm (au c_slantB c_slants v2) fun c_slantB_42 => nm ((c_slants + 1)) fun c_slants_50 => some (c_slants_50, 0, c_slants_50, c_slantA_32, c_slantB_42)))
set_option maxHeartbeats 4000000 in
set_option maxRecDepth 100000 in
theorem t_X10_slant (l : Launch) (g : G9) (a_t a_slantA a_slantB a_cornerX a_cornerY a_corners a_what a_rowAt a_strip a_along a_rowSize a_endAt a_turns a_plan a_yields a_bears a_seen a_wagons a_pile a_far a_waiting a_isWaiting a_rest a_isUsed : Nat) (c_thrown c_isLaid c_head c_hasRows c_hasPlan c_rows c_slants c_capacity c_weight c_unload c_source c_bunker : Int32) (c_slantA c_slantB : Ar) (v1 v2 r0 o_thrown o_slants : Int32) (o_slantA o_slantB : Ar) (h : X10_slant c_thrown c_slants c_slantA c_slantB v1 v2 = some (r0, o_thrown, o_slants, o_slantA, o_slantB)) : CtI l g yX10_slant cX10_slant 3 .int 1 21 [.ref a_t, .int v1, .int v2] (w_X10_slant g a_t a_slantA a_slantB a_cornerX a_cornerY a_corners a_what a_rowAt a_strip a_along a_rowSize a_endAt a_turns a_plan a_yields a_bears a_seen a_wagons a_pile a_far a_waiting a_isWaiting a_rest a_isUsed c_thrown c_isLaid c_head c_hasRows c_hasPlan c_rows c_slants c_capacity c_weight c_unload c_source c_bunker c_slantA c_slantB) r0 (w_X10_slant g a_t a_slantA a_slantB a_cornerX a_cornerY a_corners a_what a_rowAt a_strip a_along a_rowSize a_endAt a_turns a_plan a_yields a_bears a_seen a_wagons a_pile a_far a_waiting a_isWaiting a_rest a_isUsed o_thrown c_isLaid c_head c_hasRows c_hasPlan c_rows o_slants c_capacity c_weight c_unload c_source c_bunker o_slantA o_slantB) := by
  refine startI (by decide) (Nat.le_of_ble_eq_true rfl) ?_
  intro p e s m below meth c A Q ls args M hW hl ret
  have hx := M.1
  have hb := M.2.1
  have hown := M.2.2.2.1
  have hu := M.2.2.2.2.1
  have hl : lv_has ls 3 [(0, .ref a_t), (1, .int v1), (2, .int v2)] := hl
  unfold X10_slant at h
  obtain ⟨H, eH⟩ : ∃ z, z = s.heap := ⟨_, rfl⟩
  obtain ⟨locs, eL⟩ : ∃ z, z = ([] : List Loc) := ⟨_, rfl⟩
  rw [← eL] at hW ⊢
  suffices hS9 : WD g s A (w_X10_slant g a_t a_slantA a_slantB a_cornerX a_cornerY a_corners a_what a_rowAt a_strip a_along a_rowSize a_endAt a_turns a_plan a_yields a_bears a_seen a_wagons a_pile a_far a_waiting a_isWaiting a_rest a_isUsed c_thrown c_isLaid c_head c_hasRows c_hasPlan c_rows c_slants c_capacity c_weight c_unload c_source c_bunker c_slantA c_slantB) H locs → W p l e (rm9 1 21) s m args below meth c H locs 0 0 Q (F0 m 0 ls []) by
    rw [← eH] at hW ⊢
    exact hS9 hW
  clear hW eH eL
  intro hW
  refine lv_aload_n (pc := 0) hx hb (dd dX10_slant 0 rfl) rfl (lv_at hl 0 rfl) ?_
  refine lv_iconst (pc := 1) (v := 0) hx hb (dd dX10_slant 1 rfl) (by decide) ?_
  refine rPut (pc := 2) M hW 0 0 tyX10 tyX10_ok nmX10 iU10 rfl rfl (by decide) (uw4 213 rfl rfl) rfl rfl rfl (Nat.le_of_ble_eq_true rfl) (dd dX10_slant 2 rfl) (ws' := (w_X10_slant g a_t a_slantA a_slantB a_cornerX a_cornerY a_corners a_what a_rowAt a_strip a_along a_rowSize a_endAt a_turns a_plan a_yields a_bears a_seen a_wagons a_pile a_far a_waiting a_isWaiting a_rest a_isUsed 0 c_isLaid c_head c_hasRows c_hasPlan c_rows c_slants c_capacity c_weight c_unload c_source c_bunker c_slantA c_slantB)) rfl (fun H locs hW => ?_)
  refine lv_aload_n (pc := 5) hx hb (dd dX10_slant 3 rfl) rfl (lv_at hl 0 rfl) ?_
  refine rGet (pc := 6) M hW 0 19 iU10 rfl rfl (by decide) (uw4 232 rfl rfl) rfl (dd dX10_slant 4 rfl) ?_
  refine lv_iconst (pc := 9) (v := 5) hx hb (dd dX10_slant 5 rfl) (by decide) ?_
  refine lv_icmp_eq (pc := 10) (tgt := 21) hx hb (dd dX10_slant 6 rfl) (by decide) (fun hc => ?_) (fun hc => ?_)
  · have h := it_t hc h
    refine lv_iconst (pc := 21) (v := (-1)) hx hb (dd dX10_slant 11 rfl) (by decide) ?_
    have hW9 := hW
    cases h
    exact ret _ _ _ 22 hW9 rfl (dd dX10_slant 12 rfl)
  · have h := it_f hc h
    refine lv_iload_n (pc := 13) hx hb (dd dX10_slant 7 rfl) rfl (lv_at hl 1 rfl) ?_
    refine lv_iload_n (pc := 14) hx hb (dd dX10_slant 8 rfl) rfl (lv_at hl 2 rfl) ?_
    obtain ⟨r_15, hr, h⟩ := bnd_ex h
    refine callSI (pc := 15) (na := 2) (As := [.int v1, .int v2]) (rest := []) (ws2 := (w_X10_slant g a_t a_slantA a_slantB a_cornerX a_cornerY a_corners a_what a_rowAt a_strip a_along a_rowSize a_endAt a_turns a_plan a_yields a_bears a_seen a_wagons a_pile a_far a_waiting a_isWaiting a_rest a_isUsed 0 c_isLaid c_head c_hasRows c_hasPlan c_rows c_slants c_capacity c_weight c_unload c_source c_bunker c_slantA c_slantB)) M hl.1 hW (t_X10_isSlant l g v1 v2 r_15 hr) [] [0, 1, 2] [0, 1, 2] rfl rfl rfl rfl rfl rfl rfl (uw5 128 rfl rfl) (uw5 126 rfl rfl) (uw5 127 rfl rfl) (uw1 13 rfl rfl) ⟨by decide, by decide, by decide⟩ rfl ⟨by decide, by decide⟩ (Nat.le_of_ble_eq_true rfl) ⟨Nat.zero_le _, Nat.zero_le _⟩ (dd dX10_slant 9 rfl) (fun H locs hW => ?_)
    refine lv_if_ne (pc := 18) (tgt := 23) hx hb (dd dX10_slant 10 rfl) (by decide) (fun hc => ?_) (fun hc => ?_)
    · have h := it_f hc h
      refine lv_aload_n (pc := 23) hx hb (dd dX10_slant 13 rfl) rfl (lv_at hl 0 rfl) ?_
      refine rGet (pc := 24) M hW 0 17 iU10 rfl rfl (by decide) (uw4 230 rfl rfl) rfl (dd dX10_slant 14 rfl) ?_
      refine lv_aload_n (pc := 27) hx hb (dd dX10_slant 15 rfl) rfl (lv_at hl 0 rfl) ?_
      refine rGet (pc := 28) M hW 0 19 iU10 rfl rfl (by decide) (uw4 232 rfl rfl) rfl (dd dX10_slant 16 rfl) ?_
      refine lv_iload_n (pc := 31) hx hb (dd dX10_slant 17 rfl) rfl (lv_at hl 1 rfl) ?_
      obtain ⟨hi, h⟩ := ck_ex h
      obtain ⟨c_slantA_32, ec_slantA_32, h⟩ := nm_ex h
      refine rIast (pc := 32) M hW 1 rfl hi ec_slantA_32 (ws' := (w_X10_slant g a_t a_slantA a_slantB a_cornerX a_cornerY a_corners a_what a_rowAt a_strip a_along a_rowSize a_endAt a_turns a_plan a_yields a_bears a_seen a_wagons a_pile a_far a_waiting a_isWaiting a_rest a_isUsed 0 c_isLaid c_head c_hasRows c_hasPlan c_rows c_slants c_capacity c_weight c_unload c_source c_bunker c_slantA_32 c_slantB)) rfl (dd dX10_slant 18 rfl) (fun H locs hW => ?_)
      refine lv_aload_n (pc := 33) hx hb (dd dX10_slant 19 rfl) rfl (lv_at hl 0 rfl) ?_
      refine rGet (pc := 34) M hW 0 18 iU10 rfl rfl (by decide) (uw4 231 rfl rfl) rfl (dd dX10_slant 20 rfl) ?_
      refine lv_aload_n (pc := 37) hx hb (dd dX10_slant 21 rfl) rfl (lv_at hl 0 rfl) ?_
      refine rGet (pc := 38) M hW 0 19 iU10 rfl rfl (by decide) (uw4 232 rfl rfl) rfl (dd dX10_slant 22 rfl) ?_
      refine lv_iload_n (pc := 41) hx hb (dd dX10_slant 23 rfl) rfl (lv_at hl 2 rfl) ?_
      obtain ⟨hi, h⟩ := ck_ex h
      obtain ⟨c_slantB_42, ec_slantB_42, h⟩ := nm_ex h
      refine rIast (pc := 42) M hW 2 rfl hi ec_slantB_42 (ws' := (w_X10_slant g a_t a_slantA a_slantB a_cornerX a_cornerY a_corners a_what a_rowAt a_strip a_along a_rowSize a_endAt a_turns a_plan a_yields a_bears a_seen a_wagons a_pile a_far a_waiting a_isWaiting a_rest a_isUsed 0 c_isLaid c_head c_hasRows c_hasPlan c_rows c_slants c_capacity c_weight c_unload c_source c_bunker c_slantA_32 c_slantB_42)) rfl (dd dX10_slant 24 rfl) (fun H locs hW => ?_)
      refine lv_aload_n (pc := 43) hx hb (dd dX10_slant 25 rfl) rfl (lv_at hl 0 rfl) ?_
      refine lv_dup (pc := 44) hx hb (dd dX10_slant 26 rfl) rfl ?_
      refine rGet (pc := 45) M hW 0 19 iU10 rfl rfl (by decide) (uw4 232 rfl rfl) rfl (dd dX10_slant 27 rfl) ?_
      refine lv_iconst (pc := 48) (v := 1) hx hb (dd dX10_slant 28 rfl) (by decide) ?_
      refine lv_iadd (pc := 49) hx hb (dd dX10_slant 29 rfl) ?_
      obtain ⟨c_slants_50, ec_slants_50, h⟩ := nm_ex h
      refine rTopi (pc := 50) ec_slants_50 ?_
      refine rPut (pc := 50) M hW 0 19 tyX10 tyX10_ok nmX10 iU10 rfl rfl (by decide) (uw4 232 rfl rfl) rfl rfl rfl (Nat.le_of_ble_eq_true rfl) (dd dX10_slant 30 rfl) (ws' := (w_X10_slant g a_t a_slantA a_slantB a_cornerX a_cornerY a_corners a_what a_rowAt a_strip a_along a_rowSize a_endAt a_turns a_plan a_yields a_bears a_seen a_wagons a_pile a_far a_waiting a_isWaiting a_rest a_isUsed 0 c_isLaid c_head c_hasRows c_hasPlan c_rows c_slants_50 c_capacity c_weight c_unload c_source c_bunker c_slantA_32 c_slantB_42)) rfl (fun H locs hW => ?_)
      refine lv_aload_n (pc := 53) hx hb (dd dX10_slant 31 rfl) rfl (lv_at hl 0 rfl) ?_
      refine rGet (pc := 54) M hW 0 19 iU10 rfl rfl (by decide) (uw4 232 rfl rfl) rfl (dd dX10_slant 32 rfl) ?_
      have hW9 := hW
      cases h
      exact ret _ _ _ 57 hW9 rfl (dd dX10_slant 33 rfl)
    · have h := it_t hc h
      refine lv_iconst (pc := 21) (v := (-1)) hx hb (dd dX10_slant 11 rfl) (by decide) ?_
      have hW9 := hW
      cases h
      exact ret _ _ _ 22 hW9 rfl (dd dX10_slant 12 rfl)
abbrev w_X10_unslant (g : G9) (a_t a_cornerX a_cornerY a_corners a_what a_rowAt a_strip a_along a_rowSize a_endAt a_turns a_plan a_slantA a_slantB a_yields a_bears a_seen a_wagons a_pile a_far a_waiting a_isWaiting a_rest a_isUsed : Nat) (c_thrown c_isLaid c_head c_hasRows c_hasPlan c_rows c_slants c_capacity c_weight c_unload c_source c_bunker : Int32) : va_W := [ob a_t 10 [.int c_thrown, .ref a_cornerX, .ref a_cornerY, .ref a_corners, .ref a_what, .int c_isLaid, .int c_head, .int c_hasRows, .int c_hasPlan, .int c_rows, .ref a_rowAt, .ref a_strip, .ref a_along, .ref a_rowSize, .ref a_endAt, .ref a_turns, .ref a_plan, .ref a_slantA, .ref a_slantB, .int c_slants, .ref a_yields, .ref a_bears, .int c_capacity, .int c_weight, .int c_unload, .ref a_seen, .ref a_wagons, .ref a_pile, .ref a_far, .int c_source, .ref a_waiting, .ref a_isWaiting, .ref a_rest, .ref a_isUsed, .int c_bunker]]
noncomputable def X10_unslant (c_thrown c_slants : Int32) : Option (Int32 × Int32 × Int32) :=
  some (c_slants, 0, 0)
set_option maxHeartbeats 4000000 in
set_option maxRecDepth 100000 in
theorem t_X10_unslant (l : Launch) (g : G9) (a_t a_cornerX a_cornerY a_corners a_what a_rowAt a_strip a_along a_rowSize a_endAt a_turns a_plan a_slantA a_slantB a_yields a_bears a_seen a_wagons a_pile a_far a_waiting a_isWaiting a_rest a_isUsed : Nat) (c_thrown c_isLaid c_head c_hasRows c_hasPlan c_rows c_slants c_capacity c_weight c_unload c_source c_bunker r0 o_thrown o_slants : Int32) (h : X10_unslant c_thrown c_slants = some (r0, o_thrown, o_slants)) : CtI l g yX10_unslant cX10_unslant 2 .int 0 0 [.ref a_t] (w_X10_unslant g a_t a_cornerX a_cornerY a_corners a_what a_rowAt a_strip a_along a_rowSize a_endAt a_turns a_plan a_slantA a_slantB a_yields a_bears a_seen a_wagons a_pile a_far a_waiting a_isWaiting a_rest a_isUsed c_thrown c_isLaid c_head c_hasRows c_hasPlan c_rows c_slants c_capacity c_weight c_unload c_source c_bunker) r0 (w_X10_unslant g a_t a_cornerX a_cornerY a_corners a_what a_rowAt a_strip a_along a_rowSize a_endAt a_turns a_plan a_slantA a_slantB a_yields a_bears a_seen a_wagons a_pile a_far a_waiting a_isWaiting a_rest a_isUsed o_thrown c_isLaid c_head c_hasRows c_hasPlan c_rows o_slants c_capacity c_weight c_unload c_source c_bunker) := by
  refine startI (by decide) (Nat.le_of_ble_eq_true rfl) ?_
  intro p e s m below meth c A Q ls args M hW hl ret
  have hx := M.1
  have hb := M.2.1
  have hown := M.2.2.2.1
  have hu := M.2.2.2.2.1
  have hl : lv_has ls 2 [(0, .ref a_t)] := hl
  unfold X10_unslant at h
  obtain ⟨H, eH⟩ : ∃ z, z = s.heap := ⟨_, rfl⟩
  obtain ⟨locs, eL⟩ : ∃ z, z = ([] : List Loc) := ⟨_, rfl⟩
  rw [← eL] at hW ⊢
  suffices hS9 : WD g s A (w_X10_unslant g a_t a_cornerX a_cornerY a_corners a_what a_rowAt a_strip a_along a_rowSize a_endAt a_turns a_plan a_slantA a_slantB a_yields a_bears a_seen a_wagons a_pile a_far a_waiting a_isWaiting a_rest a_isUsed c_thrown c_isLaid c_head c_hasRows c_hasPlan c_rows c_slants c_capacity c_weight c_unload c_source c_bunker) H locs → W p l e (rm9 0 0) s m args below meth c H locs 0 0 Q (F0 m 0 ls []) by
    rw [← eH] at hW ⊢
    exact hS9 hW
  clear hW eH eL
  intro hW
  refine lv_aload_n (pc := 0) hx hb (dd dX10_unslant 0 rfl) rfl (lv_at hl 0 rfl) ?_
  refine lv_iconst (pc := 1) (v := 0) hx hb (dd dX10_unslant 1 rfl) (by decide) ?_
  refine rPut (pc := 2) M hW 0 0 tyX10 tyX10_ok nmX10 iU10 rfl rfl (by decide) (uw4 213 rfl rfl) rfl rfl rfl (Nat.le_of_ble_eq_true rfl) (dd dX10_unslant 2 rfl) (ws' := (w_X10_unslant g a_t a_cornerX a_cornerY a_corners a_what a_rowAt a_strip a_along a_rowSize a_endAt a_turns a_plan a_slantA a_slantB a_yields a_bears a_seen a_wagons a_pile a_far a_waiting a_isWaiting a_rest a_isUsed 0 c_isLaid c_head c_hasRows c_hasPlan c_rows c_slants c_capacity c_weight c_unload c_source c_bunker)) rfl (fun H locs hW => ?_)
  refine lv_aload_n (pc := 5) hx hb (dd dX10_unslant 3 rfl) rfl (lv_at hl 0 rfl) ?_
  refine rGet (pc := 6) M hW 0 19 iU10 rfl rfl (by decide) (uw4 232 rfl rfl) rfl (dd dX10_unslant 4 rfl) ?_
  refine lv_istore_n (pc := 9) (lv' := [(1, .int c_slants), (0, .ref a_t)]) hx hb (dd dX10_unslant 5 rfl) rfl hl (by decide) rfl (fun ls hl => ?_)
  refine lv_aload_n (pc := 10) hx hb (dd dX10_unslant 6 rfl) rfl (lv_at hl 1 rfl) ?_
  refine lv_iconst (pc := 11) (v := 0) hx hb (dd dX10_unslant 7 rfl) (by decide) ?_
  refine rPut (pc := 12) M hW 0 19 tyX10 tyX10_ok nmX10 iU10 rfl rfl (by decide) (uw4 232 rfl rfl) rfl rfl rfl (Nat.le_of_ble_eq_true rfl) (dd dX10_unslant 8 rfl) (ws' := (w_X10_unslant g a_t a_cornerX a_cornerY a_corners a_what a_rowAt a_strip a_along a_rowSize a_endAt a_turns a_plan a_slantA a_slantB a_yields a_bears a_seen a_wagons a_pile a_far a_waiting a_isWaiting a_rest a_isUsed 0 c_isLaid c_head c_hasRows c_hasPlan c_rows 0 c_capacity c_weight c_unload c_source c_bunker)) rfl (fun H locs hW => ?_)
  refine lv_iload_n (pc := 15) hx hb (dd dX10_unslant 9 rfl) rfl (lv_at hl 0 rfl) ?_
  have hW9 := hW
  cases h
  exact ret _ _ _ 16 hW9 rfl (dd dX10_unslant 10 rfl)
abbrev w_X10_yields (g : G9) (a_t a_yields a_cornerX a_cornerY a_corners a_what a_rowAt a_strip a_along a_rowSize a_endAt a_turns a_plan a_slantA a_slantB a_bears a_seen a_wagons a_pile a_far a_waiting a_isWaiting a_rest a_isUsed : Nat) (c_thrown c_isLaid c_head c_hasRows c_hasPlan c_rows c_slants c_capacity c_weight c_unload c_source c_bunker : Int32) (c_yields : Ar) : va_W := [ob a_t 10 [.int c_thrown, .ref a_cornerX, .ref a_cornerY, .ref a_corners, .ref a_what, .int c_isLaid, .int c_head, .int c_hasRows, .int c_hasPlan, .int c_rows, .ref a_rowAt, .ref a_strip, .ref a_along, .ref a_rowSize, .ref a_endAt, .ref a_turns, .ref a_plan, .ref a_slantA, .ref a_slantB, .int c_slants, .ref a_yields, .ref a_bears, .int c_capacity, .int c_weight, .int c_unload, .ref a_seen, .ref a_wagons, .ref a_pile, .ref a_far, .int c_source, .ref a_waiting, .ref a_isWaiting, .ref a_rest, .ref a_isUsed, .int c_bunker], ia g a_yields 1200 c_yields]
noncomputable def X10_yields_b35 (c_thrown : Int32) (c_yields : Ar) (v1 v2 v3 k1 : Int32) : Option (Int32 × Ar) :=
  bnd (X10_throwsIf c_thrown k1 2) <| un2 fun r_36 c_thrown_36 => if r_36 = 0 then (ck (ix ((40 * v2) + v1) 1200) <| nm (au c_yields ((40 * v2) + v1) v3) fun c_yields_54 => some (c_thrown_36, c_yields_54)) else (some (c_thrown_36, c_yields))
noncomputable def X10_yields_b30 (c_thrown : Int32) (c_yields : Ar) (v1 v2 v3 : Int32) : Option (Int32 × Ar) :=
  X10_yields_b35 c_thrown c_yields v1 v2 v3 1
noncomputable def X10_yields (c_thrown : Int32) (c_yields : Ar) (v1 v2 v3 : Int32) : Option (Int32 × Ar) :=
  bnd (X10_noSquare v1 v2) <| fun r_8 => bnd (X10_throwsIf 0 r_8 1) <| un2 fun r_12 c_thrown_12 => if r_12 = 0 then (if v3 < 0 then (X10_yields_b30 c_thrown_12 c_yields v1 v2 v3) else (if v3 ≤ 1000 then (X10_yields_b35 c_thrown_12 c_yields v1 v2 v3 0) else (X10_yields_b30 c_thrown_12 c_yields v1 v2 v3))) else (some (c_thrown_12, c_yields))
set_option maxHeartbeats 4000000 in
set_option maxRecDepth 100000 in
theorem t_X10_yields (l : Launch) (g : G9) (a_t a_yields a_cornerX a_cornerY a_corners a_what a_rowAt a_strip a_along a_rowSize a_endAt a_turns a_plan a_slantA a_slantB a_bears a_seen a_wagons a_pile a_far a_waiting a_isWaiting a_rest a_isUsed : Nat) (c_thrown c_isLaid c_head c_hasRows c_hasPlan c_rows c_slants c_capacity c_weight c_unload c_source c_bunker : Int32) (c_yields : Ar) (v1 v2 v3 o_thrown : Int32) (o_yields : Ar) (h : X10_yields c_thrown c_yields v1 v2 v3 = some (o_thrown, o_yields)) : CtV l g yX10_yields cX10_yields 4 1 22 [.ref a_t, .int v1, .int v2, .int v3] (w_X10_yields g a_t a_yields a_cornerX a_cornerY a_corners a_what a_rowAt a_strip a_along a_rowSize a_endAt a_turns a_plan a_slantA a_slantB a_bears a_seen a_wagons a_pile a_far a_waiting a_isWaiting a_rest a_isUsed c_thrown c_isLaid c_head c_hasRows c_hasPlan c_rows c_slants c_capacity c_weight c_unload c_source c_bunker c_yields) (w_X10_yields g a_t a_yields a_cornerX a_cornerY a_corners a_what a_rowAt a_strip a_along a_rowSize a_endAt a_turns a_plan a_slantA a_slantB a_bears a_seen a_wagons a_pile a_far a_waiting a_isWaiting a_rest a_isUsed o_thrown c_isLaid c_head c_hasRows c_hasPlan c_rows c_slants c_capacity c_weight c_unload c_source c_bunker o_yields) := by
  refine startV (by decide) (Nat.le_of_ble_eq_true rfl) ?_
  intro p e s m below meth c A Q ls args M hW hl ret
  have hx := M.1
  have hb := M.2.1
  have hown := M.2.2.2.1
  have hu := M.2.2.2.2.1
  have hl : lv_has ls 4 [(0, .ref a_t), (1, .int v1), (2, .int v2), (3, .int v3)] := hl
  unfold X10_yields at h
  obtain ⟨H, eH⟩ : ∃ z, z = s.heap := ⟨_, rfl⟩
  obtain ⟨locs, eL⟩ : ∃ z, z = ([] : List Loc) := ⟨_, rfl⟩
  rw [← eL] at hW ⊢
  suffices hS9 : WD g s A (w_X10_yields g a_t a_yields a_cornerX a_cornerY a_corners a_what a_rowAt a_strip a_along a_rowSize a_endAt a_turns a_plan a_slantA a_slantB a_bears a_seen a_wagons a_pile a_far a_waiting a_isWaiting a_rest a_isUsed c_thrown c_isLaid c_head c_hasRows c_hasPlan c_rows c_slants c_capacity c_weight c_unload c_source c_bunker c_yields) H locs → W p l e (rm9 1 22) s m args below meth c H locs 0 0 Q (F0 m 0 ls []) by
    rw [← eH] at hW ⊢
    exact hS9 hW
  clear hW eH eL
  intro hW
  have J35 : ∀ (c_thrown : Int32) (c_yields : Ar) (k1 : Int32) (H : Heap) (locs : List Loc) (ls : Array Slot), X10_yields_b35 c_thrown c_yields v1 v2 v3 k1 = some (o_thrown, o_yields) → WD g s A (w_X10_yields g a_t a_yields a_cornerX a_cornerY a_corners a_what a_rowAt a_strip a_along a_rowSize a_endAt a_turns a_plan a_slantA a_slantB a_bears a_seen a_wagons a_pile a_far a_waiting a_isWaiting a_rest a_isUsed c_thrown c_isLaid c_head c_hasRows c_hasPlan c_rows c_slants c_capacity c_weight c_unload c_source c_bunker c_yields) H locs → lv_has ls 4 [(0, .ref a_t), (1, .int v1), (2, .int v2), (3, .int v3)] → W p l e (rm9 1 22) s m args below meth c H locs 0 0 Q (F0 m 35 ls [.int k1, .ref a_t]) := by
    intro c_thrown c_yields k1 H locs ls h hW hl
    unfold X10_yields_b35 at h
    refine lv_iconst (pc := 35) (v := 2) hx hb (dd dX10_yields 19 rfl) (by decide) ?_
    obtain ⟨⟨r_36, c_thrown_36⟩, hr, h⟩ := bnd_ex h
    have h := un2_at h
    refine callVI (pc := 36) (na := 2) (As := [.int k1, .int 2]) (rest := []) (ws2 := (w_X10_yields g a_t a_yields a_cornerX a_cornerY a_corners a_what a_rowAt a_strip a_along a_rowSize a_endAt a_turns a_plan a_slantA a_slantB a_bears a_seen a_wagons a_pile a_far a_waiting a_isWaiting a_rest a_isUsed c_thrown_36 c_isLaid c_head c_hasRows c_hasPlan c_rows c_slants c_capacity c_weight c_unload c_source c_bunker c_yields)) M hl.1 hW (t_X10_throwsIf l g a_t a_cornerX a_cornerY a_corners a_what a_rowAt a_strip a_along a_rowSize a_endAt a_turns a_plan a_slantA a_slantB a_yields a_bears a_seen a_wagons a_pile a_far a_waiting a_isWaiting a_rest a_isUsed c_thrown c_isLaid c_head c_hasRows c_hasPlan c_rows c_slants c_capacity c_weight c_unload c_source c_bunker k1 2 r_36 c_thrown_36 hr) rfl [0] [1] [1, 0] rfl rfl rfl rfl rfl rfl rfl 0 10 rfl rfl rfl (uw5 86 rfl rfl) (uw5 83 rfl rfl) (uw5 85 rfl rfl) (uwp 41 rfl rfl) (uw1 13 rfl rfl) ⟨by decide, by decide, by decide⟩ rfl ⟨by decide, by decide⟩ (Nat.le_of_ble_eq_true rfl) ⟨Nat.zero_le _, Nat.zero_le _⟩ (dd dX10_yields 20 rfl) (fun H locs hW => ?_)
    refine lv_if_eq (pc := 39) (tgt := 43) hx hb (dd dX10_yields 21 rfl) (by decide) (fun hc => ?_) (fun hc => ?_)
    · have h := it_t hc h
      refine lv_aload_n (pc := 43) hx hb (dd dX10_yields 23 rfl) rfl (lv_at hl 0 rfl) ?_
      refine rGet (pc := 44) M hW 0 20 iU10 rfl rfl (by decide) (uw4 233 rfl rfl) rfl (dd dX10_yields 24 rfl) ?_
      refine lv_bipush (pc := 47) (v := 40) hx hb (dd dX10_yields 25 rfl) (by decide) ?_
      refine lv_iload_n (pc := 49) hx hb (dd dX10_yields 26 rfl) rfl (lv_at hl 2 rfl) ?_
      refine lv_imul (pc := 50) hx hb (dd dX10_yields 27 rfl) ?_
      refine lv_iload_n (pc := 51) hx hb (dd dX10_yields 28 rfl) rfl (lv_at hl 1 rfl) ?_
      refine lv_iadd (pc := 52) hx hb (dd dX10_yields 29 rfl) ?_
      refine lv_iload_n (pc := 53) hx hb (dd dX10_yields 30 rfl) rfl (lv_at hl 3 rfl) ?_
      obtain ⟨hi, h⟩ := ck_ex h
      obtain ⟨c_yields_54, ec_yields_54, h⟩ := nm_ex h
      refine rIast (pc := 54) M hW 1 rfl hi ec_yields_54 (ws' := (w_X10_yields g a_t a_yields a_cornerX a_cornerY a_corners a_what a_rowAt a_strip a_along a_rowSize a_endAt a_turns a_plan a_slantA a_slantB a_bears a_seen a_wagons a_pile a_far a_waiting a_isWaiting a_rest a_isUsed c_thrown_36 c_isLaid c_head c_hasRows c_hasPlan c_rows c_slants c_capacity c_weight c_unload c_source c_bunker c_yields_54)) rfl (dd dX10_yields 31 rfl) (fun H locs hW => ?_)
      have hW9 := hW
      cases h
      exact ret _ _ _ 55 hW9 (dd dX10_yields 32 rfl)
    · have h := it_f hc h
      have hW9 := hW
      cases h
      exact ret _ _ _ 42 hW9 (dd dX10_yields 22 rfl)
  have J30 : ∀ (c_thrown : Int32) (c_yields : Ar) (H : Heap) (locs : List Loc) (ls : Array Slot), X10_yields_b30 c_thrown c_yields v1 v2 v3 = some (o_thrown, o_yields) → WD g s A (w_X10_yields g a_t a_yields a_cornerX a_cornerY a_corners a_what a_rowAt a_strip a_along a_rowSize a_endAt a_turns a_plan a_slantA a_slantB a_bears a_seen a_wagons a_pile a_far a_waiting a_isWaiting a_rest a_isUsed c_thrown c_isLaid c_head c_hasRows c_hasPlan c_rows c_slants c_capacity c_weight c_unload c_source c_bunker c_yields) H locs → lv_has ls 4 [(0, .ref a_t), (1, .int v1), (2, .int v2), (3, .int v3)] → W p l e (rm9 1 22) s m args below meth c H locs 0 0 Q (F0 m 30 ls [.ref a_t]) := by
    intro c_thrown c_yields H locs ls h hW hl
    unfold X10_yields_b30 at h
    refine lv_iconst (pc := 30) (v := 1) hx hb (dd dX10_yields 16 rfl) (by decide) ?_
    refine lv_goto (pc := 31) (tgt := 35) hx hb (dd dX10_yields 17 rfl) (by decide) ?_
    exact J35 _ _ _ _ _ _ h hW (lv_sub hl [0, 1, 2, 3] rfl)
  refine lv_aload_n (pc := 0) hx hb (dd dX10_yields 0 rfl) rfl (lv_at hl 0 rfl) ?_
  refine lv_iconst (pc := 1) (v := 0) hx hb (dd dX10_yields 1 rfl) (by decide) ?_
  refine rPut (pc := 2) M hW 0 0 tyX10 tyX10_ok nmX10 iU10 rfl rfl (by decide) (uw4 213 rfl rfl) rfl rfl rfl (Nat.le_of_ble_eq_true rfl) (dd dX10_yields 2 rfl) (ws' := (w_X10_yields g a_t a_yields a_cornerX a_cornerY a_corners a_what a_rowAt a_strip a_along a_rowSize a_endAt a_turns a_plan a_slantA a_slantB a_bears a_seen a_wagons a_pile a_far a_waiting a_isWaiting a_rest a_isUsed 0 c_isLaid c_head c_hasRows c_hasPlan c_rows c_slants c_capacity c_weight c_unload c_source c_bunker c_yields)) rfl (fun H locs hW => ?_)
  refine lv_aload_n (pc := 5) hx hb (dd dX10_yields 3 rfl) rfl (lv_at hl 0 rfl) ?_
  refine lv_iload_n (pc := 6) hx hb (dd dX10_yields 4 rfl) rfl (lv_at hl 1 rfl) ?_
  refine lv_iload_n (pc := 7) hx hb (dd dX10_yields 5 rfl) rfl (lv_at hl 2 rfl) ?_
  obtain ⟨r_8, hr, h⟩ := bnd_ex h
  refine callSI (pc := 8) (na := 2) (As := [.int v1, .int v2]) (rest := [.ref a_t]) (ws2 := (w_X10_yields g a_t a_yields a_cornerX a_cornerY a_corners a_what a_rowAt a_strip a_along a_rowSize a_endAt a_turns a_plan a_slantA a_slantB a_bears a_seen a_wagons a_pile a_far a_waiting a_isWaiting a_rest a_isUsed 0 c_isLaid c_head c_hasRows c_hasPlan c_rows c_slants c_capacity c_weight c_unload c_source c_bunker c_yields)) M hl.1 hW (t_X10_noSquare l g v1 v2 r_8 hr) [] [0, 1] [0, 1] rfl rfl rfl rfl rfl rfl rfl (uw5 113 rfl rfl) (uw5 111 rfl rfl) (uw5 112 rfl rfl) (uw1 13 rfl rfl) ⟨by decide, by decide, by decide⟩ rfl ⟨by decide, by decide⟩ (Nat.le_of_ble_eq_true rfl) ⟨Nat.zero_le _, Nat.zero_le _⟩ (dd dX10_yields 6 rfl) (fun H locs hW => ?_)
  refine lv_iconst (pc := 11) (v := 1) hx hb (dd dX10_yields 7 rfl) (by decide) ?_
  obtain ⟨⟨r_12, c_thrown_12⟩, hr, h⟩ := bnd_ex h
  have h := un2_at h
  refine callVI (pc := 12) (na := 2) (As := [.int r_8, .int 1]) (rest := []) (ws2 := (w_X10_yields g a_t a_yields a_cornerX a_cornerY a_corners a_what a_rowAt a_strip a_along a_rowSize a_endAt a_turns a_plan a_slantA a_slantB a_bears a_seen a_wagons a_pile a_far a_waiting a_isWaiting a_rest a_isUsed c_thrown_12 c_isLaid c_head c_hasRows c_hasPlan c_rows c_slants c_capacity c_weight c_unload c_source c_bunker c_yields)) M hl.1 hW (t_X10_throwsIf l g a_t a_cornerX a_cornerY a_corners a_what a_rowAt a_strip a_along a_rowSize a_endAt a_turns a_plan a_slantA a_slantB a_yields a_bears a_seen a_wagons a_pile a_far a_waiting a_isWaiting a_rest a_isUsed 0 c_isLaid c_head c_hasRows c_hasPlan c_rows c_slants c_capacity c_weight c_unload c_source c_bunker r_8 1 r_12 c_thrown_12 hr) rfl [0] [1] [1, 0] rfl rfl rfl rfl rfl rfl rfl 0 10 rfl rfl rfl (uw5 86 rfl rfl) (uw5 83 rfl rfl) (uw5 85 rfl rfl) (uwp 41 rfl rfl) (uw1 13 rfl rfl) ⟨by decide, by decide, by decide⟩ rfl ⟨by decide, by decide⟩ (Nat.le_of_ble_eq_true rfl) ⟨Nat.zero_le _, Nat.zero_le _⟩ (dd dX10_yields 8 rfl) (fun H locs hW => ?_)
  refine lv_if_ne (pc := 15) (tgt := 42) hx hb (dd dX10_yields 9 rfl) (by decide) (fun hc => ?_) (fun hc => ?_)
  · have h := it_f hc h
    have hW9 := hW
    cases h
    exact ret _ _ _ 42 hW9 (dd dX10_yields 22 rfl)
  · have h := it_t hc h
    refine lv_aload_n (pc := 18) hx hb (dd dX10_yields 10 rfl) rfl (lv_at hl 0 rfl) ?_
    refine lv_iload_n (pc := 19) hx hb (dd dX10_yields 11 rfl) rfl (lv_at hl 3 rfl) ?_
    refine lv_if_lt (pc := 20) (tgt := 30) hx hb (dd dX10_yields 12 rfl) (by decide) (fun hc => ?_) (fun hc => ?_)
    · have h := it_t hc h
      exact J30 _ _ _ _ _ h hW (lv_sub hl [0, 1, 2, 3] rfl)
    · have h := it_f hc h
      refine lv_iload_n (pc := 23) hx hb (dd dX10_yields 13 rfl) rfl (lv_at hl 3 rfl) ?_
      refine lv_sipush (pc := 24) (v := 1000) hx hb (dd dX10_yields 14 rfl) (by decide) ?_
      refine lv_icmp_le (pc := 27) (tgt := 34) hx hb (dd dX10_yields 15 rfl) (by decide) (fun hc => ?_) (fun hc => ?_)
      · have h := it_t hc h
        refine lv_iconst (pc := 34) (v := 0) hx hb (dd dX10_yields 18 rfl) (by decide) ?_
        exact J35 _ _ _ _ _ _ h hW (lv_sub hl [0, 1, 2, 3] rfl)
      · have h := it_f hc h
        exact J30 _ _ _ _ _ h hW (lv_sub hl [0, 1, 2, 3] rfl)
abbrev w_X10_bears (g : G9) (a_t a_bears a_cornerX a_cornerY a_corners a_what a_rowAt a_strip a_along a_rowSize a_endAt a_turns a_plan a_slantA a_slantB a_yields a_seen a_wagons a_pile a_far a_waiting a_isWaiting a_rest a_isUsed : Nat) (c_thrown c_isLaid c_head c_hasRows c_hasPlan c_rows c_slants c_capacity c_weight c_unload c_source c_bunker : Int32) (c_bears : Ar) : va_W := [ob a_t 10 [.int c_thrown, .ref a_cornerX, .ref a_cornerY, .ref a_corners, .ref a_what, .int c_isLaid, .int c_head, .int c_hasRows, .int c_hasPlan, .int c_rows, .ref a_rowAt, .ref a_strip, .ref a_along, .ref a_rowSize, .ref a_endAt, .ref a_turns, .ref a_plan, .ref a_slantA, .ref a_slantB, .int c_slants, .ref a_yields, .ref a_bears, .int c_capacity, .int c_weight, .int c_unload, .ref a_seen, .ref a_wagons, .ref a_pile, .ref a_far, .int c_source, .ref a_waiting, .ref a_isWaiting, .ref a_rest, .ref a_isUsed, .int c_bunker], ia g a_bears 1200 c_bears]
noncomputable def X10_bears_b34 (c_thrown : Int32) (c_bears : Ar) (v1 v2 v3 k1 : Int32) : Option (Int32 × Ar) :=
  bnd (X10_throwsIf c_thrown k1 2) <| un2 fun r_35 c_thrown_35 => if r_35 = 0 then (ck (ix ((40 * v2) + v1) 1200) <| nm (au c_bears ((40 * v2) + v1) v3) fun c_bears_53 => some (c_thrown_35, c_bears_53)) else (some (c_thrown_35, c_bears))
noncomputable def X10_bears_b29 (c_thrown : Int32) (c_bears : Ar) (v1 v2 v3 : Int32) : Option (Int32 × Ar) :=
  X10_bears_b34 c_thrown c_bears v1 v2 v3 1
noncomputable def X10_bears (c_thrown : Int32) (c_bears : Ar) (v1 v2 v3 : Int32) : Option (Int32 × Ar) :=
  bnd (X10_noSquare v1 v2) <| fun r_8 => bnd (X10_throwsIf 0 r_8 1) <| un2 fun r_12 c_thrown_12 => if r_12 = 0 then (if v3 < 0 then (X10_bears_b29 c_thrown_12 c_bears v1 v2 v3) else (if v3 ≤ 1000000 then (X10_bears_b34 c_thrown_12 c_bears v1 v2 v3 0) else (X10_bears_b29 c_thrown_12 c_bears v1 v2 v3))) else (some (c_thrown_12, c_bears))
set_option maxHeartbeats 4000000 in
set_option maxRecDepth 100000 in
theorem t_X10_bears (l : Launch) (g : G9) (a_t a_bears a_cornerX a_cornerY a_corners a_what a_rowAt a_strip a_along a_rowSize a_endAt a_turns a_plan a_slantA a_slantB a_yields a_seen a_wagons a_pile a_far a_waiting a_isWaiting a_rest a_isUsed : Nat) (c_thrown c_isLaid c_head c_hasRows c_hasPlan c_rows c_slants c_capacity c_weight c_unload c_source c_bunker : Int32) (c_bears : Ar) (v1 v2 v3 o_thrown : Int32) (o_bears : Ar) (h : X10_bears c_thrown c_bears v1 v2 v3 = some (o_thrown, o_bears)) : CtV l g yX10_bears cX10_bears 4 1 22 [.ref a_t, .int v1, .int v2, .int v3] (w_X10_bears g a_t a_bears a_cornerX a_cornerY a_corners a_what a_rowAt a_strip a_along a_rowSize a_endAt a_turns a_plan a_slantA a_slantB a_yields a_seen a_wagons a_pile a_far a_waiting a_isWaiting a_rest a_isUsed c_thrown c_isLaid c_head c_hasRows c_hasPlan c_rows c_slants c_capacity c_weight c_unload c_source c_bunker c_bears) (w_X10_bears g a_t a_bears a_cornerX a_cornerY a_corners a_what a_rowAt a_strip a_along a_rowSize a_endAt a_turns a_plan a_slantA a_slantB a_yields a_seen a_wagons a_pile a_far a_waiting a_isWaiting a_rest a_isUsed o_thrown c_isLaid c_head c_hasRows c_hasPlan c_rows c_slants c_capacity c_weight c_unload c_source c_bunker o_bears) := by
  refine startV (by decide) (Nat.le_of_ble_eq_true rfl) ?_
  intro p e s m below meth c A Q ls args M hW hl ret
  have hx := M.1
  have hb := M.2.1
  have hown := M.2.2.2.1
  have hu := M.2.2.2.2.1
  have hl : lv_has ls 4 [(0, .ref a_t), (1, .int v1), (2, .int v2), (3, .int v3)] := hl
  unfold X10_bears at h
  obtain ⟨H, eH⟩ : ∃ z, z = s.heap := ⟨_, rfl⟩
  obtain ⟨locs, eL⟩ : ∃ z, z = ([] : List Loc) := ⟨_, rfl⟩
  rw [← eL] at hW ⊢
  suffices hS9 : WD g s A (w_X10_bears g a_t a_bears a_cornerX a_cornerY a_corners a_what a_rowAt a_strip a_along a_rowSize a_endAt a_turns a_plan a_slantA a_slantB a_yields a_seen a_wagons a_pile a_far a_waiting a_isWaiting a_rest a_isUsed c_thrown c_isLaid c_head c_hasRows c_hasPlan c_rows c_slants c_capacity c_weight c_unload c_source c_bunker c_bears) H locs → W p l e (rm9 1 22) s m args below meth c H locs 0 0 Q (F0 m 0 ls []) by
    rw [← eH] at hW ⊢
    exact hS9 hW
  clear hW eH eL
  intro hW
  have J34 : ∀ (c_thrown : Int32) (c_bears : Ar) (k1 : Int32) (H : Heap) (locs : List Loc) (ls : Array Slot), X10_bears_b34 c_thrown c_bears v1 v2 v3 k1 = some (o_thrown, o_bears) → WD g s A (w_X10_bears g a_t a_bears a_cornerX a_cornerY a_corners a_what a_rowAt a_strip a_along a_rowSize a_endAt a_turns a_plan a_slantA a_slantB a_yields a_seen a_wagons a_pile a_far a_waiting a_isWaiting a_rest a_isUsed c_thrown c_isLaid c_head c_hasRows c_hasPlan c_rows c_slants c_capacity c_weight c_unload c_source c_bunker c_bears) H locs → lv_has ls 4 [(0, .ref a_t), (1, .int v1), (2, .int v2), (3, .int v3)] → W p l e (rm9 1 22) s m args below meth c H locs 0 0 Q (F0 m 34 ls [.int k1, .ref a_t]) := by
    intro c_thrown c_bears k1 H locs ls h hW hl
    unfold X10_bears_b34 at h
    refine lv_iconst (pc := 34) (v := 2) hx hb (dd dX10_bears 19 rfl) (by decide) ?_
    obtain ⟨⟨r_35, c_thrown_35⟩, hr, h⟩ := bnd_ex h
    have h := un2_at h
    refine callVI (pc := 35) (na := 2) (As := [.int k1, .int 2]) (rest := []) (ws2 := (w_X10_bears g a_t a_bears a_cornerX a_cornerY a_corners a_what a_rowAt a_strip a_along a_rowSize a_endAt a_turns a_plan a_slantA a_slantB a_yields a_seen a_wagons a_pile a_far a_waiting a_isWaiting a_rest a_isUsed c_thrown_35 c_isLaid c_head c_hasRows c_hasPlan c_rows c_slants c_capacity c_weight c_unload c_source c_bunker c_bears)) M hl.1 hW (t_X10_throwsIf l g a_t a_cornerX a_cornerY a_corners a_what a_rowAt a_strip a_along a_rowSize a_endAt a_turns a_plan a_slantA a_slantB a_yields a_bears a_seen a_wagons a_pile a_far a_waiting a_isWaiting a_rest a_isUsed c_thrown c_isLaid c_head c_hasRows c_hasPlan c_rows c_slants c_capacity c_weight c_unload c_source c_bunker k1 2 r_35 c_thrown_35 hr) rfl [0] [1] [1, 0] rfl rfl rfl rfl rfl rfl rfl 0 10 rfl rfl rfl (uw5 86 rfl rfl) (uw5 83 rfl rfl) (uw5 85 rfl rfl) (uwp 41 rfl rfl) (uw1 13 rfl rfl) ⟨by decide, by decide, by decide⟩ rfl ⟨by decide, by decide⟩ (Nat.le_of_ble_eq_true rfl) ⟨Nat.zero_le _, Nat.zero_le _⟩ (dd dX10_bears 20 rfl) (fun H locs hW => ?_)
    refine lv_if_eq (pc := 38) (tgt := 42) hx hb (dd dX10_bears 21 rfl) (by decide) (fun hc => ?_) (fun hc => ?_)
    · have h := it_t hc h
      refine lv_aload_n (pc := 42) hx hb (dd dX10_bears 23 rfl) rfl (lv_at hl 0 rfl) ?_
      refine rGet (pc := 43) M hW 0 21 iU10 rfl rfl (by decide) (uw4 234 rfl rfl) rfl (dd dX10_bears 24 rfl) ?_
      refine lv_bipush (pc := 46) (v := 40) hx hb (dd dX10_bears 25 rfl) (by decide) ?_
      refine lv_iload_n (pc := 48) hx hb (dd dX10_bears 26 rfl) rfl (lv_at hl 2 rfl) ?_
      refine lv_imul (pc := 49) hx hb (dd dX10_bears 27 rfl) ?_
      refine lv_iload_n (pc := 50) hx hb (dd dX10_bears 28 rfl) rfl (lv_at hl 1 rfl) ?_
      refine lv_iadd (pc := 51) hx hb (dd dX10_bears 29 rfl) ?_
      refine lv_iload_n (pc := 52) hx hb (dd dX10_bears 30 rfl) rfl (lv_at hl 3 rfl) ?_
      obtain ⟨hi, h⟩ := ck_ex h
      obtain ⟨c_bears_53, ec_bears_53, h⟩ := nm_ex h
      refine rIast (pc := 53) M hW 1 rfl hi ec_bears_53 (ws' := (w_X10_bears g a_t a_bears a_cornerX a_cornerY a_corners a_what a_rowAt a_strip a_along a_rowSize a_endAt a_turns a_plan a_slantA a_slantB a_yields a_seen a_wagons a_pile a_far a_waiting a_isWaiting a_rest a_isUsed c_thrown_35 c_isLaid c_head c_hasRows c_hasPlan c_rows c_slants c_capacity c_weight c_unload c_source c_bunker c_bears_53)) rfl (dd dX10_bears 31 rfl) (fun H locs hW => ?_)
      have hW9 := hW
      cases h
      exact ret _ _ _ 54 hW9 (dd dX10_bears 32 rfl)
    · have h := it_f hc h
      have hW9 := hW
      cases h
      exact ret _ _ _ 41 hW9 (dd dX10_bears 22 rfl)
  have J29 : ∀ (c_thrown : Int32) (c_bears : Ar) (H : Heap) (locs : List Loc) (ls : Array Slot), X10_bears_b29 c_thrown c_bears v1 v2 v3 = some (o_thrown, o_bears) → WD g s A (w_X10_bears g a_t a_bears a_cornerX a_cornerY a_corners a_what a_rowAt a_strip a_along a_rowSize a_endAt a_turns a_plan a_slantA a_slantB a_yields a_seen a_wagons a_pile a_far a_waiting a_isWaiting a_rest a_isUsed c_thrown c_isLaid c_head c_hasRows c_hasPlan c_rows c_slants c_capacity c_weight c_unload c_source c_bunker c_bears) H locs → lv_has ls 4 [(0, .ref a_t), (1, .int v1), (2, .int v2), (3, .int v3)] → W p l e (rm9 1 22) s m args below meth c H locs 0 0 Q (F0 m 29 ls [.ref a_t]) := by
    intro c_thrown c_bears H locs ls h hW hl
    unfold X10_bears_b29 at h
    refine lv_iconst (pc := 29) (v := 1) hx hb (dd dX10_bears 16 rfl) (by decide) ?_
    refine lv_goto (pc := 30) (tgt := 34) hx hb (dd dX10_bears 17 rfl) (by decide) ?_
    exact J34 _ _ _ _ _ _ h hW (lv_sub hl [0, 1, 2, 3] rfl)
  refine lv_aload_n (pc := 0) hx hb (dd dX10_bears 0 rfl) rfl (lv_at hl 0 rfl) ?_
  refine lv_iconst (pc := 1) (v := 0) hx hb (dd dX10_bears 1 rfl) (by decide) ?_
  refine rPut (pc := 2) M hW 0 0 tyX10 tyX10_ok nmX10 iU10 rfl rfl (by decide) (uw4 213 rfl rfl) rfl rfl rfl (Nat.le_of_ble_eq_true rfl) (dd dX10_bears 2 rfl) (ws' := (w_X10_bears g a_t a_bears a_cornerX a_cornerY a_corners a_what a_rowAt a_strip a_along a_rowSize a_endAt a_turns a_plan a_slantA a_slantB a_yields a_seen a_wagons a_pile a_far a_waiting a_isWaiting a_rest a_isUsed 0 c_isLaid c_head c_hasRows c_hasPlan c_rows c_slants c_capacity c_weight c_unload c_source c_bunker c_bears)) rfl (fun H locs hW => ?_)
  refine lv_aload_n (pc := 5) hx hb (dd dX10_bears 3 rfl) rfl (lv_at hl 0 rfl) ?_
  refine lv_iload_n (pc := 6) hx hb (dd dX10_bears 4 rfl) rfl (lv_at hl 1 rfl) ?_
  refine lv_iload_n (pc := 7) hx hb (dd dX10_bears 5 rfl) rfl (lv_at hl 2 rfl) ?_
  obtain ⟨r_8, hr, h⟩ := bnd_ex h
  refine callSI (pc := 8) (na := 2) (As := [.int v1, .int v2]) (rest := [.ref a_t]) (ws2 := (w_X10_bears g a_t a_bears a_cornerX a_cornerY a_corners a_what a_rowAt a_strip a_along a_rowSize a_endAt a_turns a_plan a_slantA a_slantB a_yields a_seen a_wagons a_pile a_far a_waiting a_isWaiting a_rest a_isUsed 0 c_isLaid c_head c_hasRows c_hasPlan c_rows c_slants c_capacity c_weight c_unload c_source c_bunker c_bears)) M hl.1 hW (t_X10_noSquare l g v1 v2 r_8 hr) [] [0, 1] [0, 1] rfl rfl rfl rfl rfl rfl rfl (uw5 113 rfl rfl) (uw5 111 rfl rfl) (uw5 112 rfl rfl) (uw1 13 rfl rfl) ⟨by decide, by decide, by decide⟩ rfl ⟨by decide, by decide⟩ (Nat.le_of_ble_eq_true rfl) ⟨Nat.zero_le _, Nat.zero_le _⟩ (dd dX10_bears 6 rfl) (fun H locs hW => ?_)
  refine lv_iconst (pc := 11) (v := 1) hx hb (dd dX10_bears 7 rfl) (by decide) ?_
  obtain ⟨⟨r_12, c_thrown_12⟩, hr, h⟩ := bnd_ex h
  have h := un2_at h
  refine callVI (pc := 12) (na := 2) (As := [.int r_8, .int 1]) (rest := []) (ws2 := (w_X10_bears g a_t a_bears a_cornerX a_cornerY a_corners a_what a_rowAt a_strip a_along a_rowSize a_endAt a_turns a_plan a_slantA a_slantB a_yields a_seen a_wagons a_pile a_far a_waiting a_isWaiting a_rest a_isUsed c_thrown_12 c_isLaid c_head c_hasRows c_hasPlan c_rows c_slants c_capacity c_weight c_unload c_source c_bunker c_bears)) M hl.1 hW (t_X10_throwsIf l g a_t a_cornerX a_cornerY a_corners a_what a_rowAt a_strip a_along a_rowSize a_endAt a_turns a_plan a_slantA a_slantB a_yields a_bears a_seen a_wagons a_pile a_far a_waiting a_isWaiting a_rest a_isUsed 0 c_isLaid c_head c_hasRows c_hasPlan c_rows c_slants c_capacity c_weight c_unload c_source c_bunker r_8 1 r_12 c_thrown_12 hr) rfl [0] [1] [1, 0] rfl rfl rfl rfl rfl rfl rfl 0 10 rfl rfl rfl (uw5 86 rfl rfl) (uw5 83 rfl rfl) (uw5 85 rfl rfl) (uwp 41 rfl rfl) (uw1 13 rfl rfl) ⟨by decide, by decide, by decide⟩ rfl ⟨by decide, by decide⟩ (Nat.le_of_ble_eq_true rfl) ⟨Nat.zero_le _, Nat.zero_le _⟩ (dd dX10_bears 8 rfl) (fun H locs hW => ?_)
  refine lv_if_ne (pc := 15) (tgt := 41) hx hb (dd dX10_bears 9 rfl) (by decide) (fun hc => ?_) (fun hc => ?_)
  · have h := it_f hc h
    have hW9 := hW
    cases h
    exact ret _ _ _ 41 hW9 (dd dX10_bears 22 rfl)
  · have h := it_t hc h
    refine lv_aload_n (pc := 18) hx hb (dd dX10_bears 10 rfl) rfl (lv_at hl 0 rfl) ?_
    refine lv_iload_n (pc := 19) hx hb (dd dX10_bears 11 rfl) rfl (lv_at hl 3 rfl) ?_
    refine lv_if_lt (pc := 20) (tgt := 29) hx hb (dd dX10_bears 12 rfl) (by decide) (fun hc => ?_) (fun hc => ?_)
    · have h := it_t hc h
      exact J29 _ _ _ _ _ h hW (lv_sub hl [0, 1, 2, 3] rfl)
    · have h := it_f hc h
      refine lv_iload_n (pc := 23) hx hb (dd dX10_bears 13 rfl) rfl (lv_at hl 3 rfl) ?_
      refine lv_ldc (pc := 24) (v := 1000000) hx hb hown (hu _ (uw4 212 rfl rfl)) (dd dX10_bears 14 rfl) ?_
      refine lv_icmp_le (pc := 26) (tgt := 33) hx hb (dd dX10_bears 15 rfl) (by decide) (fun hc => ?_) (fun hc => ?_)
      · have h := it_t hc h
        refine lv_iconst (pc := 33) (v := 0) hx hb (dd dX10_bears 18 rfl) (by decide) ?_
        exact J34 _ _ _ _ _ _ h hW (lv_sub hl [0, 1, 2, 3] rfl)
      · have h := it_f hc h
        exact J29 _ _ _ _ _ h hW (lv_sub hl [0, 1, 2, 3] rfl)
abbrev w_X10_reaper (g : G9) (a_t a_cornerX a_cornerY a_corners a_what a_rowAt a_strip a_along a_rowSize a_endAt a_turns a_plan a_slantA a_slantB a_yields a_bears a_seen a_wagons a_pile a_far a_waiting a_isWaiting a_rest a_isUsed : Nat) (c_thrown c_isLaid c_head c_hasRows c_hasPlan c_rows c_slants c_capacity c_weight c_unload c_source c_bunker : Int32) : va_W := [ob a_t 10 [.int c_thrown, .ref a_cornerX, .ref a_cornerY, .ref a_corners, .ref a_what, .int c_isLaid, .int c_head, .int c_hasRows, .int c_hasPlan, .int c_rows, .ref a_rowAt, .ref a_strip, .ref a_along, .ref a_rowSize, .ref a_endAt, .ref a_turns, .ref a_plan, .ref a_slantA, .ref a_slantB, .int c_slants, .ref a_yields, .ref a_bears, .int c_capacity, .int c_weight, .int c_unload, .ref a_seen, .ref a_wagons, .ref a_pile, .ref a_far, .int c_source, .ref a_waiting, .ref a_isWaiting, .ref a_rest, .ref a_isUsed, .int c_bunker]]
noncomputable def X10_reaper_b43 (c_thrown c_capacity c_weight c_unload v1 v2 v3 k1 : Int32) : Option (Int32 × Int32 × Int32 × Int32) :=
  bnd (X10_throwsIf c_thrown k1 1) <| un2 fun r_44 c_thrown_44 => if r_44 = 0 then (some (c_thrown_44, v1, v2, v3)) else (some (c_thrown_44, c_capacity, c_weight, c_unload))
noncomputable def X10_reaper_b38 (c_thrown c_capacity c_weight c_unload v1 v2 v3 : Int32) : Option (Int32 × Int32 × Int32 × Int32) :=
  X10_reaper_b43 c_thrown c_capacity c_weight c_unload v1 v2 v3 1
noncomputable def X10_reaper (c_thrown c_capacity c_weight c_unload v1 v2 v3 : Int32) : Option (Int32 × Int32 × Int32 × Int32) :=
  if v1 < 1 then (X10_reaper_b38 0 c_capacity c_weight c_unload v1 v2 v3) else (if 100000 < v1 then (X10_reaper_b38 0 c_capacity c_weight c_unload v1 v2 v3) else (if v2 < 0 then (X10_reaper_b38 0 c_capacity c_weight c_unload v1 v2 v3) else (if 1000000 < v2 then (X10_reaper_b38 0 c_capacity c_weight c_unload v1 v2 v3) else (if v3 < 0 then (X10_reaper_b38 0 c_capacity c_weight c_unload v1 v2 v3) else (if v3 ≤ 1000 then (X10_reaper_b43 0 c_capacity c_weight c_unload v1 v2 v3 0) else (X10_reaper_b38 0 c_capacity c_weight c_unload v1 v2 v3))))))
set_option maxHeartbeats 4000000 in
set_option maxRecDepth 100000 in
theorem t_X10_reaper (l : Launch) (g : G9) (a_t a_cornerX a_cornerY a_corners a_what a_rowAt a_strip a_along a_rowSize a_endAt a_turns a_plan a_slantA a_slantB a_yields a_bears a_seen a_wagons a_pile a_far a_waiting a_isWaiting a_rest a_isUsed : Nat) (c_thrown c_isLaid c_head c_hasRows c_hasPlan c_rows c_slants c_capacity c_weight c_unload c_source c_bunker v1 v2 v3 o_thrown o_capacity o_weight o_unload : Int32) (h : X10_reaper c_thrown c_capacity c_weight c_unload v1 v2 v3 = some (o_thrown, o_capacity, o_weight, o_unload)) : CtV l g yX10_reaper cX10_reaper 4 1 22 [.ref a_t, .int v1, .int v2, .int v3] (w_X10_reaper g a_t a_cornerX a_cornerY a_corners a_what a_rowAt a_strip a_along a_rowSize a_endAt a_turns a_plan a_slantA a_slantB a_yields a_bears a_seen a_wagons a_pile a_far a_waiting a_isWaiting a_rest a_isUsed c_thrown c_isLaid c_head c_hasRows c_hasPlan c_rows c_slants c_capacity c_weight c_unload c_source c_bunker) (w_X10_reaper g a_t a_cornerX a_cornerY a_corners a_what a_rowAt a_strip a_along a_rowSize a_endAt a_turns a_plan a_slantA a_slantB a_yields a_bears a_seen a_wagons a_pile a_far a_waiting a_isWaiting a_rest a_isUsed o_thrown c_isLaid c_head c_hasRows c_hasPlan c_rows c_slants o_capacity o_weight o_unload c_source c_bunker) := by
  refine startV (by decide) (Nat.le_of_ble_eq_true rfl) ?_
  intro p e s m below meth c A Q ls args M hW hl ret
  have hx := M.1
  have hb := M.2.1
  have hown := M.2.2.2.1
  have hu := M.2.2.2.2.1
  have hl : lv_has ls 4 [(0, .ref a_t), (1, .int v1), (2, .int v2), (3, .int v3)] := hl
  unfold X10_reaper at h
  obtain ⟨H, eH⟩ : ∃ z, z = s.heap := ⟨_, rfl⟩
  obtain ⟨locs, eL⟩ : ∃ z, z = ([] : List Loc) := ⟨_, rfl⟩
  rw [← eL] at hW ⊢
  suffices hS9 : WD g s A (w_X10_reaper g a_t a_cornerX a_cornerY a_corners a_what a_rowAt a_strip a_along a_rowSize a_endAt a_turns a_plan a_slantA a_slantB a_yields a_bears a_seen a_wagons a_pile a_far a_waiting a_isWaiting a_rest a_isUsed c_thrown c_isLaid c_head c_hasRows c_hasPlan c_rows c_slants c_capacity c_weight c_unload c_source c_bunker) H locs → W p l e (rm9 1 22) s m args below meth c H locs 0 0 Q (F0 m 0 ls []) by
    rw [← eH] at hW ⊢
    exact hS9 hW
  clear hW eH eL
  intro hW
  have J43 : ∀ (c_thrown c_capacity c_weight c_unload k1 : Int32) (H : Heap) (locs : List Loc) (ls : Array Slot), X10_reaper_b43 c_thrown c_capacity c_weight c_unload v1 v2 v3 k1 = some (o_thrown, o_capacity, o_weight, o_unload) → WD g s A (w_X10_reaper g a_t a_cornerX a_cornerY a_corners a_what a_rowAt a_strip a_along a_rowSize a_endAt a_turns a_plan a_slantA a_slantB a_yields a_bears a_seen a_wagons a_pile a_far a_waiting a_isWaiting a_rest a_isUsed c_thrown c_isLaid c_head c_hasRows c_hasPlan c_rows c_slants c_capacity c_weight c_unload c_source c_bunker) H locs → lv_has ls 4 [(0, .ref a_t), (1, .int v1), (2, .int v2), (3, .int v3)] → W p l e (rm9 1 22) s m args below meth c H locs 0 0 Q (F0 m 43 ls [.int k1, .ref a_t]) := by
    intro c_thrown c_capacity c_weight c_unload k1 H locs ls h hW hl
    unfold X10_reaper_b43 at h
    refine lv_iconst (pc := 43) (v := 1) hx hb (dd dX10_reaper 23 rfl) (by decide) ?_
    obtain ⟨⟨r_44, c_thrown_44⟩, hr, h⟩ := bnd_ex h
    have h := un2_at h
    refine callVI (pc := 44) (na := 2) (As := [.int k1, .int 1]) (rest := []) (ws2 := (w_X10_reaper g a_t a_cornerX a_cornerY a_corners a_what a_rowAt a_strip a_along a_rowSize a_endAt a_turns a_plan a_slantA a_slantB a_yields a_bears a_seen a_wagons a_pile a_far a_waiting a_isWaiting a_rest a_isUsed c_thrown_44 c_isLaid c_head c_hasRows c_hasPlan c_rows c_slants c_capacity c_weight c_unload c_source c_bunker)) M hl.1 hW (t_X10_throwsIf l g a_t a_cornerX a_cornerY a_corners a_what a_rowAt a_strip a_along a_rowSize a_endAt a_turns a_plan a_slantA a_slantB a_yields a_bears a_seen a_wagons a_pile a_far a_waiting a_isWaiting a_rest a_isUsed c_thrown c_isLaid c_head c_hasRows c_hasPlan c_rows c_slants c_capacity c_weight c_unload c_source c_bunker k1 1 r_44 c_thrown_44 hr) rfl [0] [] [0] rfl rfl rfl rfl rfl rfl rfl 0 10 rfl rfl rfl (uw5 86 rfl rfl) (uw5 83 rfl rfl) (uw5 85 rfl rfl) (uwp 41 rfl rfl) (uw1 13 rfl rfl) ⟨by decide, by decide, by decide⟩ rfl ⟨by decide, by decide⟩ (Nat.le_of_ble_eq_true rfl) ⟨Nat.zero_le _, Nat.zero_le _⟩ (dd dX10_reaper 24 rfl) (fun H locs hW => ?_)
    refine lv_if_eq (pc := 47) (tgt := 51) hx hb (dd dX10_reaper 25 rfl) (by decide) (fun hc => ?_) (fun hc => ?_)
    · have h := it_t hc h
      refine lv_aload_n (pc := 51) hx hb (dd dX10_reaper 27 rfl) rfl (lv_at hl 0 rfl) ?_
      refine lv_iload_n (pc := 52) hx hb (dd dX10_reaper 28 rfl) rfl (lv_at hl 1 rfl) ?_
      refine rPut (pc := 53) M hW 0 22 tyX10 tyX10_ok nmX10 iU10 rfl rfl (by decide) (uw4 235 rfl rfl) rfl rfl rfl (Nat.le_of_ble_eq_true rfl) (dd dX10_reaper 29 rfl) (ws' := (w_X10_reaper g a_t a_cornerX a_cornerY a_corners a_what a_rowAt a_strip a_along a_rowSize a_endAt a_turns a_plan a_slantA a_slantB a_yields a_bears a_seen a_wagons a_pile a_far a_waiting a_isWaiting a_rest a_isUsed c_thrown_44 c_isLaid c_head c_hasRows c_hasPlan c_rows c_slants v1 c_weight c_unload c_source c_bunker)) rfl (fun H locs hW => ?_)
      refine lv_aload_n (pc := 56) hx hb (dd dX10_reaper 30 rfl) rfl (lv_at hl 0 rfl) ?_
      refine lv_iload_n (pc := 57) hx hb (dd dX10_reaper 31 rfl) rfl (lv_at hl 2 rfl) ?_
      refine rPut (pc := 58) M hW 0 23 tyX10 tyX10_ok nmX10 iU10 rfl rfl (by decide) (uw4 236 rfl rfl) rfl rfl rfl (Nat.le_of_ble_eq_true rfl) (dd dX10_reaper 32 rfl) (ws' := (w_X10_reaper g a_t a_cornerX a_cornerY a_corners a_what a_rowAt a_strip a_along a_rowSize a_endAt a_turns a_plan a_slantA a_slantB a_yields a_bears a_seen a_wagons a_pile a_far a_waiting a_isWaiting a_rest a_isUsed c_thrown_44 c_isLaid c_head c_hasRows c_hasPlan c_rows c_slants v1 v2 c_unload c_source c_bunker)) rfl (fun H locs hW => ?_)
      refine lv_aload_n (pc := 61) hx hb (dd dX10_reaper 33 rfl) rfl (lv_at hl 0 rfl) ?_
      refine lv_iload_n (pc := 62) hx hb (dd dX10_reaper 34 rfl) rfl (lv_at hl 3 rfl) ?_
      refine rPut (pc := 63) M hW 0 24 tyX10 tyX10_ok nmX10 iU10 rfl rfl (by decide) (uw4 237 rfl rfl) rfl rfl rfl (Nat.le_of_ble_eq_true rfl) (dd dX10_reaper 35 rfl) (ws' := (w_X10_reaper g a_t a_cornerX a_cornerY a_corners a_what a_rowAt a_strip a_along a_rowSize a_endAt a_turns a_plan a_slantA a_slantB a_yields a_bears a_seen a_wagons a_pile a_far a_waiting a_isWaiting a_rest a_isUsed c_thrown_44 c_isLaid c_head c_hasRows c_hasPlan c_rows c_slants v1 v2 v3 c_source c_bunker)) rfl (fun H locs hW => ?_)
      have hW9 := hW
      cases h
      exact ret _ _ _ 66 hW9 (dd dX10_reaper 36 rfl)
    · have h := it_f hc h
      have hW9 := hW
      cases h
      exact ret _ _ _ 50 hW9 (dd dX10_reaper 26 rfl)
  have J38 : ∀ (c_thrown c_capacity c_weight c_unload : Int32) (H : Heap) (locs : List Loc) (ls : Array Slot), X10_reaper_b38 c_thrown c_capacity c_weight c_unload v1 v2 v3 = some (o_thrown, o_capacity, o_weight, o_unload) → WD g s A (w_X10_reaper g a_t a_cornerX a_cornerY a_corners a_what a_rowAt a_strip a_along a_rowSize a_endAt a_turns a_plan a_slantA a_slantB a_yields a_bears a_seen a_wagons a_pile a_far a_waiting a_isWaiting a_rest a_isUsed c_thrown c_isLaid c_head c_hasRows c_hasPlan c_rows c_slants c_capacity c_weight c_unload c_source c_bunker) H locs → lv_has ls 4 [(0, .ref a_t), (1, .int v1), (2, .int v2), (3, .int v3)] → W p l e (rm9 1 22) s m args below meth c H locs 0 0 Q (F0 m 38 ls [.ref a_t]) := by
    intro c_thrown c_capacity c_weight c_unload H locs ls h hW hl
    unfold X10_reaper_b38 at h
    refine lv_iconst (pc := 38) (v := 1) hx hb (dd dX10_reaper 20 rfl) (by decide) ?_
    refine lv_goto (pc := 39) (tgt := 43) hx hb (dd dX10_reaper 21 rfl) (by decide) ?_
    exact J43 _ _ _ _ _ _ _ _ h hW (lv_sub hl [0, 1, 2, 3] rfl)
  refine lv_aload_n (pc := 0) hx hb (dd dX10_reaper 0 rfl) rfl (lv_at hl 0 rfl) ?_
  refine lv_iconst (pc := 1) (v := 0) hx hb (dd dX10_reaper 1 rfl) (by decide) ?_
  refine rPut (pc := 2) M hW 0 0 tyX10 tyX10_ok nmX10 iU10 rfl rfl (by decide) (uw4 213 rfl rfl) rfl rfl rfl (Nat.le_of_ble_eq_true rfl) (dd dX10_reaper 2 rfl) (ws' := (w_X10_reaper g a_t a_cornerX a_cornerY a_corners a_what a_rowAt a_strip a_along a_rowSize a_endAt a_turns a_plan a_slantA a_slantB a_yields a_bears a_seen a_wagons a_pile a_far a_waiting a_isWaiting a_rest a_isUsed 0 c_isLaid c_head c_hasRows c_hasPlan c_rows c_slants c_capacity c_weight c_unload c_source c_bunker)) rfl (fun H locs hW => ?_)
  refine lv_aload_n (pc := 5) hx hb (dd dX10_reaper 3 rfl) rfl (lv_at hl 0 rfl) ?_
  refine lv_iload_n (pc := 6) hx hb (dd dX10_reaper 4 rfl) rfl (lv_at hl 1 rfl) ?_
  refine lv_iconst (pc := 7) (v := 1) hx hb (dd dX10_reaper 5 rfl) (by decide) ?_
  refine lv_icmp_lt (pc := 8) (tgt := 38) hx hb (dd dX10_reaper 6 rfl) (by decide) (fun hc => ?_) (fun hc => ?_)
  · have h := it_t hc h
    exact J38 _ _ _ _ _ _ _ h hW (lv_sub hl [0, 1, 2, 3] rfl)
  · have h := it_f hc h
    refine lv_iload_n (pc := 11) hx hb (dd dX10_reaper 7 rfl) rfl (lv_at hl 1 rfl) ?_
    refine lv_ldc (pc := 12) (v := 100000) hx hb hown (hu _ (uw6 16 rfl rfl)) (dd dX10_reaper 8 rfl) ?_
    refine lv_icmp_gt (pc := 14) (tgt := 38) hx hb (dd dX10_reaper 9 rfl) (by decide) (fun hc => ?_) (fun hc => ?_)
    · have h := it_t hc h
      exact J38 _ _ _ _ _ _ _ h hW (lv_sub hl [0, 1, 2, 3] rfl)
    · have h := it_f hc h
      refine lv_iload_n (pc := 17) hx hb (dd dX10_reaper 10 rfl) rfl (lv_at hl 2 rfl) ?_
      refine lv_if_lt (pc := 18) (tgt := 38) hx hb (dd dX10_reaper 11 rfl) (by decide) (fun hc => ?_) (fun hc => ?_)
      · have h := it_t hc h
        exact J38 _ _ _ _ _ _ _ h hW (lv_sub hl [0, 1, 2, 3] rfl)
      · have h := it_f hc h
        refine lv_iload_n (pc := 21) hx hb (dd dX10_reaper 12 rfl) rfl (lv_at hl 2 rfl) ?_
        refine lv_ldc (pc := 22) (v := 1000000) hx hb hown (hu _ (uw4 212 rfl rfl)) (dd dX10_reaper 13 rfl) ?_
        refine lv_icmp_gt (pc := 24) (tgt := 38) hx hb (dd dX10_reaper 14 rfl) (by decide) (fun hc => ?_) (fun hc => ?_)
        · have h := it_t hc h
          exact J38 _ _ _ _ _ _ _ h hW (lv_sub hl [0, 1, 2, 3] rfl)
        · have h := it_f hc h
          refine lv_iload_n (pc := 27) hx hb (dd dX10_reaper 15 rfl) rfl (lv_at hl 3 rfl) ?_
          refine lv_if_lt (pc := 28) (tgt := 38) hx hb (dd dX10_reaper 16 rfl) (by decide) (fun hc => ?_) (fun hc => ?_)
          · have h := it_t hc h
            exact J38 _ _ _ _ _ _ _ h hW (lv_sub hl [0, 1, 2, 3] rfl)
          · have h := it_f hc h
            refine lv_iload_n (pc := 31) hx hb (dd dX10_reaper 17 rfl) rfl (lv_at hl 3 rfl) ?_
            refine lv_sipush (pc := 32) (v := 1000) hx hb (dd dX10_reaper 18 rfl) (by decide) ?_
            refine lv_icmp_le (pc := 35) (tgt := 42) hx hb (dd dX10_reaper 19 rfl) (by decide) (fun hc => ?_) (fun hc => ?_)
            · have h := it_t hc h
              refine lv_iconst (pc := 42) (v := 0) hx hb (dd dX10_reaper 22 rfl) (by decide) ?_
              exact J43 _ _ _ _ _ _ _ _ h hW (lv_sub hl [0, 1, 2, 3] rfl)
            · have h := it_f hc h
              exact J38 _ _ _ _ _ _ _ h hW (lv_sub hl [0, 1, 2, 3] rfl)
abbrev w_X10_look (g : G9) (a_t a_seen a_cornerX a_cornerY a_corners a_what a_rowAt a_strip a_along a_rowSize a_endAt a_turns a_plan a_slantA a_slantB a_yields a_bears a_wagons a_pile a_far a_waiting a_isWaiting a_rest a_isUsed : Nat) (c_thrown c_isLaid c_head c_hasRows c_hasPlan c_rows c_slants c_capacity c_weight c_unload c_source c_bunker : Int32) (c_seen : Ar) : va_W := [ob a_t 10 [.int c_thrown, .ref a_cornerX, .ref a_cornerY, .ref a_corners, .ref a_what, .int c_isLaid, .int c_head, .int c_hasRows, .int c_hasPlan, .int c_rows, .ref a_rowAt, .ref a_strip, .ref a_along, .ref a_rowSize, .ref a_endAt, .ref a_turns, .ref a_plan, .ref a_slantA, .ref a_slantB, .int c_slants, .ref a_yields, .ref a_bears, .int c_capacity, .int c_weight, .int c_unload, .ref a_seen, .ref a_wagons, .ref a_pile, .ref a_far, .int c_source, .ref a_waiting, .ref a_isWaiting, .ref a_rest, .ref a_isUsed, .int c_bunker], ia g a_seen 8 c_seen]
noncomputable def X10_look_b21 (c_thrown : Int32) (c_seen : Ar) (v1 k1 : Int32) : Option (Int32 × Int32) :=
  bnd (X10_throwsIf c_thrown k1 1) <| un2 fun r_22 c_thrown_22 => if r_22 = 0 then (ck (ix v1 8) <| some ((ag c_seen v1), c_thrown_22)) else (some (0, c_thrown_22))
noncomputable def X10_look_b16 (c_thrown : Int32) (c_seen : Ar) (v1 : Int32) : Option (Int32 × Int32) :=
  X10_look_b21 c_thrown c_seen v1 1
noncomputable def X10_look (c_thrown : Int32) (c_seen : Ar) (v1 : Int32) : Option (Int32 × Int32) :=
  if v1 < 0 then (X10_look_b16 0 c_seen v1) else (if v1 ≤ 7 then (X10_look_b21 0 c_seen v1 0) else (X10_look_b16 0 c_seen v1))
set_option maxHeartbeats 4000000 in
set_option maxRecDepth 100000 in
theorem t_X10_look (l : Launch) (g : G9) (a_t a_seen a_cornerX a_cornerY a_corners a_what a_rowAt a_strip a_along a_rowSize a_endAt a_turns a_plan a_slantA a_slantB a_yields a_bears a_wagons a_pile a_far a_waiting a_isWaiting a_rest a_isUsed : Nat) (c_thrown c_isLaid c_head c_hasRows c_hasPlan c_rows c_slants c_capacity c_weight c_unload c_source c_bunker : Int32) (c_seen : Ar) (v1 r0 o_thrown : Int32) (h : X10_look c_thrown c_seen v1 = some (r0, o_thrown)) : CtI l g yX10_look cX10_look 2 .int 1 22 [.ref a_t, .int v1] (w_X10_look g a_t a_seen a_cornerX a_cornerY a_corners a_what a_rowAt a_strip a_along a_rowSize a_endAt a_turns a_plan a_slantA a_slantB a_yields a_bears a_wagons a_pile a_far a_waiting a_isWaiting a_rest a_isUsed c_thrown c_isLaid c_head c_hasRows c_hasPlan c_rows c_slants c_capacity c_weight c_unload c_source c_bunker c_seen) r0 (w_X10_look g a_t a_seen a_cornerX a_cornerY a_corners a_what a_rowAt a_strip a_along a_rowSize a_endAt a_turns a_plan a_slantA a_slantB a_yields a_bears a_wagons a_pile a_far a_waiting a_isWaiting a_rest a_isUsed o_thrown c_isLaid c_head c_hasRows c_hasPlan c_rows c_slants c_capacity c_weight c_unload c_source c_bunker c_seen) := by
  refine startI (by decide) (Nat.le_of_ble_eq_true rfl) ?_
  intro p e s m below meth c A Q ls args M hW hl ret
  have hx := M.1
  have hb := M.2.1
  have hown := M.2.2.2.1
  have hu := M.2.2.2.2.1
  have hl : lv_has ls 2 [(0, .ref a_t), (1, .int v1)] := hl
  unfold X10_look at h
  obtain ⟨H, eH⟩ : ∃ z, z = s.heap := ⟨_, rfl⟩
  obtain ⟨locs, eL⟩ : ∃ z, z = ([] : List Loc) := ⟨_, rfl⟩
  rw [← eL] at hW ⊢
  suffices hS9 : WD g s A (w_X10_look g a_t a_seen a_cornerX a_cornerY a_corners a_what a_rowAt a_strip a_along a_rowSize a_endAt a_turns a_plan a_slantA a_slantB a_yields a_bears a_wagons a_pile a_far a_waiting a_isWaiting a_rest a_isUsed c_thrown c_isLaid c_head c_hasRows c_hasPlan c_rows c_slants c_capacity c_weight c_unload c_source c_bunker c_seen) H locs → W p l e (rm9 1 22) s m args below meth c H locs 0 0 Q (F0 m 0 ls []) by
    rw [← eH] at hW ⊢
    exact hS9 hW
  clear hW eH eL
  intro hW
  have J21 : ∀ (c_thrown k1 : Int32) (H : Heap) (locs : List Loc) (ls : Array Slot), X10_look_b21 c_thrown c_seen v1 k1 = some (r0, o_thrown) → WD g s A (w_X10_look g a_t a_seen a_cornerX a_cornerY a_corners a_what a_rowAt a_strip a_along a_rowSize a_endAt a_turns a_plan a_slantA a_slantB a_yields a_bears a_wagons a_pile a_far a_waiting a_isWaiting a_rest a_isUsed c_thrown c_isLaid c_head c_hasRows c_hasPlan c_rows c_slants c_capacity c_weight c_unload c_source c_bunker c_seen) H locs → lv_has ls 2 [(0, .ref a_t), (1, .int v1)] → W p l e (rm9 1 22) s m args below meth c H locs 0 0 Q (F0 m 21 ls [.int k1, .ref a_t]) := by
    intro c_thrown k1 H locs ls h hW hl
    unfold X10_look_b21 at h
    refine lv_iconst (pc := 21) (v := 1) hx hb (dd dX10_look 12 rfl) (by decide) ?_
    obtain ⟨⟨r_22, c_thrown_22⟩, hr, h⟩ := bnd_ex h
    have h := un2_at h
    refine callVI (pc := 22) (na := 2) (As := [.int k1, .int 1]) (rest := []) (ws2 := (w_X10_look g a_t a_seen a_cornerX a_cornerY a_corners a_what a_rowAt a_strip a_along a_rowSize a_endAt a_turns a_plan a_slantA a_slantB a_yields a_bears a_wagons a_pile a_far a_waiting a_isWaiting a_rest a_isUsed c_thrown_22 c_isLaid c_head c_hasRows c_hasPlan c_rows c_slants c_capacity c_weight c_unload c_source c_bunker c_seen)) M hl.1 hW (t_X10_throwsIf l g a_t a_cornerX a_cornerY a_corners a_what a_rowAt a_strip a_along a_rowSize a_endAt a_turns a_plan a_slantA a_slantB a_yields a_bears a_seen a_wagons a_pile a_far a_waiting a_isWaiting a_rest a_isUsed c_thrown c_isLaid c_head c_hasRows c_hasPlan c_rows c_slants c_capacity c_weight c_unload c_source c_bunker k1 1 r_22 c_thrown_22 hr) rfl [0] [1] [1, 0] rfl rfl rfl rfl rfl rfl rfl 0 10 rfl rfl rfl (uw5 86 rfl rfl) (uw5 83 rfl rfl) (uw5 85 rfl rfl) (uwp 41 rfl rfl) (uw1 13 rfl rfl) ⟨by decide, by decide, by decide⟩ rfl ⟨by decide, by decide⟩ (Nat.le_of_ble_eq_true rfl) ⟨Nat.zero_le _, Nat.zero_le _⟩ (dd dX10_look 13 rfl) (fun H locs hW => ?_)
    refine lv_if_eq (pc := 25) (tgt := 32) hx hb (dd dX10_look 14 rfl) (by decide) (fun hc => ?_) (fun hc => ?_)
    · have h := it_t hc h
      refine lv_aload_n (pc := 32) hx hb (dd dX10_look 17 rfl) rfl (lv_at hl 0 rfl) ?_
      refine rGet (pc := 33) M hW 0 25 iU10 rfl rfl (by decide) (uw4 238 rfl rfl) rfl (dd dX10_look 18 rfl) ?_
      refine lv_iload_n (pc := 36) hx hb (dd dX10_look 19 rfl) rfl (lv_at hl 1 rfl) ?_
      obtain ⟨hi, h⟩ := ck_ex h
      refine rIald (pc := 37) M hW 1 rfl hi (dd dX10_look 20 rfl) ?_
      have hW9 := hW
      cases h
      exact ret _ _ _ 38 hW9 rfl (dd dX10_look 21 rfl)
    · have h := it_f hc h
      refine lv_iconst (pc := 28) (v := 0) hx hb (dd dX10_look 15 rfl) (by decide) ?_
      refine lv_goto (pc := 29) (tgt := 38) hx hb (dd dX10_look 16 rfl) (by decide) ?_
      have hW9 := hW
      cases h
      exact ret _ _ _ 38 hW9 rfl (dd dX10_look 21 rfl)
  have J16 : ∀ (c_thrown : Int32) (H : Heap) (locs : List Loc) (ls : Array Slot), X10_look_b16 c_thrown c_seen v1 = some (r0, o_thrown) → WD g s A (w_X10_look g a_t a_seen a_cornerX a_cornerY a_corners a_what a_rowAt a_strip a_along a_rowSize a_endAt a_turns a_plan a_slantA a_slantB a_yields a_bears a_wagons a_pile a_far a_waiting a_isWaiting a_rest a_isUsed c_thrown c_isLaid c_head c_hasRows c_hasPlan c_rows c_slants c_capacity c_weight c_unload c_source c_bunker c_seen) H locs → lv_has ls 2 [(0, .ref a_t), (1, .int v1)] → W p l e (rm9 1 22) s m args below meth c H locs 0 0 Q (F0 m 16 ls [.ref a_t]) := by
    intro c_thrown H locs ls h hW hl
    unfold X10_look_b16 at h
    refine lv_iconst (pc := 16) (v := 1) hx hb (dd dX10_look 9 rfl) (by decide) ?_
    refine lv_goto (pc := 17) (tgt := 21) hx hb (dd dX10_look 10 rfl) (by decide) ?_
    exact J21 _ _ _ _ _ h hW (lv_sub hl [0, 1] rfl)
  refine lv_aload_n (pc := 0) hx hb (dd dX10_look 0 rfl) rfl (lv_at hl 0 rfl) ?_
  refine lv_iconst (pc := 1) (v := 0) hx hb (dd dX10_look 1 rfl) (by decide) ?_
  refine rPut (pc := 2) M hW 0 0 tyX10 tyX10_ok nmX10 iU10 rfl rfl (by decide) (uw4 213 rfl rfl) rfl rfl rfl (Nat.le_of_ble_eq_true rfl) (dd dX10_look 2 rfl) (ws' := (w_X10_look g a_t a_seen a_cornerX a_cornerY a_corners a_what a_rowAt a_strip a_along a_rowSize a_endAt a_turns a_plan a_slantA a_slantB a_yields a_bears a_wagons a_pile a_far a_waiting a_isWaiting a_rest a_isUsed 0 c_isLaid c_head c_hasRows c_hasPlan c_rows c_slants c_capacity c_weight c_unload c_source c_bunker c_seen)) rfl (fun H locs hW => ?_)
  refine lv_aload_n (pc := 5) hx hb (dd dX10_look 3 rfl) rfl (lv_at hl 0 rfl) ?_
  refine lv_iload_n (pc := 6) hx hb (dd dX10_look 4 rfl) rfl (lv_at hl 1 rfl) ?_
  refine lv_if_lt (pc := 7) (tgt := 16) hx hb (dd dX10_look 5 rfl) (by decide) (fun hc => ?_) (fun hc => ?_)
  · have h := it_t hc h
    exact J16 _ _ _ _ h hW (lv_sub hl [0, 1] rfl)
  · have h := it_f hc h
    refine lv_iload_n (pc := 10) hx hb (dd dX10_look 6 rfl) rfl (lv_at hl 1 rfl) ?_
    refine lv_bipush (pc := 11) (v := 7) hx hb (dd dX10_look 7 rfl) (by decide) ?_
    refine lv_icmp_le (pc := 13) (tgt := 20) hx hb (dd dX10_look 8 rfl) (by decide) (fun hc => ?_) (fun hc => ?_)
    · have h := it_t hc h
      refine lv_iconst (pc := 20) (v := 0) hx hb (dd dX10_look 11 rfl) (by decide) ?_
      exact J21 _ _ _ _ _ h hW (lv_sub hl [0, 1] rfl)
    · have h := it_f hc h
      exact J16 _ _ _ _ h hW (lv_sub hl [0, 1] rfl)
abbrev w_X10_wagon (g : G9) (a_t a_seen a_wagons a_cornerX a_cornerY a_corners a_what a_rowAt a_strip a_along a_rowSize a_endAt a_turns a_plan a_slantA a_slantB a_yields a_bears a_pile a_far a_waiting a_isWaiting a_rest a_isUsed : Nat) (c_thrown c_isLaid c_head c_hasRows c_hasPlan c_rows c_slants c_capacity c_weight c_unload c_source c_bunker : Int32) (c_seen c_wagons : Ar) : va_W := [ob a_t 10 [.int c_thrown, .ref a_cornerX, .ref a_cornerY, .ref a_corners, .ref a_what, .int c_isLaid, .int c_head, .int c_hasRows, .int c_hasPlan, .int c_rows, .ref a_rowAt, .ref a_strip, .ref a_along, .ref a_rowSize, .ref a_endAt, .ref a_turns, .ref a_plan, .ref a_slantA, .ref a_slantB, .int c_slants, .ref a_yields, .ref a_bears, .int c_capacity, .int c_weight, .int c_unload, .ref a_seen, .ref a_wagons, .ref a_pile, .ref a_far, .int c_source, .ref a_waiting, .ref a_isWaiting, .ref a_rest, .ref a_isUsed, .int c_bunker], ia g a_seen 8 c_seen, ia g a_wagons 1200 c_wagons]
noncomputable def X10_wagon_b19 (c_thrown : Int32) : Option (Int32 × Int32) :=
  some ((-1), c_thrown)
noncomputable def X10_wagon (c_thrown : Int32) (c_seen c_wagons : Ar) (v1 : Int32) : Option (Int32 × Int32) :=
  if v1 < 0 then (X10_wagon_b19 0) else (ck (ix 4 8) <| if v1 < (ag c_seen 4) then (ck (ix v1 1200) <| some ((ag c_wagons v1), 0)) else (X10_wagon_b19 0))
set_option maxHeartbeats 4000000 in
set_option maxRecDepth 100000 in
theorem t_X10_wagon (l : Launch) (g : G9) (a_t a_seen a_wagons a_cornerX a_cornerY a_corners a_what a_rowAt a_strip a_along a_rowSize a_endAt a_turns a_plan a_slantA a_slantB a_yields a_bears a_pile a_far a_waiting a_isWaiting a_rest a_isUsed : Nat) (c_thrown c_isLaid c_head c_hasRows c_hasPlan c_rows c_slants c_capacity c_weight c_unload c_source c_bunker : Int32) (c_seen c_wagons : Ar) (v1 r0 o_thrown : Int32) (h : X10_wagon c_thrown c_seen c_wagons v1 = some (r0, o_thrown)) : CtI l g yX10_wagon cX10_wagon 2 .int 0 0 [.ref a_t, .int v1] (w_X10_wagon g a_t a_seen a_wagons a_cornerX a_cornerY a_corners a_what a_rowAt a_strip a_along a_rowSize a_endAt a_turns a_plan a_slantA a_slantB a_yields a_bears a_pile a_far a_waiting a_isWaiting a_rest a_isUsed c_thrown c_isLaid c_head c_hasRows c_hasPlan c_rows c_slants c_capacity c_weight c_unload c_source c_bunker c_seen c_wagons) r0 (w_X10_wagon g a_t a_seen a_wagons a_cornerX a_cornerY a_corners a_what a_rowAt a_strip a_along a_rowSize a_endAt a_turns a_plan a_slantA a_slantB a_yields a_bears a_pile a_far a_waiting a_isWaiting a_rest a_isUsed o_thrown c_isLaid c_head c_hasRows c_hasPlan c_rows c_slants c_capacity c_weight c_unload c_source c_bunker c_seen c_wagons) := by
  refine startI (by decide) (Nat.le_of_ble_eq_true rfl) ?_
  intro p e s m below meth c A Q ls args M hW hl ret
  have hx := M.1
  have hb := M.2.1
  have hown := M.2.2.2.1
  have hu := M.2.2.2.2.1
  have hl : lv_has ls 2 [(0, .ref a_t), (1, .int v1)] := hl
  unfold X10_wagon at h
  obtain ⟨H, eH⟩ : ∃ z, z = s.heap := ⟨_, rfl⟩
  obtain ⟨locs, eL⟩ : ∃ z, z = ([] : List Loc) := ⟨_, rfl⟩
  rw [← eL] at hW ⊢
  suffices hS9 : WD g s A (w_X10_wagon g a_t a_seen a_wagons a_cornerX a_cornerY a_corners a_what a_rowAt a_strip a_along a_rowSize a_endAt a_turns a_plan a_slantA a_slantB a_yields a_bears a_pile a_far a_waiting a_isWaiting a_rest a_isUsed c_thrown c_isLaid c_head c_hasRows c_hasPlan c_rows c_slants c_capacity c_weight c_unload c_source c_bunker c_seen c_wagons) H locs → W p l e (rm9 0 0) s m args below meth c H locs 0 0 Q (F0 m 0 ls []) by
    rw [← eH] at hW ⊢
    exact hS9 hW
  clear hW eH eL
  intro hW
  have J19 : ∀ (c_thrown : Int32) (H : Heap) (locs : List Loc) (ls : Array Slot), X10_wagon_b19 c_thrown = some (r0, o_thrown) → WD g s A (w_X10_wagon g a_t a_seen a_wagons a_cornerX a_cornerY a_corners a_what a_rowAt a_strip a_along a_rowSize a_endAt a_turns a_plan a_slantA a_slantB a_yields a_bears a_pile a_far a_waiting a_isWaiting a_rest a_isUsed c_thrown c_isLaid c_head c_hasRows c_hasPlan c_rows c_slants c_capacity c_weight c_unload c_source c_bunker c_seen c_wagons) H locs → lv_has ls 2 [] → W p l e (rm9 0 0) s m args below meth c H locs 0 0 Q (F0 m 19 ls []) := by
    intro c_thrown H locs ls h hW hl
    unfold X10_wagon_b19 at h
    refine lv_iconst (pc := 19) (v := (-1)) hx hb (dd dX10_wagon 11 rfl) (by decide) ?_
    refine lv_goto (pc := 20) (tgt := 29) hx hb (dd dX10_wagon 12 rfl) (by decide) ?_
    have hW9 := hW
    cases h
    exact ret _ _ _ 29 hW9 rfl (dd dX10_wagon 17 rfl)
  refine lv_aload_n (pc := 0) hx hb (dd dX10_wagon 0 rfl) rfl (lv_at hl 0 rfl) ?_
  refine lv_iconst (pc := 1) (v := 0) hx hb (dd dX10_wagon 1 rfl) (by decide) ?_
  refine rPut (pc := 2) M hW 0 0 tyX10 tyX10_ok nmX10 iU10 rfl rfl (by decide) (uw4 213 rfl rfl) rfl rfl rfl (Nat.le_of_ble_eq_true rfl) (dd dX10_wagon 2 rfl) (ws' := (w_X10_wagon g a_t a_seen a_wagons a_cornerX a_cornerY a_corners a_what a_rowAt a_strip a_along a_rowSize a_endAt a_turns a_plan a_slantA a_slantB a_yields a_bears a_pile a_far a_waiting a_isWaiting a_rest a_isUsed 0 c_isLaid c_head c_hasRows c_hasPlan c_rows c_slants c_capacity c_weight c_unload c_source c_bunker c_seen c_wagons)) rfl (fun H locs hW => ?_)
  refine lv_iload_n (pc := 5) hx hb (dd dX10_wagon 3 rfl) rfl (lv_at hl 1 rfl) ?_
  refine lv_if_lt (pc := 6) (tgt := 19) hx hb (dd dX10_wagon 4 rfl) (by decide) (fun hc => ?_) (fun hc => ?_)
  · have h := it_t hc h
    exact J19 _ _ _ _ h hW (lv_sub hl [] rfl)
  · have h := it_f hc h
    refine lv_iload_n (pc := 9) hx hb (dd dX10_wagon 5 rfl) rfl (lv_at hl 1 rfl) ?_
    refine lv_aload_n (pc := 10) hx hb (dd dX10_wagon 6 rfl) rfl (lv_at hl 0 rfl) ?_
    refine rGet (pc := 11) M hW 0 25 iU10 rfl rfl (by decide) (uw4 238 rfl rfl) rfl (dd dX10_wagon 7 rfl) ?_
    refine lv_iconst (pc := 14) (v := 4) hx hb (dd dX10_wagon 8 rfl) (by decide) ?_
    obtain ⟨hi, h⟩ := ck_ex h
    refine rIald (pc := 15) M hW 1 rfl hi (dd dX10_wagon 9 rfl) ?_
    refine lv_icmp_lt (pc := 16) (tgt := 23) hx hb (dd dX10_wagon 10 rfl) (by decide) (fun hc => ?_) (fun hc => ?_)
    · have h := it_t hc h
      refine lv_aload_n (pc := 23) hx hb (dd dX10_wagon 13 rfl) rfl (lv_at hl 0 rfl) ?_
      refine rGet (pc := 24) M hW 0 26 iU10 rfl rfl (by decide) (uw4 239 rfl rfl) rfl (dd dX10_wagon 14 rfl) ?_
      refine lv_iload_n (pc := 27) hx hb (dd dX10_wagon 15 rfl) rfl (lv_at hl 1 rfl) ?_
      obtain ⟨hi, h⟩ := ck_ex h
      refine rIald (pc := 28) M hW 2 rfl hi (dd dX10_wagon 16 rfl) ?_
      have hW9 := hW
      cases h
      exact ret _ _ _ 29 hW9 rfl (dd dX10_wagon 17 rfl)
    · have h := it_f hc h
      exact J19 _ _ _ _ h hW (lv_sub hl [] rfl)
abbrev w_X10_count (g : G9) (a_t a_what a_cornerX a_cornerY a_corners a_rowAt a_strip a_along a_rowSize a_endAt a_turns a_plan a_slantA a_slantB a_yields a_bears a_seen a_wagons a_pile a_far a_waiting a_isWaiting a_rest a_isUsed : Nat) (c_thrown c_isLaid c_head c_hasRows c_hasPlan c_rows c_slants c_capacity c_weight c_unload c_source c_bunker : Int32) (c_what : Ar) : va_W := [ob a_t 10 [.int c_thrown, .ref a_cornerX, .ref a_cornerY, .ref a_corners, .ref a_what, .int c_isLaid, .int c_head, .int c_hasRows, .int c_hasPlan, .int c_rows, .ref a_rowAt, .ref a_strip, .ref a_along, .ref a_rowSize, .ref a_endAt, .ref a_turns, .ref a_plan, .ref a_slantA, .ref a_slantB, .int c_slants, .ref a_yields, .ref a_bears, .int c_capacity, .int c_weight, .int c_unload, .ref a_seen, .ref a_wagons, .ref a_pile, .ref a_far, .int c_source, .ref a_waiting, .ref a_isWaiting, .ref a_rest, .ref a_isUsed, .int c_bunker], ia g a_what 1200 c_what]
noncomputable def X10_count (c_thrown c_isLaid c_head c_hasRows c_hasPlan c_rows c_slants : Int32) (c_what : Ar) (v1 : Int32) : Option (Int32 × Int32) :=
  (if v1 = 0 then (if c_isLaid = 0 then (some (0, 0)) else (some (1, 0))) else (if v1 = 1 then (if c_isLaid = 0 then (some (0, 0)) else (bnd (X10_counts c_what 0) <| fun r_77 => some ((1200 - r_77), 0))) else (if v1 = 2 then (if c_isLaid = 0 then (some (0, 0)) else (bnd (X10_counts c_what 1) <| fun r_95 => some (r_95, 0))) else (if v1 = 3 then (if c_isLaid = 0 then (some (0, 0)) else (bnd (X10_counts c_what 2) <| fun r_112 => some (r_112, 0))) else (if v1 = 4 then (if c_hasRows = 0 then (some (0, 0)) else (some (c_rows, 0))) else (if v1 = 5 then (if c_hasPlan = 0 then (some (0, 0)) else (some (1, 0))) else (if v1 = 6 then (some (c_slants, 0)) else (if v1 = 7 then (if c_isLaid = 0 then (some (0, 0)) else (some (c_head, 0))) else (some ((-1), 0))))))))))
set_option maxHeartbeats 4000000 in
set_option maxRecDepth 100000 in
theorem t_X10_count (l : Launch) (g : G9) (a_t a_what a_cornerX a_cornerY a_corners a_rowAt a_strip a_along a_rowSize a_endAt a_turns a_plan a_slantA a_slantB a_yields a_bears a_seen a_wagons a_pile a_far a_waiting a_isWaiting a_rest a_isUsed : Nat) (c_thrown c_isLaid c_head c_hasRows c_hasPlan c_rows c_slants c_capacity c_weight c_unload c_source c_bunker : Int32) (c_what : Ar) (v1 r0 o_thrown : Int32) (h : X10_count c_thrown c_isLaid c_head c_hasRows c_hasPlan c_rows c_slants c_what v1 = some (r0, o_thrown)) : CtI l g yX10_count cX10_count 2 .int 1 23 [.ref a_t, .int v1] (w_X10_count g a_t a_what a_cornerX a_cornerY a_corners a_rowAt a_strip a_along a_rowSize a_endAt a_turns a_plan a_slantA a_slantB a_yields a_bears a_seen a_wagons a_pile a_far a_waiting a_isWaiting a_rest a_isUsed c_thrown c_isLaid c_head c_hasRows c_hasPlan c_rows c_slants c_capacity c_weight c_unload c_source c_bunker c_what) r0 (w_X10_count g a_t a_what a_cornerX a_cornerY a_corners a_rowAt a_strip a_along a_rowSize a_endAt a_turns a_plan a_slantA a_slantB a_yields a_bears a_seen a_wagons a_pile a_far a_waiting a_isWaiting a_rest a_isUsed o_thrown c_isLaid c_head c_hasRows c_hasPlan c_rows c_slants c_capacity c_weight c_unload c_source c_bunker c_what) := by
  refine startI (by decide) (Nat.le_of_ble_eq_true rfl) ?_
  intro p e s m below meth c A Q ls args M hW hl ret
  have hx := M.1
  have hb := M.2.1
  have hown := M.2.2.2.1
  have hu := M.2.2.2.2.1
  have hl : lv_has ls 2 [(0, .ref a_t), (1, .int v1)] := hl
  unfold X10_count at h
  obtain ⟨H, eH⟩ : ∃ z, z = s.heap := ⟨_, rfl⟩
  obtain ⟨locs, eL⟩ : ∃ z, z = ([] : List Loc) := ⟨_, rfl⟩
  rw [← eL] at hW ⊢
  suffices hS9 : WD g s A (w_X10_count g a_t a_what a_cornerX a_cornerY a_corners a_rowAt a_strip a_along a_rowSize a_endAt a_turns a_plan a_slantA a_slantB a_yields a_bears a_seen a_wagons a_pile a_far a_waiting a_isWaiting a_rest a_isUsed c_thrown c_isLaid c_head c_hasRows c_hasPlan c_rows c_slants c_capacity c_weight c_unload c_source c_bunker c_what) H locs → W p l e (rm9 1 23) s m args below meth c H locs 0 0 Q (F0 m 0 ls []) by
    rw [← eH] at hW ⊢
    exact hS9 hW
  clear hW eH eL
  intro hW
  refine lv_aload_n (pc := 0) hx hb (dd dX10_count_p0 0 rfl) rfl (lv_at hl 0 rfl) ?_
  refine lv_iconst (pc := 1) (v := 0) hx hb (dd dX10_count_p0 1 rfl) (by decide) ?_
  refine rPut (pc := 2) M hW 0 0 tyX10 tyX10_ok nmX10 iU10 rfl rfl (by decide) (uw4 213 rfl rfl) rfl rfl rfl (Nat.le_of_ble_eq_true rfl) (dd dX10_count_p0 2 rfl) (ws' := (w_X10_count g a_t a_what a_cornerX a_cornerY a_corners a_rowAt a_strip a_along a_rowSize a_endAt a_turns a_plan a_slantA a_slantB a_yields a_bears a_seen a_wagons a_pile a_far a_waiting a_isWaiting a_rest a_isUsed 0 c_isLaid c_head c_hasRows c_hasPlan c_rows c_slants c_capacity c_weight c_unload c_source c_bunker c_what)) rfl (fun H locs hW => ?_)
  refine lv_iload_n (pc := 5) hx hb (dd dX10_count_p0 3 rfl) rfl (lv_at hl 1 rfl) ?_
  by_cases hc0 : v1 = 0
  · have h := it_t hc0 h
    refine lv_tableIn (pc := 6) (tgt := 52) hx hb (dd dX10_count_p0 4 rfl) (by rw [hc0]; decide) (by rw [hc0]; decide) (by rw [hc0]; rfl) (by decide) ?_
    refine lv_aload_n (pc := 52) hx hb (dd dX10_count_p0 5 rfl) rfl (lv_at hl 0 rfl) ?_
    refine rGet (pc := 53) M hW 0 5 iU10 rfl rfl (by decide) (uw4 218 rfl rfl) rfl (dd dX10_count_p0 6 rfl) ?_
    refine lv_if_eq (pc := 56) (tgt := 63) hx hb (dd dX10_count_p0 7 rfl) (by decide) (fun hc => ?_) (fun hc => ?_)
    · have h := it_t hc h
      refine lv_iconst (pc := 63) (v := 0) hx hb (dd dX10_count_p0 10 rfl) (by decide) ?_
      have hW9 := hW
      cases h
      exact ret _ _ _ 64 hW9 rfl (dd dX10_count_p0 11 rfl)
    · have h := it_f hc h
      refine lv_iconst (pc := 59) (v := 1) hx hb (dd dX10_count_p0 8 rfl) (by decide) ?_
      refine lv_goto (pc := 60) (tgt := 64) hx hb (dd dX10_count_p0 9 rfl) (by decide) ?_
      have hW9 := hW
      cases h
      exact ret _ _ _ 64 hW9 rfl (dd dX10_count_p0 11 rfl)
  have h := it_f hc0 h
  by_cases hc1 : v1 = 1
  · have h := it_t hc1 h
    refine lv_tableIn (pc := 6) (tgt := 65) hx hb (dd dX10_count_p0 4 rfl) (by rw [hc1]; decide) (by rw [hc1]; decide) (by rw [hc1]; rfl) (by decide) ?_
    refine lv_aload_n (pc := 65) hx hb (dd dX10_count_p0 12 rfl) rfl (lv_at hl 0 rfl) ?_
    refine rGet (pc := 66) M hW 0 5 iU10 rfl rfl (by decide) (uw4 218 rfl rfl) rfl (dd dX10_count_p0 13 rfl) ?_
    refine lv_if_eq (pc := 69) (tgt := 84) hx hb (dd dX10_count_p0 14 rfl) (by decide) (fun hc => ?_) (fun hc => ?_)
    · have h := it_t hc h
      refine lv_iconst (pc := 84) (v := 0) hx hb (dd dX10_count_p0 21 rfl) (by decide) ?_
      have hW9 := hW
      cases h
      exact ret _ _ _ 85 hW9 rfl (dd dX10_count_p0 22 rfl)
    · have h := it_f hc h
      refine lv_sipush (pc := 72) (v := 1200) hx hb (dd dX10_count_p0 15 rfl) (by decide) ?_
      refine lv_aload_n (pc := 75) hx hb (dd dX10_count_p0 16 rfl) rfl (lv_at hl 0 rfl) ?_
      refine lv_iconst (pc := 76) (v := 0) hx hb (dd dX10_count_p0 17 rfl) (by decide) ?_
      obtain ⟨r_77, hr, h⟩ := bnd_ex h
      refine callVI (pc := 77) (na := 1) (As := [.int 0]) (rest := [.int 1200]) (ws2 := (w_X10_count g a_t a_what a_cornerX a_cornerY a_corners a_rowAt a_strip a_along a_rowSize a_endAt a_turns a_plan a_slantA a_slantB a_yields a_bears a_seen a_wagons a_pile a_far a_waiting a_isWaiting a_rest a_isUsed 0 c_isLaid c_head c_hasRows c_hasPlan c_rows c_slants c_capacity c_weight c_unload c_source c_bunker c_what)) M hl.1 hW (t_X10_counts l g a_t a_what a_cornerX a_cornerY a_corners a_rowAt a_strip a_along a_rowSize a_endAt a_turns a_plan a_slantA a_slantB a_yields a_bears a_seen a_wagons a_pile a_far a_waiting a_isWaiting a_rest a_isUsed 0 c_isLaid c_head c_hasRows c_hasPlan c_rows c_slants c_capacity c_weight c_unload c_source c_bunker c_what 0 r_77 hr) rfl [0, 1] [] [0, 1] rfl rfl rfl rfl rfl rfl rfl 0 10 rfl rfl rfl (uw5 117 rfl rfl) (uw5 114 rfl rfl) (uw5 116 rfl rfl) (uwp 45 rfl rfl) (uw1 13 rfl rfl) ⟨by decide, by decide, by decide⟩ rfl ⟨by decide, by decide⟩ (Nat.le_of_ble_eq_true rfl) ⟨Nat.zero_le _, Nat.zero_le _⟩ (dd dX10_count_p0 18 rfl) (fun H locs hW => ?_)
      refine lv_isub (pc := 80) hx hb (dd dX10_count_p0 19 rfl) ?_
      refine lv_goto (pc := 81) (tgt := 85) hx hb (dd dX10_count_p0 20 rfl) (by decide) ?_
      have hW9 := hW
      cases h
      exact ret _ _ _ 85 hW9 rfl (dd dX10_count_p0 22 rfl)
  have h := it_f hc1 h
  by_cases hc2 : v1 = 2
  · have h := it_t hc2 h
    refine lv_tableIn (pc := 6) (tgt := 86) hx hb (dd dX10_count_p0 4 rfl) (by rw [hc2]; decide) (by rw [hc2]; decide) (by rw [hc2]; rfl) (by decide) ?_
    refine lv_aload_n (pc := 86) hx hb (dd dX10_count_p0 23 rfl) rfl (lv_at hl 0 rfl) ?_
    refine rGet (pc := 87) M hW 0 5 iU10 rfl rfl (by decide) (uw4 218 rfl rfl) rfl (dd dX10_count_p0 24 rfl) ?_
    refine lv_if_eq (pc := 90) (tgt := 101) hx hb (dd dX10_count_p0 25 rfl) (by decide) (fun hc => ?_) (fun hc => ?_)
    · have h := it_t hc h
      refine lv_iconst (pc := 101) (v := 0) hx hb (dd dX10_count_p0 30 rfl) (by decide) ?_
      have hW9 := hW
      cases h
      exact ret _ _ _ 102 hW9 rfl (dd dX10_count_p0 31 rfl)
    · have h := it_f hc h
      refine lv_aload_n (pc := 93) hx hb (dd dX10_count_p0 26 rfl) rfl (lv_at hl 0 rfl) ?_
      refine lv_iconst (pc := 94) (v := 1) hx hb (dd dX10_count_p0 27 rfl) (by decide) ?_
      obtain ⟨r_95, hr, h⟩ := bnd_ex h
      refine callVI (pc := 95) (na := 1) (As := [.int 1]) (rest := []) (ws2 := (w_X10_count g a_t a_what a_cornerX a_cornerY a_corners a_rowAt a_strip a_along a_rowSize a_endAt a_turns a_plan a_slantA a_slantB a_yields a_bears a_seen a_wagons a_pile a_far a_waiting a_isWaiting a_rest a_isUsed 0 c_isLaid c_head c_hasRows c_hasPlan c_rows c_slants c_capacity c_weight c_unload c_source c_bunker c_what)) M hl.1 hW (t_X10_counts l g a_t a_what a_cornerX a_cornerY a_corners a_rowAt a_strip a_along a_rowSize a_endAt a_turns a_plan a_slantA a_slantB a_yields a_bears a_seen a_wagons a_pile a_far a_waiting a_isWaiting a_rest a_isUsed 0 c_isLaid c_head c_hasRows c_hasPlan c_rows c_slants c_capacity c_weight c_unload c_source c_bunker c_what 1 r_95 hr) rfl [0, 1] [] [0, 1] rfl rfl rfl rfl rfl rfl rfl 0 10 rfl rfl rfl (uw5 117 rfl rfl) (uw5 114 rfl rfl) (uw5 116 rfl rfl) (uwp 45 rfl rfl) (uw1 13 rfl rfl) ⟨by decide, by decide, by decide⟩ rfl ⟨by decide, by decide⟩ (Nat.le_of_ble_eq_true rfl) ⟨Nat.zero_le _, Nat.zero_le _⟩ (dd dX10_count_p0 28 rfl) (fun H locs hW => ?_)
      refine lv_goto (pc := 98) (tgt := 102) hx hb (dd dX10_count_p0 29 rfl) (by decide) ?_
      have hW9 := hW
      cases h
      exact ret _ _ _ 102 hW9 rfl (dd dX10_count_p0 31 rfl)
  have h := it_f hc2 h
  by_cases hc3 : v1 = 3
  · have h := it_t hc3 h
    refine lv_tableIn (pc := 6) (tgt := 103) hx hb (dd dX10_count_p0 4 rfl) (by rw [hc3]; decide) (by rw [hc3]; decide) (by rw [hc3]; rfl) (by decide) ?_
    refine lv_aload_n (pc := 103) hx hb (dd dX10_count_p0 32 rfl) rfl (lv_at hl 0 rfl) ?_
    refine rGet (pc := 104) M hW 0 5 iU10 rfl rfl (by decide) (uw4 218 rfl rfl) rfl (dd dX10_count_p0 33 rfl) ?_
    refine lv_if_eq (pc := 107) (tgt := 118) hx hb (dd dX10_count_p0 34 rfl) (by decide) (fun hc => ?_) (fun hc => ?_)
    · have h := it_t hc h
      refine lv_iconst (pc := 118) (v := 0) hx hb (dd dX10_count_p0 39 rfl) (by decide) ?_
      have hW9 := hW
      cases h
      exact ret _ _ _ 119 hW9 rfl (dd dX10_count_p0 40 rfl)
    · have h := it_f hc h
      refine lv_aload_n (pc := 110) hx hb (dd dX10_count_p0 35 rfl) rfl (lv_at hl 0 rfl) ?_
      refine lv_iconst (pc := 111) (v := 2) hx hb (dd dX10_count_p0 36 rfl) (by decide) ?_
      obtain ⟨r_112, hr, h⟩ := bnd_ex h
      refine callVI (pc := 112) (na := 1) (As := [.int 2]) (rest := []) (ws2 := (w_X10_count g a_t a_what a_cornerX a_cornerY a_corners a_rowAt a_strip a_along a_rowSize a_endAt a_turns a_plan a_slantA a_slantB a_yields a_bears a_seen a_wagons a_pile a_far a_waiting a_isWaiting a_rest a_isUsed 0 c_isLaid c_head c_hasRows c_hasPlan c_rows c_slants c_capacity c_weight c_unload c_source c_bunker c_what)) M hl.1 hW (t_X10_counts l g a_t a_what a_cornerX a_cornerY a_corners a_rowAt a_strip a_along a_rowSize a_endAt a_turns a_plan a_slantA a_slantB a_yields a_bears a_seen a_wagons a_pile a_far a_waiting a_isWaiting a_rest a_isUsed 0 c_isLaid c_head c_hasRows c_hasPlan c_rows c_slants c_capacity c_weight c_unload c_source c_bunker c_what 2 r_112 hr) rfl [0, 1] [] [0, 1] rfl rfl rfl rfl rfl rfl rfl 0 10 rfl rfl rfl (uw5 117 rfl rfl) (uw5 114 rfl rfl) (uw5 116 rfl rfl) (uwp 45 rfl rfl) (uw1 13 rfl rfl) ⟨by decide, by decide, by decide⟩ rfl ⟨by decide, by decide⟩ (Nat.le_of_ble_eq_true rfl) ⟨Nat.zero_le _, Nat.zero_le _⟩ (dd dX10_count_p0 37 rfl) (fun H locs hW => ?_)
      refine lv_goto (pc := 115) (tgt := 119) hx hb (dd dX10_count_p0 38 rfl) (by decide) ?_
      have hW9 := hW
      cases h
      exact ret _ _ _ 119 hW9 rfl (dd dX10_count_p0 40 rfl)
  have h := it_f hc3 h
  by_cases hc4 : v1 = 4
  · have h := it_t hc4 h
    refine lv_tableIn (pc := 6) (tgt := 120) hx hb (dd dX10_count_p0 4 rfl) (by rw [hc4]; decide) (by rw [hc4]; decide) (by rw [hc4]; rfl) (by decide) ?_
    refine lv_aload_n (pc := 120) hx hb (dd dX10_count_p0 41 rfl) rfl (lv_at hl 0 rfl) ?_
    refine rGet (pc := 121) M hW 0 7 iU10 rfl rfl (by decide) (uw4 220 rfl rfl) rfl (dd dX10_count_p0 42 rfl) ?_
    refine lv_if_eq (pc := 124) (tgt := 134) hx hb (dd dX10_count_p0 43 rfl) (by decide) (fun hc => ?_) (fun hc => ?_)
    · have h := it_t hc h
      refine lv_iconst (pc := 134) (v := 0) hx hb (dd dX10_count_p0 47 rfl) (by decide) ?_
      have hW9 := hW
      cases h
      exact ret _ _ _ 135 hW9 rfl (dd dX10_count_p0 48 rfl)
    · have h := it_f hc h
      refine lv_aload_n (pc := 127) hx hb (dd dX10_count_p0 44 rfl) rfl (lv_at hl 0 rfl) ?_
      refine rGet (pc := 128) M hW 0 9 iU10 rfl rfl (by decide) (uw4 222 rfl rfl) rfl (dd dX10_count_p0 45 rfl) ?_
      refine lv_goto (pc := 131) (tgt := 135) hx hb (dd dX10_count_p0 46 rfl) (by decide) ?_
      have hW9 := hW
      cases h
      exact ret _ _ _ 135 hW9 rfl (dd dX10_count_p0 48 rfl)
  have h := it_f hc4 h
  by_cases hc5 : v1 = 5
  · have h := it_t hc5 h
    refine lv_tableIn (pc := 6) (tgt := 136) hx hb (dd dX10_count_p0 4 rfl) (by rw [hc5]; decide) (by rw [hc5]; decide) (by rw [hc5]; rfl) (by decide) ?_
    refine lv_aload_n (pc := 136) hx hb (dd dX10_count_p0 49 rfl) rfl (lv_at hl 0 rfl) ?_
    refine rGet (pc := 137) M hW 0 8 iU10 rfl rfl (by decide) (uw4 221 rfl rfl) rfl (dd dX10_count_p0 50 rfl) ?_
    refine lv_if_eq (pc := 140) (tgt := 147) hx hb (dd dX10_count_p0 51 rfl) (by decide) (fun hc => ?_) (fun hc => ?_)
    · have h := it_t hc h
      refine lv_iconst (pc := 147) (v := 0) hx hb (dd dX10_count_p0 54 rfl) (by decide) ?_
      have hW9 := hW
      cases h
      exact ret _ _ _ 148 hW9 rfl (dd dX10_count_p0 55 rfl)
    · have h := it_f hc h
      refine lv_iconst (pc := 143) (v := 1) hx hb (dd dX10_count_p0 52 rfl) (by decide) ?_
      refine lv_goto (pc := 144) (tgt := 148) hx hb (dd dX10_count_p0 53 rfl) (by decide) ?_
      have hW9 := hW
      cases h
      exact ret _ _ _ 148 hW9 rfl (dd dX10_count_p0 55 rfl)
  have h := it_f hc5 h
  by_cases hc6 : v1 = 6
  · have h := it_t hc6 h
    refine lv_tableIn (pc := 6) (tgt := 149) hx hb (dd dX10_count_p0 4 rfl) (by rw [hc6]; decide) (by rw [hc6]; decide) (by rw [hc6]; rfl) (by decide) ?_
    refine lv_aload_n (pc := 149) hx hb (dd dX10_count_p0 56 rfl) rfl (lv_at hl 0 rfl) ?_
    refine rGet (pc := 150) M hW 0 19 iU10 rfl rfl (by decide) (uw4 232 rfl rfl) rfl (dd dX10_count_p0 57 rfl) ?_
    have hW9 := hW
    cases h
    exact ret _ _ _ 153 hW9 rfl (dd dX10_count_p0 58 rfl)
  have h := it_f hc6 h
  by_cases hc7 : v1 = 7
  · have h := it_t hc7 h
    refine lv_tableIn (pc := 6) (tgt := 154) hx hb (dd dX10_count_p0 4 rfl) (by rw [hc7]; decide) (by rw [hc7]; decide) (by rw [hc7]; rfl) (by decide) ?_
    refine lv_aload_n (pc := 154) hx hb (dd dX10_count_p0 59 rfl) rfl (lv_at hl 0 rfl) ?_
    refine rGet (pc := 155) M hW 0 5 iU10 rfl rfl (by decide) (uw4 218 rfl rfl) rfl (dd dX10_count_p1 0 rfl) ?_
    refine lv_if_eq (pc := 158) (tgt := 168) hx hb (dd dX10_count_p1 1 rfl) (by decide) (fun hc => ?_) (fun hc => ?_)
    · have h := it_t hc h
      refine lv_iconst (pc := 168) (v := 0) hx hb (dd dX10_count_p1 5 rfl) (by decide) ?_
      have hW9 := hW
      cases h
      exact ret _ _ _ 169 hW9 rfl (dd dX10_count_p1 6 rfl)
    · have h := it_f hc h
      refine lv_aload_n (pc := 161) hx hb (dd dX10_count_p1 2 rfl) rfl (lv_at hl 0 rfl) ?_
      refine rGet (pc := 162) M hW 0 6 iU10 rfl rfl (by decide) (uw4 219 rfl rfl) rfl (dd dX10_count_p1 3 rfl) ?_
      refine lv_goto (pc := 165) (tgt := 169) hx hb (dd dX10_count_p1 4 rfl) (by decide) ?_
      have hW9 := hW
      cases h
      exact ret _ _ _ 169 hW9 rfl (dd dX10_count_p1 6 rfl)
  have h := it_f hc7 h
  have hd0 := ne_toInt hc0 (a := 0) (by decide)
  have hd1 := ne_toInt hc1 (a := 1) (by decide)
  have hd2 := ne_toInt hc2 (a := 2) (by decide)
  have hd3 := ne_toInt hc3 (a := 3) (by decide)
  have hd4 := ne_toInt hc4 (a := 4) (by decide)
  have hd5 := ne_toInt hc5 (a := 5) (by decide)
  have hd6 := ne_toInt hc6 (a := 6) (by decide)
  have hd7 := ne_toInt hc7 (a := 7) (by decide)
  refine lv_tableOut (pc := 6) (tgt := 170) hx hb (dd dX10_count_p0 4 rfl) (by omega) (by decide) ?_
  refine lv_iconst (pc := 170) (v := (-1)) hx hb (dd dX10_count_p1 7 rfl) (by decide) ?_
  have hW9 := hW
  cases h
  exact ret _ _ _ 171 hW9 rfl (dd dX10_count_p1 8 rfl)
