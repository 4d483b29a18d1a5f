abbrev w_X10_isAhead (g : G9) (a_t a_along a_cornerX a_cornerY a_corners a_what a_rowAt a_strip a_rowSize a_endAt a_turns a_plan a_slantA a_slantB a_yields a_bears a_seen a_wagons a_pile a_far a_waiting a_isWaiting a_rest a_isUsed : Nat) (c_thrown c_isLaid c_head c_hasRows c_hasPlan c_rows c_slants c_capacity c_weight c_unload c_source c_bunker : Int32) (c_along : Ar) : va_W := [ob a_t 10 [.int c_thrown, .ref a_cornerX, .ref a_cornerY, .ref a_corners, .ref a_what, .int c_isLaid, .int c_head, .int c_hasRows, .int c_hasPlan, .int c_rows, .ref a_rowAt, .ref a_strip, .ref a_along, .ref a_rowSize, .ref a_endAt, .ref a_turns, .ref a_plan, .ref a_slantA, .ref a_slantB, .int c_slants, .ref a_yields, .ref a_bears, .int c_capacity, .int c_weight, .int c_unload, .ref a_seen, .ref a_wagons, .ref a_pile, .ref a_far, .int c_source, .ref a_waiting, .ref a_isWaiting, .ref a_rest, .ref a_isUsed, .int c_bunker], ia g a_along 1200 c_along]
noncomputable def X10_isAhead (c_along : Ar) (v1 v2 : Int32) : Option Int32 :=
  ck (ix v1 1200) <| ck (ix v2 1200) <| if (ag c_along v1) = (ag c_along v2) then (if v2 ≤ v1 then (some 0) else (some 1)) else (ck (ix v1 1200) <| ck (ix v2 1200) <| if (ag c_along v2) ≤ (ag c_along v1) then (some 0) else (some 1))
set_option maxHeartbeats 4000000 in
set_option maxRecDepth 100000 in
theorem t_X10_isAhead (l : Launch) (g : G9) (a_t a_along a_cornerX a_cornerY a_corners a_what a_rowAt a_strip a_rowSize a_endAt a_turns a_plan a_slantA a_slantB a_yields a_bears a_seen a_wagons a_pile a_far a_waiting a_isWaiting a_rest a_isUsed : Nat) (c_thrown c_isLaid c_head c_hasRows c_hasPlan c_rows c_slants c_capacity c_weight c_unload c_source c_bunker : Int32) (c_along : Ar) (v1 v2 r0 : Int32) (h : X10_isAhead c_along v1 v2 = some r0) : CtI l g yX10_isAhead cX10_isAhead 3 .boolean 0 0 [.ref a_t, .int v1, .int v2] (w_X10_isAhead g a_t a_along a_cornerX a_cornerY a_corners a_what a_rowAt a_strip a_rowSize a_endAt a_turns a_plan a_slantA a_slantB a_yields a_bears a_seen a_wagons a_pile a_far a_waiting a_isWaiting a_rest a_isUsed c_thrown c_isLaid c_head c_hasRows c_hasPlan c_rows c_slants c_capacity c_weight c_unload c_source c_bunker c_along) r0 (w_X10_isAhead g a_t a_along a_cornerX a_cornerY a_corners a_what a_rowAt a_strip a_rowSize a_endAt a_turns a_plan a_slantA a_slantB a_yields a_bears a_seen a_wagons a_pile a_far a_waiting a_isWaiting a_rest a_isUsed c_thrown c_isLaid c_head c_hasRows c_hasPlan c_rows c_slants c_capacity c_weight c_unload c_source c_bunker c_along) := by
  refine startI (by decide) (Nat.le_of_ble_eq_true rfl) ?_
  intro p e s m below meth c A Q ls args M hW hl ret
  have hx := M.1
  have hb := M.2.1
  have hown := M.2.2.2.1
  have hu := M.2.2.2.2.1
  have hl : lv_has ls 3 [(0, .ref a_t), (1, .int v1), (2, .int v2)] := hl
  unfold X10_isAhead at h
  obtain ⟨H, eH⟩ : ∃ z, z = s.heap := ⟨_, rfl⟩
  obtain ⟨locs, eL⟩ : ∃ z, z = ([] : List Loc) := ⟨_, rfl⟩
  rw [← eL] at hW ⊢
  suffices hS9 : WD g s A (w_X10_isAhead g a_t a_along a_cornerX a_cornerY a_corners a_what a_rowAt a_strip a_rowSize a_endAt a_turns a_plan a_slantA a_slantB a_yields a_bears a_seen a_wagons a_pile a_far a_waiting a_isWaiting a_rest a_isUsed c_thrown c_isLaid c_head c_hasRows c_hasPlan c_rows c_slants c_capacity c_weight c_unload c_source c_bunker c_along) H locs → W p l e (rm9 0 0) s m args below meth c H locs 0 0 Q (F0 m 0 ls []) by
    rw [← eH] at hW ⊢
    exact hS9 hW
  clear hW eH eL
  intro hW
  refine lv_aload_n (pc := 0) hx hb (dd dX10_isAhead 0 rfl) rfl (lv_at hl 0 rfl) ?_
  refine rGet (pc := 1) M hW 0 12 iU10 rfl rfl (by decide) (uw4 225 rfl rfl) rfl (dd dX10_isAhead 1 rfl) ?_
  refine lv_iload_n (pc := 4) hx hb (dd dX10_isAhead 2 rfl) rfl (lv_at hl 1 rfl) ?_
  obtain ⟨hi, h⟩ := ck_ex h
  refine rIald (pc := 5) M hW 1 rfl hi (dd dX10_isAhead 3 rfl) ?_
  refine lv_aload_n (pc := 6) hx hb (dd dX10_isAhead 4 rfl) rfl (lv_at hl 0 rfl) ?_
  refine rGet (pc := 7) M hW 0 12 iU10 rfl rfl (by decide) (uw4 225 rfl rfl) rfl (dd dX10_isAhead 5 rfl) ?_
  refine lv_iload_n (pc := 10) hx hb (dd dX10_isAhead 6 rfl) rfl (lv_at hl 2 rfl) ?_
  obtain ⟨hi, h⟩ := ck_ex h
  refine rIald (pc := 11) M hW 1 rfl hi (dd dX10_isAhead 7 rfl) ?_
  refine lv_icmp_eq (pc := 12) (tgt := 38) hx hb (dd dX10_isAhead 8 rfl) (by decide) (fun hc => ?_) (fun hc => ?_)
  · have h := it_t hc h
    refine lv_iload_n (pc := 38) hx hb (dd dX10_isAhead 22 rfl) rfl (lv_at hl 1 rfl) ?_
    refine lv_iload_n (pc := 39) hx hb (dd dX10_isAhead 23 rfl) rfl (lv_at hl 2 rfl) ?_
    refine lv_icmp_ge (pc := 40) (tgt := 47) hx hb (dd dX10_isAhead 24 rfl) (by decide) (fun hc => ?_) (fun hc => ?_)
    · have h := it_t hc h
      refine lv_iconst (pc := 47) (v := 0) hx hb (dd dX10_isAhead 27 rfl) (by decide) ?_
      have hW9 := hW
      cases h
      exact ret _ _ _ 48 hW9 rfl (dd dX10_isAhead 28 rfl)
    · have h := it_f hc h
      refine lv_iconst (pc := 43) (v := 1) hx hb (dd dX10_isAhead 25 rfl) (by decide) ?_
      refine lv_goto (pc := 44) (tgt := 48) hx hb (dd dX10_isAhead 26 rfl) (by decide) ?_
      have hW9 := hW
      cases h
      exact ret _ _ _ 48 hW9 rfl (dd dX10_isAhead 28 rfl)
  · have h := it_f hc h
    refine lv_aload_n (pc := 15) hx hb (dd dX10_isAhead 9 rfl) rfl (lv_at hl 0 rfl) ?_
    refine rGet (pc := 16) M hW 0 12 iU10 rfl rfl (by decide) (uw4 225 rfl rfl) rfl (dd dX10_isAhead 10 rfl) ?_
    refine lv_iload_n (pc := 19) hx hb (dd dX10_isAhead 11 rfl) rfl (lv_at hl 1 rfl) ?_
    obtain ⟨hi, h⟩ := ck_ex h
    refine rIald (pc := 20) M hW 1 rfl hi (dd dX10_isAhead 12 rfl) ?_
    refine lv_aload_n (pc := 21) hx hb (dd dX10_isAhead 13 rfl) rfl (lv_at hl 0 rfl) ?_
    refine rGet (pc := 22) M hW 0 12 iU10 rfl rfl (by decide) (uw4 225 rfl rfl) rfl (dd dX10_isAhead 14 rfl) ?_
    refine lv_iload_n (pc := 25) hx hb (dd dX10_isAhead 15 rfl) rfl (lv_at hl 2 rfl) ?_
    obtain ⟨hi, h⟩ := ck_ex h
    refine rIald (pc := 26) M hW 1 rfl hi (dd dX10_isAhead 16 rfl) ?_
    refine lv_icmp_ge (pc := 27) (tgt := 34) hx hb (dd dX10_isAhead 17 rfl) (by decide) (fun hc => ?_) (fun hc => ?_)
    · have h := it_t hc h
      refine lv_iconst (pc := 34) (v := 0) hx hb (dd dX10_isAhead 20 rfl) (by decide) ?_
      refine lv_goto (pc := 35) (tgt := 48) hx hb (dd dX10_isAhead 21 rfl) (by decide) ?_
      have hW9 := hW
      cases h
      exact ret _ _ _ 48 hW9 rfl (dd dX10_isAhead 28 rfl)
    · have h := it_f hc h
      refine lv_iconst (pc := 30) (v := 1) hx hb (dd dX10_isAhead 18 rfl) (by decide) ?_
      refine lv_goto (pc := 31) (tgt := 48) hx hb (dd dX10_isAhead 19 rfl) (by decide) ?_
      have hW9 := hW
      cases h
      exact ret _ _ _ 48 hW9 rfl (dd dX10_isAhead 28 rfl)
abbrev w_X10_next (g : G9) (a_t a_along a_rowAt a_strip a_what a_cornerX a_cornerY a_corners a_rowSize a_endAt a_turns a_plan a_slantA a_slantB a_yields a_bears a_seen a_wagons a_pile a_far a_waiting a_isWaiting a_rest a_isUsed : Nat) (c_thrown c_isLaid c_head c_hasRows c_hasPlan c_rows c_slants c_capacity c_weight c_unload c_source c_bunker : Int32) (c_along c_rowAt c_strip c_what : Ar) : va_W := [ob a_t 10 [.int c_thrown, .ref a_cornerX, .ref a_cornerY, .ref a_corners, .ref a_what, .int c_isLaid, .int c_head, .int c_hasRows, .int c_hasPlan, .int c_rows, .ref a_rowAt, .ref a_strip, .ref a_along, .ref a_rowSize, .ref a_endAt, .ref a_turns, .ref a_plan, .ref a_slantA, .ref a_slantB, .int c_slants, .ref a_yields, .ref a_bears, .int c_capacity, .int c_weight, .int c_unload, .ref a_seen, .ref a_wagons, .ref a_pile, .ref a_far, .int c_source, .ref a_waiting, .ref a_isWaiting, .ref a_rest, .ref a_isUsed, .int c_bunker], ia g a_along 1200 c_along, ia g a_rowAt 1200 c_rowAt, ia g a_strip 1200 c_strip, ia g a_what 1200 c_what]
noncomputable def X10_next_b4_79 (v1 v2 : Int32) : Option ((Int32 × Int32) ⊕ Int32) :=
  nm (v2 + 1) fun v2_79 => some (.inl (v1, v2_79))
noncomputable def X10_next_b4_77 (v2 : Int32) : Option ((Int32 × Int32) ⊕ Int32) :=
  X10_next_b4_79 v2 v2
noncomputable def X10_next_L4 (c_along c_rowAt c_strip c_what : Ar) (v1 v2 : Int32) : Option ((Int32 × Int32) ⊕ Int32) :=
  if 1200 ≤ v2 then (some (.inr v1)) else (ck (ix v2 1200) <| if (ag c_what v2) = 2 then (ck (ix v2 1200) <| if (ag c_rowAt v2) = (-1) then (if v1 < 0 then (X10_next_b4_77 v2) else (ck (ix v2 1200) <| ck (ix v1 1200) <| if (ag c_strip v2) < (ag c_strip v1) then (X10_next_b4_77 v2) else (ck (ix v2 1200) <| ck (ix v1 1200) <| if (ag c_strip v2) = (ag c_strip v1) then (bnd (X10_isAhead c_along v2 v1) <| fun r_71 => if r_71 = 0 then (X10_next_b4_79 v1 v2) else (X10_next_b4_77 v2)) else (X10_next_b4_79 v1 v2)))) else (X10_next_b4_79 v1 v2)) else (X10_next_b4_79 v1 v2))
noncomputable def X10_next (c_along c_rowAt c_strip c_what : Ar) : Option Int32 :=
  bnd (whileV (fun st => X10_next_L4 c_along c_rowAt c_strip c_what st.1 st.2) ((-1), 0)) <| (fun v1_85 => some v1_85)
set_option maxHeartbeats 4000000 in
set_option maxRecDepth 100000 in
theorem t_X10_next (l : Launch) (g : G9) (a_t a_along a_rowAt a_strip a_what a_cornerX a_cornerY a_corners a_rowSize a_endAt a_turns a_plan a_slantA a_slantB a_yields a_bears a_seen a_wagons a_pile a_far a_waiting a_isWaiting a_rest a_isUsed : Nat) (c_thrown c_isLaid c_head c_hasRows c_hasPlan c_rows c_slants c_capacity c_weight c_unload c_source c_bunker : Int32) (c_along c_rowAt c_strip c_what : Ar) (r0 : Int32) (h : X10_next c_along c_rowAt c_strip c_what = some r0) : CtI l g yX10_next cX10_next 3 .int 1 22 [.ref a_t] (w_X10_next g a_t a_along a_rowAt a_strip a_what a_cornerX a_cornerY a_corners a_rowSize a_endAt a_turns a_plan a_slantA a_slantB a_yields a_bears a_seen a_wagons a_pile a_far a_waiting a_isWaiting a_rest a_isUsed c_thrown c_isLaid c_head c_hasRows c_hasPlan c_rows c_slants c_capacity c_weight c_unload c_source c_bunker c_along c_rowAt c_strip c_what) r0 (w_X10_next g a_t a_along a_rowAt a_strip a_what a_cornerX a_cornerY a_corners a_rowSize a_endAt a_turns a_plan a_slantA a_slantB a_yields a_bears a_seen a_wagons a_pile a_far a_waiting a_isWaiting a_rest a_isUsed c_thrown c_isLaid c_head c_hasRows c_hasPlan c_rows c_slants c_capacity c_weight c_unload c_source c_bunker c_along c_rowAt c_strip c_what) := by
  refine startI (by decide) (Nat.le_of_ble_eq_true rfl) ?_
  intro p e s m below meth c A Q ls args M hW hl ret
  have hx := M.1
  have hb := M.2.1
  have hown := M.2.2.2.1
  have hu := M.2.2.2.2.1
  have hl : lv_has ls 3 [(0, .ref a_t)] := hl
  unfold X10_next at h
  obtain ⟨H, eH⟩ : ∃ z, z = s.heap := ⟨_, rfl⟩
  obtain ⟨locs, eL⟩ : ∃ z, z = ([] : List Loc) := ⟨_, rfl⟩
  rw [← eL] at hW ⊢
  suffices hS9 : WD g s A (w_X10_next g a_t a_along a_rowAt a_strip a_what a_cornerX a_cornerY a_corners a_rowSize a_endAt a_turns a_plan a_slantA a_slantB a_yields a_bears a_seen a_wagons a_pile a_far a_waiting a_isWaiting a_rest a_isUsed c_thrown c_isLaid c_head c_hasRows c_hasPlan c_rows c_slants c_capacity c_weight c_unload c_source c_bunker c_along c_rowAt c_strip c_what) H locs → W p l e (rm9 1 22) s m args below meth c H locs 0 0 Q (F0 m 0 ls []) by
    rw [← eH] at hW ⊢
    exact hS9 hW
  clear hW eH eL
  intro hW
  refine lv_iconst (pc := 0) (v := (-1)) hx hb (dd dX10_next 0 rfl) (by decide) ?_
  refine lv_istore_n (pc := 1) (lv' := [(1, .int (-1)), (0, .ref a_t)]) hx hb (dd dX10_next 1 rfl) rfl hl (by decide) rfl (fun ls hl => ?_)
  refine lv_iconst (pc := 2) (v := 0) hx hb (dd dX10_next 2 rfl) (by decide) ?_
  refine lv_istore_n (pc := 3) (lv' := [(2, .int 0), (1, .int (-1)), (0, .ref a_t)]) hx hb (dd dX10_next 3 rfl) rfl hl (by decide) rfl (fun ls hl => ?_)
  obtain ⟨ex, hw, h⟩ := bnd_ex h
  refine loopW (fun st => ∀ (H : Heap) (locs : List Loc) (ls : Array Slot), WD g s A (w_X10_next g a_t a_along a_rowAt a_strip a_what a_cornerX a_cornerY a_corners a_rowSize a_endAt a_turns a_plan a_slantA a_slantB a_yields a_bears a_seen a_wagons a_pile a_far a_waiting a_isWaiting a_rest a_isUsed c_thrown c_isLaid c_head c_hasRows c_hasPlan c_rows c_slants c_capacity c_weight c_unload c_source c_bunker c_along c_rowAt c_strip c_what) H locs → lv_has ls 3 [(0, .ref a_t), (1, .int (st.1)), (2, .int (st.2))] → W p l e (rm9 1 22) s m args below meth c H locs 0 0 Q (F0 m 4 ls [])) (fun (ex : Int32) => ∀ (H : Heap) (locs : List Loc) (ls : Array Slot), WD g s A (w_X10_next g a_t a_along a_rowAt a_strip a_what a_cornerX a_cornerY a_corners a_rowSize a_endAt a_turns a_plan a_slantA a_slantB a_yields a_bears a_seen a_wagons a_pile a_far a_waiting a_isWaiting a_rest a_isUsed c_thrown c_isLaid c_head c_hasRows c_hasPlan c_rows c_slants c_capacity c_weight c_unload c_source c_bunker c_along c_rowAt c_strip c_what) H locs → lv_has ls 3 [(1, .int ex)] → W p l e (rm9 1 22) s m args below meth c H locs 0 0 Q (F0 m 85 ls [])) ?_ hw ?_ H locs ls hW (lv_sub hl [2, 1, 0] rfl)
  · rintro ⟨v1, v2⟩ o hb9 hk H locs ls hW hl
    have h : X10_next_L4 c_along c_rowAt c_strip c_what v1 v2 = some o := hb9
    clear hb9
    unfold X10_next_L4 at h
    have J79 : ∀ (v1 v2 : Int32) (H : Heap) (locs : List Loc) (ls : Array Slot), X10_next_b4_79 v1 v2 = some o → WD g s A (w_X10_next g a_t a_along a_rowAt a_strip a_what a_cornerX a_cornerY a_corners a_rowSize a_endAt a_turns a_plan a_slantA a_slantB a_yields a_bears a_seen a_wagons a_pile a_far a_waiting a_isWaiting a_rest a_isUsed c_thrown c_isLaid c_head c_hasRows c_hasPlan c_rows c_slants c_capacity c_weight c_unload c_source c_bunker c_along c_rowAt c_strip c_what) H locs → lv_has ls 3 [(0, .ref a_t), (1, .int v1), (2, .int v2)] → W p l e (rm9 1 22) s m args below meth c H locs 0 0 Q (F0 m 79 ls []) := by
      intro v1 v2 H locs ls h hW hl
      unfold X10_next_b4_79 at h
      obtain ⟨v2_79, ev2_79, h⟩ := nm_ex h
      refine lv_iinc (pc := 79) (v := v2_79) (lv' := [(2, .int v2_79), (0, .ref a_t), (1, .int v1)]) hx hb (dd dX10_next 47 rfl) hl (k := 2) rfl (by rw [ev2_79]; rfl) (by decide) rfl (fun ls hl => ?_)
      refine lv_goto (pc := 82) (tgt := 4) hx hb (dd dX10_next 48 rfl) (by decide) ?_
      obtain rfl := Option.some.inj h
      exact hk _ _ _ hW (lv_sub hl [1, 2, 0] rfl)
    have J77 : ∀ (v2 : Int32) (H : Heap) (locs : List Loc) (ls : Array Slot), X10_next_b4_77 v2 = some o → WD g s A (w_X10_next g a_t a_along a_rowAt a_strip a_what a_cornerX a_cornerY a_corners a_rowSize a_endAt a_turns a_plan a_slantA a_slantB a_yields a_bears a_seen a_wagons a_pile a_far a_waiting a_isWaiting a_rest a_isUsed c_thrown c_isLaid c_head c_hasRows c_hasPlan c_rows c_slants c_capacity c_weight c_unload c_source c_bunker c_along c_rowAt c_strip c_what) H locs → lv_has ls 3 [(0, .ref a_t), (2, .int v2)] → W p l e (rm9 1 22) s m args below meth c H locs 0 0 Q (F0 m 77 ls []) := by
      intro v2 H locs ls h hW hl
      unfold X10_next_b4_77 at h
      refine lv_iload_n (pc := 77) hx hb (dd dX10_next 45 rfl) rfl (lv_at hl 1 rfl) ?_
      refine lv_istore_n (pc := 78) (lv' := [(1, .int v2), (0, .ref a_t), (2, .int v2)]) hx hb (dd dX10_next 46 rfl) rfl hl (by decide) rfl (fun ls hl => ?_)
      exact J79 _ _ _ _ _ h hW (lv_sub hl [1, 0, 2] rfl)
    refine lv_iload_n (pc := 4) hx hb (dd dX10_next 4 rfl) rfl (lv_at hl 2 rfl) ?_
    refine lv_sipush (pc := 5) (v := 1200) hx hb (dd dX10_next 5 rfl) (by decide) ?_
    refine lv_icmp_ge (pc := 8) (tgt := 85) hx hb (dd dX10_next 6 rfl) (by decide) (fun hc => ?_) (fun hc => ?_)
    · have h := it_t hc h
      obtain rfl := Option.some.inj h
      exact hk _ _ _ hW (lv_sub hl [1] rfl)
    · have h := it_f hc h
      refine lv_aload_n (pc := 11) hx hb (dd dX10_next 7 rfl) rfl (lv_at hl 0 rfl) ?_
      refine rGet (pc := 12) M hW 0 4 iU10 rfl rfl (by decide) (uw4 217 rfl rfl) rfl (dd dX10_next 8 rfl) ?_
      refine lv_iload_n (pc := 15) hx hb (dd dX10_next 9 rfl) rfl (lv_at hl 2 rfl) ?_
      obtain ⟨hi, h⟩ := ck_ex h
      refine rIald (pc := 16) M hW 4 rfl hi (dd dX10_next 10 rfl) ?_
      refine lv_iconst (pc := 17) (v := 2) hx hb (dd dX10_next 11 rfl) (by decide) ?_
      refine lv_icmp_ne (pc := 18) (tgt := 79) hx hb (dd dX10_next 12 rfl) (by decide) (fun hc => ?_) (fun hc => ?_)
      · have h := it_f hc h
        exact J79 _ _ _ _ _ h hW (lv_sub hl [0, 1, 2] rfl)
      · have h := it_t hc h
        refine lv_aload_n (pc := 21) hx hb (dd dX10_next 13 rfl) rfl (lv_at hl 0 rfl) ?_
        refine rGet (pc := 22) M hW 0 10 iU10 rfl rfl (by decide) (uw4 223 rfl rfl) rfl (dd dX10_next 14 rfl) ?_
        refine lv_iload_n (pc := 25) hx hb (dd dX10_next 15 rfl) rfl (lv_at hl 2 rfl) ?_
        obtain ⟨hi, h⟩ := ck_ex h
        refine rIald (pc := 26) M hW 2 rfl hi (dd dX10_next 16 rfl) ?_
        refine lv_iconst (pc := 27) (v := (-1)) hx hb (dd dX10_next 17 rfl) (by decide) ?_
        refine lv_icmp_eq (pc := 28) (tgt := 34) hx hb (dd dX10_next 18 rfl) (by decide) (fun hc => ?_) (fun hc => ?_)
        · have h := it_t hc h
          refine lv_iload_n (pc := 34) hx hb (dd dX10_next 20 rfl) rfl (lv_at hl 1 rfl) ?_
          refine lv_if_lt (pc := 35) (tgt := 77) hx hb (dd dX10_next 21 rfl) (by decide) (fun hc => ?_) (fun hc => ?_)
          · have h := it_t hc h
            exact J77 _ _ _ _ h hW (lv_sub hl [0, 2] rfl)
          · have h := it_f hc h
            refine lv_aload_n (pc := 38) hx hb (dd dX10_next 22 rfl) rfl (lv_at hl 0 rfl) ?_
            refine rGet (pc := 39) M hW 0 11 iU10 rfl rfl (by decide) (uw4 224 rfl rfl) rfl (dd dX10_next 23 rfl) ?_
            refine lv_iload_n (pc := 42) hx hb (dd dX10_next 24 rfl) rfl (lv_at hl 2 rfl) ?_
            obtain ⟨hi, h⟩ := ck_ex h
            refine rIald (pc := 43) M hW 3 rfl hi (dd dX10_next 25 rfl) ?_
            refine lv_aload_n (pc := 44) hx hb (dd dX10_next 26 rfl) rfl (lv_at hl 0 rfl) ?_
            refine rGet (pc := 45) M hW 0 11 iU10 rfl rfl (by decide) (uw4 224 rfl rfl) rfl (dd dX10_next 27 rfl) ?_
            refine lv_iload_n (pc := 48) hx hb (dd dX10_next 28 rfl) rfl (lv_at hl 1 rfl) ?_
            obtain ⟨hi, h⟩ := ck_ex h
            refine rIald (pc := 49) M hW 3 rfl hi (dd dX10_next 29 rfl) ?_
            refine lv_icmp_lt (pc := 50) (tgt := 77) hx hb (dd dX10_next 30 rfl) (by decide) (fun hc => ?_) (fun hc => ?_)
            · have h := it_t hc h
              exact J77 _ _ _ _ h hW (lv_sub hl [0, 2] rfl)
            · have h := it_f hc h
              refine lv_aload_n (pc := 53) hx hb (dd dX10_next 31 rfl) rfl (lv_at hl 0 rfl) ?_
              refine rGet (pc := 54) M hW 0 11 iU10 rfl rfl (by decide) (uw4 224 rfl rfl) rfl (dd dX10_next 32 rfl) ?_
              refine lv_iload_n (pc := 57) hx hb (dd dX10_next 33 rfl) rfl (lv_at hl 2 rfl) ?_
              obtain ⟨hi, h⟩ := ck_ex h
              refine rIald (pc := 58) M hW 3 rfl hi (dd dX10_next 34 rfl) ?_
              refine lv_aload_n (pc := 59) hx hb (dd dX10_next 35 rfl) rfl (lv_at hl 0 rfl) ?_
              refine rGet (pc := 60) M hW 0 11 iU10 rfl rfl (by decide) (uw4 224 rfl rfl) rfl (dd dX10_next 36 rfl) ?_
              refine lv_iload_n (pc := 63) hx hb (dd dX10_next 37 rfl) rfl (lv_at hl 1 rfl) ?_
              obtain ⟨hi, h⟩ := ck_ex h
              refine rIald (pc := 64) M hW 3 rfl hi (dd dX10_next 38 rfl) ?_
              refine lv_icmp_ne (pc := 65) (tgt := 79) hx hb (dd dX10_next 39 rfl) (by decide) (fun hc => ?_) (fun hc => ?_)
              · have h := it_f hc h
                exact J79 _ _ _ _ _ h hW (lv_sub hl [0, 1, 2] rfl)
              · have h := it_t hc h
                refine lv_aload_n (pc := 68) hx hb (dd dX10_next 40 rfl) rfl (lv_at hl 0 rfl) ?_
                refine lv_iload_n (pc := 69) hx hb (dd dX10_next 41 rfl) rfl (lv_at hl 2 rfl) ?_
                refine lv_iload_n (pc := 70) hx hb (dd dX10_next 42 rfl) rfl (lv_at hl 1 rfl) ?_
                obtain ⟨r_71, hr, h⟩ := bnd_ex h
                refine callVI (pc := 71) (na := 2) (As := [.int v2, .int v1]) (rest := []) (ws2 := (w_X10_next g a_t a_along a_rowAt a_strip a_what a_cornerX a_cornerY a_corners a_rowSize a_endAt a_turns a_plan a_slantA a_slantB a_yields a_bears a_seen a_wagons a_pile a_far a_waiting a_isWaiting a_rest a_isUsed c_thrown c_isLaid c_head c_hasRows c_hasPlan c_rows c_slants c_capacity c_weight c_unload c_source c_bunker c_along c_rowAt c_strip c_what)) M hl.1 hW (t_X10_isAhead l g a_t a_along a_cornerX a_cornerY a_corners a_what a_rowAt a_strip a_rowSize a_endAt a_turns a_plan a_slantA a_slantB a_yields a_bears a_seen a_wagons a_pile a_far a_waiting a_isWaiting a_rest a_isUsed c_thrown c_isLaid c_head c_hasRows c_hasPlan c_rows c_slants c_capacity c_weight c_unload c_source c_bunker c_along v2 v1 r_71 hr) rfl [0, 1] [2, 3, 4] [3, 4, 0, 1, 2] rfl rfl rfl rfl rfl rfl rfl 0 10 rfl rfl rfl (uw5 144 rfl rfl) (uw5 141 rfl rfl) (uw5 143 rfl rfl) (uwp 48 rfl rfl) (uw1 13 rfl rfl) ⟨by decide, by decide, by decide⟩ rfl ⟨by decide, by decide⟩ (Nat.le_of_ble_eq_true rfl) ⟨Nat.zero_le _, Nat.zero_le _⟩ (dd dX10_next 43 rfl) (fun H locs hW => ?_)
                refine lv_if_eq (pc := 74) (tgt := 79) hx hb (dd dX10_next 44 rfl) (by decide) (fun hc => ?_) (fun hc => ?_)
                · have h := it_t hc h
                  exact J79 _ _ _ _ _ h hW (lv_sub hl [0, 1, 2] rfl)
                · have h := it_f hc h
                  exact J77 _ _ _ _ h hW (lv_sub hl [0, 2] rfl)
        · have h := it_f hc h
          refine lv_goto (pc := 31) (tgt := 79) hx hb (dd dX10_next 19 rfl) (by decide) ?_
          exact J79 _ _ _ _ _ h hW (lv_sub hl [0, 1, 2] rfl)
  · obtain ⟨v1_85, e9⟩ : ∃ z, z = ex := ⟨_, rfl⟩
    subst e9
    intro H locs ls hW hl
    refine lv_iload_n (pc := 85) hx hb (dd dX10_next 49 rfl) rfl (lv_at hl 0 rfl) ?_
    have hW9 := hW
    cases h
    exact ret _ _ _ 86 hW9 rfl (dd dX10_next 50 rfl)
abbrev w_X10_reaches (g : G9) (a_t a_far a_isWaiting a_waiting a_what a_cornerX a_cornerY a_corners a_rowAt a_strip a_along a_rowSize a_endAt a_turns a_plan a_slantA a_slantB a_yields a_bears a_seen a_wagons a_pile a_rest a_isUsed : Nat) (c_thrown c_isLaid c_head c_hasRows c_hasPlan c_rows c_slants c_capacity c_weight c_unload c_source c_bunker : Int32) (c_far c_isWaiting c_waiting c_what : Ar) : va_W := [ob a_t 10 [.int c_thrown, .ref a_cornerX, .ref a_cornerY, .ref a_corners, .ref a_what, .int c_isLaid, .int c_head, .int c_hasRows, .int c_hasPlan, .int c_rows, .ref a_rowAt, .ref a_strip, .ref a_along, .ref a_rowSize, .ref a_endAt, .ref a_turns, .ref a_plan, .ref a_slantA, .ref a_slantB, .int c_slants, .ref a_yields, .ref a_bears, .int c_capacity, .int c_weight, .int c_unload, .ref a_seen, .ref a_wagons, .ref a_pile, .ref a_far, .int c_source, .ref a_waiting, .ref a_isWaiting, .ref a_rest, .ref a_isUsed, .int c_bunker], ia g a_far 1200 c_far, za g a_isWaiting 1200 c_isWaiting, ia g a_waiting 1200 c_waiting, ia g a_what 1200 c_what]
noncomputable def X10_reaches_L7 (v1 : Int32) (c_far c_isWaiting : Ar) (v2 : Int32) : Option ((Ar × Ar × Int32) ⊕ (Ar × Ar)) :=
  if 1200 ≤ v2 then (some (.inr (c_far, c_isWaiting))) else (ck (ix v2 1200) <| nm (au c_far v2 100000000) fun c_far_21 => ck (ix v2 1200) <| nm (au c_isWaiting v2 (vp_nar .boolean 0)) fun c_isWaiting_28 => nm (v2 + 1) fun v2_29 => some (.inl (c_far_21, c_isWaiting_28, v2_29)))
noncomputable def X10_reaches_b87_254 (c_far c_isWaiting c_waiting : Ar) (v1 v2 v3 v4 v5 : Int32) : Option ((Ar × Ar × Ar × Int32 × Int32) ⊕ (Ar × Ar × Ar × Int32)) :=
  nm (v5 + 1) fun v5_254 => some (.inl (c_far, c_isWaiting, c_waiting, v3, v5_254))
noncomputable def X10_reaches_b87_189 (c_far c_isWaiting c_waiting : Ar) (v1 v2 v3 v4 v5 v8 k0 k1 : Int32) : Option ((Ar × Ar × Ar × Int32 × Int32) ⊕ (Ar × Ar × Ar × Int32)) :=
  nm ((k0 + k1)) fun v9_190 => ck (ix v8 1200) <| if v9_190 < (ag c_far v8) then (ck (ix v8 1200) <| nm (au c_far v8 v9_190) fun c_far_215 => ck (ix v8 1200) <| if (ag c_isWaiting v8) = 0 then (ck (ix v8 1200) <| nm (au c_isWaiting v8 (vp_nar .boolean 1)) fun c_isWaiting_236 => ck (ix ((v2 + v3) - (v2 + v3) / 1200 * 1200) 1200) <| nm (au c_waiting ((v2 + v3) - (v2 + v3) / 1200 * 1200) v8) fun c_waiting_250 => nm (v3 + 1) fun v3_251 => X10_reaches_b87_254 c_far_215 c_isWaiting_236 c_waiting_250 v1 v2 v3_251 v4 v5) else (X10_reaches_b87_254 c_far_215 c_isWaiting c_waiting v1 v2 v3 v4 v5)) else (X10_reaches_b87_254 c_far c_isWaiting c_waiting v1 v2 v3 v4 v5)
noncomputable def X10_reaches_L87 (c_what : Ar) (v1 v2 v4 : Int32) (c_far c_isWaiting c_waiting : Ar) (v3 v5 : Int32) : Option ((Ar × Ar × Ar × Int32 × Int32) ⊕ (Ar × Ar × Ar × Int32)) :=
  if 9 ≤ v5 then (some (.inr (c_far, c_isWaiting, c_waiting, v3))) else (nm ((((v4 - v4 / 40 * 40) + (v5 - v5 / 3 * 3)) - 1)) fun v6_106 => nm ((((v4 / 40) + (v5 / 3)) - 1)) fun v7_120 => nm (((40 * v7_120) + v6_106)) fun v8_130 => if v5 = 4 then (X10_reaches_b87_254 c_far c_isWaiting c_waiting v1 v2 v3 v4 v5) else (bnd (X10_noSquare v6_106 v7_120) <| fun r_142 => if r_142 = 0 then (if v8_130 = v1 then (X10_reaches_b87_254 c_far c_isWaiting c_waiting v1 v2 v3 v4 v5) else (ck (ix v8_130 1200) <| if (ag c_what v8_130) = 1 then (ck (ix v4 1200) <| if (v5 - v5 / 2 * 2) = 1 then (X10_reaches_b87_189 c_far c_isWaiting c_waiting v1 v2 v3 v4 v5 v8_130 (ag c_far v4) 5) else (X10_reaches_b87_189 c_far c_isWaiting c_waiting v1 v2 v3 v4 v5 v8_130 (ag c_far v4) 7)) else (X10_reaches_b87_254 c_far c_isWaiting c_waiting v1 v2 v3 v4 v5))) else (X10_reaches_b87_254 c_far c_isWaiting c_waiting v1 v2 v3 v4 v5)))
noncomputable def X10_reaches_L53 (c_what : Ar) (v1 : Int32) (c_far c_isWaiting c_waiting : Ar) (v2 v3 : Int32) : Option ((Ar × Ar × Ar × Int32 × Int32) ⊕ (Ar × Ar × Ar)) :=
  if v3 ≤ 0 then (some (.inr (c_far, c_isWaiting, c_waiting))) else (ck (ix v2 1200) <| nm ((ag c_waiting v2)) fun v4_63 => nm (((v2 + 1) - (v2 + 1) / 1200 * 1200)) fun v2_72 => nm (v3 + (-1)) fun v3_73 => ck (ix v4_63 1200) <| nm (au c_isWaiting v4_63 (vp_nar .boolean 0)) fun c_isWaiting_83 => bnd (whileV (fun st => X10_reaches_L87 c_what v1 v2_72 v4_63 st.1 st.2.1 st.2.2.1 st.2.2.2.1 st.2.2.2.2) (c_far, c_isWaiting_83, c_waiting, v3_73, 0)) <| (un4 fun c_far_260 c_isWaiting_260 c_waiting_260 v3_260 => some (.inl (c_far_260, c_isWaiting_260, c_waiting_260, v2_72, v3_260))))
noncomputable def X10_reaches (c_source : Int32) (c_far c_isWaiting c_waiting c_what : Ar) (v1 : Int32) : Option (Int32 × Ar × Ar × Ar) :=
  bnd (whileV (fun st => X10_reaches_L7 v1 st.1 st.2.1 st.2.2) (c_far, c_isWaiting, 0)) <| (un2 fun c_far_35 c_isWaiting_35 => ck (ix v1 1200) <| nm (au c_far_35 v1 0) fun c_far_41 => ck (ix 0 1200) <| nm (au c_waiting 0 v1) fun c_waiting_48 => bnd (whileV (fun st => X10_reaches_L53 c_what v1 st.1 st.2.1 st.2.2.1 st.2.2.2.1 st.2.2.2.2) (c_far_41, c_isWaiting_35, c_waiting_48, 0, 1)) <| (un3 fun c_far_263 c_isWaiting_263 c_waiting_263 => some (v1, c_far_263, c_isWaiting_263, c_waiting_263)))
set_option maxHeartbeats 4000000 in
set_option maxRecDepth 100000 in
theorem t_X10_reaches (l : Launch) (g : G9) (a_t a_far a_isWaiting a_waiting a_what a_cornerX a_cornerY a_corners a_rowAt a_strip a_along a_rowSize a_endAt a_turns a_plan a_slantA a_slantB a_yields a_bears a_seen a_wagons a_pile a_rest a_isUsed : Nat) (c_thrown c_isLaid c_head c_hasRows c_hasPlan c_rows c_slants c_capacity c_weight c_unload c_source c_bunker : Int32) (c_far c_isWaiting c_waiting c_what : Ar) (v1 o_source : Int32) (o_far o_isWaiting o_waiting : Ar) (h : X10_reaches c_source c_far c_isWaiting c_waiting c_what v1 = some (o_source, o_far, o_isWaiting, o_waiting)) : CtV l g yX10_reaches cX10_reaches 10 1 21 [.ref a_t, .int v1] (w_X10_reaches g a_t a_far a_isWaiting a_waiting a_what a_cornerX a_cornerY a_corners a_rowAt a_strip a_along a_rowSize a_endAt a_turns a_plan a_slantA a_slantB a_yields a_bears a_seen a_wagons a_pile a_rest a_isUsed c_thrown c_isLaid c_head c_hasRows c_hasPlan c_rows c_slants c_capacity c_weight c_unload c_source c_bunker c_far c_isWaiting c_waiting c_what) (w_X10_reaches g a_t a_far a_isWaiting a_waiting a_what a_cornerX a_cornerY a_corners a_rowAt a_strip a_along a_rowSize a_endAt a_turns a_plan a_slantA a_slantB a_yields a_bears a_seen a_wagons a_pile a_rest a_isUsed c_thrown c_isLaid c_head c_hasRows c_hasPlan c_rows c_slants c_capacity c_weight c_unload o_source c_bunker o_far o_isWaiting o_waiting c_what) := by
  refine startV (by decide) (Nat.le_of_ble_eq_true rfl) ?_
  intro p e s m below meth c A Q ls args M hW hl ret
  have hx := M.1
  have hb := M.2.1
  have hown := M.2.2.2.1
  have hu := M.2.2.2.2.1
  have hl : lv_has ls 10 [(0, .ref a_t), (1, .int v1)] := hl
  unfold X10_reaches at h
  obtain ⟨H, eH⟩ : ∃ z, z = s.heap := ⟨_, rfl⟩
  obtain ⟨locs, eL⟩ : ∃ z, z = ([] : List Loc) := ⟨_, rfl⟩
  rw [← eL] at hW ⊢
  suffices hS9 : WD g s A (w_X10_reaches g a_t a_far a_isWaiting a_waiting a_what a_cornerX a_cornerY a_corners a_rowAt a_strip a_along a_rowSize a_endAt a_turns a_plan a_slantA a_slantB a_yields a_bears a_seen a_wagons a_pile a_rest a_isUsed c_thrown c_isLaid c_head c_hasRows c_hasPlan c_rows c_slants c_capacity c_weight c_unload c_source c_bunker c_far c_isWaiting c_waiting c_what) H locs → W p l e (rm9 1 21) s m args below meth c H locs 0 0 Q (F0 m 0 ls []) by
    rw [← eH] at hW ⊢
    exact hS9 hW
  clear hW eH eL
  intro hW
  refine lv_aload_n (pc := 0) hx hb (dd dX10_reaches_p0 0 rfl) rfl (lv_at hl 0 rfl) ?_
  refine lv_iload_n (pc := 1) hx hb (dd dX10_reaches_p0 1 rfl) rfl (lv_at hl 1 rfl) ?_
  refine rPut (pc := 2) M hW 0 29 tyX10 tyX10_ok nmX10 iU10 rfl rfl (by decide) (uw5 2 rfl rfl) rfl rfl rfl (Nat.le_of_ble_eq_true rfl) (dd dX10_reaches_p0 2 rfl) (ws' := (w_X10_reaches g a_t a_far a_isWaiting a_waiting a_what a_cornerX a_cornerY a_corners a_rowAt a_strip a_along a_rowSize a_endAt a_turns a_plan a_slantA a_slantB a_yields a_bears a_seen a_wagons a_pile a_rest a_isUsed c_thrown c_isLaid c_head c_hasRows c_hasPlan c_rows c_slants c_capacity c_weight c_unload v1 c_bunker c_far c_isWaiting c_waiting c_what)) rfl (fun H locs hW => ?_)
  refine lv_iconst (pc := 5) (v := 0) hx hb (dd dX10_reaches_p0 3 rfl) (by decide) ?_
  refine lv_istore_n (pc := 6) (lv' := [(2, .int 0), (0, .ref a_t), (1, .int v1)]) hx hb (dd dX10_reaches_p0 4 rfl) rfl hl (by decide) rfl (fun ls hl => ?_)
  obtain ⟨ex, hw, h⟩ := bnd_ex h
  refine loopW (fun st => ∀ (H : Heap) (locs : List Loc) (ls : Array Slot), WD g s A (w_X10_reaches g a_t a_far a_isWaiting a_waiting a_what a_cornerX a_cornerY a_corners a_rowAt a_strip a_along a_rowSize a_endAt a_turns a_plan a_slantA a_slantB a_yields a_bears a_seen a_wagons a_pile a_rest a_isUsed c_thrown c_isLaid c_head c_hasRows c_hasPlan c_rows c_slants c_capacity c_weight c_unload v1 c_bunker (st.1) (st.2.1) c_waiting c_what) H locs → lv_has ls 10 [(0, .ref a_t), (1, .int v1), (2, .int (st.2.2))] → W p l e (rm9 1 21) s m args below meth c H locs 0 0 Q (F0 m 7 ls [])) (fun (ex : (Ar × Ar)) => ∀ (H : Heap) (locs : List Loc) (ls : Array Slot), WD g s A (w_X10_reaches g a_t a_far a_isWaiting a_waiting a_what a_cornerX a_cornerY a_corners a_rowAt a_strip a_along a_rowSize a_endAt a_turns a_plan a_slantA a_slantB a_yields a_bears a_seen a_wagons a_pile a_rest a_isUsed c_thrown c_isLaid c_head c_hasRows c_hasPlan c_rows c_slants c_capacity c_weight c_unload v1 c_bunker (ex.1) (ex.2) c_waiting c_what) H locs → lv_has ls 10 [(0, .ref a_t), (1, .int v1)] → W p l e (rm9 1 21) s m args below meth c H locs 0 0 Q (F0 m 35 ls [])) ?_ hw ?_ H locs ls hW (lv_sub hl [1, 2, 0] rfl)
  · rintro ⟨c_far, c_isWaiting, v2⟩ o hb9 hk H locs ls hW hl
    have h : X10_reaches_L7 v1 c_far c_isWaiting v2 = some o := hb9
    clear hb9
    unfold X10_reaches_L7 at h
    refine lv_iload_n (pc := 7) hx hb (dd dX10_reaches_p0 5 rfl) rfl (lv_at hl 2 rfl) ?_
    refine lv_sipush (pc := 8) (v := 1200) hx hb (dd dX10_reaches_p0 6 rfl) (by decide) ?_
    refine lv_icmp_ge (pc := 11) (tgt := 35) hx hb (dd dX10_reaches_p0 7 rfl) (by decide) (fun hc => ?_) (fun hc => ?_)
    · have h := it_t hc h
      obtain rfl := Option.some.inj h
      exact hk _ _ _ hW (lv_sub hl [0, 1] rfl)
    · have h := it_f hc h
      refine lv_aload_n (pc := 14) hx hb (dd dX10_reaches_p0 8 rfl) rfl (lv_at hl 0 rfl) ?_
      refine rGet (pc := 15) M hW 0 28 iU10 rfl rfl (by decide) (uw5 1 rfl rfl) rfl (dd dX10_reaches_p0 9 rfl) ?_
      refine lv_iload_n (pc := 18) hx hb (dd dX10_reaches_p0 10 rfl) rfl (lv_at hl 2 rfl) ?_
      refine lv_ldc (pc := 19) (v := 100000000) hx hb hown (hu _ (uw5 153 rfl rfl)) (dd dX10_reaches_p0 11 rfl) ?_
      obtain ⟨hi, h⟩ := ck_ex h
      obtain ⟨c_far_21, ec_far_21, h⟩ := nm_ex h
      refine rIast (pc := 21) M hW 1 rfl hi ec_far_21 (ws' := (w_X10_reaches g a_t a_far a_isWaiting a_waiting a_what a_cornerX a_cornerY a_corners a_rowAt a_strip a_along a_rowSize a_endAt a_turns a_plan a_slantA a_slantB a_yields a_bears a_seen a_wagons a_pile a_rest a_isUsed c_thrown c_isLaid c_head c_hasRows c_hasPlan c_rows c_slants c_capacity c_weight c_unload v1 c_bunker c_far_21 c_isWaiting c_waiting c_what)) rfl (dd dX10_reaches_p0 12 rfl) (fun H locs hW => ?_)
      refine lv_aload_n (pc := 22) hx hb (dd dX10_reaches_p0 13 rfl) rfl (lv_at hl 0 rfl) ?_
      refine rGet (pc := 23) M hW 0 31 iU10 rfl rfl (by decide) (uw5 4 rfl rfl) rfl (dd dX10_reaches_p0 14 rfl) ?_
      refine lv_iload_n (pc := 26) hx hb (dd dX10_reaches_p0 15 rfl) rfl (lv_at hl 2 rfl) ?_
      refine lv_iconst (pc := 27) (v := 0) hx hb (dd dX10_reaches_p0 16 rfl) (by decide) ?_
      obtain ⟨hi, h⟩ := ck_ex h
      obtain ⟨c_isWaiting_28, ec_isWaiting_28, h⟩ := nm_ex h
      refine rZast (pc := 28) M hW 2 rfl hi ec_isWaiting_28 (ws' := (w_X10_reaches g a_t a_far a_isWaiting a_waiting a_what a_cornerX a_cornerY a_corners a_rowAt a_strip a_along a_rowSize a_endAt a_turns a_plan a_slantA a_slantB a_yields a_bears a_seen a_wagons a_pile a_rest a_isUsed c_thrown c_isLaid c_head c_hasRows c_hasPlan c_rows c_slants c_capacity c_weight c_unload v1 c_bunker c_far_21 c_isWaiting_28 c_waiting c_what)) rfl (dd dX10_reaches_p0 17 rfl) (fun H locs hW => ?_)
      obtain ⟨v2_29, ev2_29, h⟩ := nm_ex h
      refine lv_iinc (pc := 29) (v := v2_29) (lv' := [(2, .int v2_29), (0, .ref a_t), (1, .int v1)]) hx hb (dd dX10_reaches_p0 18 rfl) hl (k := 2) rfl (by rw [ev2_29]; rfl) (by decide) rfl (fun ls hl => ?_)
      refine lv_goto (pc := 32) (tgt := 7) hx hb (dd dX10_reaches_p0 19 rfl) (by decide) ?_
      obtain rfl := Option.some.inj h
      exact hk _ _ _ hW (lv_sub hl [1, 2, 0] rfl)
  · obtain ⟨c_far_35, c_isWaiting_35⟩ := ex
    have h := un2_at h
    intro H locs ls hW hl
    refine lv_aload_n (pc := 35) hx hb (dd dX10_reaches_p0 20 rfl) rfl (lv_at hl 0 rfl) ?_
    refine rGet (pc := 36) M hW 0 28 iU10 rfl rfl (by decide) (uw5 1 rfl rfl) rfl (dd dX10_reaches_p0 21 rfl) ?_
    refine lv_iload_n (pc := 39) hx hb (dd dX10_reaches_p0 22 rfl) rfl (lv_at hl 1 rfl) ?_
    refine lv_iconst (pc := 40) (v := 0) hx hb (dd dX10_reaches_p0 23 rfl) (by decide) ?_
    obtain ⟨hi, h⟩ := ck_ex h
    obtain ⟨c_far_41, ec_far_41, h⟩ := nm_ex h
    refine rIast (pc := 41) M hW 1 rfl hi ec_far_41 (ws' := (w_X10_reaches g a_t a_far a_isWaiting a_waiting a_what a_cornerX a_cornerY a_corners a_rowAt a_strip a_along a_rowSize a_endAt a_turns a_plan a_slantA a_slantB a_yields a_bears a_seen a_wagons a_pile a_rest a_isUsed c_thrown c_isLaid c_head c_hasRows c_hasPlan c_rows c_slants c_capacity c_weight c_unload v1 c_bunker c_far_41 c_isWaiting_35 c_waiting c_what)) rfl (dd dX10_reaches_p0 24 rfl) (fun H locs hW => ?_)
    refine lv_aload_n (pc := 42) hx hb (dd dX10_reaches_p0 25 rfl) rfl (lv_at hl 0 rfl) ?_
    refine rGet (pc := 43) M hW 0 30 iU10 rfl rfl (by decide) (uw5 3 rfl rfl) rfl (dd dX10_reaches_p0 26 rfl) ?_
    refine lv_iconst (pc := 46) (v := 0) hx hb (dd dX10_reaches_p0 27 rfl) (by decide) ?_
    refine lv_iload_n (pc := 47) hx hb (dd dX10_reaches_p0 28 rfl) rfl (lv_at hl 1 rfl) ?_
    obtain ⟨hi, h⟩ := ck_ex h
    obtain ⟨c_waiting_48, ec_waiting_48, h⟩ := nm_ex h
    refine rIast (pc := 48) M hW 3 rfl hi ec_waiting_48 (ws' := (w_X10_reaches g a_t a_far a_isWaiting a_waiting a_what a_cornerX a_cornerY a_corners a_rowAt a_strip a_along a_rowSize a_endAt a_turns a_plan a_slantA a_slantB a_yields a_bears a_seen a_wagons a_pile a_rest a_isUsed c_thrown c_isLaid c_head c_hasRows c_hasPlan c_rows c_slants c_capacity c_weight c_unload v1 c_bunker c_far_41 c_isWaiting_35 c_waiting_48 c_what)) rfl (dd dX10_reaches_p0 29 rfl) (fun H locs hW => ?_)
    refine lv_iconst (pc := 49) (v := 0) hx hb (dd dX10_reaches_p0 30 rfl) (by decide) ?_
    refine lv_istore_n (pc := 50) (lv' := [(2, .int 0), (0, .ref a_t), (1, .int v1)]) hx hb (dd dX10_reaches_p0 31 rfl) rfl hl (by decide) rfl (fun ls hl => ?_)
    refine lv_iconst (pc := 51) (v := 1) hx hb (dd dX10_reaches_p0 32 rfl) (by decide) ?_
    refine lv_istore_n (pc := 52) (lv' := [(3, .int 1), (2, .int 0), (0, .ref a_t), (1, .int v1)]) hx hb (dd dX10_reaches_p0 33 rfl) rfl hl (by decide) rfl (fun ls hl => ?_)
    obtain ⟨ex, hw, h⟩ := bnd_ex h
    refine loopW (fun st => ∀ (H : Heap) (locs : List Loc) (ls : Array Slot), WD g s A (w_X10_reaches g a_t a_far a_isWaiting a_waiting a_what a_cornerX a_cornerY a_corners a_rowAt a_strip a_along a_rowSize a_endAt a_turns a_plan a_slantA a_slantB a_yields a_bears a_seen a_wagons a_pile a_rest a_isUsed c_thrown c_isLaid c_head c_hasRows c_hasPlan c_rows c_slants c_capacity c_weight c_unload v1 c_bunker (st.1) (st.2.1) (st.2.2.1) c_what) H locs → lv_has ls 10 [(0, .ref a_t), (1, .int v1), (2, .int (st.2.2.2.1)), (3, .int (st.2.2.2.2))] → W p l e (rm9 1 21) s m args below meth c H locs 0 0 Q (F0 m 53 ls [])) (fun (ex : (Ar × Ar × Ar)) => ∀ (H : Heap) (locs : List Loc) (ls : Array Slot), WD g s A (w_X10_reaches g a_t a_far a_isWaiting a_waiting a_what a_cornerX a_cornerY a_corners a_rowAt a_strip a_along a_rowSize a_endAt a_turns a_plan a_slantA a_slantB a_yields a_bears a_seen a_wagons a_pile a_rest a_isUsed c_thrown c_isLaid c_head c_hasRows c_hasPlan c_rows c_slants c_capacity c_weight c_unload v1 c_bunker (ex.1) (ex.2.1) (ex.2.2) c_what) H locs → lv_has ls 10 [] → W p l e (rm9 1 21) s m args below meth c H locs 0 0 Q (F0 m 263 ls [])) ?_ hw ?_ H locs ls hW (lv_sub hl [2, 3, 1, 0] rfl)
    · rintro ⟨c_far, c_isWaiting, c_waiting, v2, v3⟩ o hb9 hk H locs ls hW hl
      have h : X10_reaches_L53 c_what v1 c_far c_isWaiting c_waiting v2 v3 = some o := hb9
      clear hb9
      unfold X10_reaches_L53 at h
      refine lv_iload_n (pc := 53) hx hb (dd dX10_reaches_p0 34 rfl) rfl (lv_at hl 3 rfl) ?_
      refine lv_if_le (pc := 54) (tgt := 263) hx hb (dd dX10_reaches_p0 35 rfl) (by decide) (fun hc => ?_) (fun hc => ?_)
      · have h := it_t hc h
        obtain rfl := Option.some.inj h
        exact hk _ _ _ hW (lv_sub hl [] rfl)
      · have h := it_f hc h
        refine lv_aload_n (pc := 57) hx hb (dd dX10_reaches_p0 36 rfl) rfl (lv_at hl 0 rfl) ?_
        refine rGet (pc := 58) M hW 0 30 iU10 rfl rfl (by decide) (uw5 3 rfl rfl) rfl (dd dX10_reaches_p0 37 rfl) ?_
        refine lv_iload_n (pc := 61) hx hb (dd dX10_reaches_p0 38 rfl) rfl (lv_at hl 2 rfl) ?_
        obtain ⟨hi, h⟩ := ck_ex h
        refine rIald (pc := 62) M hW 3 rfl hi (dd dX10_reaches_p0 39 rfl) ?_
        obtain ⟨v4_63, ev4_63, h⟩ := nm_ex h
        refine rTopi (pc := 63) ev4_63 ?_
        refine lv_istore (pc := 63) (lv' := [(4, .int v4_63), (0, .ref a_t), (1, .int v1), (2, .int v2), (3, .int v3)]) hx hb (dd dX10_reaches_p0 40 rfl) hl (by decide) rfl (fun ls hl => ?_)
        refine lv_iload_n (pc := 65) hx hb (dd dX10_reaches_p0 41 rfl) rfl (lv_at hl 3 rfl) ?_
        refine lv_iconst (pc := 66) (v := 1) hx hb (dd dX10_reaches_p0 42 rfl) (by decide) ?_
        refine lv_iadd (pc := 67) hx hb (dd dX10_reaches_p0 43 rfl) ?_
        refine lv_sipush (pc := 68) (v := 1200) hx hb (dd dX10_reaches_p0 44 rfl) (by decide) ?_
        refine lv_irem (pc := 71) hx hb (dd dX10_reaches_p0 45 rfl) (by decide) ?_
        obtain ⟨v2_72, ev2_72, h⟩ := nm_ex h
        refine rTopi (pc := 72) ev2_72 ?_
        refine lv_istore_n (pc := 72) (lv' := [(2, .int v2_72), (4, .int v4_63), (0, .ref a_t), (1, .int v1), (3, .int v3)]) hx hb (dd dX10_reaches_p0 46 rfl) rfl hl (by decide) rfl (fun ls hl => ?_)
        obtain ⟨v3_73, ev3_73, h⟩ := nm_ex h
        refine lv_iinc (pc := 73) (v := v3_73) (lv' := [(3, .int v3_73), (2, .int v2_72), (4, .int v4_63), (0, .ref a_t), (1, .int v1)]) hx hb (dd dX10_reaches_p0 47 rfl) hl (k := 4) rfl (by rw [ev3_73]; rfl) (by decide) rfl (fun ls hl => ?_)
        refine lv_aload_n (pc := 76) hx hb (dd dX10_reaches_p0 48 rfl) rfl (lv_at hl 3 rfl) ?_
        refine rGet (pc := 77) M hW 0 31 iU10 rfl rfl (by decide) (uw5 4 rfl rfl) rfl (dd dX10_reaches_p0 49 rfl) ?_
        refine lv_iload (pc := 80) hx hb (dd dX10_reaches_p0 50 rfl) (lv_at hl 2 rfl) ?_
        refine lv_iconst (pc := 82) (v := 0) hx hb (dd dX10_reaches_p0 51 rfl) (by decide) ?_
        obtain ⟨hi, h⟩ := ck_ex h
        obtain ⟨c_isWaiting_83, ec_isWaiting_83, h⟩ := nm_ex h
        refine rZast (pc := 83) M hW 2 rfl hi ec_isWaiting_83 (ws' := (w_X10_reaches g a_t a_far a_isWaiting a_waiting a_what a_cornerX a_cornerY a_corners a_rowAt a_strip a_along a_rowSize a_endAt a_turns a_plan a_slantA a_slantB a_yields a_bears a_seen a_wagons a_pile a_rest a_isUsed c_thrown c_isLaid c_head c_hasRows c_hasPlan c_rows c_slants c_capacity c_weight c_unload v1 c_bunker c_far c_isWaiting_83 c_waiting c_what)) rfl (dd dX10_reaches_p0 52 rfl) (fun H locs hW => ?_)
        refine lv_iconst (pc := 84) (v := 0) hx hb (dd dX10_reaches_p0 53 rfl) (by decide) ?_
        refine lv_istore (pc := 85) (lv' := [(5, .int 0), (3, .int v3_73), (2, .int v2_72), (4, .int v4_63), (0, .ref a_t), (1, .int v1)]) hx hb (dd dX10_reaches_p0 54 rfl) hl (by decide) rfl (fun ls hl => ?_)
        obtain ⟨ex, hw, h⟩ := bnd_ex h
        refine loopW (fun st => ∀ (H : Heap) (locs : List Loc) (ls : Array Slot), WD g s A (w_X10_reaches g a_t a_far a_isWaiting a_waiting a_what a_cornerX a_cornerY a_corners a_rowAt a_strip a_along a_rowSize a_endAt a_turns a_plan a_slantA a_slantB a_yields a_bears a_seen a_wagons a_pile a_rest a_isUsed c_thrown c_isLaid c_head c_hasRows c_hasPlan c_rows c_slants c_capacity c_weight c_unload v1 c_bunker (st.1) (st.2.1) (st.2.2.1) c_what) H locs → lv_has ls 10 [(0, .ref a_t), (1, .int v1), (2, .int v2_72), (3, .int (st.2.2.2.1)), (4, .int v4_63), (5, .int (st.2.2.2.2))] → W p l e (rm9 1 21) s m args below meth c H locs 0 0 Q (F0 m 87 ls [])) (fun (ex : (Ar × Ar × Ar × Int32)) => ∀ (H : Heap) (locs : List Loc) (ls : Array Slot), WD g s A (w_X10_reaches g a_t a_far a_isWaiting a_waiting a_what a_cornerX a_cornerY a_corners a_rowAt a_strip a_along a_rowSize a_endAt a_turns a_plan a_slantA a_slantB a_yields a_bears a_seen a_wagons a_pile a_rest a_isUsed c_thrown c_isLaid c_head c_hasRows c_hasPlan c_rows c_slants c_capacity c_weight c_unload v1 c_bunker (ex.1) (ex.2.1) (ex.2.2.1) c_what) H locs → lv_has ls 10 [(0, .ref a_t), (1, .int v1), (2, .int v2_72), (3, .int (ex.2.2.2))] → W p l e (rm9 1 21) s m args below meth c H locs 0 0 Q (F0 m 260 ls [])) ?_ hw ?_ H locs ls hW (lv_sub hl [4, 5, 2, 1, 3, 0] rfl)
        · rintro ⟨c_far, c_isWaiting, c_waiting, v3, v5⟩ o hb9 hk H locs ls hW hl
          have h : X10_reaches_L87 c_what v1 v2_72 v4_63 c_far c_isWaiting c_waiting v3 v5 = some o := hb9
          clear hb9
          unfold X10_reaches_L87 at h
          have J254 : ∀ (c_far c_isWaiting c_waiting : Ar) (v3 v5 : Int32) (H : Heap) (locs : List Loc) (ls : Array Slot), X10_reaches_b87_254 c_far c_isWaiting c_waiting v1 v2_72 v3 v4_63 v5 = some o → WD g s A (w_X10_reaches g a_t a_far a_isWaiting a_waiting a_what a_cornerX a_cornerY a_corners a_rowAt a_strip a_along a_rowSize a_endAt a_turns a_plan a_slantA a_slantB a_yields a_bears a_seen a_wagons a_pile a_rest a_isUsed c_thrown c_isLaid c_head c_hasRows c_hasPlan c_rows c_slants c_capacity c_weight c_unload v1 c_bunker c_far c_isWaiting c_waiting c_what) H locs → lv_has ls 10 [(0, .ref a_t), (1, .int v1), (2, .int v2_72), (3, .int v3), (4, .int v4_63), (5, .int v5)] → W p l e (rm9 1 21) s m args below meth c H locs 0 0 Q (F0 m 254 ls []) := by
            intro c_far c_isWaiting c_waiting v3 v5 H locs ls h hW hl
            unfold X10_reaches_b87_254 at h
            obtain ⟨v5_254, ev5_254, h⟩ := nm_ex h
            refine lv_iinc (pc := 254) (v := v5_254) (lv' := [(5, .int v5_254), (0, .ref a_t), (1, .int v1), (2, .int v2_72), (3, .int v3), (4, .int v4_63)]) hx hb (dd dX10_reaches_p2 28 rfl) hl (k := 5) rfl (by rw [ev5_254]; rfl) (by decide) rfl (fun ls hl => ?_)
            refine lv_goto (pc := 257) (tgt := 87) hx hb (dd dX10_reaches_p2 29 rfl) (by decide) ?_
            obtain rfl := Option.some.inj h
            exact hk _ _ _ hW (lv_sub hl [1, 2, 3, 4, 5, 0] rfl)
          have J189 : ∀ (c_far c_isWaiting c_waiting : Ar) (v3 v5 v8 k0 k1 : Int32) (H : Heap) (locs : List Loc) (ls : Array Slot), X10_reaches_b87_189 c_far c_isWaiting c_waiting v1 v2_72 v3 v4_63 v5 v8 k0 k1 = some o → WD g s A (w_X10_reaches g a_t a_far a_isWaiting a_waiting a_what a_cornerX a_cornerY a_corners a_rowAt a_strip a_along a_rowSize a_endAt a_turns a_plan a_slantA a_slantB a_yields a_bears a_seen a_wagons a_pile a_rest a_isUsed c_thrown c_isLaid c_head c_hasRows c_hasPlan c_rows c_slants c_capacity c_weight c_unload v1 c_bunker c_far c_isWaiting c_waiting c_what) H locs → lv_has ls 10 [(0, .ref a_t), (1, .int v1), (2, .int v2_72), (3, .int v3), (4, .int v4_63), (5, .int v5), (8, .int v8)] → W p l e (rm9 1 21) s m args below meth c H locs 0 0 Q (F0 m 189 ls [.int k1, .int k0]) := by
            intro c_far c_isWaiting c_waiting v3 v5 v8 k0 k1 H locs ls h hW hl
            unfold X10_reaches_b87_189 at h
            refine lv_iadd (pc := 189) hx hb (dd dX10_reaches_p1 53 rfl) ?_
            obtain ⟨v9_190, ev9_190, h⟩ := nm_ex h
            refine rTopi (pc := 190) ev9_190 ?_
            refine lv_istore (pc := 190) (lv' := [(9, .int v9_190), (0, .ref a_t), (1, .int v1), (2, .int v2_72), (3, .int v3), (4, .int v4_63), (5, .int v5), (8, .int v8)]) hx hb (dd dX10_reaches_p1 54 rfl) hl (by decide) rfl (fun ls hl => ?_)
            refine lv_iload (pc := 192) hx hb (dd dX10_reaches_p1 55 rfl) (lv_at hl 0 rfl) ?_
            refine lv_aload_n (pc := 194) hx hb (dd dX10_reaches_p1 56 rfl) rfl (lv_at hl 1 rfl) ?_
            refine rGet (pc := 195) M hW 0 28 iU10 rfl rfl (by decide) (uw5 1 rfl rfl) rfl (dd dX10_reaches_p1 57 rfl) ?_
            refine lv_iload (pc := 198) hx hb (dd dX10_reaches_p1 58 rfl) (lv_at hl 7 rfl) ?_
            obtain ⟨hi, h⟩ := ck_ex h
            refine rIald (pc := 200) M hW 1 rfl hi (dd dX10_reaches_p1 59 rfl) ?_
            refine lv_icmp_lt (pc := 201) (tgt := 207) hx hb (dd dX10_reaches_p2 0 rfl) (by decide) (fun hc => ?_) (fun hc => ?_)
            · have h := it_t hc h
              refine lv_aload_n (pc := 207) hx hb (dd dX10_reaches_p2 2 rfl) rfl (lv_at hl 1 rfl) ?_
              refine rGet (pc := 208) M hW 0 28 iU10 rfl rfl (by decide) (uw5 1 rfl rfl) rfl (dd dX10_reaches_p2 3 rfl) ?_
              refine lv_iload (pc := 211) hx hb (dd dX10_reaches_p2 4 rfl) (lv_at hl 7 rfl) ?_
              refine lv_iload (pc := 213) hx hb (dd dX10_reaches_p2 5 rfl) (lv_at hl 0 rfl) ?_
              obtain ⟨hi, h⟩ := ck_ex h
              obtain ⟨c_far_215, ec_far_215, h⟩ := nm_ex h
              refine rIast (pc := 215) M hW 1 rfl hi ec_far_215 (ws' := (w_X10_reaches g a_t a_far a_isWaiting a_waiting a_what a_cornerX a_cornerY a_corners a_rowAt a_strip a_along a_rowSize a_endAt a_turns a_plan a_slantA a_slantB a_yields a_bears a_seen a_wagons a_pile a_rest a_isUsed c_thrown c_isLaid c_head c_hasRows c_hasPlan c_rows c_slants c_capacity c_weight c_unload v1 c_bunker c_far_215 c_isWaiting c_waiting c_what)) rfl (dd dX10_reaches_p2 6 rfl) (fun H locs hW => ?_)
              refine lv_aload_n (pc := 216) hx hb (dd dX10_reaches_p2 7 rfl) rfl (lv_at hl 1 rfl) ?_
              refine rGet (pc := 217) M hW 0 31 iU10 rfl rfl (by decide) (uw5 4 rfl rfl) rfl (dd dX10_reaches_p2 8 rfl) ?_
              refine lv_iload (pc := 220) hx hb (dd dX10_reaches_p2 9 rfl) (lv_at hl 7 rfl) ?_
              obtain ⟨hi, h⟩ := ck_ex h
              refine rZald (pc := 222) M hW 2 rfl hi (dd dX10_reaches_p2 10 rfl) ?_
              refine lv_if_eq (pc := 223) (tgt := 229) hx hb (dd dX10_reaches_p2 11 rfl) (by decide) (fun hc => ?_) (fun hc => ?_)
              · have h := it_t hc h
                refine lv_aload_n (pc := 229) hx hb (dd dX10_reaches_p2 13 rfl) rfl (lv_at hl 1 rfl) ?_
                refine rGet (pc := 230) M hW 0 31 iU10 rfl rfl (by decide) (uw5 4 rfl rfl) rfl (dd dX10_reaches_p2 14 rfl) ?_
                refine lv_iload (pc := 233) hx hb (dd dX10_reaches_p2 15 rfl) (lv_at hl 7 rfl) ?_
                refine lv_iconst (pc := 235) (v := 1) hx hb (dd dX10_reaches_p2 16 rfl) (by decide) ?_
                obtain ⟨hi, h⟩ := ck_ex h
                obtain ⟨c_isWaiting_236, ec_isWaiting_236, h⟩ := nm_ex h
                refine rZast (pc := 236) M hW 2 rfl hi ec_isWaiting_236 (ws' := (w_X10_reaches g a_t a_far a_isWaiting a_waiting a_what a_cornerX a_cornerY a_corners a_rowAt a_strip a_along a_rowSize a_endAt a_turns a_plan a_slantA a_slantB a_yields a_bears a_seen a_wagons a_pile a_rest a_isUsed c_thrown c_isLaid c_head c_hasRows c_hasPlan c_rows c_slants c_capacity c_weight c_unload v1 c_bunker c_far_215 c_isWaiting_236 c_waiting c_what)) rfl (dd dX10_reaches_p2 17 rfl) (fun H locs hW => ?_)
                refine lv_aload_n (pc := 237) hx hb (dd dX10_reaches_p2 18 rfl) rfl (lv_at hl 1 rfl) ?_
                refine rGet (pc := 238) M hW 0 30 iU10 rfl rfl (by decide) (uw5 3 rfl rfl) rfl (dd dX10_reaches_p2 19 rfl) ?_
                refine lv_iload_n (pc := 241) hx hb (dd dX10_reaches_p2 20 rfl) rfl (lv_at hl 3 rfl) ?_
                refine lv_iload_n (pc := 242) hx hb (dd dX10_reaches_p2 21 rfl) rfl (lv_at hl 4 rfl) ?_
                refine lv_iadd (pc := 243) hx hb (dd dX10_reaches_p2 22 rfl) ?_
                refine lv_sipush (pc := 244) (v := 1200) hx hb (dd dX10_reaches_p2 23 rfl) (by decide) ?_
                refine lv_irem (pc := 247) hx hb (dd dX10_reaches_p2 24 rfl) (by decide) ?_
                refine lv_iload (pc := 248) hx hb (dd dX10_reaches_p2 25 rfl) (lv_at hl 7 rfl) ?_
                obtain ⟨hi, h⟩ := ck_ex h
                obtain ⟨c_waiting_250, ec_waiting_250, h⟩ := nm_ex h
                refine rIast (pc := 250) M hW 3 rfl hi ec_waiting_250 (ws' := (w_X10_reaches g a_t a_far a_isWaiting a_waiting a_what a_cornerX a_cornerY a_corners a_rowAt a_strip a_along a_rowSize a_endAt a_turns a_plan a_slantA a_slantB a_yields a_bears a_seen a_wagons a_pile a_rest a_isUsed c_thrown c_isLaid c_head c_hasRows c_hasPlan c_rows c_slants c_capacity c_weight c_unload v1 c_bunker c_far_215 c_isWaiting_236 c_waiting_250 c_what)) rfl (dd dX10_reaches_p2 26 rfl) (fun H locs hW => ?_)
                obtain ⟨v3_251, ev3_251, h⟩ := nm_ex h
                refine lv_iinc (pc := 251) (v := v3_251) (lv' := [(3, .int v3_251), (9, .int v9_190), (0, .ref a_t), (1, .int v1), (2, .int v2_72), (4, .int v4_63), (5, .int v5), (8, .int v8)]) hx hb (dd dX10_reaches_p2 27 rfl) hl (k := 4) rfl (by rw [ev3_251]; rfl) (by decide) rfl (fun ls hl => ?_)
                exact J254 _ _ _ _ _ _ _ _ h hW (lv_sub hl [2, 3, 4, 0, 5, 6] rfl)
              · have h := it_f hc h
                refine lv_goto (pc := 226) (tgt := 254) hx hb (dd dX10_reaches_p2 12 rfl) (by decide) ?_
                exact J254 _ _ _ _ _ _ _ _ h hW (lv_sub hl [1, 2, 3, 4, 5, 6] rfl)
            · have h := it_f hc h
              refine lv_goto (pc := 204) (tgt := 254) hx hb (dd dX10_reaches_p2 1 rfl) (by decide) ?_
              exact J254 _ _ _ _ _ _ _ _ h hW (lv_sub hl [1, 2, 3, 4, 5, 6] rfl)
          refine lv_iload (pc := 87) hx hb (dd dX10_reaches_p0 55 rfl) (lv_at hl 5 rfl) ?_
          refine lv_bipush (pc := 89) (v := 9) hx hb (dd dX10_reaches_p0 56 rfl) (by decide) ?_
          refine lv_icmp_ge (pc := 91) (tgt := 260) hx hb (dd dX10_reaches_p0 57 rfl) (by decide) (fun hc => ?_) (fun hc => ?_)
          · have h := it_t hc h
            obtain rfl := Option.some.inj h
            exact hk _ _ _ hW (lv_sub hl [0, 1, 2, 3] rfl)
          · have h := it_f hc h
            refine lv_iload (pc := 94) hx hb (dd dX10_reaches_p0 58 rfl) (lv_at hl 4 rfl) ?_
            refine lv_bipush (pc := 96) (v := 40) hx hb (dd dX10_reaches_p0 59 rfl) (by decide) ?_
            refine lv_irem (pc := 98) hx hb (dd dX10_reaches_p1 0 rfl) (by decide) ?_
            refine lv_iload (pc := 99) hx hb (dd dX10_reaches_p1 1 rfl) (lv_at hl 5 rfl) ?_
            refine lv_iconst (pc := 101) (v := 3) hx hb (dd dX10_reaches_p1 2 rfl) (by decide) ?_
            refine lv_irem (pc := 102) hx hb (dd dX10_reaches_p1 3 rfl) (by decide) ?_
            refine lv_iadd (pc := 103) hx hb (dd dX10_reaches_p1 4 rfl) ?_
            refine lv_iconst (pc := 104) (v := 1) hx hb (dd dX10_reaches_p1 5 rfl) (by decide) ?_
            refine lv_isub (pc := 105) hx hb (dd dX10_reaches_p1 6 rfl) ?_
            obtain ⟨v6_106, ev6_106, h⟩ := nm_ex h
            refine rTopi (pc := 106) ev6_106 ?_
            refine lv_istore (pc := 106) (lv' := [(6, .int v6_106), (0, .ref a_t), (1, .int v1), (2, .int v2_72), (3, .int v3), (4, .int v4_63), (5, .int v5)]) hx hb (dd dX10_reaches_p1 7 rfl) hl (by decide) rfl (fun ls hl => ?_)
            refine lv_iload (pc := 108) hx hb (dd dX10_reaches_p1 8 rfl) (lv_at hl 5 rfl) ?_
            refine lv_bipush (pc := 110) (v := 40) hx hb (dd dX10_reaches_p1 9 rfl) (by decide) ?_
            refine lv_idiv (pc := 112) hx hb (dd dX10_reaches_p1 10 rfl) (by decide) ?_
            refine lv_iload (pc := 113) hx hb (dd dX10_reaches_p1 11 rfl) (lv_at hl 6 rfl) ?_
            refine lv_iconst (pc := 115) (v := 3) hx hb (dd dX10_reaches_p1 12 rfl) (by decide) ?_
            refine lv_idiv (pc := 116) hx hb (dd dX10_reaches_p1 13 rfl) (by decide) ?_
            refine lv_iadd (pc := 117) hx hb (dd dX10_reaches_p1 14 rfl) ?_
            refine lv_iconst (pc := 118) (v := 1) hx hb (dd dX10_reaches_p1 15 rfl) (by decide) ?_
            refine lv_isub (pc := 119) hx hb (dd dX10_reaches_p1 16 rfl) ?_
            obtain ⟨v7_120, ev7_120, h⟩ := nm_ex h
            refine rTopi (pc := 120) ev7_120 ?_
            refine lv_istore (pc := 120) (lv' := [(7, .int v7_120), (6, .int v6_106), (0, .ref a_t), (1, .int v1), (2, .int v2_72), (3, .int v3), (4, .int v4_63), (5, .int v5)]) hx hb (dd dX10_reaches_p1 17 rfl) hl (by decide) rfl (fun ls hl => ?_)
            refine lv_bipush (pc := 122) (v := 40) hx hb (dd dX10_reaches_p1 18 rfl) (by decide) ?_
            refine lv_iload (pc := 124) hx hb (dd dX10_reaches_p1 19 rfl) (lv_at hl 0 rfl) ?_
            refine lv_imul (pc := 126) hx hb (dd dX10_reaches_p1 20 rfl) ?_
            refine lv_iload (pc := 127) hx hb (dd dX10_reaches_p1 21 rfl) (lv_at hl 1 rfl) ?_
            refine lv_iadd (pc := 129) hx hb (dd dX10_reaches_p1 22 rfl) ?_
            obtain ⟨v8_130, ev8_130, h⟩ := nm_ex h
            refine rTopi (pc := 130) ev8_130 ?_
            refine lv_istore (pc := 130) (lv' := [(8, .int v8_130), (7, .int v7_120), (6, .int v6_106), (0, .ref a_t), (1, .int v1), (2, .int v2_72), (3, .int v3), (4, .int v4_63), (5, .int v5)]) hx hb (dd dX10_reaches_p1 23 rfl) hl (by decide) rfl (fun ls hl => ?_)
            refine lv_iload (pc := 132) hx hb (dd dX10_reaches_p1 24 rfl) (lv_at hl 8 rfl) ?_
            refine lv_iconst (pc := 134) (v := 4) hx hb (dd dX10_reaches_p1 25 rfl) (by decide) ?_
            refine lv_icmp_eq (pc := 135) (tgt := 254) hx hb (dd dX10_reaches_p1 26 rfl) (by decide) (fun hc => ?_) (fun hc => ?_)
            · have h := it_t hc h
              exact J254 _ _ _ _ _ _ _ _ h hW (lv_sub hl [3, 4, 5, 6, 7, 8] rfl)
            · have h := it_f hc h
              refine lv_iload (pc := 138) hx hb (dd dX10_reaches_p1 27 rfl) (lv_at hl 2 rfl) ?_
              refine lv_iload (pc := 140) hx hb (dd dX10_reaches_p1 28 rfl) (lv_at hl 1 rfl) ?_
              obtain ⟨r_142, hr, h⟩ := bnd_ex h
              refine callSI (pc := 142) (na := 2) (As := [.int v6_106, .int v7_120]) (rest := []) (ws2 := (w_X10_reaches g a_t a_far a_isWaiting a_waiting a_what a_cornerX a_cornerY a_corners a_rowAt a_strip a_along a_rowSize a_endAt a_turns a_plan a_slantA a_slantB a_yields a_bears a_seen a_wagons a_pile a_rest a_isUsed c_thrown c_isLaid c_head c_hasRows c_hasPlan c_rows c_slants c_capacity c_weight c_unload v1 c_bunker c_far c_isWaiting c_waiting c_what)) M hl.1 hW (t_X10_noSquare l g v6_106 v7_120 r_142 hr) [] [0, 1, 2, 3, 4] [0, 1, 2, 3, 4] rfl rfl rfl rfl rfl rfl rfl (uw5 113 rfl rfl) (uw5 111 rfl rfl) (uw5 112 rfl rfl) (uw1 13 rfl rfl) ⟨by decide, by decide, by decide⟩ rfl ⟨by decide, by decide⟩ (Nat.le_of_ble_eq_true rfl) ⟨Nat.zero_le _, Nat.zero_le _⟩ (dd dX10_reaches_p1 29 rfl) (fun H locs hW => ?_)
              refine lv_if_ne (pc := 145) (tgt := 254) hx hb (dd dX10_reaches_p1 30 rfl) (by decide) (fun hc => ?_) (fun hc => ?_)
              · have h := it_f hc h
                exact J254 _ _ _ _ _ _ _ _ h hW (lv_sub hl [3, 4, 5, 6, 7, 8] rfl)
              · have h := it_t hc h
                refine lv_iload (pc := 148) hx hb (dd dX10_reaches_p1 31 rfl) (lv_at hl 0 rfl) ?_
                refine lv_iload_n (pc := 150) hx hb (dd dX10_reaches_p1 32 rfl) rfl (lv_at hl 4 rfl) ?_
                refine lv_icmp_eq (pc := 151) (tgt := 254) hx hb (dd dX10_reaches_p1 33 rfl) (by decide) (fun hc => ?_) (fun hc => ?_)
                · have h := it_t hc h
                  exact J254 _ _ _ _ _ _ _ _ h hW (lv_sub hl [3, 4, 5, 6, 7, 8] rfl)
                · have h := it_f hc h
                  refine lv_aload_n (pc := 154) hx hb (dd dX10_reaches_p1 34 rfl) rfl (lv_at hl 3 rfl) ?_
                  refine rGet (pc := 155) M hW 0 4 iU10 rfl rfl (by decide) (uw4 217 rfl rfl) rfl (dd dX10_reaches_p1 35 rfl) ?_
                  refine lv_iload (pc := 158) hx hb (dd dX10_reaches_p1 36 rfl) (lv_at hl 0 rfl) ?_
                  obtain ⟨hi, h⟩ := ck_ex h
                  refine rIald (pc := 160) M hW 4 rfl hi (dd dX10_reaches_p1 37 rfl) ?_
                  refine lv_iconst (pc := 161) (v := 1) hx hb (dd dX10_reaches_p1 38 rfl) (by decide) ?_
                  refine lv_icmp_eq (pc := 162) (tgt := 168) hx hb (dd dX10_reaches_p1 39 rfl) (by decide) (fun hc => ?_) (fun hc => ?_)
                  · have h := it_t hc h
                    refine lv_aload_n (pc := 168) hx hb (dd dX10_reaches_p1 41 rfl) rfl (lv_at hl 3 rfl) ?_
                    refine rGet (pc := 169) M hW 0 28 iU10 rfl rfl (by decide) (uw5 1 rfl rfl) rfl (dd dX10_reaches_p1 42 rfl) ?_
                    refine lv_iload (pc := 172) hx hb (dd dX10_reaches_p1 43 rfl) (lv_at hl 7 rfl) ?_
                    obtain ⟨hi, h⟩ := ck_ex h
                    refine rIald (pc := 174) M hW 1 rfl hi (dd dX10_reaches_p1 44 rfl) ?_
                    refine lv_iload (pc := 175) hx hb (dd dX10_reaches_p1 45 rfl) (lv_at hl 8 rfl) ?_
                    refine lv_iconst (pc := 177) (v := 2) hx hb (dd dX10_reaches_p1 46 rfl) (by decide) ?_
                    refine lv_irem (pc := 178) hx hb (dd dX10_reaches_p1 47 rfl) (by decide) ?_
                    refine lv_iconst (pc := 179) (v := 1) hx hb (dd dX10_reaches_p1 48 rfl) (by decide) ?_
                    refine lv_icmp_ne (pc := 180) (tgt := 187) hx hb (dd dX10_reaches_p1 49 rfl) (by decide) (fun hc => ?_) (fun hc => ?_)
                    · have h := it_f hc h
                      refine lv_bipush (pc := 187) (v := 7) hx hb (dd dX10_reaches_p1 52 rfl) (by decide) ?_
                      exact J189 _ _ _ _ _ _ _ _ _ _ _ h hW (lv_sub hl [3, 4, 5, 6, 7, 8, 0] rfl)
                    · have h := it_t hc h
                      refine lv_iconst (pc := 183) (v := 5) hx hb (dd dX10_reaches_p1 50 rfl) (by decide) ?_
                      refine lv_goto (pc := 184) (tgt := 189) hx hb (dd dX10_reaches_p1 51 rfl) (by decide) ?_
                      exact J189 _ _ _ _ _ _ _ _ _ _ _ h hW (lv_sub hl [3, 4, 5, 6, 7, 8, 0] rfl)
                  · have h := it_f hc h
                    refine lv_goto (pc := 165) (tgt := 254) hx hb (dd dX10_reaches_p1 40 rfl) (by decide) ?_
                    exact J254 _ _ _ _ _ _ _ _ h hW (lv_sub hl [3, 4, 5, 6, 7, 8] rfl)
        · obtain ⟨c_far_260, c_isWaiting_260, c_waiting_260, v3_260⟩ := ex
          have h := un4_at h
          intro H locs ls hW hl
          refine lv_goto (pc := 260) (tgt := 53) hx hb (dd dX10_reaches_p2 30 rfl) (by decide) ?_
          obtain rfl := Option.some.inj h
          exact hk _ _ _ hW (lv_sub hl [0, 1, 2, 3] rfl)
    · obtain ⟨c_far_263, c_isWaiting_263, c_waiting_263⟩ := ex
      have h := un3_at h
      intro H locs ls hW hl
      have hW9 := hW
      cases h
      exact ret _ _ _ 263 hW9 (dd dX10_reaches_p2 31 rfl)
abbrev w_X10_least (g : G9) (a_t a_far a_what a_cornerX a_cornerY a_corners a_rowAt a_strip a_along a_rowSize a_endAt a_turns a_plan a_slantA a_slantB a_yields a_bears a_seen a_wagons a_pile a_waiting a_isWaiting a_rest a_isUsed : Nat) (c_thrown c_isLaid c_head c_hasRows c_hasPlan c_rows c_slants c_capacity c_weight c_unload c_source c_bunker : Int32) (c_far c_what : Ar) : va_W := [ob a_t 10 [.int c_thrown, .ref a_cornerX, .ref a_cornerY, .ref a_corners, .ref a_what, .int c_isLaid, .int c_head, .int c_hasRows, .int c_hasPlan, .int c_rows, .ref a_rowAt, .ref a_strip, .ref a_along, .ref a_rowSize, .ref a_endAt, .ref a_turns, .ref a_plan, .ref a_slantA, .ref a_slantB, .int c_slants, .ref a_yields, .ref a_bears, .int c_capacity, .int c_weight, .int c_unload, .ref a_seen, .ref a_wagons, .ref a_pile, .ref a_far, .int c_source, .ref a_waiting, .ref a_isWaiting, .ref a_rest, .ref a_isUsed, .int c_bunker], ia g a_far 1200 c_far, ia g a_what 1200 c_what]
noncomputable def X10_least_b5_119 (v1 v2 v3 : Int32) : Option ((Int32 × Int32) ⊕ Int32) :=
  nm (v3 + 1) fun v3_119 => some (.inl (v2, v3_119))
noncomputable def X10_least_b5_118 (v1 v3 k0 : Int32) : Option ((Int32 × Int32) ⊕ Int32) :=
  X10_least_b5_119 v1 k0 v3
noncomputable def X10_least_b5_103 (v1 v2 v3 k0 k1 : Int32) : Option ((Int32 × Int32) ⊕ Int32) :=
  nm ((k0 + k1)) fun v7_104 => if v2 ≤ v7_104 then (X10_least_b5_118 v1 v3 v2) else (X10_least_b5_118 v1 v3 v7_104)
noncomputable def X10_least_b5_83 (c_far : Ar) (v1 v2 v3 v6 : Int32) : Option ((Int32 × Int32) ⊕ Int32) :=
  ck (ix v6 1200) <| if (v3 - v3 / 2 * 2) = 1 then (X10_least_b5_103 v1 v2 v3 (ag c_far v6) 5) else (X10_least_b5_103 v1 v2 v3 (ag c_far v6) 7)
noncomputable def X10_least_L5 (c_source : Int32) (c_far c_what : Ar) (v1 v2 v3 : Int32) : Option ((Int32 × Int32) ⊕ Int32) :=
  if 9 ≤ v3 then (some (.inr v2)) else (nm ((((v1 - v1 / 40 * 40) + (v3 - v3 / 3 * 3)) - 1)) fun v4_21 => nm ((((v1 / 40) + (v3 / 3)) - 1)) fun v5_33 => nm (((40 * v5_33) + v4_21)) fun v6_43 => if v3 = 4 then (X10_least_b5_119 v1 v2 v3) else (bnd (X10_noSquare v4_21 v5_33) <| fun r_54 => if r_54 = 0 then (if v6_43 = c_source then (X10_least_b5_83 c_far v1 v2 v3 v6_43) else (ck (ix v6_43 1200) <| if (ag c_what v6_43) = 1 then (X10_least_b5_83 c_far v1 v2 v3 v6_43) else (X10_least_b5_119 v1 v2 v3))) else (X10_least_b5_119 v1 v2 v3)))
noncomputable def X10_least (c_source : Int32) (c_far c_what : Ar) (v1 : Int32) : Option Int32 :=
  bnd (whileV (fun st => X10_least_L5 c_source c_far c_what v1 st.1 st.2) (100000000, 0)) <| (fun v2_125 => some v2_125)
set_option maxHeartbeats 4000000 in
set_option maxRecDepth 100000 in
theorem t_X10_least (l : Launch) (g : G9) (a_t a_far a_what a_cornerX a_cornerY a_corners a_rowAt a_strip a_along a_rowSize a_endAt a_turns a_plan a_slantA a_slantB a_yields a_bears a_seen a_wagons a_pile a_waiting a_isWaiting a_rest a_isUsed : Nat) (c_thrown c_isLaid c_head c_hasRows c_hasPlan c_rows c_slants c_capacity c_weight c_unload c_source c_bunker : Int32) (c_far c_what : Ar) (v1 r0 : Int32) (h : X10_least c_source c_far c_what v1 = some r0) : CtI l g yX10_least cX10_least 8 .int 1 21 [.ref a_t, .int v1] (w_X10_least g a_t a_far a_what a_cornerX a_cornerY a_corners a_rowAt a_strip a_along a_rowSize a_endAt a_turns a_plan a_slantA a_slantB a_yields a_bears a_seen a_wagons a_pile a_waiting a_isWaiting a_rest a_isUsed c_thrown c_isLaid c_head c_hasRows c_hasPlan c_rows c_slants c_capacity c_weight c_unload c_source c_bunker c_far c_what) r0 (w_X10_least g a_t a_far a_what a_cornerX a_cornerY a_corners a_rowAt a_strip a_along a_rowSize a_endAt a_turns a_plan a_slantA a_slantB a_yields a_bears a_seen a_wagons a_pile a_waiting a_isWaiting a_rest a_isUsed c_thrown c_isLaid c_head c_hasRows c_hasPlan c_rows c_slants c_capacity c_weight c_unload c_source c_bunker c_far c_what) := by
  refine startI (by decide) (Nat.le_of_ble_eq_true rfl) ?_
  intro p e s m below meth c A Q ls args M hW hl ret
  have hx := M.1
  have hb := M.2.1
  have hown := M.2.2.2.1
  have hu := M.2.2.2.2.1
  have hl : lv_has ls 8 [(0, .ref a_t), (1, .int v1)] := hl
  unfold X10_least at h
  obtain ⟨H, eH⟩ : ∃ z, z = s.heap := ⟨_, rfl⟩
  obtain ⟨locs, eL⟩ : ∃ z, z = ([] : List Loc) := ⟨_, rfl⟩
  rw [← eL] at hW ⊢
  suffices hS9 : WD g s A (w_X10_least g a_t a_far a_what a_cornerX a_cornerY a_corners a_rowAt a_strip a_along a_rowSize a_endAt a_turns a_plan a_slantA a_slantB a_yields a_bears a_seen a_wagons a_pile a_waiting a_isWaiting a_rest a_isUsed c_thrown c_isLaid c_head c_hasRows c_hasPlan c_rows c_slants c_capacity c_weight c_unload c_source c_bunker c_far c_what) H locs → W p l e (rm9 1 21) s m args below meth c H locs 0 0 Q (F0 m 0 ls []) by
    rw [← eH] at hW ⊢
    exact hS9 hW
  clear hW eH eL
  intro hW
  refine lv_ldc (pc := 0) (v := 100000000) hx hb hown (hu _ (uw5 153 rfl rfl)) (dd dX10_least_p0 0 rfl) ?_
  refine lv_istore_n (pc := 2) (lv' := [(2, .int 100000000), (0, .ref a_t), (1, .int v1)]) hx hb (dd dX10_least_p0 1 rfl) rfl hl (by decide) rfl (fun ls hl => ?_)
  refine lv_iconst (pc := 3) (v := 0) hx hb (dd dX10_least_p0 2 rfl) (by decide) ?_
  refine lv_istore_n (pc := 4) (lv' := [(3, .int 0), (2, .int 100000000), (0, .ref a_t), (1, .int v1)]) hx hb (dd dX10_least_p0 3 rfl) rfl hl (by decide) rfl (fun ls hl => ?_)
  obtain ⟨ex, hw, h⟩ := bnd_ex h
  refine loopW (fun st => ∀ (H : Heap) (locs : List Loc) (ls : Array Slot), WD g s A (w_X10_least g a_t a_far a_what a_cornerX a_cornerY a_corners a_rowAt a_strip a_along a_rowSize a_endAt a_turns a_plan a_slantA a_slantB a_yields a_bears a_seen a_wagons a_pile a_waiting a_isWaiting a_rest a_isUsed c_thrown c_isLaid c_head c_hasRows c_hasPlan c_rows c_slants c_capacity c_weight c_unload c_source c_bunker c_far c_what) H locs → lv_has ls 8 [(0, .ref a_t), (1, .int v1), (2, .int (st.1)), (3, .int (st.2))] → W p l e (rm9 1 21) s m args below meth c H locs 0 0 Q (F0 m 5 ls [])) (fun (ex : Int32) => ∀ (H : Heap) (locs : List Loc) (ls : Array Slot), WD g s A (w_X10_least g a_t a_far a_what a_cornerX a_cornerY a_corners a_rowAt a_strip a_along a_rowSize a_endAt a_turns a_plan a_slantA a_slantB a_yields a_bears a_seen a_wagons a_pile a_waiting a_isWaiting a_rest a_isUsed c_thrown c_isLaid c_head c_hasRows c_hasPlan c_rows c_slants c_capacity c_weight c_unload c_source c_bunker c_far c_what) H locs → lv_has ls 8 [(2, .int ex)] → W p l e (rm9 1 21) s m args below meth c H locs 0 0 Q (F0 m 125 ls [])) ?_ hw ?_ H locs ls hW (lv_sub hl [2, 3, 1, 0] rfl)
  · rintro ⟨v2, v3⟩ o hb9 hk H locs ls hW hl
    have h : X10_least_L5 c_source c_far c_what v1 v2 v3 = some o := hb9
    clear hb9
    unfold X10_least_L5 at h
    have J119 : ∀ (v2 v3 : Int32) (H : Heap) (locs : List Loc) (ls : Array Slot), X10_least_b5_119 v1 v2 v3 = some o → WD g s A (w_X10_least g a_t a_far a_what a_cornerX a_cornerY a_corners a_rowAt a_strip a_along a_rowSize a_endAt a_turns a_plan a_slantA a_slantB a_yields a_bears a_seen a_wagons a_pile a_waiting a_isWaiting a_rest a_isUsed c_thrown c_isLaid c_head c_hasRows c_hasPlan c_rows c_slants c_capacity c_weight c_unload c_source c_bunker c_far c_what) H locs → lv_has ls 8 [(0, .ref a_t), (1, .int v1), (2, .int v2), (3, .int v3)] → W p l e (rm9 1 21) s m args below meth c H locs 0 0 Q (F0 m 119 ls []) := by
      intro v2 v3 H locs ls h hW hl
      unfold X10_least_b5_119 at h
      obtain ⟨v3_119, ev3_119, h⟩ := nm_ex h
      refine lv_iinc (pc := 119) (v := v3_119) (lv' := [(3, .int v3_119), (0, .ref a_t), (1, .int v1), (2, .int v2)]) hx hb (dd dX10_least_p1 12 rfl) hl (k := 3) rfl (by rw [ev3_119]; rfl) (by decide) rfl (fun ls hl => ?_)
      refine lv_goto (pc := 122) (tgt := 5) hx hb (dd dX10_least_p1 13 rfl) (by decide) ?_
      obtain rfl := Option.some.inj h
      exact hk _ _ _ hW (lv_sub hl [1, 2, 3, 0] rfl)
    have J118 : ∀ (v3 k0 : Int32) (H : Heap) (locs : List Loc) (ls : Array Slot), X10_least_b5_118 v1 v3 k0 = some o → WD g s A (w_X10_least g a_t a_far a_what a_cornerX a_cornerY a_corners a_rowAt a_strip a_along a_rowSize a_endAt a_turns a_plan a_slantA a_slantB a_yields a_bears a_seen a_wagons a_pile a_waiting a_isWaiting a_rest a_isUsed c_thrown c_isLaid c_head c_hasRows c_hasPlan c_rows c_slants c_capacity c_weight c_unload c_source c_bunker c_far c_what) H locs → lv_has ls 8 [(0, .ref a_t), (1, .int v1), (3, .int v3)] → W p l e (rm9 1 21) s m args below meth c H locs 0 0 Q (F0 m 118 ls [.int k0]) := by
      intro v3 k0 H locs ls h hW hl
      unfold X10_least_b5_118 at h
      refine lv_istore_n (pc := 118) (lv' := [(2, .int k0), (0, .ref a_t), (1, .int v1), (3, .int v3)]) hx hb (dd dX10_least_p1 11 rfl) rfl hl (by decide) rfl (fun ls hl => ?_)
      exact J119 _ _ _ _ _ h hW (lv_sub hl [1, 2, 0, 3] rfl)
    have J103 : ∀ (v2 v3 k0 k1 : Int32) (H : Heap) (locs : List Loc) (ls : Array Slot), X10_least_b5_103 v1 v2 v3 k0 k1 = some o → WD g s A (w_X10_least g a_t a_far a_what a_cornerX a_cornerY a_corners a_rowAt a_strip a_along a_rowSize a_endAt a_turns a_plan a_slantA a_slantB a_yields a_bears a_seen a_wagons a_pile a_waiting a_isWaiting a_rest a_isUsed c_thrown c_isLaid c_head c_hasRows c_hasPlan c_rows c_slants c_capacity c_weight c_unload c_source c_bunker c_far c_what) H locs → lv_has ls 8 [(0, .ref a_t), (1, .int v1), (2, .int v2), (3, .int v3)] → W p l e (rm9 1 21) s m args below meth c H locs 0 0 Q (F0 m 103 ls [.int k1, .int k0]) := by
      intro v2 v3 k0 k1 H locs ls h hW hl
      unfold X10_least_b5_103 at h
      refine lv_iadd (pc := 103) hx hb (dd dX10_least_p1 3 rfl) ?_
      obtain ⟨v7_104, ev7_104, h⟩ := nm_ex h
      refine rTopi (pc := 104) ev7_104 ?_
      refine lv_istore (pc := 104) (lv' := [(7, .int v7_104), (0, .ref a_t), (1, .int v1), (2, .int v2), (3, .int v3)]) hx hb (dd dX10_least_p1 4 rfl) hl (by decide) rfl (fun ls hl => ?_)
      refine lv_iload (pc := 106) hx hb (dd dX10_least_p1 5 rfl) (lv_at hl 0 rfl) ?_
      refine lv_iload_n (pc := 108) hx hb (dd dX10_least_p1 6 rfl) rfl (lv_at hl 3 rfl) ?_
      refine lv_icmp_ge (pc := 109) (tgt := 117) hx hb (dd dX10_least_p1 7 rfl) (by decide) (fun hc => ?_) (fun hc => ?_)
      · have h := it_t hc h
        refine lv_iload_n (pc := 117) hx hb (dd dX10_least_p1 10 rfl) rfl (lv_at hl 3 rfl) ?_
        exact J118 _ _ _ _ _ h hW (lv_sub hl [1, 2, 4] rfl)
      · have h := it_f hc h
        refine lv_iload (pc := 112) hx hb (dd dX10_least_p1 8 rfl) (lv_at hl 0 rfl) ?_
        refine lv_goto (pc := 114) (tgt := 118) hx hb (dd dX10_least_p1 9 rfl) (by decide) ?_
        exact J118 _ _ _ _ _ h hW (lv_sub hl [1, 2, 4] rfl)
    have J83 : ∀ (v2 v3 v6 : Int32) (H : Heap) (locs : List Loc) (ls : Array Slot), X10_least_b5_83 c_far v1 v2 v3 v6 = some o → WD g s A (w_X10_least g a_t a_far a_what a_cornerX a_cornerY a_corners a_rowAt a_strip a_along a_rowSize a_endAt a_turns a_plan a_slantA a_slantB a_yields a_bears a_seen a_wagons a_pile a_waiting a_isWaiting a_rest a_isUsed c_thrown c_isLaid c_head c_hasRows c_hasPlan c_rows c_slants c_capacity c_weight c_unload c_source c_bunker c_far c_what) H locs → lv_has ls 8 [(0, .ref a_t), (1, .int v1), (2, .int v2), (3, .int v3), (6, .int v6)] → W p l e (rm9 1 21) s m args below meth c H locs 0 0 Q (F0 m 83 ls []) := by
      intro v2 v3 v6 H locs ls h hW hl
      unfold X10_least_b5_83 at h
      refine lv_aload_n (pc := 83) hx hb (dd dX10_least_p0 51 rfl) rfl (lv_at hl 0 rfl) ?_
      refine rGet (pc := 84) M hW 0 28 iU10 rfl rfl (by decide) (uw5 1 rfl rfl) rfl (dd dX10_least_p0 52 rfl) ?_
      refine lv_iload (pc := 87) hx hb (dd dX10_least_p0 53 rfl) (lv_at hl 4 rfl) ?_
      obtain ⟨hi, h⟩ := ck_ex h
      refine rIald (pc := 89) M hW 1 rfl hi (dd dX10_least_p0 54 rfl) ?_
      refine lv_iload_n (pc := 90) hx hb (dd dX10_least_p0 55 rfl) rfl (lv_at hl 3 rfl) ?_
      refine lv_iconst (pc := 91) (v := 2) hx hb (dd dX10_least_p0 56 rfl) (by decide) ?_
      refine lv_irem (pc := 92) hx hb (dd dX10_least_p0 57 rfl) (by decide) ?_
      refine lv_iconst (pc := 93) (v := 1) hx hb (dd dX10_least_p0 58 rfl) (by decide) ?_
      refine lv_icmp_ne (pc := 94) (tgt := 101) hx hb (dd dX10_least_p0 59 rfl) (by decide) (fun hc => ?_) (fun hc => ?_)
      · have h := it_f hc h
        refine lv_bipush (pc := 101) (v := 7) hx hb (dd dX10_least_p1 2 rfl) (by decide) ?_
        exact J103 _ _ _ _ _ _ _ h hW (lv_sub hl [0, 1, 2, 3] rfl)
      · have h := it_t hc h
        refine lv_iconst (pc := 97) (v := 5) hx hb (dd dX10_least_p1 0 rfl) (by decide) ?_
        refine lv_goto (pc := 98) (tgt := 103) hx hb (dd dX10_least_p1 1 rfl) (by decide) ?_
        exact J103 _ _ _ _ _ _ _ h hW (lv_sub hl [0, 1, 2, 3] rfl)
    refine lv_iload_n (pc := 5) hx hb (dd dX10_least_p0 4 rfl) rfl (lv_at hl 3 rfl) ?_
    refine lv_bipush (pc := 6) (v := 9) hx hb (dd dX10_least_p0 5 rfl) (by decide) ?_
    refine lv_icmp_ge (pc := 8) (tgt := 125) hx hb (dd dX10_least_p0 6 rfl) (by decide) (fun hc => ?_) (fun hc => ?_)
    · have h := it_t hc h
      obtain rfl := Option.some.inj h
      exact hk _ _ _ hW (lv_sub hl [2] rfl)
    · have h := it_f hc h
      refine lv_iload_n (pc := 11) hx hb (dd dX10_least_p0 7 rfl) rfl (lv_at hl 1 rfl) ?_
      refine lv_bipush (pc := 12) (v := 40) hx hb (dd dX10_least_p0 8 rfl) (by decide) ?_
      refine lv_irem (pc := 14) hx hb (dd dX10_least_p0 9 rfl) (by decide) ?_
      refine lv_iload_n (pc := 15) hx hb (dd dX10_least_p0 10 rfl) rfl (lv_at hl 3 rfl) ?_
      refine lv_iconst (pc := 16) (v := 3) hx hb (dd dX10_least_p0 11 rfl) (by decide) ?_
      refine lv_irem (pc := 17) hx hb (dd dX10_least_p0 12 rfl) (by decide) ?_
      refine lv_iadd (pc := 18) hx hb (dd dX10_least_p0 13 rfl) ?_
      refine lv_iconst (pc := 19) (v := 1) hx hb (dd dX10_least_p0 14 rfl) (by decide) ?_
      refine lv_isub (pc := 20) hx hb (dd dX10_least_p0 15 rfl) ?_
      obtain ⟨v4_21, ev4_21, h⟩ := nm_ex h
      refine rTopi (pc := 21) ev4_21 ?_
      refine lv_istore (pc := 21) (lv' := [(4, .int v4_21), (0, .ref a_t), (1, .int v1), (2, .int v2), (3, .int v3)]) hx hb (dd dX10_least_p0 16 rfl) hl (by decide) rfl (fun ls hl => ?_)
      refine lv_iload_n (pc := 23) hx hb (dd dX10_least_p0 17 rfl) rfl (lv_at hl 2 rfl) ?_
      refine lv_bipush (pc := 24) (v := 40) hx hb (dd dX10_least_p0 18 rfl) (by decide) ?_
      refine lv_idiv (pc := 26) hx hb (dd dX10_least_p0 19 rfl) (by decide) ?_
      refine lv_iload_n (pc := 27) hx hb (dd dX10_least_p0 20 rfl) rfl (lv_at hl 4 rfl) ?_
      refine lv_iconst (pc := 28) (v := 3) hx hb (dd dX10_least_p0 21 rfl) (by decide) ?_
      refine lv_idiv (pc := 29) hx hb (dd dX10_least_p0 22 rfl) (by decide) ?_
      refine lv_iadd (pc := 30) hx hb (dd dX10_least_p0 23 rfl) ?_
      refine lv_iconst (pc := 31) (v := 1) hx hb (dd dX10_least_p0 24 rfl) (by decide) ?_
      refine lv_isub (pc := 32) hx hb (dd dX10_least_p0 25 rfl) ?_
      obtain ⟨v5_33, ev5_33, h⟩ := nm_ex h
      refine rTopi (pc := 33) ev5_33 ?_
      refine lv_istore (pc := 33) (lv' := [(5, .int v5_33), (4, .int v4_21), (0, .ref a_t), (1, .int v1), (2, .int v2), (3, .int v3)]) hx hb (dd dX10_least_p0 26 rfl) hl (by decide) rfl (fun ls hl => ?_)
      refine lv_bipush (pc := 35) (v := 40) hx hb (dd dX10_least_p0 27 rfl) (by decide) ?_
      refine lv_iload (pc := 37) hx hb (dd dX10_least_p0 28 rfl) (lv_at hl 0 rfl) ?_
      refine lv_imul (pc := 39) hx hb (dd dX10_least_p0 29 rfl) ?_
      refine lv_iload (pc := 40) hx hb (dd dX10_least_p0 30 rfl) (lv_at hl 1 rfl) ?_
      refine lv_iadd (pc := 42) hx hb (dd dX10_least_p0 31 rfl) ?_
      obtain ⟨v6_43, ev6_43, h⟩ := nm_ex h
      refine rTopi (pc := 43) ev6_43 ?_
      refine lv_istore (pc := 43) (lv' := [(6, .int v6_43), (5, .int v5_33), (4, .int v4_21), (0, .ref a_t), (1, .int v1), (2, .int v2), (3, .int v3)]) hx hb (dd dX10_least_p0 32 rfl) hl (by decide) rfl (fun ls hl => ?_)
      refine lv_iload_n (pc := 45) hx hb (dd dX10_least_p0 33 rfl) rfl (lv_at hl 6 rfl) ?_
      refine lv_iconst (pc := 46) (v := 4) hx hb (dd dX10_least_p0 34 rfl) (by decide) ?_
      refine lv_icmp_eq (pc := 47) (tgt := 119) hx hb (dd dX10_least_p0 35 rfl) (by decide) (fun hc => ?_) (fun hc => ?_)
      · have h := it_t hc h
        exact J119 _ _ _ _ _ h hW (lv_sub hl [3, 4, 5, 6] rfl)
      · have h := it_f hc h
        refine lv_iload (pc := 50) hx hb (dd dX10_least_p0 36 rfl) (lv_at hl 2 rfl) ?_
        refine lv_iload (pc := 52) hx hb (dd dX10_least_p0 37 rfl) (lv_at hl 1 rfl) ?_
        obtain ⟨r_54, hr, h⟩ := bnd_ex h
        refine callSI (pc := 54) (na := 2) (As := [.int v4_21, .int v5_33]) (rest := []) (ws2 := (w_X10_least g a_t a_far a_what a_cornerX a_cornerY a_corners a_rowAt a_strip a_along a_rowSize a_endAt a_turns a_plan a_slantA a_slantB a_yields a_bears a_seen a_wagons a_pile a_waiting a_isWaiting a_rest a_isUsed c_thrown c_isLaid c_head c_hasRows c_hasPlan c_rows c_slants c_capacity c_weight c_unload c_source c_bunker c_far c_what)) M hl.1 hW (t_X10_noSquare l g v4_21 v5_33 r_54 hr) [] [0, 1, 2] [0, 1, 2] rfl rfl rfl rfl rfl rfl rfl (uw5 113 rfl rfl) (uw5 111 rfl rfl) (uw5 112 rfl rfl) (uw1 13 rfl rfl) ⟨by decide, by decide, by decide⟩ rfl ⟨by decide, by decide⟩ (Nat.le_of_ble_eq_true rfl) ⟨Nat.zero_le _, Nat.zero_le _⟩ (dd dX10_least_p0 38 rfl) (fun H locs hW => ?_)
        refine lv_if_ne (pc := 57) (tgt := 119) hx hb (dd dX10_least_p0 39 rfl) (by decide) (fun hc => ?_) (fun hc => ?_)
        · have h := it_f hc h
          exact J119 _ _ _ _ _ h hW (lv_sub hl [3, 4, 5, 6] rfl)
        · have h := it_t hc h
          refine lv_iload (pc := 60) hx hb (dd dX10_least_p0 40 rfl) (lv_at hl 0 rfl) ?_
          refine lv_aload_n (pc := 62) hx hb (dd dX10_least_p0 41 rfl) rfl (lv_at hl 3 rfl) ?_
          refine rGet (pc := 63) M hW 0 29 iU10 rfl rfl (by decide) (uw5 2 rfl rfl) rfl (dd dX10_least_p0 42 rfl) ?_
          refine lv_icmp_eq (pc := 66) (tgt := 83) hx hb (dd dX10_least_p0 43 rfl) (by decide) (fun hc => ?_) (fun hc => ?_)
          · have h := it_t hc h
            exact J83 _ _ _ _ _ _ h hW (lv_sub hl [3, 4, 5, 6, 0] rfl)
          · have h := it_f hc h
            refine lv_aload_n (pc := 69) hx hb (dd dX10_least_p0 44 rfl) rfl (lv_at hl 3 rfl) ?_
            refine rGet (pc := 70) M hW 0 4 iU10 rfl rfl (by decide) (uw4 217 rfl rfl) rfl (dd dX10_least_p0 45 rfl) ?_
            refine lv_iload (pc := 73) hx hb (dd dX10_least_p0 46 rfl) (lv_at hl 0 rfl) ?_
            obtain ⟨hi, h⟩ := ck_ex h
            refine rIald (pc := 75) M hW 2 rfl hi (dd dX10_least_p0 47 rfl) ?_
            refine lv_iconst (pc := 76) (v := 1) hx hb (dd dX10_least_p0 48 rfl) (by decide) ?_
            refine lv_icmp_eq (pc := 77) (tgt := 83) hx hb (dd dX10_least_p0 49 rfl) (by decide) (fun hc => ?_) (fun hc => ?_)
            · have h := it_t hc h
              exact J83 _ _ _ _ _ _ h hW (lv_sub hl [3, 4, 5, 6, 0] rfl)
            · have h := it_f hc h
              refine lv_goto (pc := 80) (tgt := 119) hx hb (dd dX10_least_p0 50 rfl) (by decide) ?_
              exact J119 _ _ _ _ _ h hW (lv_sub hl [3, 4, 5, 6] rfl)
  · obtain ⟨v2_125, e9⟩ : ∃ z, z = ex := ⟨_, rfl⟩
    subst e9
    intro H locs ls hW hl
    refine lv_iload_n (pc := 125) hx hb (dd dX10_least_p1 14 rfl) rfl (lv_at hl 0 rfl) ?_
    have hW9 := hW
    cases h
    exact ret _ _ _ 126 hW9 rfl (dd dX10_least_p1 15 rfl)
abbrev w_X10_endWay (g : G9) (a_t a_far a_what a_cornerX a_cornerY a_corners a_rowAt a_strip a_along a_rowSize a_endAt a_turns a_plan a_slantA a_slantB a_yields a_bears a_seen a_wagons a_pile a_waiting a_isWaiting a_rest a_isUsed : Nat) (c_thrown c_isLaid c_head c_hasRows c_hasPlan c_rows c_slants c_capacity c_weight c_unload c_source c_bunker : Int32) (c_far c_what : Ar) : va_W := [ob a_t 10 [.int c_thrown, .ref a_cornerX, .ref a_cornerY, .ref a_corners, .ref a_what, .int c_isLaid, .int c_head, .int c_hasRows, .int c_hasPlan, .int c_rows, .ref a_rowAt, .ref a_strip, .ref a_along, .ref a_rowSize, .ref a_endAt, .ref a_turns, .ref a_plan, .ref a_slantA, .ref a_slantB, .int c_slants, .ref a_yields, .ref a_bears, .int c_capacity, .int c_weight, .int c_unload, .ref a_seen, .ref a_wagons, .ref a_pile, .ref a_far, .int c_source, .ref a_waiting, .ref a_isWaiting, .ref a_rest, .ref a_isUsed, .int c_bunker], ia g a_far 1200 c_far, ia g a_what 1200 c_what]
noncomputable def X10_endWay (c_source : Int32) (c_far c_what : Ar) (v1 : Int32) : Option Int32 :=
  if v1 = c_source then (some 0) else (bnd (X10_least c_source c_far c_what v1) <| fun r_12 => if r_12 < 100000000 then (some r_12) else (some (-1)))
set_option maxHeartbeats 4000000 in
set_option maxRecDepth 100000 in
theorem t_X10_endWay (l : Launch) (g : G9) (a_t a_far a_what a_cornerX a_cornerY a_corners a_rowAt a_strip a_along a_rowSize a_endAt a_turns a_plan a_slantA a_slantB a_yields a_bears a_seen a_wagons a_pile a_waiting a_isWaiting a_rest a_isUsed : Nat) (c_thrown c_isLaid c_head c_hasRows c_hasPlan c_rows c_slants c_capacity c_weight c_unload c_source c_bunker : Int32) (c_far c_what : Ar) (v1 r0 : Int32) (h : X10_endWay c_source c_far c_what v1 = some r0) : CtI l g yX10_endWay cX10_endWay 3 .int 2 48 [.ref a_t, .int v1] (w_X10_endWay g a_t a_far a_what a_cornerX a_cornerY a_corners a_rowAt a_strip a_along a_rowSize a_endAt a_turns a_plan a_slantA a_slantB a_yields a_bears a_seen a_wagons a_pile a_waiting a_isWaiting a_rest a_isUsed c_thrown c_isLaid c_head c_hasRows c_hasPlan c_rows c_slants c_capacity c_weight c_unload c_source c_bunker c_far c_what) r0 (w_X10_endWay g a_t a_far a_what a_cornerX a_cornerY a_corners a_rowAt a_strip a_along a_rowSize a_endAt a_turns a_plan a_slantA a_slantB a_yields a_bears a_seen a_wagons a_pile a_waiting a_isWaiting a_rest a_isUsed c_thrown c_isLaid c_head c_hasRows c_hasPlan c_rows c_slants c_capacity c_weight c_unload c_source c_bunker c_far c_what) := by
  refine startI (by decide) (Nat.le_of_ble_eq_true rfl) ?_
  intro p e s m below meth c A Q ls args M hW hl ret
  have hx := M.1
  have hb := M.2.1
  have hown := M.2.2.2.1
  have hu := M.2.2.2.2.1
  have hl : lv_has ls 3 [(0, .ref a_t), (1, .int v1)] := hl
  unfold X10_endWay at h
  obtain ⟨H, eH⟩ : ∃ z, z = s.heap := ⟨_, rfl⟩
  obtain ⟨locs, eL⟩ : ∃ z, z = ([] : List Loc) := ⟨_, rfl⟩
  rw [← eL] at hW ⊢
  suffices hS9 : WD g s A (w_X10_endWay g a_t a_far a_what a_cornerX a_cornerY a_corners a_rowAt a_strip a_along a_rowSize a_endAt a_turns a_plan a_slantA a_slantB a_yields a_bears a_seen a_wagons a_pile a_waiting a_isWaiting a_rest a_isUsed c_thrown c_isLaid c_head c_hasRows c_hasPlan c_rows c_slants c_capacity c_weight c_unload c_source c_bunker c_far c_what) H locs → W p l e (rm9 2 48) s m args below meth c H locs 0 0 Q (F0 m 0 ls []) by
    rw [← eH] at hW ⊢
    exact hS9 hW
  clear hW eH eL
  intro hW
  refine lv_iload_n (pc := 0) hx hb (dd dX10_endWay 0 rfl) rfl (lv_at hl 1 rfl) ?_
  refine lv_aload_n (pc := 1) hx hb (dd dX10_endWay 1 rfl) rfl (lv_at hl 0 rfl) ?_
  refine rGet (pc := 2) M hW 0 29 iU10 rfl rfl (by decide) (uw5 2 rfl rfl) rfl (dd dX10_endWay 2 rfl) ?_
  refine lv_icmp_ne (pc := 5) (tgt := 10) hx hb (dd dX10_endWay 3 rfl) (by decide) (fun hc => ?_) (fun hc => ?_)
  · have h := it_f hc h
    refine lv_aload_n (pc := 10) hx hb (dd dX10_endWay 6 rfl) rfl (lv_at hl 0 rfl) ?_
    refine lv_iload_n (pc := 11) hx hb (dd dX10_endWay 7 rfl) rfl (lv_at hl 1 rfl) ?_
    obtain ⟨r_12, hr, h⟩ := bnd_ex h
    refine callVI (pc := 12) (na := 1) (As := [.int v1]) (rest := []) (ws2 := (w_X10_endWay g a_t a_far a_what a_cornerX a_cornerY a_corners a_rowAt a_strip a_along a_rowSize a_endAt a_turns a_plan a_slantA a_slantB a_yields a_bears a_seen a_wagons a_pile a_waiting a_isWaiting a_rest a_isUsed c_thrown c_isLaid c_head c_hasRows c_hasPlan c_rows c_slants c_capacity c_weight c_unload c_source c_bunker c_far c_what)) M hl.1 hW (t_X10_least l g a_t a_far a_what a_cornerX a_cornerY a_corners a_rowAt a_strip a_along a_rowSize a_endAt a_turns a_plan a_slantA a_slantB a_yields a_bears a_seen a_wagons a_pile a_waiting a_isWaiting a_rest a_isUsed c_thrown c_isLaid c_head c_hasRows c_hasPlan c_rows c_slants c_capacity c_weight c_unload c_source c_bunker c_far c_what v1 r_12 hr) rfl [0, 1, 2] [] [0, 1, 2] rfl rfl rfl rfl rfl rfl rfl 0 10 rfl rfl rfl (uw5 161 rfl rfl) (uw5 158 rfl rfl) (uw5 160 rfl rfl) (uwp 52 rfl rfl) (uw1 13 rfl rfl) ⟨by decide, by decide, by decide⟩ rfl ⟨by decide, by decide⟩ (Nat.le_of_ble_eq_true rfl) ⟨Nat.zero_le _, Nat.zero_le _⟩ (dd dX10_endWay 8 rfl) (fun H locs hW => ?_)
    refine lv_istore_n (pc := 15) (lv' := [(2, .int r_12), (0, .ref a_t), (1, .int v1)]) hx hb (dd dX10_endWay 9 rfl) rfl hl (by decide) rfl (fun ls hl => ?_)
    refine lv_iload_n (pc := 16) hx hb (dd dX10_endWay 10 rfl) rfl (lv_at hl 0 rfl) ?_
    refine lv_ldc (pc := 17) (v := 100000000) hx hb hown (hu _ (uw5 153 rfl rfl)) (dd dX10_endWay 11 rfl) ?_
    refine lv_icmp_lt (pc := 19) (tgt := 26) hx hb (dd dX10_endWay 12 rfl) (by decide) (fun hc => ?_) (fun hc => ?_)
    · have h := it_t hc h
      refine lv_iload_n (pc := 26) hx hb (dd dX10_endWay 15 rfl) rfl (lv_at hl 0 rfl) ?_
      have hW9 := hW
      cases h
      exact ret _ _ _ 27 hW9 rfl (dd dX10_endWay 16 rfl)
    · have h := it_f hc h
      refine lv_iconst (pc := 22) (v := (-1)) hx hb (dd dX10_endWay 13 rfl) (by decide) ?_
      refine lv_goto (pc := 23) (tgt := 27) hx hb (dd dX10_endWay 14 rfl) (by decide) ?_
      have hW9 := hW
      cases h
      exact ret _ _ _ 27 hW9 rfl (dd dX10_endWay 16 rfl)
  · have h := it_t hc h
    refine lv_iconst (pc := 8) (v := 0) hx hb (dd dX10_endWay 4 rfl) (by decide) ?_
    have hW9 := hW
    cases h
    exact ret _ _ _ 9 hW9 rfl (dd dX10_endWay 5 rfl)
abbrev w_X10_fills (g : G9) (a_t a_pile a_rowAt a_strip a_what a_cornerX a_cornerY a_corners a_along a_rowSize a_endAt a_turns a_plan a_slantA a_slantB a_yields a_bears a_seen a_wagons a_far a_waiting a_isWaiting a_rest a_isUsed : Nat) (c_thrown c_isLaid c_head c_hasRows c_hasPlan c_rows c_slants c_capacity c_weight c_unload c_source c_bunker : Int32) (c_pile c_rowAt c_strip c_what : Ar) : va_W := [ob a_t 10 [.int c_thrown, .ref a_cornerX, .ref a_cornerY, .ref a_corners, .ref a_what, .int c_isLaid, .int c_head, .int c_hasRows, .int c_hasPlan, .int c_rows, .ref a_rowAt, .ref a_strip, .ref a_along, .ref a_rowSize, .ref a_endAt, .ref a_turns, .ref a_plan, .ref a_slantA, .ref a_slantB, .int c_slants, .ref a_yields, .ref a_bears, .int c_capacity, .int c_weight, .int c_unload, .ref a_seen, .ref a_wagons, .ref a_pile, .ref a_far, .int c_source, .ref a_waiting, .ref a_isWaiting, .ref a_rest, .ref a_isUsed, .int c_bunker], ia g a_pile 1200 c_pile, ia g a_rowAt 1200 c_rowAt, ia g a_strip 1200 c_strip, ia g a_what 1200 c_what]
noncomputable def X10_fills_b40_159 (c_pile c_rowAt : Ar) (v2 v3 v4 v5 v6 : Int32) : Option ((Ar × Ar × Int32 × Int32) ⊕ (Ar × Ar × Int32)) :=
  nm (v6 + 1) fun v6_159 => some (.inl (c_pile, c_rowAt, v3, v6_159))
noncomputable def X10_fills_L40 (c_strip c_what : Ar) (v2 v4 v5 : Int32) (c_pile c_rowAt : Ar) (v3 v6 : Int32) : Option ((Ar × Ar × Int32 × Int32) ⊕ (Ar × Ar × Int32)) :=
  if 9 ≤ v6 then (some (.inr (c_pile, c_rowAt, v3))) else (nm ((((v5 - v5 / 40 * 40) + (v6 - v6 / 3 * 3)) - 1)) fun v7_59 => nm ((((v5 / 40) + (v6 / 3)) - 1)) fun v8_73 => bnd (X10_noSquare v7_59 v8_73) <| fun r_79 => if r_79 = 0 then (nm (((40 * v8_73) + v7_59)) fun v9_96 => ck (ix v9_96 1200) <| if (ag c_what v9_96) = 2 then (ck (ix v9_96 1200) <| if (ag c_rowAt v9_96) = (-1) then (ck (ix v9_96 1200) <| ck (ix v5 1200) <| if (ag c_strip v9_96) = (ag c_strip v5) then (ck (ix v9_96 1200) <| nm (au c_rowAt v9_96 v2) fun c_rowAt_147 => ck (ix v3 1200) <| nm (au c_pile v3 v9_96) fun c_pile_155 => nm (v3 + 1) fun v3_156 => X10_fills_b40_159 c_pile_155 c_rowAt_147 v2 v3_156 v4 v5 v6) else (X10_fills_b40_159 c_pile c_rowAt v2 v3 v4 v5 v6)) else (X10_fills_b40_159 c_pile c_rowAt v2 v3 v4 v5 v6)) else (X10_fills_b40_159 c_pile c_rowAt v2 v3 v4 v5 v6)) else (X10_fills_b40_159 c_pile c_rowAt v2 v3 v4 v5 v6))
noncomputable def X10_fills_L19 (c_strip c_what : Ar) (v2 : Int32) (c_pile c_rowAt : Ar) (v3 v4 : Int32) : Option ((Ar × Ar × Int32 × Int32) ⊕ (Ar × Ar × Int32)) :=
  if v3 ≤ 0 then (some (.inr (c_pile, c_rowAt, v4))) else (nm (v3 + (-1)) fun v3_23 => ck (ix v3_23 1200) <| nm ((ag c_pile v3_23)) fun v5_32 => nm (v4 + 1) fun v4_34 => bnd (whileV (fun st => X10_fills_L40 c_strip c_what v2 v4_34 v5_32 st.1 st.2.1 st.2.2.1 st.2.2.2) (c_pile, c_rowAt, v3_23, 0)) <| (un3 fun c_pile_165 c_rowAt_165 v3_165 => some (.inl (c_pile_165, c_rowAt_165, v3_165, v4_34))))
noncomputable def X10_fills (c_pile c_rowAt c_strip c_what : Ar) (v1 v2 : Int32) : Option (Int32 × Ar × Ar) :=
  ck (ix 0 1200) <| nm (au c_pile 0 v1) fun c_pile_11 => ck (ix v1 1200) <| nm (au c_rowAt v1 v2) fun c_rowAt_18 => bnd (whileV (fun st => X10_fills_L19 c_strip c_what v2 st.1 st.2.1 st.2.2.1 st.2.2.2) (c_pile_11, c_rowAt_18, 1, 0)) <| (un3 fun c_pile_168 c_rowAt_168 v4_168 => some (v4_168, c_pile_168, c_rowAt_168))
set_option maxHeartbeats 4000000 in
set_option maxRecDepth 100000 in
theorem t_X10_fills (l : Launch) (g : G9) (a_t a_pile a_rowAt a_strip a_what a_cornerX a_cornerY a_corners a_along a_rowSize a_endAt a_turns a_plan a_slantA a_slantB a_yields a_bears a_seen a_wagons a_far a_waiting a_isWaiting a_rest a_isUsed : Nat) (c_thrown c_isLaid c_head c_hasRows c_hasPlan c_rows c_slants c_capacity c_weight c_unload c_source c_bunker : Int32) (c_pile c_rowAt c_strip c_what : Ar) (v1 v2 r0 : Int32) (o_pile o_rowAt : Ar) (h : X10_fills c_pile c_rowAt c_strip c_what v1 v2 = some (r0, o_pile, o_rowAt)) : CtI l g yX10_fills cX10_fills 10 .int 1 21 [.ref a_t, .int v1, .int v2] (w_X10_fills g a_t a_pile a_rowAt a_strip a_what a_cornerX a_cornerY a_corners a_along a_rowSize a_endAt a_turns a_plan a_slantA a_slantB a_yields a_bears a_seen a_wagons a_far a_waiting a_isWaiting a_rest a_isUsed c_thrown c_isLaid c_head c_hasRows c_hasPlan c_rows c_slants c_capacity c_weight c_unload c_source c_bunker c_pile c_rowAt c_strip c_what) r0 (w_X10_fills g a_t a_pile a_rowAt a_strip a_what a_cornerX a_cornerY a_corners a_along a_rowSize a_endAt a_turns a_plan a_slantA a_slantB a_yields a_bears a_seen a_wagons a_far a_waiting a_isWaiting a_rest a_isUsed c_thrown c_isLaid c_head c_hasRows c_hasPlan c_rows c_slants c_capacity c_weight c_unload c_source c_bunker o_pile o_rowAt c_strip c_what) := by
  refine startI (by decide) (Nat.le_of_ble_eq_true rfl) ?_
  intro p e s m below meth c A Q ls args M hW hl ret
  have hx := M.1
  have hb := M.2.1
  have hown := M.2.2.2.1
  have hu := M.2.2.2.2.1
  have hl : lv_has ls 10 [(0, .ref a_t), (1, .int v1), (2, .int v2)] := hl
  unfold X10_fills at h
  obtain ⟨H, eH⟩ : ∃ z, z = s.heap := ⟨_, rfl⟩
  obtain ⟨locs, eL⟩ : ∃ z, z = ([] : List Loc) := ⟨_, rfl⟩
  rw [← eL] at hW ⊢
  suffices hS9 : WD g s A (w_X10_fills g a_t a_pile a_rowAt a_strip a_what a_cornerX a_cornerY a_corners a_along a_rowSize a_endAt a_turns a_plan a_slantA a_slantB a_yields a_bears a_seen a_wagons a_far a_waiting a_isWaiting a_rest a_isUsed c_thrown c_isLaid c_head c_hasRows c_hasPlan c_rows c_slants c_capacity c_weight c_unload c_source c_bunker c_pile c_rowAt c_strip c_what) H locs → W p l e (rm9 1 21) s m args below meth c H locs 0 0 Q (F0 m 0 ls []) by
    rw [← eH] at hW ⊢
    exact hS9 hW
  clear hW eH eL
  intro hW
  refine lv_iconst (pc := 0) (v := 1) hx hb (dd dX10_fills_p0 0 rfl) (by decide) ?_
  refine lv_istore_n (pc := 1) (lv' := [(3, .int 1), (0, .ref a_t), (1, .int v1), (2, .int v2)]) hx hb (dd dX10_fills_p0 1 rfl) rfl hl (by decide) rfl (fun ls hl => ?_)
  refine lv_iconst (pc := 2) (v := 0) hx hb (dd dX10_fills_p0 2 rfl) (by decide) ?_
  refine lv_istore (pc := 3) (lv' := [(4, .int 0), (3, .int 1), (0, .ref a_t), (1, .int v1), (2, .int v2)]) hx hb (dd dX10_fills_p0 3 rfl) hl (by decide) rfl (fun ls hl => ?_)
  refine lv_aload_n (pc := 5) hx hb (dd dX10_fills_p0 4 rfl) rfl (lv_at hl 2 rfl) ?_
  refine rGet (pc := 6) M hW 0 27 iU10 rfl rfl (by decide) (uw5 0 rfl rfl) rfl (dd dX10_fills_p0 5 rfl) ?_
  refine lv_iconst (pc := 9) (v := 0) hx hb (dd dX10_fills_p0 6 rfl) (by decide) ?_
  refine lv_iload_n (pc := 10) hx hb (dd dX10_fills_p0 7 rfl) rfl (lv_at hl 3 rfl) ?_
  obtain ⟨hi, h⟩ := ck_ex h
  obtain ⟨c_pile_11, ec_pile_11, h⟩ := nm_ex h
  refine rIast (pc := 11) M hW 1 rfl hi ec_pile_11 (ws' := (w_X10_fills g a_t a_pile a_rowAt a_strip a_what a_cornerX a_cornerY a_corners a_along a_rowSize a_endAt a_turns a_plan a_slantA a_slantB a_yields a_bears a_seen a_wagons a_far a_waiting a_isWaiting a_rest a_isUsed c_thrown c_isLaid c_head c_hasRows c_hasPlan c_rows c_slants c_capacity c_weight c_unload c_source c_bunker c_pile_11 c_rowAt c_strip c_what)) rfl (dd dX10_fills_p0 8 rfl) (fun H locs hW => ?_)
  refine lv_aload_n (pc := 12) hx hb (dd dX10_fills_p0 9 rfl) rfl (lv_at hl 2 rfl) ?_
  refine rGet (pc := 13) M hW 0 10 iU10 rfl rfl (by decide) (uw4 223 rfl rfl) rfl (dd dX10_fills_p0 10 rfl) ?_
  refine lv_iload_n (pc := 16) hx hb (dd dX10_fills_p0 11 rfl) rfl (lv_at hl 3 rfl) ?_
  refine lv_iload_n (pc := 17) hx hb (dd dX10_fills_p0 12 rfl) rfl (lv_at hl 4 rfl) ?_
  obtain ⟨hi, h⟩ := ck_ex h
  obtain ⟨c_rowAt_18, ec_rowAt_18, h⟩ := nm_ex h
  refine rIast (pc := 18) M hW 2 rfl hi ec_rowAt_18 (ws' := (w_X10_fills g a_t a_pile a_rowAt a_strip a_what a_cornerX a_cornerY a_corners a_along a_rowSize a_endAt a_turns a_plan a_slantA a_slantB a_yields a_bears a_seen a_wagons a_far a_waiting a_isWaiting a_rest a_isUsed c_thrown c_isLaid c_head c_hasRows c_hasPlan c_rows c_slants c_capacity c_weight c_unload c_source c_bunker c_pile_11 c_rowAt_18 c_strip c_what)) rfl (dd dX10_fills_p0 13 rfl) (fun H locs hW => ?_)
  obtain ⟨ex, hw, h⟩ := bnd_ex h
  refine loopW (fun st => ∀ (H : Heap) (locs : List Loc) (ls : Array Slot), WD g s A (w_X10_fills g a_t a_pile a_rowAt a_strip a_what a_cornerX a_cornerY a_corners a_along a_rowSize a_endAt a_turns a_plan a_slantA a_slantB a_yields a_bears a_seen a_wagons a_far a_waiting a_isWaiting a_rest a_isUsed c_thrown c_isLaid c_head c_hasRows c_hasPlan c_rows c_slants c_capacity c_weight c_unload c_source c_bunker (st.1) (st.2.1) c_strip c_what) H locs → lv_has ls 10 [(0, .ref a_t), (2, .int v2), (3, .int (st.2.2.1)), (4, .int (st.2.2.2))] → W p l e (rm9 1 21) s m args below meth c H locs 0 0 Q (F0 m 19 ls [])) (fun (ex : (Ar × Ar × Int32)) => ∀ (H : Heap) (locs : List Loc) (ls : Array Slot), WD g s A (w_X10_fills g a_t a_pile a_rowAt a_strip a_what a_cornerX a_cornerY a_corners a_along a_rowSize a_endAt a_turns a_plan a_slantA a_slantB a_yields a_bears a_seen a_wagons a_far a_waiting a_isWaiting a_rest a_isUsed c_thrown c_isLaid c_head c_hasRows c_hasPlan c_rows c_slants c_capacity c_weight c_unload c_source c_bunker (ex.1) (ex.2.1) c_strip c_what) H locs → lv_has ls 10 [(4, .int (ex.2.2))] → W p l e (rm9 1 21) s m args below meth c H locs 0 0 Q (F0 m 168 ls [])) ?_ hw ?_ H locs ls hW (lv_sub hl [2, 4, 1, 0] rfl)
  · rintro ⟨c_pile, c_rowAt, v3, v4⟩ o hb9 hk H locs ls hW hl
    have h : X10_fills_L19 c_strip c_what v2 c_pile c_rowAt v3 v4 = some o := hb9
    clear hb9
    unfold X10_fills_L19 at h
    refine lv_iload_n (pc := 19) hx hb (dd dX10_fills_p0 14 rfl) rfl (lv_at hl 2 rfl) ?_
    refine lv_if_le (pc := 20) (tgt := 168) hx hb (dd dX10_fills_p0 15 rfl) (by decide) (fun hc => ?_) (fun hc => ?_)
    · have h := it_t hc h
      obtain rfl := Option.some.inj h
      exact hk _ _ _ hW (lv_sub hl [3] rfl)
    · have h := it_f hc h
      obtain ⟨v3_23, ev3_23, h⟩ := nm_ex h
      refine lv_iinc (pc := 23) (v := v3_23) (lv' := [(3, .int v3_23), (0, .ref a_t), (2, .int v2), (4, .int v4)]) hx hb (dd dX10_fills_p0 16 rfl) hl (k := 2) rfl (by rw [ev3_23]; rfl) (by decide) rfl (fun ls hl => ?_)
      refine lv_aload_n (pc := 26) hx hb (dd dX10_fills_p0 17 rfl) rfl (lv_at hl 1 rfl) ?_
      refine rGet (pc := 27) M hW 0 27 iU10 rfl rfl (by decide) (uw5 0 rfl rfl) rfl (dd dX10_fills_p0 18 rfl) ?_
      refine lv_iload_n (pc := 30) hx hb (dd dX10_fills_p0 19 rfl) rfl (lv_at hl 0 rfl) ?_
      obtain ⟨hi, h⟩ := ck_ex h
      refine rIald (pc := 31) M hW 1 rfl hi (dd dX10_fills_p0 20 rfl) ?_
      obtain ⟨v5_32, ev5_32, h⟩ := nm_ex h
      refine rTopi (pc := 32) ev5_32 ?_
      refine lv_istore (pc := 32) (lv' := [(5, .int v5_32), (3, .int v3_23), (0, .ref a_t), (2, .int v2), (4, .int v4)]) hx hb (dd dX10_fills_p0 21 rfl) hl (by decide) rfl (fun ls hl => ?_)
      obtain ⟨v4_34, ev4_34, h⟩ := nm_ex h
      refine lv_iinc (pc := 34) (v := v4_34) (lv' := [(4, .int v4_34), (5, .int v5_32), (3, .int v3_23), (0, .ref a_t), (2, .int v2)]) hx hb (dd dX10_fills_p0 22 rfl) hl (k := 4) rfl (by rw [ev4_34]; rfl) (by decide) rfl (fun ls hl => ?_)
      refine lv_iconst (pc := 37) (v := 0) hx hb (dd dX10_fills_p0 23 rfl) (by decide) ?_
      refine lv_istore (pc := 38) (lv' := [(6, .int 0), (4, .int v4_34), (5, .int v5_32), (3, .int v3_23), (0, .ref a_t), (2, .int v2)]) hx hb (dd dX10_fills_p0 24 rfl) hl (by decide) rfl (fun ls hl => ?_)
      obtain ⟨ex, hw, h⟩ := bnd_ex h
      refine loopW (fun st => ∀ (H : Heap) (locs : List Loc) (ls : Array Slot), WD g s A (w_X10_fills g a_t a_pile a_rowAt a_strip a_what a_cornerX a_cornerY a_corners a_along a_rowSize a_endAt a_turns a_plan a_slantA a_slantB a_yields a_bears a_seen a_wagons a_far a_waiting a_isWaiting a_rest a_isUsed c_thrown c_isLaid c_head c_hasRows c_hasPlan c_rows c_slants c_capacity c_weight c_unload c_source c_bunker (st.1) (st.2.1) c_strip c_what) H locs → lv_has ls 10 [(0, .ref a_t), (2, .int v2), (3, .int (st.2.2.1)), (4, .int v4_34), (5, .int v5_32), (6, .int (st.2.2.2))] → W p l e (rm9 1 21) s m args below meth c H locs 0 0 Q (F0 m 40 ls [])) (fun (ex : (Ar × Ar × Int32)) => ∀ (H : Heap) (locs : List Loc) (ls : Array Slot), WD g s A (w_X10_fills g a_t a_pile a_rowAt a_strip a_what a_cornerX a_cornerY a_corners a_along a_rowSize a_endAt a_turns a_plan a_slantA a_slantB a_yields a_bears a_seen a_wagons a_far a_waiting a_isWaiting a_rest a_isUsed c_thrown c_isLaid c_head c_hasRows c_hasPlan c_rows c_slants c_capacity c_weight c_unload c_source c_bunker (ex.1) (ex.2.1) c_strip c_what) H locs → lv_has ls 10 [(0, .ref a_t), (2, .int v2), (3, .int (ex.2.2)), (4, .int v4_34)] → W p l e (rm9 1 21) s m args below meth c H locs 0 0 Q (F0 m 165 ls [])) ?_ hw ?_ H locs ls hW (lv_sub hl [4, 5, 3, 1, 2, 0] rfl)
      · rintro ⟨c_pile, c_rowAt, v3, v6⟩ o hb9 hk H locs ls hW hl
        have h : X10_fills_L40 c_strip c_what v2 v4_34 v5_32 c_pile c_rowAt v3 v6 = some o := hb9
        clear hb9
        unfold X10_fills_L40 at h
        have J159 : ∀ (c_pile c_rowAt : Ar) (v3 v6 : Int32) (H : Heap) (locs : List Loc) (ls : Array Slot), X10_fills_b40_159 c_pile c_rowAt v2 v3 v4_34 v5_32 v6 = some o → WD g s A (w_X10_fills g a_t a_pile a_rowAt a_strip a_what a_cornerX a_cornerY a_corners a_along a_rowSize a_endAt a_turns a_plan a_slantA a_slantB a_yields a_bears a_seen a_wagons a_far a_waiting a_isWaiting a_rest a_isUsed c_thrown c_isLaid c_head c_hasRows c_hasPlan c_rows c_slants c_capacity c_weight c_unload c_source c_bunker c_pile c_rowAt c_strip c_what) H locs → lv_has ls 10 [(0, .ref a_t), (2, .int v2), (3, .int v3), (4, .int v4_34), (5, .int v5_32), (6, .int v6)] → W p l e (rm9 1 21) s m args below meth c H locs 0 0 Q (F0 m 159 ls []) := by
          intro c_pile c_rowAt v3 v6 H locs ls h hW hl
          unfold X10_fills_b40_159 at h
          obtain ⟨v6_159, ev6_159, h⟩ := nm_ex h
          refine lv_iinc (pc := 159) (v := v6_159) (lv' := [(6, .int v6_159), (0, .ref a_t), (2, .int v2), (3, .int v3), (4, .int v4_34), (5, .int v5_32)]) hx hb (dd dX10_fills_p1 32 rfl) hl (k := 5) rfl (by rw [ev6_159]; rfl) (by decide) rfl (fun ls hl => ?_)
          refine lv_goto (pc := 162) (tgt := 40) hx hb (dd dX10_fills_p1 33 rfl) (by decide) ?_
          obtain rfl := Option.some.inj h
          exact hk _ _ _ hW (lv_sub hl [1, 2, 3, 4, 5, 0] rfl)
        refine lv_iload (pc := 40) hx hb (dd dX10_fills_p0 25 rfl) (lv_at hl 5 rfl) ?_
        refine lv_bipush (pc := 42) (v := 9) hx hb (dd dX10_fills_p0 26 rfl) (by decide) ?_
        refine lv_icmp_ge (pc := 44) (tgt := 165) hx hb (dd dX10_fills_p0 27 rfl) (by decide) (fun hc => ?_) (fun hc => ?_)
        · have h := it_t hc h
          obtain rfl := Option.some.inj h
          exact hk _ _ _ hW (lv_sub hl [0, 1, 2, 3] rfl)
        · have h := it_f hc h
          refine lv_iload (pc := 47) hx hb (dd dX10_fills_p0 28 rfl) (lv_at hl 4 rfl) ?_
          refine lv_bipush (pc := 49) (v := 40) hx hb (dd dX10_fills_p0 29 rfl) (by decide) ?_
          refine lv_irem (pc := 51) hx hb (dd dX10_fills_p0 30 rfl) (by decide) ?_
          refine lv_iload (pc := 52) hx hb (dd dX10_fills_p0 31 rfl) (lv_at hl 5 rfl) ?_
          refine lv_iconst (pc := 54) (v := 3) hx hb (dd dX10_fills_p0 32 rfl) (by decide) ?_
          refine lv_irem (pc := 55) hx hb (dd dX10_fills_p0 33 rfl) (by decide) ?_
          refine lv_iadd (pc := 56) hx hb (dd dX10_fills_p0 34 rfl) ?_
          refine lv_iconst (pc := 57) (v := 1) hx hb (dd dX10_fills_p0 35 rfl) (by decide) ?_
          refine lv_isub (pc := 58) hx hb (dd dX10_fills_p0 36 rfl) ?_
          obtain ⟨v7_59, ev7_59, h⟩ := nm_ex h
          refine rTopi (pc := 59) ev7_59 ?_
          refine lv_istore (pc := 59) (lv' := [(7, .int v7_59), (0, .ref a_t), (2, .int v2), (3, .int v3), (4, .int v4_34), (5, .int v5_32), (6, .int v6)]) hx hb (dd dX10_fills_p0 37 rfl) hl (by decide) rfl (fun ls hl => ?_)
          refine lv_iload (pc := 61) hx hb (dd dX10_fills_p0 38 rfl) (lv_at hl 5 rfl) ?_
          refine lv_bipush (pc := 63) (v := 40) hx hb (dd dX10_fills_p0 39 rfl) (by decide) ?_
          refine lv_idiv (pc := 65) hx hb (dd dX10_fills_p0 40 rfl) (by decide) ?_
          refine lv_iload (pc := 66) hx hb (dd dX10_fills_p0 41 rfl) (lv_at hl 6 rfl) ?_
          refine lv_iconst (pc := 68) (v := 3) hx hb (dd dX10_fills_p0 42 rfl) (by decide) ?_
          refine lv_idiv (pc := 69) hx hb (dd dX10_fills_p0 43 rfl) (by decide) ?_
          refine lv_iadd (pc := 70) hx hb (dd dX10_fills_p0 44 rfl) ?_
          refine lv_iconst (pc := 71) (v := 1) hx hb (dd dX10_fills_p0 45 rfl) (by decide) ?_
          refine lv_isub (pc := 72) hx hb (dd dX10_fills_p0 46 rfl) ?_
          obtain ⟨v8_73, ev8_73, h⟩ := nm_ex h
          refine rTopi (pc := 73) ev8_73 ?_
          refine lv_istore (pc := 73) (lv' := [(8, .int v8_73), (7, .int v7_59), (0, .ref a_t), (2, .int v2), (3, .int v3), (4, .int v4_34), (5, .int v5_32), (6, .int v6)]) hx hb (dd dX10_fills_p0 47 rfl) hl (by decide) rfl (fun ls hl => ?_)
          refine lv_iload (pc := 75) hx hb (dd dX10_fills_p0 48 rfl) (lv_at hl 1 rfl) ?_
          refine lv_iload (pc := 77) hx hb (dd dX10_fills_p0 49 rfl) (lv_at hl 0 rfl) ?_
          obtain ⟨r_79, hr, h⟩ := bnd_ex h
          refine callSI (pc := 79) (na := 2) (As := [.int v7_59, .int v8_73]) (rest := []) (ws2 := (w_X10_fills g a_t a_pile a_rowAt a_strip a_what a_cornerX a_cornerY a_corners a_along a_rowSize a_endAt a_turns a_plan a_slantA a_slantB a_yields a_bears a_seen a_wagons a_far a_waiting a_isWaiting a_rest a_isUsed c_thrown c_isLaid c_head c_hasRows c_hasPlan c_rows c_slants c_capacity c_weight c_unload c_source c_bunker c_pile c_rowAt c_strip c_what)) M hl.1 hW (t_X10_noSquare l g v7_59 v8_73 r_79 hr) [] [0, 1, 2, 3, 4] [0, 1, 2, 3, 4] rfl rfl rfl rfl rfl rfl rfl (uw5 113 rfl rfl) (uw5 111 rfl rfl) (uw5 112 rfl rfl) (uw1 13 rfl rfl) ⟨by decide, by decide, by decide⟩ rfl ⟨by decide, by decide⟩ (Nat.le_of_ble_eq_true rfl) ⟨Nat.zero_le _, Nat.zero_le _⟩ (dd dX10_fills_p0 50 rfl) (fun H locs hW => ?_)
          refine lv_if_eq (pc := 82) (tgt := 88) hx hb (dd dX10_fills_p0 51 rfl) (by decide) (fun hc => ?_) (fun hc => ?_)
          · have h := it_t hc h
            refine lv_bipush (pc := 88) (v := 40) hx hb (dd dX10_fills_p0 53 rfl) (by decide) ?_
            refine lv_iload (pc := 90) hx hb (dd dX10_fills_p0 54 rfl) (lv_at hl 0 rfl) ?_
            refine lv_imul (pc := 92) hx hb (dd dX10_fills_p0 55 rfl) ?_
            refine lv_iload (pc := 93) hx hb (dd dX10_fills_p0 56 rfl) (lv_at hl 1 rfl) ?_
            refine lv_iadd (pc := 95) hx hb (dd dX10_fills_p0 57 rfl) ?_
            obtain ⟨v9_96, ev9_96, h⟩ := nm_ex h
            refine rTopi (pc := 96) ev9_96 ?_
            refine lv_istore (pc := 96) (lv' := [(9, .int v9_96), (8, .int v8_73), (7, .int v7_59), (0, .ref a_t), (2, .int v2), (3, .int v3), (4, .int v4_34), (5, .int v5_32), (6, .int v6)]) hx hb (dd dX10_fills_p0 58 rfl) hl (by decide) rfl (fun ls hl => ?_)
            refine lv_aload_n (pc := 98) hx hb (dd dX10_fills_p0 59 rfl) rfl (lv_at hl 3 rfl) ?_
            refine rGet (pc := 99) M hW 0 4 iU10 rfl rfl (by decide) (uw4 217 rfl rfl) rfl (dd dX10_fills_p1 0 rfl) ?_
            refine lv_iload (pc := 102) hx hb (dd dX10_fills_p1 1 rfl) (lv_at hl 0 rfl) ?_
            obtain ⟨hi, h⟩ := ck_ex h
            refine rIald (pc := 104) M hW 4 rfl hi (dd dX10_fills_p1 2 rfl) ?_
            refine lv_iconst (pc := 105) (v := 2) hx hb (dd dX10_fills_p1 3 rfl) (by decide) ?_
            refine lv_icmp_ne (pc := 106) (tgt := 159) hx hb (dd dX10_fills_p1 4 rfl) (by decide) (fun hc => ?_) (fun hc => ?_)
            · have h := it_f hc h
              exact J159 _ _ _ _ _ _ _ h hW (lv_sub hl [3, 4, 5, 6, 7, 8] rfl)
            · have h := it_t hc h
              refine lv_aload_n (pc := 109) hx hb (dd dX10_fills_p1 5 rfl) rfl (lv_at hl 3 rfl) ?_
              refine rGet (pc := 110) M hW 0 10 iU10 rfl rfl (by decide) (uw4 223 rfl rfl) rfl (dd dX10_fills_p1 6 rfl) ?_
              refine lv_iload (pc := 113) hx hb (dd dX10_fills_p1 7 rfl) (lv_at hl 0 rfl) ?_
              obtain ⟨hi, h⟩ := ck_ex h
              refine rIald (pc := 115) M hW 2 rfl hi (dd dX10_fills_p1 8 rfl) ?_
              refine lv_iconst (pc := 116) (v := (-1)) hx hb (dd dX10_fills_p1 9 rfl) (by decide) ?_
              refine lv_icmp_ne (pc := 117) (tgt := 159) hx hb (dd dX10_fills_p1 10 rfl) (by decide) (fun hc => ?_) (fun hc => ?_)
              · have h := it_f hc h
                exact J159 _ _ _ _ _ _ _ h hW (lv_sub hl [3, 4, 5, 6, 7, 8] rfl)
              · have h := it_t hc h
                refine lv_aload_n (pc := 120) hx hb (dd dX10_fills_p1 11 rfl) rfl (lv_at hl 3 rfl) ?_
                refine rGet (pc := 121) M hW 0 11 iU10 rfl rfl (by decide) (uw4 224 rfl rfl) rfl (dd dX10_fills_p1 12 rfl) ?_
                refine lv_iload (pc := 124) hx hb (dd dX10_fills_p1 13 rfl) (lv_at hl 0 rfl) ?_
                obtain ⟨hi, h⟩ := ck_ex h
                refine rIald (pc := 126) M hW 3 rfl hi (dd dX10_fills_p1 14 rfl) ?_
                refine lv_aload_n (pc := 127) hx hb (dd dX10_fills_p1 15 rfl) rfl (lv_at hl 3 rfl) ?_
                refine rGet (pc := 128) M hW 0 11 iU10 rfl rfl (by decide) (uw4 224 rfl rfl) rfl (dd dX10_fills_p1 16 rfl) ?_
                refine lv_iload (pc := 131) hx hb (dd dX10_fills_p1 17 rfl) (lv_at hl 7 rfl) ?_
                obtain ⟨hi, h⟩ := ck_ex h
                refine rIald (pc := 133) M hW 3 rfl hi (dd dX10_fills_p1 18 rfl) ?_
                refine lv_icmp_eq (pc := 134) (tgt := 140) hx hb (dd dX10_fills_p1 19 rfl) (by decide) (fun hc => ?_) (fun hc => ?_)
                · have h := it_t hc h
                  refine lv_aload_n (pc := 140) hx hb (dd dX10_fills_p1 21 rfl) rfl (lv_at hl 3 rfl) ?_
                  refine rGet (pc := 141) M hW 0 10 iU10 rfl rfl (by decide) (uw4 223 rfl rfl) rfl (dd dX10_fills_p1 22 rfl) ?_
                  refine lv_iload (pc := 144) hx hb (dd dX10_fills_p1 23 rfl) (lv_at hl 0 rfl) ?_
                  refine lv_iload_n (pc := 146) hx hb (dd dX10_fills_p1 24 rfl) rfl (lv_at hl 4 rfl) ?_
                  obtain ⟨hi, h⟩ := ck_ex h
                  obtain ⟨c_rowAt_147, ec_rowAt_147, h⟩ := nm_ex h
                  refine rIast (pc := 147) M hW 2 rfl hi ec_rowAt_147 (ws' := (w_X10_fills g a_t a_pile a_rowAt a_strip a_what a_cornerX a_cornerY a_corners a_along a_rowSize a_endAt a_turns a_plan a_slantA a_slantB a_yields a_bears a_seen a_wagons a_far a_waiting a_isWaiting a_rest a_isUsed c_thrown c_isLaid c_head c_hasRows c_hasPlan c_rows c_slants c_capacity c_weight c_unload c_source c_bunker c_pile c_rowAt_147 c_strip c_what)) rfl (dd dX10_fills_p1 25 rfl) (fun H locs hW => ?_)
                  refine lv_aload_n (pc := 148) hx hb (dd dX10_fills_p1 26 rfl) rfl (lv_at hl 3 rfl) ?_
                  refine rGet (pc := 149) M hW 0 27 iU10 rfl rfl (by decide) (uw5 0 rfl rfl) rfl (dd dX10_fills_p1 27 rfl) ?_
                  refine lv_iload_n (pc := 152) hx hb (dd dX10_fills_p1 28 rfl) rfl (lv_at hl 5 rfl) ?_
                  refine lv_iload (pc := 153) hx hb (dd dX10_fills_p1 29 rfl) (lv_at hl 0 rfl) ?_
                  obtain ⟨hi, h⟩ := ck_ex h
                  obtain ⟨c_pile_155, ec_pile_155, h⟩ := nm_ex h
                  refine rIast (pc := 155) M hW 1 rfl hi ec_pile_155 (ws' := (w_X10_fills g a_t a_pile a_rowAt a_strip a_what a_cornerX a_cornerY a_corners a_along a_rowSize a_endAt a_turns a_plan a_slantA a_slantB a_yields a_bears a_seen a_wagons a_far a_waiting a_isWaiting a_rest a_isUsed c_thrown c_isLaid c_head c_hasRows c_hasPlan c_rows c_slants c_capacity c_weight c_unload c_source c_bunker c_pile_155 c_rowAt_147 c_strip c_what)) rfl (dd dX10_fills_p1 30 rfl) (fun H locs hW => ?_)
                  obtain ⟨v3_156, ev3_156, h⟩ := nm_ex h
                  refine lv_iinc (pc := 156) (v := v3_156) (lv' := [(3, .int v3_156), (9, .int v9_96), (8, .int v8_73), (7, .int v7_59), (0, .ref a_t), (2, .int v2), (4, .int v4_34), (5, .int v5_32), (6, .int v6)]) hx hb (dd dX10_fills_p1 31 rfl) hl (k := 5) rfl (by rw [ev3_156]; rfl) (by decide) rfl (fun ls hl => ?_)
                  exact J159 _ _ _ _ _ _ _ h hW (lv_sub hl [4, 5, 0, 6, 7, 8] rfl)
                · have h := it_f hc h
                  refine lv_goto (pc := 137) (tgt := 159) hx hb (dd dX10_fills_p1 20 rfl) (by decide) ?_
                  exact J159 _ _ _ _ _ _ _ h hW (lv_sub hl [3, 4, 5, 6, 7, 8] rfl)
          · have h := it_f hc h
            refine lv_goto (pc := 85) (tgt := 159) hx hb (dd dX10_fills_p0 52 rfl) (by decide) ?_
            exact J159 _ _ _ _ _ _ _ h hW (lv_sub hl [2, 3, 4, 5, 6, 7] rfl)
      · obtain ⟨c_pile_165, c_rowAt_165, v3_165⟩ := ex
        have h := un3_at h
        intro H locs ls hW hl
        refine lv_goto (pc := 165) (tgt := 19) hx hb (dd dX10_fills_p1 34 rfl) (by decide) ?_
        obtain rfl := Option.some.inj h
        exact hk _ _ _ hW (lv_sub hl [0, 1, 2, 3] rfl)
  · obtain ⟨c_pile_168, c_rowAt_168, v4_168⟩ := ex
    have h := un3_at h
    intro H locs ls hW hl
    refine lv_iload (pc := 168) hx hb (dd dX10_fills_p1 35 rfl) (lv_at hl 0 rfl) ?_
    have hW9 := hW
    cases h
    exact ret _ _ _ 170 hW9 rfl (dd dX10_fills_p1 36 rfl)
abbrev w_X10_makes (g : G9) (a_t a_along a_endAt a_far a_isWaiting a_pile a_rowAt a_rowSize a_strip a_turns a_waiting a_what a_cornerX a_cornerY a_corners a_plan a_slantA a_slantB a_yields a_bears a_seen a_wagons a_rest a_isUsed : Nat) (c_thrown c_isLaid c_head c_hasRows c_hasPlan c_rows c_slants c_capacity c_weight c_unload c_source c_bunker : Int32) (c_along c_endAt c_far c_isWaiting c_pile c_rowAt c_rowSize c_strip c_turns c_waiting c_what : Ar) : va_W := [ob a_t 10 [.int c_thrown, .ref a_cornerX, .ref a_cornerY, .ref a_corners, .ref a_what, .int c_isLaid, .int c_head, .int c_hasRows, .int c_hasPlan, .int c_rows, .ref a_rowAt, .ref a_strip, .ref a_along, .ref a_rowSize, .ref a_endAt, .ref a_turns, .ref a_plan, .ref a_slantA, .ref a_slantB, .int c_slants, .ref a_yields, .ref a_bears, .int c_capacity, .int c_weight, .int c_unload, .ref a_seen, .ref a_wagons, .ref a_pile, .ref a_far, .int c_source, .ref a_waiting, .ref a_isWaiting, .ref a_rest, .ref a_isUsed, .int c_bunker], ia g a_along 1200 c_along, ia g a_endAt 122 c_endAt, ia g a_far 1200 c_far, za g a_isWaiting 1200 c_isWaiting, ia g a_pile 1200 c_pile, ia g a_rowAt 1200 c_rowAt, ia g a_rowSize 61 c_rowSize, ia g a_strip 1200 c_strip, ia g a_turns 14400 c_turns, ia g a_waiting 1200 c_waiting, ia g a_what 1200 c_what]
noncomputable def X10_makes_L18 (v1 v2 v3 : Int32) (c_along c_rowAt c_strip : Ar) (v4 : Int32) : Option ((Ar × Ar × Ar × Int32) ⊕ (Ar × Ar × Ar)) :=
  if 1200 ≤ v4 then (some (.inr (c_along, c_rowAt, c_strip))) else (nm (((2 * (v4 - v4 / 40 * 40)) + 1)) fun v5_35 => nm (((2 * (v4 / 40)) + 1)) fun v6_46 => ck (nz v3) <| ck (ix v4 1200) <| nm (au c_strip v4 (flo ((v1 * v6_46) - (v2 * v5_35)) v3)) fun c_strip_67 => ck (ix v4 1200) <| nm (au c_along v4 ((v1 * v5_35) + (v2 * v6_46))) fun c_along_83 => ck (ix v4 1200) <| nm (au c_rowAt v4 (-1)) fun c_rowAt_91 => nm (v4 + 1) fun v4_92 => some (.inl (c_along_83, c_rowAt_91, c_strip_67, v4_92)))
noncomputable def X10_makes_b159_202 (v5 v6 : Int32) : Option ((Int32 × Int32) ⊕ Int32) :=
  nm (v6 + 1) fun v6_202 => some (.inl (v5, v6_202))
noncomputable def X10_makes_L159 (c_rows : Int32) (c_along c_rowAt : Ar) (v5 v6 : Int32) : Option ((Int32 × Int32) ⊕ Int32) :=
  if 1200 ≤ v6 then (some (.inr v5)) else (ck (ix v6 1200) <| if (ag c_rowAt v6) = c_rows then (ck (ix v6 1200) <| ck (ix v5 1200) <| if (ag c_along v6) ≤ (ag c_along v5) then (X10_makes_b159_202 v5 v6) else (X10_makes_b159_202 v6 v6)) else (X10_makes_b159_202 v5 v6))
noncomputable def X10_makes_b213_253 (v5 v6 : Int32) : Option ((Int32 × Int32) ⊕ Int32) :=
  nm (v6 + (-1)) fun v6_253 => some (.inl (v5, v6_253))
noncomputable def X10_makes_L213 (c_rows : Int32) (c_along c_rowAt : Ar) (v5 v6 : Int32) : Option ((Int32 × Int32) ⊕ Int32) :=
  if v6 < 0 then (some (.inr v5)) else (ck (ix v6 1200) <| if (ag c_rowAt v6) = c_rows then (ck (ix v6 1200) <| ck (ix v5 1200) <| if (ag c_along v6) = (ag c_along v5) then (X10_makes_b213_253 v6 v6) else (X10_makes_b213_253 v5 v6)) else (X10_makes_b213_253 v5 v6))
noncomputable def X10_makes_L104 (c_along c_strip c_what : Ar) (c_rows : Int32) (c_endAt c_pile c_rowAt c_rowSize : Ar) (v4 : Int32) : Option ((Int32 × Ar × Ar × Ar × Ar × Int32) ⊕ ((Int32 × Ar × Ar × Ar × Ar) ⊕ (Int32 × Ar × Ar × Ar × Ar))) :=
  if v4 < 0 then (some (.inr (.inl (c_rows, c_endAt, c_pile, c_rowAt, c_rowSize)))) else (if c_rows = 60 then (some (.inr (.inr ((c_rows, c_endAt, c_pile, c_rowAt, c_rowSize))))) else (bnd (X10_fills c_pile c_rowAt c_strip c_what v4 c_rows) <| un3 fun r_135 c_pile_135 c_rowAt_135 => ck (ix c_rows 61) <| nm (au c_rowSize c_rows r_135) fun c_rowSize_138 => ck (ix (2 * c_rows) 122) <| nm (au c_endAt (2 * c_rows) v4) fun c_endAt_151 => bnd (whileV (fun st => X10_makes_L159 c_rows c_along c_rowAt_135 st.1 st.2) (v4, 0)) <| (fun v5_208 => bnd (whileV (fun st => X10_makes_L213 c_rows c_along c_rowAt_135 st.1 st.2) (v5_208, 1199)) <| (fun v5_259 => ck (ix ((2 * c_rows) + 1) 122) <| nm (au c_endAt_151 ((2 * c_rows) + 1) v5_259) fun c_endAt_273 => nm ((c_rows + 1)) fun c_rows_281 => bnd (X10_next c_along c_rowAt_135 c_strip c_what) <| fun r_285 => some (.inl (c_rows_281, c_endAt_273, c_pile_135, c_rowAt_135, c_rowSize_138, r_285))))))
noncomputable def X10_makes_L321 (c_rows c_source : Int32) (c_endAt c_far c_what : Ar) (v4 : Int32) (c_turns : Ar) (v5 : Int32) : Option ((Ar × Int32) ⊕ Ar) :=
  if (2 * c_rows) ≤ v5 then (some (.inr c_turns)) else (ck (ix v5 122) <| bnd (X10_endWay c_source c_far c_what (ag c_endAt v5)) <| fun r_352 => ck (ix ((120 * v4) + v5) 14400) <| nm (au c_turns ((120 * v4) + v5) r_352) fun c_turns_355 => nm (v5 + 1) fun v5_356 => some (.inl (c_turns_355, v5_356)))
noncomputable def X10_makes_L296 (c_rows : Int32) (c_endAt c_what : Ar) (c_source : Int32) (c_far c_isWaiting c_turns c_waiting : Ar) (v4 : Int32) : Option ((Int32 × Ar × Ar × Ar × Ar × Int32) ⊕ (Int32 × Ar × Ar × Ar × Ar)) :=
  if (2 * c_rows) ≤ v4 then (some (.inr (c_source, c_far, c_isWaiting, c_turns, c_waiting))) else (ck (ix v4 122) <| bnd (X10_reaches c_source c_far c_isWaiting c_waiting c_what (ag c_endAt v4)) <| un4 fun c_source_315 c_far_315 c_isWaiting_315 c_waiting_315 => bnd (whileV (fun st => X10_makes_L321 c_rows c_source_315 c_endAt c_far_315 c_what v4 st.1 st.2) (c_turns, 0)) <| (fun c_turns_362 => nm (v4 + 1) fun v4_362 => some (.inl (c_source_315, c_far_315, c_isWaiting_315, c_turns_362, c_waiting_315, v4_362))))
noncomputable def X10_makes (c_hasRows c_hasPlan c_rows c_source : Int32) (c_along c_endAt c_far c_isWaiting c_pile c_rowAt c_rowSize c_strip c_turns c_waiting c_what : Ar) (v1 v2 v3 : Int32) : Option (Int32 × Int32 × Int32 × Int32 × Int32 × Ar × Ar × Ar × Ar × Ar × Ar × Ar × Ar × Ar × Ar) :=
  bnd (whileV (fun st => X10_makes_L18 v1 v2 v3 st.1 st.2.1 st.2.2.1 st.2.2.2) (c_along, c_rowAt, c_strip, 0)) <| (un3 fun c_along_98 c_rowAt_98 c_strip_98 => bnd (X10_next c_along_98 c_rowAt_98 c_strip_98 c_what) <| fun r_99 => bnd (whileV (fun st => X10_makes_L104 c_along_98 c_strip_98 c_what st.1 st.2.1 st.2.2.1 st.2.2.2.1 st.2.2.2.2.1 st.2.2.2.2.2) (0, c_endAt, c_pile, c_rowAt_98, c_rowSize, r_99)) <| (Sum.elim (un5 fun c_rows_293 c_endAt_293 c_pile_293 c_rowAt_293 c_rowSize_293 => bnd (whileV (fun st => X10_makes_L296 c_rows_293 c_endAt_293 c_what st.1 st.2.1 st.2.2.1 st.2.2.2.1 st.2.2.2.2.1 st.2.2.2.2.2) (c_source, c_far, c_isWaiting, c_turns, c_waiting, 0)) <| (un5 fun c_source_368 c_far_368 c_isWaiting_368 c_turns_368 c_waiting_368 => some (1, 1, 0, c_rows_293, c_source_368, c_along_98, c_endAt_293, c_far_368, c_isWaiting_368, c_pile_293, c_rowAt_293, c_rowSize_293, c_strip_98, c_turns_368, c_waiting_368))) (un5 fun c_rows_118 c_endAt_118 c_pile_118 c_rowAt_118 c_rowSize_118 => some (0, 0, 0, c_rows_118, c_source, c_along_98, c_endAt_118, c_far, c_isWaiting, c_pile_118, c_rowAt_118, c_rowSize_118, c_strip_98, c_turns, c_waiting))))
set_option maxHeartbeats 4000000 in
set_option maxRecDepth 100000 in
theorem t_X10_makes (l : Launch) (g : G9) (a_t a_along a_endAt a_far a_isWaiting a_pile a_rowAt a_rowSize a_strip a_turns a_waiting a_what a_cornerX a_cornerY a_corners a_plan a_slantA a_slantB a_yields a_bears a_seen a_wagons a_rest a_isUsed : Nat) (c_thrown c_isLaid c_head c_hasRows c_hasPlan c_rows c_slants c_capacity c_weight c_unload c_source c_bunker : Int32) (c_along c_endAt c_far c_isWaiting c_pile c_rowAt c_rowSize c_strip c_turns c_waiting c_what : Ar) (v1 v2 v3 r0 o_hasRows o_hasPlan o_rows o_source : Int32) (o_along o_endAt o_far o_isWaiting o_pile o_rowAt o_rowSize o_strip o_turns o_waiting : Ar) (h : X10_makes c_hasRows c_hasPlan c_rows c_source c_along c_endAt c_far c_isWaiting c_pile c_rowAt c_rowSize c_strip c_turns c_waiting c_what v1 v2 v3 = some (r0, o_hasRows, o_hasPlan, o_rows, o_source, o_along, o_endAt, o_far, o_isWaiting, o_pile, o_rowAt, o_rowSize, o_strip, o_turns, o_waiting)) : CtI l g yX10_makes cX10_makes 7 .boolean 3 70 [.ref a_t, .int v1, .int v2, .int v3] (w_X10_makes g a_t a_along a_endAt a_far a_isWaiting a_pile a_rowAt a_rowSize a_strip a_turns a_waiting a_what a_cornerX a_cornerY a_corners a_plan a_slantA a_slantB a_yields a_bears a_seen a_wagons a_rest a_isUsed c_thrown c_isLaid c_head c_hasRows c_hasPlan c_rows c_slants c_capacity c_weight c_unload c_source c_bunker c_along c_endAt c_far c_isWaiting c_pile c_rowAt c_rowSize c_strip c_turns c_waiting c_what) r0 (w_X10_makes g a_t a_along a_endAt a_far a_isWaiting a_pile a_rowAt a_rowSize a_strip a_turns a_waiting a_what a_cornerX a_cornerY a_corners a_plan a_slantA a_slantB a_yields a_bears a_seen a_wagons a_rest a_isUsed c_thrown c_isLaid c_head o_hasRows o_hasPlan o_rows c_slants c_capacity c_weight c_unload o_source c_bunker o_along o_endAt o_far o_isWaiting o_pile o_rowAt o_rowSize o_strip o_turns o_waiting c_what) := by
  refine startI (by decide) (Nat.le_of_ble_eq_true rfl) ?_
  intro p e s m below meth c A Q ls args M hW hl ret
  have hx := M.1
  have hb := M.2.1
  have hown := M.2.2.2.1
  have hu := M.2.2.2.2.1
  have hl : lv_has ls 7 [(0, .ref a_t), (1, .int v1), (2, .int v2), (3, .int v3)] := hl
  unfold X10_makes at h
  obtain ⟨H, eH⟩ : ∃ z, z = s.heap := ⟨_, rfl⟩
  obtain ⟨locs, eL⟩ : ∃ z, z = ([] : List Loc) := ⟨_, rfl⟩
  rw [← eL] at hW ⊢
  suffices hS9 : WD g s A (w_X10_makes g a_t a_along a_endAt a_far a_isWaiting a_pile a_rowAt a_rowSize a_strip a_turns a_waiting a_what a_cornerX a_cornerY a_corners a_plan a_slantA a_slantB a_yields a_bears a_seen a_wagons a_rest a_isUsed c_thrown c_isLaid c_head c_hasRows c_hasPlan c_rows c_slants c_capacity c_weight c_unload c_source c_bunker c_along c_endAt c_far c_isWaiting c_pile c_rowAt c_rowSize c_strip c_turns c_waiting c_what) H locs → W p l e (rm9 3 70) s m args below meth c H locs 0 0 Q (F0 m 0 ls []) by
    rw [← eH] at hW ⊢
    exact hS9 hW
  clear hW eH eL
  intro hW
  refine lv_aload_n (pc := 0) hx hb (dd dX10_makes_p0 0 rfl) rfl (lv_at hl 0 rfl) ?_
  refine lv_iconst (pc := 1) (v := 0) hx hb (dd dX10_makes_p0 1 rfl) (by decide) ?_
  refine rPut (pc := 2) M hW 0 7 tyX10 tyX10_ok nmX10 iU10 rfl rfl (by decide) (uw4 220 rfl rfl) rfl rfl rfl (Nat.le_of_ble_eq_true rfl) (dd dX10_makes_p0 2 rfl) (ws' := (w_X10_makes g a_t a_along a_endAt a_far a_isWaiting a_pile a_rowAt a_rowSize a_strip a_turns a_waiting a_what a_cornerX a_cornerY a_corners a_plan a_slantA a_slantB a_yields a_bears a_seen a_wagons a_rest a_isUsed c_thrown c_isLaid c_head 0 c_hasPlan c_rows c_slants c_capacity c_weight c_unload c_source c_bunker c_along c_endAt c_far c_isWaiting c_pile c_rowAt c_rowSize c_strip c_turns c_waiting c_what)) rfl (fun H locs hW => ?_)
  refine lv_aload_n (pc := 5) hx hb (dd dX10_makes_p0 3 rfl) rfl (lv_at hl 0 rfl) ?_
  refine lv_iconst (pc := 6) (v := 0) hx hb (dd dX10_makes_p0 4 rfl) (by decide) ?_
  refine rPut (pc := 7) M hW 0 8 tyX10 tyX10_ok nmX10 iU10 rfl rfl (by decide) (uw4 221 rfl rfl) rfl rfl rfl (Nat.le_of_ble_eq_true rfl) (dd dX10_makes_p0 5 rfl) (ws' := (w_X10_makes g a_t a_along a_endAt a_far a_isWaiting a_pile a_rowAt a_rowSize a_strip a_turns a_waiting a_what a_cornerX a_cornerY a_corners a_plan a_slantA a_slantB a_yields a_bears a_seen a_wagons a_rest a_isUsed c_thrown c_isLaid c_head 0 0 c_rows c_slants c_capacity c_weight c_unload c_source c_bunker c_along c_endAt c_far c_isWaiting c_pile c_rowAt c_rowSize c_strip c_turns c_waiting c_what)) rfl (fun H locs hW => ?_)
  refine lv_aload_n (pc := 10) hx hb (dd dX10_makes_p0 6 rfl) rfl (lv_at hl 0 rfl) ?_
  refine lv_iconst (pc := 11) (v := 0) hx hb (dd dX10_makes_p0 7 rfl) (by decide) ?_
  refine rPut (pc := 12) M hW 0 9 tyX10 tyX10_ok nmX10 iU10 rfl rfl (by decide) (uw4 222 rfl rfl) rfl rfl rfl (Nat.le_of_ble_eq_true rfl) (dd dX10_makes_p0 8 rfl) (ws' := (w_X10_makes g a_t a_along a_endAt a_far a_isWaiting a_pile a_rowAt a_rowSize a_strip a_turns a_waiting a_what a_cornerX a_cornerY a_corners a_plan a_slantA a_slantB a_yields a_bears a_seen a_wagons a_rest a_isUsed c_thrown c_isLaid c_head 0 0 0 c_slants c_capacity c_weight c_unload c_source c_bunker c_along c_endAt c_far c_isWaiting c_pile c_rowAt c_rowSize c_strip c_turns c_waiting c_what)) rfl (fun H locs hW => ?_)
  refine lv_iconst (pc := 15) (v := 0) hx hb (dd dX10_makes_p0 9 rfl) (by decide) ?_
  refine lv_istore (pc := 16) (lv' := [(4, .int 0), (0, .ref a_t), (1, .int v1), (2, .int v2), (3, .int v3)]) hx hb (dd dX10_makes_p0 10 rfl) hl (by decide) rfl (fun ls hl => ?_)
  obtain ⟨ex, hw, h⟩ := bnd_ex h
  refine loopW (fun st => ∀ (H : Heap) (locs : List Loc) (ls : Array Slot), WD g s A (w_X10_makes g a_t a_along a_endAt a_far a_isWaiting a_pile a_rowAt a_rowSize a_strip a_turns a_waiting a_what a_cornerX a_cornerY a_corners a_plan a_slantA a_slantB a_yields a_bears a_seen a_wagons a_rest a_isUsed c_thrown c_isLaid c_head 0 0 0 c_slants c_capacity c_weight c_unload c_source c_bunker (st.1) c_endAt c_far c_isWaiting c_pile (st.2.1) c_rowSize (st.2.2.1) c_turns c_waiting c_what) H locs → lv_has ls 7 [(0, .ref a_t), (1, .int v1), (2, .int v2), (3, .int v3), (4, .int (st.2.2.2))] → W p l e (rm9 3 70) s m args below meth c H locs 0 0 Q (F0 m 18 ls [])) (fun (ex : (Ar × Ar × Ar)) => ∀ (H : Heap) (locs : List Loc) (ls : Array Slot), WD g s A (w_X10_makes g a_t a_along a_endAt a_far a_isWaiting a_pile a_rowAt a_rowSize a_strip a_turns a_waiting a_what a_cornerX a_cornerY a_corners a_plan a_slantA a_slantB a_yields a_bears a_seen a_wagons a_rest a_isUsed c_thrown c_isLaid c_head 0 0 0 c_slants c_capacity c_weight c_unload c_source c_bunker (ex.1) c_endAt c_far c_isWaiting c_pile (ex.2.1) c_rowSize (ex.2.2) c_turns c_waiting c_what) H locs → lv_has ls 7 [(0, .ref a_t)] → W p l e (rm9 3 70) s m args below meth c H locs 0 0 Q (F0 m 98 ls [])) ?_ hw ?_ H locs ls hW (lv_sub hl [1, 2, 3, 4, 0] rfl)
  · rintro ⟨c_along, c_rowAt, c_strip, v4⟩ o hb9 hk H locs ls hW hl
    have h : X10_makes_L18 v1 v2 v3 c_along c_rowAt c_strip v4 = some o := hb9
    clear hb9
    unfold X10_makes_L18 at h
    refine lv_iload (pc := 18) hx hb (dd dX10_makes_p0 11 rfl) (lv_at hl 4 rfl) ?_
    refine lv_sipush (pc := 20) (v := 1200) hx hb (dd dX10_makes_p0 12 rfl) (by decide) ?_
    refine lv_icmp_ge (pc := 23) (tgt := 98) hx hb (dd dX10_makes_p0 13 rfl) (by decide) (fun hc => ?_) (fun hc => ?_)
    · have h := it_t hc h
      obtain rfl := Option.some.inj h
      exact hk _ _ _ hW (lv_sub hl [0] rfl)
    · have h := it_f hc h
      refine lv_iconst (pc := 26) (v := 2) hx hb (dd dX10_makes_p0 14 rfl) (by decide) ?_
      refine lv_iload (pc := 27) hx hb (dd dX10_makes_p0 15 rfl) (lv_at hl 4 rfl) ?_
      refine lv_bipush (pc := 29) (v := 40) hx hb (dd dX10_makes_p0 16 rfl) (by decide) ?_
      refine lv_irem (pc := 31) hx hb (dd dX10_makes_p0 17 rfl) (by decide) ?_
      refine lv_imul (pc := 32) hx hb (dd dX10_makes_p0 18 rfl) ?_
      refine lv_iconst (pc := 33) (v := 1) hx hb (dd dX10_makes_p0 19 rfl) (by decide) ?_
      refine lv_iadd (pc := 34) hx hb (dd dX10_makes_p0 20 rfl) ?_
      obtain ⟨v5_35, ev5_35, h⟩ := nm_ex h
      refine rTopi (pc := 35) ev5_35 ?_
      refine lv_istore (pc := 35) (lv' := [(5, .int v5_35), (0, .ref a_t), (1, .int v1), (2, .int v2), (3, .int v3), (4, .int v4)]) hx hb (dd dX10_makes_p0 21 rfl) hl (by decide) rfl (fun ls hl => ?_)
      refine lv_iconst (pc := 37) (v := 2) hx hb (dd dX10_makes_p0 22 rfl) (by decide) ?_
      refine lv_iload (pc := 38) hx hb (dd dX10_makes_p0 23 rfl) (lv_at hl 5 rfl) ?_
      refine lv_bipush (pc := 40) (v := 40) hx hb (dd dX10_makes_p0 24 rfl) (by decide) ?_
      refine lv_idiv (pc := 42) hx hb (dd dX10_makes_p0 25 rfl) (by decide) ?_
      refine lv_imul (pc := 43) hx hb (dd dX10_makes_p0 26 rfl) ?_
      refine lv_iconst (pc := 44) (v := 1) hx hb (dd dX10_makes_p0 27 rfl) (by decide) ?_
      refine lv_iadd (pc := 45) hx hb (dd dX10_makes_p0 28 rfl) ?_
      obtain ⟨v6_46, ev6_46, h⟩ := nm_ex h
      refine rTopi (pc := 46) ev6_46 ?_
      refine lv_istore (pc := 46) (lv' := [(6, .int v6_46), (5, .int v5_35), (0, .ref a_t), (1, .int v1), (2, .int v2), (3, .int v3), (4, .int v4)]) hx hb (dd dX10_makes_p0 29 rfl) hl (by decide) rfl (fun ls hl => ?_)
      refine lv_aload_n (pc := 48) hx hb (dd dX10_makes_p0 30 rfl) rfl (lv_at hl 2 rfl) ?_
      refine rGet (pc := 49) M hW 0 11 iU10 rfl rfl (by decide) (uw4 224 rfl rfl) rfl (dd dX10_makes_p0 31 rfl) ?_
      refine lv_iload (pc := 52) hx hb (dd dX10_makes_p0 32 rfl) (lv_at hl 6 rfl) ?_
      refine lv_iload_n (pc := 54) hx hb (dd dX10_makes_p0 33 rfl) rfl (lv_at hl 3 rfl) ?_
      refine lv_iload (pc := 55) hx hb (dd dX10_makes_p0 34 rfl) (lv_at hl 0 rfl) ?_
      refine lv_imul (pc := 57) hx hb (dd dX10_makes_p0 35 rfl) ?_
      refine lv_iload_n (pc := 58) hx hb (dd dX10_makes_p0 36 rfl) rfl (lv_at hl 4 rfl) ?_
      refine lv_iload (pc := 59) hx hb (dd dX10_makes_p0 37 rfl) (lv_at hl 1 rfl) ?_
      refine lv_imul (pc := 61) hx hb (dd dX10_makes_p0 38 rfl) ?_
      refine lv_isub (pc := 62) hx hb (dd dX10_makes_p0 39 rfl) ?_
      refine lv_iload_n (pc := 63) hx hb (dd dX10_makes_p0 40 rfl) rfl (lv_at hl 5 rfl) ?_
      obtain ⟨hi, h⟩ := ck_ex h
      refine rFloor (pc := 64) M hl.1 hW (uw5 136 rfl rfl) (uw3 156 rfl rfl) (uw1 4 rfl rfl) (uw3 157 rfl rfl) ⟨by decide, by decide⟩ (Nat.le_of_ble_eq_true rfl) ⟨Nat.zero_le _, Nat.zero_le _⟩ (nz_ne hi) (dd dX10_makes_p0 41 rfl) (fun H locs hW => ?_)
      obtain ⟨hi, h⟩ := ck_ex h
      obtain ⟨c_strip_67, ec_strip_67, h⟩ := nm_ex h
      refine rIast (pc := 67) M hW 8 rfl hi ec_strip_67 (ws' := (w_X10_makes g a_t a_along a_endAt a_far a_isWaiting a_pile a_rowAt a_rowSize a_strip a_turns a_waiting a_what a_cornerX a_cornerY a_corners a_plan a_slantA a_slantB a_yields a_bears a_seen a_wagons a_rest a_isUsed c_thrown c_isLaid c_head 0 0 0 c_slants c_capacity c_weight c_unload c_source c_bunker c_along c_endAt c_far c_isWaiting c_pile c_rowAt c_rowSize c_strip_67 c_turns c_waiting c_what)) rfl (dd dX10_makes_p0 42 rfl) (fun H locs hW => ?_)
      refine lv_aload_n (pc := 68) hx hb (dd dX10_makes_p0 43 rfl) rfl (lv_at hl 2 rfl) ?_
      refine rGet (pc := 69) M hW 0 12 iU10 rfl rfl (by decide) (uw4 225 rfl rfl) rfl (dd dX10_makes_p0 44 rfl) ?_
      refine lv_iload (pc := 72) hx hb (dd dX10_makes_p0 45 rfl) (lv_at hl 6 rfl) ?_
      refine lv_iload_n (pc := 74) hx hb (dd dX10_makes_p0 46 rfl) rfl (lv_at hl 3 rfl) ?_
      refine lv_iload (pc := 75) hx hb (dd dX10_makes_p0 47 rfl) (lv_at hl 1 rfl) ?_
      refine lv_imul (pc := 77) hx hb (dd dX10_makes_p0 48 rfl) ?_
      refine lv_iload_n (pc := 78) hx hb (dd dX10_makes_p0 49 rfl) rfl (lv_at hl 4 rfl) ?_
      refine lv_iload (pc := 79) hx hb (dd dX10_makes_p0 50 rfl) (lv_at hl 0 rfl) ?_
      refine lv_imul (pc := 81) hx hb (dd dX10_makes_p0 51 rfl) ?_
      refine lv_iadd (pc := 82) hx hb (dd dX10_makes_p0 52 rfl) ?_
      obtain ⟨hi, h⟩ := ck_ex h
      obtain ⟨c_along_83, ec_along_83, h⟩ := nm_ex h
      refine rIast (pc := 83) M hW 1 rfl hi ec_along_83 (ws' := (w_X10_makes g a_t a_along a_endAt a_far a_isWaiting a_pile a_rowAt a_rowSize a_strip a_turns a_waiting a_what a_cornerX a_cornerY a_corners a_plan a_slantA a_slantB a_yields a_bears a_seen a_wagons a_rest a_isUsed c_thrown c_isLaid c_head 0 0 0 c_slants c_capacity c_weight c_unload c_source c_bunker c_along_83 c_endAt c_far c_isWaiting c_pile c_rowAt c_rowSize c_strip_67 c_turns c_waiting c_what)) rfl (dd dX10_makes_p0 53 rfl) (fun H locs hW => ?_)
      refine lv_aload_n (pc := 84) hx hb (dd dX10_makes_p0 54 rfl) rfl (lv_at hl 2 rfl) ?_
      refine rGet (pc := 85) M hW 0 10 iU10 rfl rfl (by decide) (uw4 223 rfl rfl) rfl (dd dX10_makes_p0 55 rfl) ?_
      refine lv_iload (pc := 88) hx hb (dd dX10_makes_p0 56 rfl) (lv_at hl 6 rfl) ?_
      refine lv_iconst (pc := 90) (v := (-1)) hx hb (dd dX10_makes_p0 57 rfl) (by decide) ?_
      obtain ⟨hi, h⟩ := ck_ex h
      obtain ⟨c_rowAt_91, ec_rowAt_91, h⟩ := nm_ex h
      refine rIast (pc := 91) M hW 6 rfl hi ec_rowAt_91 (ws' := (w_X10_makes g a_t a_along a_endAt a_far a_isWaiting a_pile a_rowAt a_rowSize a_strip a_turns a_waiting a_what a_cornerX a_cornerY a_corners a_plan a_slantA a_slantB a_yields a_bears a_seen a_wagons a_rest a_isUsed c_thrown c_isLaid c_head 0 0 0 c_slants c_capacity c_weight c_unload c_source c_bunker c_along_83 c_endAt c_far c_isWaiting c_pile c_rowAt_91 c_rowSize c_strip_67 c_turns c_waiting c_what)) rfl (dd dX10_makes_p0 58 rfl) (fun H locs hW => ?_)
      obtain ⟨v4_92, ev4_92, h⟩ := nm_ex h
      refine lv_iinc (pc := 92) (v := v4_92) (lv' := [(4, .int v4_92), (6, .int v6_46), (5, .int v5_35), (0, .ref a_t), (1, .int v1), (2, .int v2), (3, .int v3)]) hx hb (dd dX10_makes_p0 59 rfl) hl (k := 6) rfl (by rw [ev4_92]; rfl) (by decide) rfl (fun ls hl => ?_)
      refine lv_goto (pc := 95) (tgt := 18) hx hb (dd dX10_makes_p1 0 rfl) (by decide) ?_
      obtain rfl := Option.some.inj h
      exact hk _ _ _ hW (lv_sub hl [3, 4, 5, 6, 0] rfl)
  · obtain ⟨c_along_98, c_rowAt_98, c_strip_98⟩ := ex
    have h := un3_at h
    intro H locs ls hW hl
    refine lv_aload_n (pc := 98) hx hb (dd dX10_makes_p1 1 rfl) rfl (lv_at hl 0 rfl) ?_
    obtain ⟨r_99, hr, h⟩ := bnd_ex h
    refine callVI (pc := 99) (na := 0) (As := []) (rest := []) (ws2 := (w_X10_makes g a_t a_along a_endAt a_far a_isWaiting a_pile a_rowAt a_rowSize a_strip a_turns a_waiting a_what a_cornerX a_cornerY a_corners a_plan a_slantA a_slantB a_yields a_bears a_seen a_wagons a_rest a_isUsed c_thrown c_isLaid c_head 0 0 0 c_slants c_capacity c_weight c_unload c_source c_bunker c_along_98 c_endAt c_far c_isWaiting c_pile c_rowAt_98 c_rowSize c_strip_98 c_turns c_waiting c_what)) M hl.1 hW (t_X10_next l g a_t a_along a_rowAt a_strip a_what a_cornerX a_cornerY a_corners a_rowSize a_endAt a_turns a_plan a_slantA a_slantB a_yields a_bears a_seen a_wagons a_pile a_far a_waiting a_isWaiting a_rest a_isUsed c_thrown c_isLaid c_head 0 0 0 c_slants c_capacity c_weight c_unload c_source c_bunker c_along_98 c_rowAt_98 c_strip_98 c_what r_99 hr) rfl [0, 1, 6, 8, 11] [2, 3, 4, 5, 7, 9, 10] [7, 8, 0, 1, 2, 3, 9, 4, 10, 5, 6, 11] rfl rfl rfl rfl rfl rfl rfl 0 10 rfl rfl rfl (uw5 140 rfl rfl) (uw5 137 rfl rfl) (uw5 139 rfl rfl) (uwp 47 rfl rfl) (uw1 13 rfl rfl) ⟨by decide, by decide, by decide⟩ rfl ⟨by decide, by decide⟩ (Nat.le_of_ble_eq_true rfl) ⟨Nat.zero_le _, Nat.zero_le _⟩ (dd dX10_makes_p1 2 rfl) (fun H locs hW => ?_)
    refine lv_istore (pc := 102) (lv' := [(4, .int r_99), (0, .ref a_t)]) hx hb (dd dX10_makes_p1 3 rfl) hl (by decide) rfl (fun ls hl => ?_)
    obtain ⟨ex, hw, h⟩ := bnd_ex h
    refine loopW (fun st => ∀ (H : Heap) (locs : List Loc) (ls : Array Slot), WD g s A (w_X10_makes g a_t a_along a_endAt a_far a_isWaiting a_pile a_rowAt a_rowSize a_strip a_turns a_waiting a_what a_cornerX a_cornerY a_corners a_plan a_slantA a_slantB a_yields a_bears a_seen a_wagons a_rest a_isUsed c_thrown c_isLaid c_head 0 0 (st.1) c_slants c_capacity c_weight c_unload c_source c_bunker c_along_98 (st.2.1) c_far c_isWaiting (st.2.2.1) (st.2.2.2.1) (st.2.2.2.2.1) c_strip_98 c_turns c_waiting c_what) H locs → lv_has ls 7 [(0, .ref a_t), (4, .int (st.2.2.2.2.2))] → W p l e (rm9 3 70) s m args below meth c H locs 0 0 Q (F0 m 104 ls [])) (Sum.elim (fun (ex : (Int32 × Ar × Ar × Ar × Ar)) => ∀ (H : Heap) (locs : List Loc) (ls : Array Slot), WD g s A (w_X10_makes g a_t a_along a_endAt a_far a_isWaiting a_pile a_rowAt a_rowSize a_strip a_turns a_waiting a_what a_cornerX a_cornerY a_corners a_plan a_slantA a_slantB a_yields a_bears a_seen a_wagons a_rest a_isUsed c_thrown c_isLaid c_head 0 0 (ex.1) c_slants c_capacity c_weight c_unload c_source c_bunker c_along_98 (ex.2.1) c_far c_isWaiting (ex.2.2.1) (ex.2.2.2.1) (ex.2.2.2.2) c_strip_98 c_turns c_waiting c_what) H locs → lv_has ls 7 [(0, .ref a_t)] → W p l e (rm9 3 70) s m args below meth c H locs 0 0 Q (F0 m 293 ls [])) (fun (ex : (Int32 × Ar × Ar × Ar × Ar)) => ∀ (H : Heap) (locs : List Loc) (ls : Array Slot), WD g s A (w_X10_makes g a_t a_along a_endAt a_far a_isWaiting a_pile a_rowAt a_rowSize a_strip a_turns a_waiting a_what a_cornerX a_cornerY a_corners a_plan a_slantA a_slantB a_yields a_bears a_seen a_wagons a_rest a_isUsed c_thrown c_isLaid c_head 0 0 (ex.1) c_slants c_capacity c_weight c_unload c_source c_bunker c_along_98 (ex.2.1) c_far c_isWaiting (ex.2.2.1) (ex.2.2.2.1) (ex.2.2.2.2) c_strip_98 c_turns c_waiting c_what) H locs → lv_has ls 7 [] → W p l e (rm9 3 70) s m args below meth c H locs 0 0 Q (F0 m 118 ls []))) ?_ hw ?_ H locs ls hW (lv_sub hl [1, 0] rfl)
    · rintro ⟨c_rows, c_endAt, c_pile, c_rowAt, c_rowSize, v4⟩ o hb9 hk H locs ls hW hl
      have h : X10_makes_L104 c_along_98 c_strip_98 c_what c_rows c_endAt c_pile c_rowAt c_rowSize v4 = some o := hb9
      clear hb9
      unfold X10_makes_L104 at h
      refine lv_iload (pc := 104) hx hb (dd dX10_makes_p1 4 rfl) (lv_at hl 1 rfl) ?_
      refine lv_if_lt (pc := 106) (tgt := 293) hx hb (dd dX10_makes_p1 5 rfl) (by decide) (fun hc => ?_) (fun hc => ?_)
      · have h := it_t hc h
        obtain rfl := Option.some.inj h
        exact hk _ _ _ hW (lv_sub hl [0] rfl)
      · have h := it_f hc h
        refine lv_aload_n (pc := 109) hx hb (dd dX10_makes_p1 6 rfl) rfl (lv_at hl 0 rfl) ?_
        refine rGet (pc := 110) M hW 0 9 iU10 rfl rfl (by decide) (uw4 222 rfl rfl) rfl (dd dX10_makes_p1 7 rfl) ?_
        refine lv_bipush (pc := 113) (v := 60) hx hb (dd dX10_makes_p1 8 rfl) (by decide) ?_
        refine lv_icmp_ne (pc := 115) (tgt := 120) hx hb (dd dX10_makes_p1 9 rfl) (by decide) (fun hc => ?_) (fun hc => ?_)
        · have h := it_f hc h
          refine lv_aload_n (pc := 120) hx hb (dd dX10_makes_p1 12 rfl) rfl (lv_at hl 0 rfl) ?_
          refine rGet (pc := 121) M hW 0 13 iU10 rfl rfl (by decide) (uw4 226 rfl rfl) rfl (dd dX10_makes_p1 13 rfl) ?_
          refine lv_aload_n (pc := 124) hx hb (dd dX10_makes_p1 14 rfl) rfl (lv_at hl 0 rfl) ?_
          refine rGet (pc := 125) M hW 0 9 iU10 rfl rfl (by decide) (uw4 222 rfl rfl) rfl (dd dX10_makes_p1 15 rfl) ?_
          refine lv_aload_n (pc := 128) hx hb (dd dX10_makes_p1 16 rfl) rfl (lv_at hl 0 rfl) ?_
          refine lv_iload (pc := 129) hx hb (dd dX10_makes_p1 17 rfl) (lv_at hl 1 rfl) ?_
          refine lv_aload_n (pc := 131) hx hb (dd dX10_makes_p1 18 rfl) rfl (lv_at hl 0 rfl) ?_
          refine rGet (pc := 132) M hW 0 9 iU10 rfl rfl (by decide) (uw4 222 rfl rfl) rfl (dd dX10_makes_p1 19 rfl) ?_
          obtain ⟨⟨r_135, c_pile_135, c_rowAt_135⟩, hr, h⟩ := bnd_ex h
          have h := un3_at h
          refine callVI (pc := 135) (na := 2) (As := [.int v4, .int c_rows]) (rest := [.int c_rows, .ref a_rowSize]) (ws2 := (w_X10_makes g a_t a_along a_endAt a_far a_isWaiting a_pile a_rowAt a_rowSize a_strip a_turns a_waiting a_what a_cornerX a_cornerY a_corners a_plan a_slantA a_slantB a_yields a_bears a_seen a_wagons a_rest a_isUsed c_thrown c_isLaid c_head 0 0 c_rows c_slants c_capacity c_weight c_unload c_source c_bunker c_along_98 c_endAt c_far c_isWaiting c_pile_135 c_rowAt_135 c_rowSize c_strip_98 c_turns c_waiting c_what)) M hl.1 hW (t_X10_fills l g a_t a_pile a_rowAt a_strip a_what a_cornerX a_cornerY a_corners a_along a_rowSize a_endAt a_turns a_plan a_slantA a_slantB a_yields a_bears a_seen a_wagons a_far a_waiting a_isWaiting a_rest a_isUsed c_thrown c_isLaid c_head 0 0 c_rows c_slants c_capacity c_weight c_unload c_source c_bunker c_pile c_rowAt c_strip_98 c_what v4 c_rows r_135 c_pile_135 c_rowAt_135 hr) rfl [0, 5, 6, 8, 11] [1, 2, 3, 4, 7, 9, 10] [7, 0, 1, 2, 3, 8, 9, 4, 10, 5, 6, 11] rfl rfl rfl rfl rfl rfl rfl 0 10 rfl rfl rfl (uw5 148 rfl rfl) (uw5 145 rfl rfl) (uw5 147 rfl rfl) (uwp 49 rfl rfl) (uw1 13 rfl rfl) ⟨by decide, by decide, by decide⟩ rfl ⟨by decide, by decide⟩ (Nat.le_of_ble_eq_true rfl) ⟨Nat.zero_le _, Nat.zero_le _⟩ (dd dX10_makes_p1 20 rfl) (fun H locs hW => ?_)
          obtain ⟨hi, h⟩ := ck_ex h
          obtain ⟨c_rowSize_138, ec_rowSize_138, h⟩ := nm_ex h
          refine rIast (pc := 138) M hW 7 rfl hi ec_rowSize_138 (ws' := (w_X10_makes g a_t a_along a_endAt a_far a_isWaiting a_pile a_rowAt a_rowSize a_strip a_turns a_waiting a_what a_cornerX a_cornerY a_corners a_plan a_slantA a_slantB a_yields a_bears a_seen a_wagons a_rest a_isUsed c_thrown c_isLaid c_head 0 0 c_rows c_slants c_capacity c_weight c_unload c_source c_bunker c_along_98 c_endAt c_far c_isWaiting c_pile_135 c_rowAt_135 c_rowSize_138 c_strip_98 c_turns c_waiting c_what)) rfl (dd dX10_makes_p1 21 rfl) (fun H locs hW => ?_)
          refine lv_aload_n (pc := 139) hx hb (dd dX10_makes_p1 22 rfl) rfl (lv_at hl 0 rfl) ?_
          refine rGet (pc := 140) M hW 0 14 iU10 rfl rfl (by decide) (uw4 227 rfl rfl) rfl (dd dX10_makes_p1 23 rfl) ?_
          refine lv_iconst (pc := 143) (v := 2) hx hb (dd dX10_makes_p1 24 rfl) (by decide) ?_
          refine lv_aload_n (pc := 144) hx hb (dd dX10_makes_p1 25 rfl) rfl (lv_at hl 0 rfl) ?_
          refine rGet (pc := 145) M hW 0 9 iU10 rfl rfl (by decide) (uw4 222 rfl rfl) rfl (dd dX10_makes_p1 26 rfl) ?_
          refine lv_imul (pc := 148) hx hb (dd dX10_makes_p1 27 rfl) ?_
          refine lv_iload (pc := 149) hx hb (dd dX10_makes_p1 28 rfl) (lv_at hl 1 rfl) ?_
          obtain ⟨hi, h⟩ := ck_ex h
          obtain ⟨c_endAt_151, ec_endAt_151, h⟩ := nm_ex h
          refine rIast (pc := 151) M hW 2 rfl hi ec_endAt_151 (ws' := (w_X10_makes g a_t a_along a_endAt a_far a_isWaiting a_pile a_rowAt a_rowSize a_strip a_turns a_waiting a_what a_cornerX a_cornerY a_corners a_plan a_slantA a_slantB a_yields a_bears a_seen a_wagons a_rest a_isUsed c_thrown c_isLaid c_head 0 0 c_rows c_slants c_capacity c_weight c_unload c_source c_bunker c_along_98 c_endAt_151 c_far c_isWaiting c_pile_135 c_rowAt_135 c_rowSize_138 c_strip_98 c_turns c_waiting c_what)) rfl (dd dX10_makes_p1 29 rfl) (fun H locs hW => ?_)
          refine lv_iload (pc := 152) hx hb (dd dX10_makes_p1 30 rfl) (lv_at hl 1 rfl) ?_
          refine lv_istore (pc := 154) (lv' := [(5, .int v4), (0, .ref a_t), (4, .int v4)]) hx hb (dd dX10_makes_p1 31 rfl) hl (by decide) rfl (fun ls hl => ?_)
          refine lv_iconst (pc := 156) (v := 0) hx hb (dd dX10_makes_p1 32 rfl) (by decide) ?_
          refine lv_istore (pc := 157) (lv' := [(6, .int 0), (5, .int v4), (0, .ref a_t), (4, .int v4)]) hx hb (dd dX10_makes_p1 33 rfl) hl (by decide) rfl (fun ls hl => ?_)
          obtain ⟨ex, hw, h⟩ := bnd_ex h
          refine loopW (fun st => ∀ (H : Heap) (locs : List Loc) (ls : Array Slot), WD g s A (w_X10_makes g a_t a_along a_endAt a_far a_isWaiting a_pile a_rowAt a_rowSize a_strip a_turns a_waiting a_what a_cornerX a_cornerY a_corners a_plan a_slantA a_slantB a_yields a_bears a_seen a_wagons a_rest a_isUsed c_thrown c_isLaid c_head 0 0 c_rows c_slants c_capacity c_weight c_unload c_source c_bunker c_along_98 c_endAt_151 c_far c_isWaiting c_pile_135 c_rowAt_135 c_rowSize_138 c_strip_98 c_turns c_waiting c_what) H locs → lv_has ls 7 [(0, .ref a_t), (5, .int (st.1)), (6, .int (st.2))] → W p l e (rm9 3 70) s m args below meth c H locs 0 0 Q (F0 m 159 ls [])) (fun (ex : Int32) => ∀ (H : Heap) (locs : List Loc) (ls : Array Slot), WD g s A (w_X10_makes g a_t a_along a_endAt a_far a_isWaiting a_pile a_rowAt a_rowSize a_strip a_turns a_waiting a_what a_cornerX a_cornerY a_corners a_plan a_slantA a_slantB a_yields a_bears a_seen a_wagons a_rest a_isUsed c_thrown c_isLaid c_head 0 0 c_rows c_slants c_capacity c_weight c_unload c_source c_bunker c_along_98 c_endAt_151 c_far c_isWaiting c_pile_135 c_rowAt_135 c_rowSize_138 c_strip_98 c_turns c_waiting c_what) H locs → lv_has ls 7 [(0, .ref a_t), (5, .int ex)] → W p l e (rm9 3 70) s m args below meth c H locs 0 0 Q (F0 m 208 ls [])) ?_ hw ?_ H locs ls hW (lv_sub hl [2, 1, 0] rfl)
          · rintro ⟨v5, v6⟩ o hb9 hk H locs ls hW hl
            have h : X10_makes_L159 c_rows c_along_98 c_rowAt_135 v5 v6 = some o := hb9
            clear hb9
            unfold X10_makes_L159 at h
            have J202 : ∀ (v5 v6 : Int32) (H : Heap) (locs : List Loc) (ls : Array Slot), X10_makes_b159_202 v5 v6 = some o → WD g s A (w_X10_makes g a_t a_along a_endAt a_far a_isWaiting a_pile a_rowAt a_rowSize a_strip a_turns a_waiting a_what a_cornerX a_cornerY a_corners a_plan a_slantA a_slantB a_yields a_bears a_seen a_wagons a_rest a_isUsed c_thrown c_isLaid c_head 0 0 c_rows c_slants c_capacity c_weight c_unload c_source c_bunker c_along_98 c_endAt_151 c_far c_isWaiting c_pile_135 c_rowAt_135 c_rowSize_138 c_strip_98 c_turns c_waiting c_what) H locs → lv_has ls 7 [(0, .ref a_t), (5, .int v5), (6, .int v6)] → W p l e (rm9 3 70) s m args below meth c H locs 0 0 Q (F0 m 202 ls []) := by
              intro v5 v6 H locs ls h hW hl
              unfold X10_makes_b159_202 at h
              obtain ⟨v6_202, ev6_202, h⟩ := nm_ex h
              refine lv_iinc (pc := 202) (v := v6_202) (lv' := [(6, .int v6_202), (0, .ref a_t), (5, .int v5)]) hx hb (dd dX10_makes_p1 55 rfl) hl (k := 2) rfl (by rw [ev6_202]; rfl) (by decide) rfl (fun ls hl => ?_)
              refine lv_goto (pc := 205) (tgt := 159) hx hb (dd dX10_makes_p1 56 rfl) (by decide) ?_
              obtain rfl := Option.some.inj h
              exact hk _ _ _ hW (lv_sub hl [1, 2, 0] rfl)
            refine lv_iload (pc := 159) hx hb (dd dX10_makes_p1 34 rfl) (lv_at hl 2 rfl) ?_
            refine lv_sipush (pc := 161) (v := 1200) hx hb (dd dX10_makes_p1 35 rfl) (by decide) ?_
            refine lv_icmp_ge (pc := 164) (tgt := 208) hx hb (dd dX10_makes_p1 36 rfl) (by decide) (fun hc => ?_) (fun hc => ?_)
            · have h := it_t hc h
              obtain rfl := Option.some.inj h
              exact hk _ _ _ hW (lv_sub hl [0, 1] rfl)
            · have h := it_f hc h
              refine lv_aload_n (pc := 167) hx hb (dd dX10_makes_p1 37 rfl) rfl (lv_at hl 0 rfl) ?_
              refine rGet (pc := 168) M hW 0 10 iU10 rfl rfl (by decide) (uw4 223 rfl rfl) rfl (dd dX10_makes_p1 38 rfl) ?_
              refine lv_iload (pc := 171) hx hb (dd dX10_makes_p1 39 rfl) (lv_at hl 2 rfl) ?_
              obtain ⟨hi, h⟩ := ck_ex h
              refine rIald (pc := 173) M hW 6 rfl hi (dd dX10_makes_p1 40 rfl) ?_
              refine lv_aload_n (pc := 174) hx hb (dd dX10_makes_p1 41 rfl) rfl (lv_at hl 0 rfl) ?_
              refine rGet (pc := 175) M hW 0 9 iU10 rfl rfl (by decide) (uw4 222 rfl rfl) rfl (dd dX10_makes_p1 42 rfl) ?_
              refine lv_icmp_ne (pc := 178) (tgt := 202) hx hb (dd dX10_makes_p1 43 rfl) (by decide) (fun hc => ?_) (fun hc => ?_)
              · have h := it_f hc h
                exact J202 _ _ _ _ _ h hW (lv_sub hl [0, 1, 2] rfl)
              · have h := it_t hc h
                refine lv_aload_n (pc := 181) hx hb (dd dX10_makes_p1 44 rfl) rfl (lv_at hl 0 rfl) ?_
                refine rGet (pc := 182) M hW 0 12 iU10 rfl rfl (by decide) (uw4 225 rfl rfl) rfl (dd dX10_makes_p1 45 rfl) ?_
                refine lv_iload (pc := 185) hx hb (dd dX10_makes_p1 46 rfl) (lv_at hl 2 rfl) ?_
                obtain ⟨hi, h⟩ := ck_ex h
                refine rIald (pc := 187) M hW 1 rfl hi (dd dX10_makes_p1 47 rfl) ?_
                refine lv_aload_n (pc := 188) hx hb (dd dX10_makes_p1 48 rfl) rfl (lv_at hl 0 rfl) ?_
                refine rGet (pc := 189) M hW 0 12 iU10 rfl rfl (by decide) (uw4 225 rfl rfl) rfl (dd dX10_makes_p1 49 rfl) ?_
                refine lv_iload (pc := 192) hx hb (dd dX10_makes_p1 50 rfl) (lv_at hl 1 rfl) ?_
                obtain ⟨hi, h⟩ := ck_ex h
                refine rIald (pc := 194) M hW 1 rfl hi (dd dX10_makes_p1 51 rfl) ?_
                refine lv_icmp_le (pc := 195) (tgt := 202) hx hb (dd dX10_makes_p1 52 rfl) (by decide) (fun hc => ?_) (fun hc => ?_)
                · have h := it_t hc h
                  exact J202 _ _ _ _ _ h hW (lv_sub hl [0, 1, 2] rfl)
                · have h := it_f hc h
                  refine lv_iload (pc := 198) hx hb (dd dX10_makes_p1 53 rfl) (lv_at hl 2 rfl) ?_
                  refine lv_istore (pc := 200) (lv' := [(5, .int v6), (0, .ref a_t), (6, .int v6)]) hx hb (dd dX10_makes_p1 54 rfl) hl (by decide) rfl (fun ls hl => ?_)
                  exact J202 _ _ _ _ _ h hW (lv_sub hl [1, 0, 2] rfl)
          · obtain ⟨v5_208, e9⟩ : ∃ z, z = ex := ⟨_, rfl⟩
            subst e9
            intro H locs ls hW hl
            refine lv_sipush (pc := 208) (v := 1199) hx hb (dd dX10_makes_p1 57 rfl) (by decide) ?_
            refine lv_istore (pc := 211) (lv' := [(6, .int 1199), (0, .ref a_t), (5, .int v5_208)]) hx hb (dd dX10_makes_p1 58 rfl) hl (by decide) rfl (fun ls hl => ?_)
            obtain ⟨ex, hw, h⟩ := bnd_ex h
            refine loopW (fun st => ∀ (H : Heap) (locs : List Loc) (ls : Array Slot), WD g s A (w_X10_makes g a_t a_along a_endAt a_far a_isWaiting a_pile a_rowAt a_rowSize a_strip a_turns a_waiting a_what a_cornerX a_cornerY a_corners a_plan a_slantA a_slantB a_yields a_bears a_seen a_wagons a_rest a_isUsed c_thrown c_isLaid c_head 0 0 c_rows c_slants c_capacity c_weight c_unload c_source c_bunker c_along_98 c_endAt_151 c_far c_isWaiting c_pile_135 c_rowAt_135 c_rowSize_138 c_strip_98 c_turns c_waiting c_what) H locs → lv_has ls 7 [(0, .ref a_t), (5, .int (st.1)), (6, .int (st.2))] → W p l e (rm9 3 70) s m args below meth c H locs 0 0 Q (F0 m 213 ls [])) (fun (ex : Int32) => ∀ (H : Heap) (locs : List Loc) (ls : Array Slot), WD g s A (w_X10_makes g a_t a_along a_endAt a_far a_isWaiting a_pile a_rowAt a_rowSize a_strip a_turns a_waiting a_what a_cornerX a_cornerY a_corners a_plan a_slantA a_slantB a_yields a_bears a_seen a_wagons a_rest a_isUsed c_thrown c_isLaid c_head 0 0 c_rows c_slants c_capacity c_weight c_unload c_source c_bunker c_along_98 c_endAt_151 c_far c_isWaiting c_pile_135 c_rowAt_135 c_rowSize_138 c_strip_98 c_turns c_waiting c_what) H locs → lv_has ls 7 [(0, .ref a_t), (5, .int ex)] → W p l e (rm9 3 70) s m args below meth c H locs 0 0 Q (F0 m 259 ls [])) ?_ hw ?_ H locs ls hW (lv_sub hl [1, 2, 0] rfl)
            · rintro ⟨v5, v6⟩ o hb9 hk H locs ls hW hl
              have h : X10_makes_L213 c_rows c_along_98 c_rowAt_135 v5 v6 = some o := hb9
              clear hb9
              unfold X10_makes_L213 at h
              have J253 : ∀ (v5 v6 : Int32) (H : Heap) (locs : List Loc) (ls : Array Slot), X10_makes_b213_253 v5 v6 = some o → WD g s A (w_X10_makes g a_t a_along a_endAt a_far a_isWaiting a_pile a_rowAt a_rowSize a_strip a_turns a_waiting a_what a_cornerX a_cornerY a_corners a_plan a_slantA a_slantB a_yields a_bears a_seen a_wagons a_rest a_isUsed c_thrown c_isLaid c_head 0 0 c_rows c_slants c_capacity c_weight c_unload c_source c_bunker c_along_98 c_endAt_151 c_far c_isWaiting c_pile_135 c_rowAt_135 c_rowSize_138 c_strip_98 c_turns c_waiting c_what) H locs → lv_has ls 7 [(0, .ref a_t), (5, .int v5), (6, .int v6)] → W p l e (rm9 3 70) s m args below meth c H locs 0 0 Q (F0 m 253 ls []) := by
                intro v5 v6 H locs ls h hW hl
                unfold X10_makes_b213_253 at h
                obtain ⟨v6_253, ev6_253, h⟩ := nm_ex h
                refine lv_iinc (pc := 253) (v := v6_253) (lv' := [(6, .int v6_253), (0, .ref a_t), (5, .int v5)]) hx hb (dd dX10_makes_p2 19 rfl) hl (k := 2) rfl (by rw [ev6_253]; rfl) (by decide) rfl (fun ls hl => ?_)
                refine lv_goto (pc := 256) (tgt := 213) hx hb (dd dX10_makes_p2 20 rfl) (by decide) ?_
                obtain rfl := Option.some.inj h
                exact hk _ _ _ hW (lv_sub hl [1, 2, 0] rfl)
              refine lv_iload (pc := 213) hx hb (dd dX10_makes_p1 59 rfl) (lv_at hl 2 rfl) ?_
              refine lv_if_lt (pc := 215) (tgt := 259) hx hb (dd dX10_makes_p2 0 rfl) (by decide) (fun hc => ?_) (fun hc => ?_)
              · have h := it_t hc h
                obtain rfl := Option.some.inj h
                exact hk _ _ _ hW (lv_sub hl [0, 1] rfl)
              · have h := it_f hc h
                refine lv_aload_n (pc := 218) hx hb (dd dX10_makes_p2 1 rfl) rfl (lv_at hl 0 rfl) ?_
                refine rGet (pc := 219) M hW 0 10 iU10 rfl rfl (by decide) (uw4 223 rfl rfl) rfl (dd dX10_makes_p2 2 rfl) ?_
                refine lv_iload (pc := 222) hx hb (dd dX10_makes_p2 3 rfl) (lv_at hl 2 rfl) ?_
                obtain ⟨hi, h⟩ := ck_ex h
                refine rIald (pc := 224) M hW 6 rfl hi (dd dX10_makes_p2 4 rfl) ?_
                refine lv_aload_n (pc := 225) hx hb (dd dX10_makes_p2 5 rfl) rfl (lv_at hl 0 rfl) ?_
                refine rGet (pc := 226) M hW 0 9 iU10 rfl rfl (by decide) (uw4 222 rfl rfl) rfl (dd dX10_makes_p2 6 rfl) ?_
                refine lv_icmp_ne (pc := 229) (tgt := 253) hx hb (dd dX10_makes_p2 7 rfl) (by decide) (fun hc => ?_) (fun hc => ?_)
                · have h := it_f hc h
                  exact J253 _ _ _ _ _ h hW (lv_sub hl [0, 1, 2] rfl)
                · have h := it_t hc h
                  refine lv_aload_n (pc := 232) hx hb (dd dX10_makes_p2 8 rfl) rfl (lv_at hl 0 rfl) ?_
                  refine rGet (pc := 233) M hW 0 12 iU10 rfl rfl (by decide) (uw4 225 rfl rfl) rfl (dd dX10_makes_p2 9 rfl) ?_
                  refine lv_iload (pc := 236) hx hb (dd dX10_makes_p2 10 rfl) (lv_at hl 2 rfl) ?_
                  obtain ⟨hi, h⟩ := ck_ex h
                  refine rIald (pc := 238) M hW 1 rfl hi (dd dX10_makes_p2 11 rfl) ?_
                  refine lv_aload_n (pc := 239) hx hb (dd dX10_makes_p2 12 rfl) rfl (lv_at hl 0 rfl) ?_
                  refine rGet (pc := 240) M hW 0 12 iU10 rfl rfl (by decide) (uw4 225 rfl rfl) rfl (dd dX10_makes_p2 13 rfl) ?_
                  refine lv_iload (pc := 243) hx hb (dd dX10_makes_p2 14 rfl) (lv_at hl 1 rfl) ?_
                  obtain ⟨hi, h⟩ := ck_ex h
                  refine rIald (pc := 245) M hW 1 rfl hi (dd dX10_makes_p2 15 rfl) ?_
                  refine lv_icmp_ne (pc := 246) (tgt := 253) hx hb (dd dX10_makes_p2 16 rfl) (by decide) (fun hc => ?_) (fun hc => ?_)
                  · have h := it_f hc h
                    exact J253 _ _ _ _ _ h hW (lv_sub hl [0, 1, 2] rfl)
                  · have h := it_t hc h
                    refine lv_iload (pc := 249) hx hb (dd dX10_makes_p2 17 rfl) (lv_at hl 2 rfl) ?_
                    refine lv_istore (pc := 251) (lv' := [(5, .int v6), (0, .ref a_t), (6, .int v6)]) hx hb (dd dX10_makes_p2 18 rfl) hl (by decide) rfl (fun ls hl => ?_)
                    exact J253 _ _ _ _ _ h hW (lv_sub hl [1, 0, 2] rfl)
            · obtain ⟨v5_259, e9⟩ : ∃ z, z = ex := ⟨_, rfl⟩
              subst e9
              intro H locs ls hW hl
              refine lv_aload_n (pc := 259) hx hb (dd dX10_makes_p2 21 rfl) rfl (lv_at hl 0 rfl) ?_
              refine rGet (pc := 260) M hW 0 14 iU10 rfl rfl (by decide) (uw4 227 rfl rfl) rfl (dd dX10_makes_p2 22 rfl) ?_
              refine lv_iconst (pc := 263) (v := 2) hx hb (dd dX10_makes_p2 23 rfl) (by decide) ?_
              refine lv_aload_n (pc := 264) hx hb (dd dX10_makes_p2 24 rfl) rfl (lv_at hl 0 rfl) ?_
              refine rGet (pc := 265) M hW 0 9 iU10 rfl rfl (by decide) (uw4 222 rfl rfl) rfl (dd dX10_makes_p2 25 rfl) ?_
              refine lv_imul (pc := 268) hx hb (dd dX10_makes_p2 26 rfl) ?_
              refine lv_iconst (pc := 269) (v := 1) hx hb (dd dX10_makes_p2 27 rfl) (by decide) ?_
              refine lv_iadd (pc := 270) hx hb (dd dX10_makes_p2 28 rfl) ?_
              refine lv_iload (pc := 271) hx hb (dd dX10_makes_p2 29 rfl) (lv_at hl 1 rfl) ?_
              obtain ⟨hi, h⟩ := ck_ex h
              obtain ⟨c_endAt_273, ec_endAt_273, h⟩ := nm_ex h
              refine rIast (pc := 273) M hW 2 rfl hi ec_endAt_273 (ws' := (w_X10_makes g a_t a_along a_endAt a_far a_isWaiting a_pile a_rowAt a_rowSize a_strip a_turns a_waiting a_what a_cornerX a_cornerY a_corners a_plan a_slantA a_slantB a_yields a_bears a_seen a_wagons a_rest a_isUsed c_thrown c_isLaid c_head 0 0 c_rows c_slants c_capacity c_weight c_unload c_source c_bunker c_along_98 c_endAt_273 c_far c_isWaiting c_pile_135 c_rowAt_135 c_rowSize_138 c_strip_98 c_turns c_waiting c_what)) rfl (dd dX10_makes_p2 30 rfl) (fun H locs hW => ?_)
              refine lv_aload_n (pc := 274) hx hb (dd dX10_makes_p2 31 rfl) rfl (lv_at hl 0 rfl) ?_
              refine lv_dup (pc := 275) hx hb (dd dX10_makes_p2 32 rfl) rfl ?_
              refine rGet (pc := 276) M hW 0 9 iU10 rfl rfl (by decide) (uw4 222 rfl rfl) rfl (dd dX10_makes_p2 33 rfl) ?_
              refine lv_iconst (pc := 279) (v := 1) hx hb (dd dX10_makes_p2 34 rfl) (by decide) ?_
              refine lv_iadd (pc := 280) hx hb (dd dX10_makes_p2 35 rfl) ?_
              obtain ⟨c_rows_281, ec_rows_281, h⟩ := nm_ex h
              refine rTopi (pc := 281) ec_rows_281 ?_
              refine rPut (pc := 281) M hW 0 9 tyX10 tyX10_ok nmX10 iU10 rfl rfl (by decide) (uw4 222 rfl rfl) rfl rfl rfl (Nat.le_of_ble_eq_true rfl) (dd dX10_makes_p2 36 rfl) (ws' := (w_X10_makes g a_t a_along a_endAt a_far a_isWaiting a_pile a_rowAt a_rowSize a_strip a_turns a_waiting a_what a_cornerX a_cornerY a_corners a_plan a_slantA a_slantB a_yields a_bears a_seen a_wagons a_rest a_isUsed c_thrown c_isLaid c_head 0 0 c_rows_281 c_slants c_capacity c_weight c_unload c_source c_bunker c_along_98 c_endAt_273 c_far c_isWaiting c_pile_135 c_rowAt_135 c_rowSize_138 c_strip_98 c_turns c_waiting c_what)) rfl (fun H locs hW => ?_)
              refine lv_aload_n (pc := 284) hx hb (dd dX10_makes_p2 37 rfl) rfl (lv_at hl 0 rfl) ?_
              obtain ⟨r_285, hr, h⟩ := bnd_ex h
              refine callVI (pc := 285) (na := 0) (As := []) (rest := []) (ws2 := (w_X10_makes g a_t a_along a_endAt a_far a_isWaiting a_pile a_rowAt a_rowSize a_strip a_turns a_waiting a_what a_cornerX a_cornerY a_corners a_plan a_slantA a_slantB a_yields a_bears a_seen a_wagons a_rest a_isUsed c_thrown c_isLaid c_head 0 0 c_rows_281 c_slants c_capacity c_weight c_unload c_source c_bunker c_along_98 c_endAt_273 c_far c_isWaiting c_pile_135 c_rowAt_135 c_rowSize_138 c_strip_98 c_turns c_waiting c_what)) M hl.1 hW (t_X10_next l g a_t a_along a_rowAt a_strip a_what a_cornerX a_cornerY a_corners a_rowSize a_endAt a_turns a_plan a_slantA a_slantB a_yields a_bears a_seen a_wagons a_pile a_far a_waiting a_isWaiting a_rest a_isUsed c_thrown c_isLaid c_head 0 0 c_rows_281 c_slants c_capacity c_weight c_unload c_source c_bunker c_along_98 c_rowAt_135 c_strip_98 c_what r_285 hr) rfl [0, 1, 6, 8, 11] [2, 3, 4, 5, 7, 9, 10] [7, 8, 0, 1, 2, 3, 9, 4, 10, 5, 6, 11] rfl rfl rfl rfl rfl rfl rfl 0 10 rfl rfl rfl (uw5 140 rfl rfl) (uw5 137 rfl rfl) (uw5 139 rfl rfl) (uwp 47 rfl rfl) (uw1 13 rfl rfl) ⟨by decide, by decide, by decide⟩ rfl ⟨by decide, by decide⟩ (Nat.le_of_ble_eq_true rfl) ⟨Nat.zero_le _, Nat.zero_le _⟩ (dd dX10_makes_p2 38 rfl) (fun H locs hW => ?_)
              refine lv_istore (pc := 288) (lv' := [(4, .int r_285), (0, .ref a_t), (5, .int v5_259)]) hx hb (dd dX10_makes_p2 39 rfl) hl (by decide) rfl (fun ls hl => ?_)
              refine lv_goto (pc := 290) (tgt := 104) hx hb (dd dX10_makes_p2 40 rfl) (by decide) ?_
              obtain rfl := Option.some.inj h
              exact hk _ _ _ hW (lv_sub hl [1, 0] rfl)
        · have h := it_t hc h
          obtain rfl := Option.some.inj h
          exact hk _ _ _ hW (lv_sub hl [] rfl)
    · rcases ex with ⟨c_rows_293, c_endAt_293, c_pile_293, c_rowAt_293, c_rowSize_293⟩ | ⟨c_rows_118, c_endAt_118, c_pile_118, c_rowAt_118, c_rowSize_118⟩
      · intro H locs ls hW hl
        have h := sE_l h
        have h := un5_at h
        refine lv_iconst (pc := 293) (v := 0) hx hb (dd dX10_makes_p2 41 rfl) (by decide) ?_
        refine lv_istore (pc := 294) (lv' := [(4, .int 0), (0, .ref a_t)]) hx hb (dd dX10_makes_p2 42 rfl) hl (by decide) rfl (fun ls hl => ?_)
        obtain ⟨ex, hw, h⟩ := bnd_ex h
        refine loopW (fun st => ∀ (H : Heap) (locs : List Loc) (ls : Array Slot), WD g s A (w_X10_makes g a_t a_along a_endAt a_far a_isWaiting a_pile a_rowAt a_rowSize a_strip a_turns a_waiting a_what a_cornerX a_cornerY a_corners a_plan a_slantA a_slantB a_yields a_bears a_seen a_wagons a_rest a_isUsed c_thrown c_isLaid c_head 0 0 c_rows_293 c_slants c_capacity c_weight c_unload (st.1) c_bunker c_along_98 c_endAt_293 (st.2.1) (st.2.2.1) c_pile_293 c_rowAt_293 c_rowSize_293 c_strip_98 (st.2.2.2.1) (st.2.2.2.2.1) c_what) H locs → lv_has ls 7 [(0, .ref a_t), (4, .int (st.2.2.2.2.2))] → W p l e (rm9 3 70) s m args below meth c H locs 0 0 Q (F0 m 296 ls [])) (fun (ex : (Int32 × Ar × Ar × Ar × Ar)) => ∀ (H : Heap) (locs : List Loc) (ls : Array Slot), WD g s A (w_X10_makes g a_t a_along a_endAt a_far a_isWaiting a_pile a_rowAt a_rowSize a_strip a_turns a_waiting a_what a_cornerX a_cornerY a_corners a_plan a_slantA a_slantB a_yields a_bears a_seen a_wagons a_rest a_isUsed c_thrown c_isLaid c_head 0 0 c_rows_293 c_slants c_capacity c_weight c_unload (ex.1) c_bunker c_along_98 c_endAt_293 (ex.2.1) (ex.2.2.1) c_pile_293 c_rowAt_293 c_rowSize_293 c_strip_98 (ex.2.2.2.1) (ex.2.2.2.2) c_what) H locs → lv_has ls 7 [(0, .ref a_t)] → W p l e (rm9 3 70) s m args below meth c H locs 0 0 Q (F0 m 368 ls [])) ?_ hw ?_ H locs ls hW (lv_sub hl [1, 0] rfl)
        · rintro ⟨c_source, c_far, c_isWaiting, c_turns, c_waiting, v4⟩ o hb9 hk H locs ls hW hl
          have h : X10_makes_L296 c_rows_293 c_endAt_293 c_what c_source c_far c_isWaiting c_turns c_waiting v4 = some o := hb9
          clear hb9
          unfold X10_makes_L296 at h
          refine lv_iload (pc := 296) hx hb (dd dX10_makes_p2 43 rfl) (lv_at hl 1 rfl) ?_
          refine lv_iconst (pc := 298) (v := 2) hx hb (dd dX10_makes_p2 44 rfl) (by decide) ?_
          refine lv_aload_n (pc := 299) hx hb (dd dX10_makes_p2 45 rfl) rfl (lv_at hl 0 rfl) ?_
          refine rGet (pc := 300) M hW 0 9 iU10 rfl rfl (by decide) (uw4 222 rfl rfl) rfl (dd dX10_makes_p2 46 rfl) ?_
          refine lv_imul (pc := 303) hx hb (dd dX10_makes_p2 47 rfl) ?_
          refine lv_icmp_ge (pc := 304) (tgt := 368) hx hb (dd dX10_makes_p2 48 rfl) (by decide) (fun hc => ?_) (fun hc => ?_)
          · have h := it_t hc h
            obtain rfl := Option.some.inj h
            exact hk _ _ _ hW (lv_sub hl [0] rfl)
          · have h := it_f hc h
            refine lv_aload_n (pc := 307) hx hb (dd dX10_makes_p2 49 rfl) rfl (lv_at hl 0 rfl) ?_
            refine lv_aload_n (pc := 308) hx hb (dd dX10_makes_p2 50 rfl) rfl (lv_at hl 0 rfl) ?_
            refine rGet (pc := 309) M hW 0 14 iU10 rfl rfl (by decide) (uw4 227 rfl rfl) rfl (dd dX10_makes_p2 51 rfl) ?_
            refine lv_iload (pc := 312) hx hb (dd dX10_makes_p2 52 rfl) (lv_at hl 1 rfl) ?_
            obtain ⟨hi, h⟩ := ck_ex h
            refine rIald (pc := 314) M hW 2 rfl hi (dd dX10_makes_p2 53 rfl) ?_
            obtain ⟨⟨c_source_315, c_far_315, c_isWaiting_315, c_waiting_315⟩, hr, h⟩ := bnd_ex h
            have h := un4_at h
            refine callVV (pc := 315) (na := 1) (As := [.int (ag c_endAt_293 v4)]) (rest := []) (ws2 := (w_X10_makes g a_t a_along a_endAt a_far a_isWaiting a_pile a_rowAt a_rowSize a_strip a_turns a_waiting a_what a_cornerX a_cornerY a_corners a_plan a_slantA a_slantB a_yields a_bears a_seen a_wagons a_rest a_isUsed c_thrown c_isLaid c_head 0 0 c_rows_293 c_slants c_capacity c_weight c_unload c_source_315 c_bunker c_along_98 c_endAt_293 c_far_315 c_isWaiting_315 c_pile_293 c_rowAt_293 c_rowSize_293 c_strip_98 c_turns c_waiting_315 c_what)) M hl.1 hW (t_X10_reaches l g a_t a_far a_isWaiting a_waiting a_what a_cornerX a_cornerY a_corners a_rowAt a_strip a_along a_rowSize a_endAt a_turns a_plan a_slantA a_slantB a_yields a_bears a_seen a_wagons a_pile a_rest a_isUsed c_thrown c_isLaid c_head 0 0 c_rows_293 c_slants c_capacity c_weight c_unload c_source c_bunker c_far c_isWaiting c_waiting c_what (ag c_endAt_293 v4) c_source_315 c_far_315 c_isWaiting_315 c_waiting_315 hr) rfl [0, 3, 4, 10, 11] [1, 2, 5, 6, 7, 8, 9] [7, 0, 1, 8, 9, 2, 3, 4, 5, 6, 10, 11] rfl rfl rfl rfl rfl rfl rfl 0 10 rfl rfl rfl (uw5 152 rfl rfl) (uw5 149 rfl rfl) (uw5 151 rfl rfl) (uwp 50 rfl rfl) (uw1 13 rfl rfl) ⟨by decide, by decide, by decide⟩ rfl ⟨by decide, by decide⟩ (Nat.le_of_ble_eq_true rfl) ⟨Nat.zero_le _, Nat.zero_le _⟩ (dd dX10_makes_p2 54 rfl) (fun H locs hW => ?_)
            refine lv_iconst (pc := 318) (v := 0) hx hb (dd dX10_makes_p2 55 rfl) (by decide) ?_
            refine lv_istore (pc := 319) (lv' := [(5, .int 0), (0, .ref a_t), (4, .int v4)]) hx hb (dd dX10_makes_p2 56 rfl) hl (by decide) rfl (fun ls hl => ?_)
            obtain ⟨ex, hw, h⟩ := bnd_ex h
            refine loopW (fun st => ∀ (H : Heap) (locs : List Loc) (ls : Array Slot), WD g s A (w_X10_makes g a_t a_along a_endAt a_far a_isWaiting a_pile a_rowAt a_rowSize a_strip a_turns a_waiting a_what a_cornerX a_cornerY a_corners a_plan a_slantA a_slantB a_yields a_bears a_seen a_wagons a_rest a_isUsed c_thrown c_isLaid c_head 0 0 c_rows_293 c_slants c_capacity c_weight c_unload c_source_315 c_bunker c_along_98 c_endAt_293 c_far_315 c_isWaiting_315 c_pile_293 c_rowAt_293 c_rowSize_293 c_strip_98 (st.1) c_waiting_315 c_what) H locs → lv_has ls 7 [(0, .ref a_t), (4, .int v4), (5, .int (st.2))] → W p l e (rm9 3 70) s m args below meth c H locs 0 0 Q (F0 m 321 ls [])) (fun (ex : Ar) => ∀ (H : Heap) (locs : List Loc) (ls : Array Slot), WD g s A (w_X10_makes g a_t a_along a_endAt a_far a_isWaiting a_pile a_rowAt a_rowSize a_strip a_turns a_waiting a_what a_cornerX a_cornerY a_corners a_plan a_slantA a_slantB a_yields a_bears a_seen a_wagons a_rest a_isUsed c_thrown c_isLaid c_head 0 0 c_rows_293 c_slants c_capacity c_weight c_unload c_source_315 c_bunker c_along_98 c_endAt_293 c_far_315 c_isWaiting_315 c_pile_293 c_rowAt_293 c_rowSize_293 c_strip_98 ex c_waiting_315 c_what) H locs → lv_has ls 7 [(0, .ref a_t), (4, .int v4)] → W p l e (rm9 3 70) s m args below meth c H locs 0 0 Q (F0 m 362 ls [])) ?_ hw ?_ H locs ls hW (lv_sub hl [1, 2, 0] rfl)
            · rintro ⟨c_turns, v5⟩ o hb9 hk H locs ls hW hl
              have h : X10_makes_L321 c_rows_293 c_source_315 c_endAt_293 c_far_315 c_what v4 c_turns v5 = some o := hb9
              clear hb9
              unfold X10_makes_L321 at h
              refine lv_iload (pc := 321) hx hb (dd dX10_makes_p2 57 rfl) (lv_at hl 2 rfl) ?_
              refine lv_iconst (pc := 323) (v := 2) hx hb (dd dX10_makes_p2 58 rfl) (by decide) ?_
              refine lv_aload_n (pc := 324) hx hb (dd dX10_makes_p2 59 rfl) rfl (lv_at hl 0 rfl) ?_
              refine rGet (pc := 325) M hW 0 9 iU10 rfl rfl (by decide) (uw4 222 rfl rfl) rfl (dd dX10_makes_p3 0 rfl) ?_
              refine lv_imul (pc := 328) hx hb (dd dX10_makes_p3 1 rfl) ?_
              refine lv_icmp_ge (pc := 329) (tgt := 362) hx hb (dd dX10_makes_p3 2 rfl) (by decide) (fun hc => ?_) (fun hc => ?_)
              · have h := it_t hc h
                obtain rfl := Option.some.inj h
                exact hk _ _ _ hW (lv_sub hl [0, 1] rfl)
              · have h := it_f hc h
                refine lv_aload_n (pc := 332) hx hb (dd dX10_makes_p3 3 rfl) rfl (lv_at hl 0 rfl) ?_
                refine rGet (pc := 333) M hW 0 15 iU10 rfl rfl (by decide) (uw4 228 rfl rfl) rfl (dd dX10_makes_p3 4 rfl) ?_
                refine lv_bipush (pc := 336) (v := 120) hx hb (dd dX10_makes_p3 5 rfl) (by decide) ?_
                refine lv_iload (pc := 338) hx hb (dd dX10_makes_p3 6 rfl) (lv_at hl 1 rfl) ?_
                refine lv_imul (pc := 340) hx hb (dd dX10_makes_p3 7 rfl) ?_
                refine lv_iload (pc := 341) hx hb (dd dX10_makes_p3 8 rfl) (lv_at hl 2 rfl) ?_
                refine lv_iadd (pc := 343) hx hb (dd dX10_makes_p3 9 rfl) ?_
                refine lv_aload_n (pc := 344) hx hb (dd dX10_makes_p3 10 rfl) rfl (lv_at hl 0 rfl) ?_
                refine lv_aload_n (pc := 345) hx hb (dd dX10_makes_p3 11 rfl) rfl (lv_at hl 0 rfl) ?_
                refine rGet (pc := 346) M hW 0 14 iU10 rfl rfl (by decide) (uw4 227 rfl rfl) rfl (dd dX10_makes_p3 12 rfl) ?_
                refine lv_iload (pc := 349) hx hb (dd dX10_makes_p3 13 rfl) (lv_at hl 2 rfl) ?_
                obtain ⟨hi, h⟩ := ck_ex h
                refine rIald (pc := 351) M hW 2 rfl hi (dd dX10_makes_p3 14 rfl) ?_
                obtain ⟨r_352, hr, h⟩ := bnd_ex h
                refine callVI (pc := 352) (na := 1) (As := [.int (ag c_endAt_293 v5)]) (rest := [.int ((120 * v4) + v5), .ref a_turns]) (ws2 := (w_X10_makes g a_t a_along a_endAt a_far a_isWaiting a_pile a_rowAt a_rowSize a_strip a_turns a_waiting a_what a_cornerX a_cornerY a_corners a_plan a_slantA a_slantB a_yields a_bears a_seen a_wagons a_rest a_isUsed c_thrown c_isLaid c_head 0 0 c_rows_293 c_slants c_capacity c_weight c_unload c_source_315 c_bunker c_along_98 c_endAt_293 c_far_315 c_isWaiting_315 c_pile_293 c_rowAt_293 c_rowSize_293 c_strip_98 c_turns c_waiting_315 c_what)) M hl.1 hW (t_X10_endWay l g a_t a_far a_what a_cornerX a_cornerY a_corners a_rowAt a_strip a_along a_rowSize a_endAt a_turns a_plan a_slantA a_slantB a_yields a_bears a_seen a_wagons a_pile a_waiting a_isWaiting a_rest a_isUsed c_thrown c_isLaid c_head 0 0 c_rows_293 c_slants c_capacity c_weight c_unload c_source_315 c_bunker c_far_315 c_what (ag c_endAt_293 v5) r_352 hr) rfl [0, 3, 11] [1, 2, 4, 5, 6, 7, 8, 9, 10] [9, 0, 1, 10, 2, 3, 4, 5, 6, 7, 8, 11] rfl rfl rfl rfl rfl rfl rfl 0 10 rfl rfl rfl (uw5 157 rfl rfl) (uw5 154 rfl rfl) (uw5 156 rfl rfl) (uwp 51 rfl rfl) (uw1 13 rfl rfl) ⟨by decide, by decide, by decide⟩ rfl ⟨by decide, by decide⟩ (Nat.le_of_ble_eq_true rfl) ⟨Nat.zero_le _, Nat.zero_le _⟩ (dd dX10_makes_p3 15 rfl) (fun H locs hW => ?_)
                obtain ⟨hi, h⟩ := ck_ex h
                obtain ⟨c_turns_355, ec_turns_355, h⟩ := nm_ex h
                refine rIast (pc := 355) M hW 9 rfl hi ec_turns_355 (ws' := (w_X10_makes g a_t a_along a_endAt a_far a_isWaiting a_pile a_rowAt a_rowSize a_strip a_turns a_waiting a_what a_cornerX a_cornerY a_corners a_plan a_slantA a_slantB a_yields a_bears a_seen a_wagons a_rest a_isUsed c_thrown c_isLaid c_head 0 0 c_rows_293 c_slants c_capacity c_weight c_unload c_source_315 c_bunker c_along_98 c_endAt_293 c_far_315 c_isWaiting_315 c_pile_293 c_rowAt_293 c_rowSize_293 c_strip_98 c_turns_355 c_waiting_315 c_what)) rfl (dd dX10_makes_p3 16 rfl) (fun H locs hW => ?_)
                obtain ⟨v5_356, ev5_356, h⟩ := nm_ex h
                refine lv_iinc (pc := 356) (v := v5_356) (lv' := [(5, .int v5_356), (0, .ref a_t), (4, .int v4)]) hx hb (dd dX10_makes_p3 17 rfl) hl (k := 2) rfl (by rw [ev5_356]; rfl) (by decide) rfl (fun ls hl => ?_)
                refine lv_goto (pc := 359) (tgt := 321) hx hb (dd dX10_makes_p3 18 rfl) (by decide) ?_
                obtain rfl := Option.some.inj h
                exact hk _ _ _ hW (lv_sub hl [1, 2, 0] rfl)
            · obtain ⟨c_turns_362, e9⟩ : ∃ z, z = ex := ⟨_, rfl⟩
              subst e9
              intro H locs ls hW hl
              obtain ⟨v4_362, ev4_362, h⟩ := nm_ex h
              refine lv_iinc (pc := 362) (v := v4_362) (lv' := [(4, .int v4_362), (0, .ref a_t)]) hx hb (dd dX10_makes_p3 19 rfl) hl (k := 1) rfl (by rw [ev4_362]; rfl) (by decide) rfl (fun ls hl => ?_)
              refine lv_goto (pc := 365) (tgt := 296) hx hb (dd dX10_makes_p3 20 rfl) (by decide) ?_
              obtain rfl := Option.some.inj h
              exact hk _ _ _ hW (lv_sub hl [1, 0] rfl)
        · obtain ⟨c_source_368, c_far_368, c_isWaiting_368, c_turns_368, c_waiting_368⟩ := ex
          have h := un5_at h
          intro H locs ls hW hl
          refine lv_aload_n (pc := 368) hx hb (dd dX10_makes_p3 21 rfl) rfl (lv_at hl 0 rfl) ?_
          refine lv_iconst (pc := 369) (v := 1) hx hb (dd dX10_makes_p3 22 rfl) (by decide) ?_
          refine rPut (pc := 370) M hW 0 7 tyX10 tyX10_ok nmX10 iU10 rfl rfl (by decide) (uw4 220 rfl rfl) rfl rfl rfl (Nat.le_of_ble_eq_true rfl) (dd dX10_makes_p3 23 rfl) (ws' := (w_X10_makes g a_t a_along a_endAt a_far a_isWaiting a_pile a_rowAt a_rowSize a_strip a_turns a_waiting a_what a_cornerX a_cornerY a_corners a_plan a_slantA a_slantB a_yields a_bears a_seen a_wagons a_rest a_isUsed c_thrown c_isLaid c_head 1 0 c_rows_293 c_slants c_capacity c_weight c_unload c_source_368 c_bunker c_along_98 c_endAt_293 c_far_368 c_isWaiting_368 c_pile_293 c_rowAt_293 c_rowSize_293 c_strip_98 c_turns_368 c_waiting_368 c_what)) rfl (fun H locs hW => ?_)
          refine lv_iconst (pc := 373) (v := 1) hx hb (dd dX10_makes_p3 24 rfl) (by decide) ?_
          have hW9 := hW
          cases h
          exact ret _ _ _ 374 hW9 rfl (dd dX10_makes_p3 25 rfl)
      · intro H locs ls hW hl
        have h := sE_r h
        have h := un5_at h
        refine lv_iconst (pc := 118) (v := 0) hx hb (dd dX10_makes_p1 10 rfl) (by decide) ?_
        have hW9 := hW
        cases h
        exact ret _ _ _ 119 hW9 rfl (dd dX10_makes_p1 11 rfl)
noncomputable def X10_isWidth (v0 : Int32) : Option Int32 :=
  if v0 < 1 then (some 0) else (if 400 < v0 then (some 0) else (some 1))
set_option maxHeartbeats 4000000 in
set_option maxRecDepth 100000 in
theorem t_X10_isWidth (l : Launch) (g : G9) (v0 r0 : Int32) (h : X10_isWidth v0 = some r0) : CtI l g yX10_isWidth cX10_isWidth 1 .boolean 0 0 [.int v0] [] r0 [] := by
  refine startI (by decide) (Nat.le_of_ble_eq_true rfl) ?_
  intro p e s m below meth c A Q ls args M hW hl ret
  have hx := M.1
  have hb := M.2.1
  have hown := M.2.2.2.1
  have hu := M.2.2.2.2.1
  have hl : lv_has ls 1 [(0, .int v0)] := hl
  unfold X10_isWidth at h
  obtain ⟨H, eH⟩ : ∃ z, z = s.heap := ⟨_, rfl⟩
  obtain ⟨locs, eL⟩ : ∃ z, z = ([] : List Loc) := ⟨_, rfl⟩
  rw [← eL] at hW ⊢
  suffices hS9 : WD g s A [] H locs → W p l e (rm9 0 0) s m args below meth c H locs 0 0 Q (F0 m 0 ls []) by
    rw [← eH] at hW ⊢
    exact hS9 hW
  clear hW eH eL
  intro hW
  refine lv_iload_n (pc := 0) hx hb (dd dX10_isWidth 0 rfl) rfl (lv_at hl 0 rfl) ?_
  refine lv_iconst (pc := 1) (v := 1) hx hb (dd dX10_isWidth 1 rfl) (by decide) ?_
  refine lv_icmp_lt (pc := 2) (tgt := 16) hx hb (dd dX10_isWidth 2 rfl) (by decide) (fun hc => ?_) (fun hc => ?_)
  · have h := it_t hc h
    refine lv_iconst (pc := 16) (v := 0) hx hb (dd dX10_isWidth 8 rfl) (by decide) ?_
    have hW9 := hW
    cases h
    exact ret _ _ _ 17 hW9 rfl (dd dX10_isWidth 9 rfl)
  · have h := it_f hc h
    refine lv_iload_n (pc := 5) hx hb (dd dX10_isWidth 3 rfl) rfl (lv_at hl 0 rfl) ?_
    refine lv_sipush (pc := 6) (v := 400) hx hb (dd dX10_isWidth 4 rfl) (by decide) ?_
    refine lv_icmp_gt (pc := 9) (tgt := 16) hx hb (dd dX10_isWidth 5 rfl) (by decide) (fun hc => ?_) (fun hc => ?_)
    · have h := it_t hc h
      refine lv_iconst (pc := 16) (v := 0) hx hb (dd dX10_isWidth 8 rfl) (by decide) ?_
      have hW9 := hW
      cases h
      exact ret _ _ _ 17 hW9 rfl (dd dX10_isWidth 9 rfl)
    · have h := it_f hc h
      refine lv_iconst (pc := 12) (v := 1) hx hb (dd dX10_isWidth 6 rfl) (by decide) ?_
      refine lv_goto (pc := 13) (tgt := 17) hx hb (dd dX10_isWidth 7 rfl) (by decide) ?_
      have hW9 := hW
      cases h
      exact ret _ _ _ 17 hW9 rfl (dd dX10_isWidth 9 rfl)
abbrev w_X10_rows (g : G9) (a_t a_along a_endAt a_far a_isWaiting a_pile a_rowAt a_rowSize a_strip a_turns a_waiting a_what a_cornerX a_cornerY a_corners a_plan a_slantA a_slantB a_yields a_bears a_seen a_wagons a_rest a_isUsed : Nat) (c_thrown c_isLaid c_head c_hasRows c_hasPlan c_rows c_slants c_capacity c_weight c_unload c_source c_bunker : Int32) (c_along c_endAt c_far c_isWaiting c_pile c_rowAt c_rowSize c_strip c_turns c_waiting c_what : Ar) : va_W := [ob a_t 10 [.int c_thrown, .ref a_cornerX, .ref a_cornerY, .ref a_corners, .ref a_what, .int c_isLaid, .int c_head, .int c_hasRows, .int c_hasPlan, .int c_rows, .ref a_rowAt, .ref a_strip, .ref a_along, .ref a_rowSize, .ref a_endAt, .ref a_turns, .ref a_plan, .ref a_slantA, .ref a_slantB, .int c_slants, .ref a_yields, .ref a_bears, .int c_capacity, .int c_weight, .int c_unload, .ref a_seen, .ref a_wagons, .ref a_pile, .ref a_far, .int c_source, .ref a_waiting, .ref a_isWaiting, .ref a_rest, .ref a_isUsed, .int c_bunker], ia g a_along 1200 c_along, ia g a_endAt 122 c_endAt, ia g a_far 1200 c_far, za g a_isWaiting 1200 c_isWaiting, ia g a_pile 1200 c_pile, ia g a_rowAt 1200 c_rowAt, ia g a_rowSize 61 c_rowSize, ia g a_strip 1200 c_strip, ia g a_turns 14400 c_turns, ia g a_waiting 1200 c_waiting, ia g a_what 1200 c_what]
noncomputable def X10_rows_b46 (c_thrown c_hasRows c_hasPlan c_rows c_source : Int32) (c_along c_endAt c_far c_isWaiting c_pile c_rowAt c_rowSize c_strip c_turns c_waiting c_what : Ar) (v1 v2 v3 k1 : Int32) : Option (Int32 × Int32 × Int32 × Int32 × Int32 × Int32 × Ar × Ar × Ar × Ar × Ar × Ar × Ar × Ar × Ar × Ar) :=
  bnd (X10_throwsIf c_thrown k1 2) <| un2 fun r_47 c_thrown_47 => if r_47 = 0 then (bnd (X10_makes c_hasRows c_hasPlan c_rows c_source c_along c_endAt c_far c_isWaiting c_pile c_rowAt c_rowSize c_strip c_turns c_waiting c_what v1 v2 v3) <| un15 fun r_59 c_hasRows_59 c_hasPlan_59 c_rows_59 c_source_59 c_along_59 c_endAt_59 c_far_59 c_isWaiting_59 c_pile_59 c_rowAt_59 c_rowSize_59 c_strip_59 c_turns_59 c_waiting_59 => if r_59 = 0 then (some ((-1), c_thrown_47, c_hasRows_59, c_hasPlan_59, c_rows_59, c_source_59, c_along_59, c_endAt_59, c_far_59, c_isWaiting_59, c_pile_59, c_rowAt_59, c_rowSize_59, c_strip_59, c_turns_59, c_waiting_59)) else (some (c_rows_59, c_thrown_47, c_hasRows_59, c_hasPlan_59, c_rows_59, c_source_59, c_along_59, c_endAt_59, c_far_59, c_isWaiting_59, c_pile_59, c_rowAt_59, c_rowSize_59, c_strip_59, c_turns_59, c_waiting_59))) else (some (0, c_thrown_47, c_hasRows, c_hasPlan, c_rows, c_source, c_along, c_endAt, c_far, c_isWaiting, c_pile, c_rowAt, c_rowSize, c_strip, c_turns, c_waiting))
noncomputable def X10_rows_b41 (c_thrown c_hasRows c_hasPlan c_rows c_source : Int32) (c_along c_endAt c_far c_isWaiting c_pile c_rowAt c_rowSize c_strip c_turns c_waiting c_what : Ar) (v1 v2 v3 : Int32) : Option (Int32 × Int32 × Int32 × Int32 × Int32 × Int32 × Ar × Ar × Ar × Ar × Ar × Ar × Ar × Ar × Ar × Ar) :=
  X10_rows_b46 c_thrown c_hasRows c_hasPlan c_rows c_source c_along c_endAt c_far c_isWaiting c_pile c_rowAt c_rowSize c_strip c_turns c_waiting c_what v1 v2 v3 1
noncomputable def X10_rows_b18 (c_thrown c_hasRows c_hasPlan c_rows c_source : Int32) (c_along c_endAt c_far c_isWaiting c_pile c_rowAt c_rowSize c_strip c_turns c_waiting c_what : Ar) (v1 v2 v3 k1 : Int32) : Option (Int32 × Int32 × Int32 × Int32 × Int32 × Int32 × Ar × Ar × Ar × Ar × Ar × Ar × Ar × Ar × Ar × Ar) :=
  bnd (X10_throwsIf c_thrown k1 1) <| un2 fun r_19 c_thrown_19 => if r_19 = 0 then (bnd (X10_isSlant v1 v2) <| fun r_28 => if r_28 = 0 then (X10_rows_b41 c_thrown_19 c_hasRows c_hasPlan c_rows c_source c_along c_endAt c_far c_isWaiting c_pile c_rowAt c_rowSize c_strip c_turns c_waiting c_what v1 v2 v3) else (bnd (X10_isWidth v3) <| fun r_35 => if r_35 = 0 then (X10_rows_b41 c_thrown_19 c_hasRows c_hasPlan c_rows c_source c_along c_endAt c_far c_isWaiting c_pile c_rowAt c_rowSize c_strip c_turns c_waiting c_what v1 v2 v3) else (X10_rows_b46 c_thrown_19 c_hasRows c_hasPlan c_rows c_source c_along c_endAt c_far c_isWaiting c_pile c_rowAt c_rowSize c_strip c_turns c_waiting c_what v1 v2 v3 0))) else (some (0, c_thrown_19, c_hasRows, c_hasPlan, c_rows, c_source, c_along, c_endAt, c_far, c_isWaiting, c_pile, c_rowAt, c_rowSize, c_strip, c_turns, c_waiting))
noncomputable def X10_rows (c_thrown c_isLaid c_hasRows c_hasPlan c_rows c_source : Int32) (c_along c_endAt c_far c_isWaiting c_pile c_rowAt c_rowSize c_strip c_turns c_waiting c_what : Ar) (v1 v2 v3 : Int32) : Option (Int32 × Int32 × Int32 × Int32 × Int32 × Int32 × Ar × Ar × Ar × Ar × Ar × Ar × Ar × Ar × Ar × Ar) :=
  if c_isLaid = 0 then (X10_rows_b18 0 c_hasRows c_hasPlan c_rows c_source c_along c_endAt c_far c_isWaiting c_pile c_rowAt c_rowSize c_strip c_turns c_waiting c_what v1 v2 v3 1) else (X10_rows_b18 0 c_hasRows c_hasPlan c_rows c_source c_along c_endAt c_far c_isWaiting c_pile c_rowAt c_rowSize c_strip c_turns c_waiting c_what v1 v2 v3 0)
set_option maxHeartbeats 4000000 in
set_option maxRecDepth 100000 in
theorem t_X10_rows (l : Launch) (g : G9) (a_t a_along a_endAt a_far a_isWaiting a_pile a_rowAt a_rowSize a_strip a_turns a_waiting a_what a_cornerX a_cornerY a_corners a_plan a_slantA a_slantB a_yields a_bears a_seen a_wagons a_rest a_isUsed : Nat) (c_thrown c_isLaid c_head c_hasRows c_hasPlan c_rows c_slants c_capacity c_weight c_unload c_source c_bunker : Int32) (c_along c_endAt c_far c_isWaiting c_pile c_rowAt c_rowSize c_strip c_turns c_waiting c_what : Ar) (v1 v2 v3 r0 o_thrown o_hasRows o_hasPlan o_rows o_source : Int32) (o_along o_endAt o_far o_isWaiting o_pile o_rowAt o_rowSize o_strip o_turns o_waiting : Ar) (h : X10_rows c_thrown c_isLaid c_hasRows c_hasPlan c_rows c_source c_along c_endAt c_far c_isWaiting c_pile c_rowAt c_rowSize c_strip c_turns c_waiting c_what v1 v2 v3 = some (r0, o_thrown, o_hasRows, o_hasPlan, o_rows, o_source, o_along, o_endAt, o_far, o_isWaiting, o_pile, o_rowAt, o_rowSize, o_strip, o_turns, o_waiting)) : CtI l g yX10_rows cX10_rows 4 .int 4 96 [.ref a_t, .int v1, .int v2, .int v3] (w_X10_rows g a_t a_along a_endAt a_far a_isWaiting a_pile a_rowAt a_rowSize a_strip a_turns a_waiting a_what a_cornerX a_cornerY a_corners a_plan a_slantA a_slantB a_yields a_bears a_seen a_wagons a_rest a_isUsed c_thrown c_isLaid c_head c_hasRows c_hasPlan c_rows c_slants c_capacity c_weight c_unload c_source c_bunker c_along c_endAt c_far c_isWaiting c_pile c_rowAt c_rowSize c_strip c_turns c_waiting c_what) r0 (w_X10_rows g a_t a_along a_endAt a_far a_isWaiting a_pile a_rowAt a_rowSize a_strip a_turns a_waiting a_what a_cornerX a_cornerY a_corners a_plan a_slantA a_slantB a_yields a_bears a_seen a_wagons a_rest a_isUsed o_thrown c_isLaid c_head o_hasRows o_hasPlan o_rows c_slants c_capacity c_weight c_unload o_source c_bunker o_along o_endAt o_far o_isWaiting o_pile o_rowAt o_rowSize o_strip o_turns o_waiting c_what) := by
  refine startI (by decide) (Nat.le_of_ble_eq_true rfl) ?_
  intro p e s m below meth c A Q ls args M hW hl ret
  have hx := M.1
  have hb := M.2.1
  have hown := M.2.2.2.1
  have hu := M.2.2.2.2.1
  have hl : lv_has ls 4 [(0, .ref a_t), (1, .int v1), (2, .int v2), (3, .int v3)] := hl
  unfold X10_rows at h
  obtain ⟨H, eH⟩ : ∃ z, z = s.heap := ⟨_, rfl⟩
  obtain ⟨locs, eL⟩ : ∃ z, z = ([] : List Loc) := ⟨_, rfl⟩
  rw [← eL] at hW ⊢
  suffices hS9 : WD g s A (w_X10_rows g a_t a_along a_endAt a_far a_isWaiting a_pile a_rowAt a_rowSize a_strip a_turns a_waiting a_what a_cornerX a_cornerY a_corners a_plan a_slantA a_slantB a_yields a_bears a_seen a_wagons a_rest a_isUsed c_thrown c_isLaid c_head c_hasRows c_hasPlan c_rows c_slants c_capacity c_weight c_unload c_source c_bunker c_along c_endAt c_far c_isWaiting c_pile c_rowAt c_rowSize c_strip c_turns c_waiting c_what) H locs → W p l e (rm9 4 96) s m args below meth c H locs 0 0 Q (F0 m 0 ls []) by
    rw [← eH] at hW ⊢
    exact hS9 hW
  clear hW eH eL
  intro hW
  have J46 : ∀ (c_thrown c_hasRows c_hasPlan c_rows c_source : Int32) (c_along c_endAt c_far c_isWaiting c_pile c_rowAt c_rowSize c_strip c_turns c_waiting : Ar) (k1 : Int32) (H : Heap) (locs : List Loc) (ls : Array Slot), X10_rows_b46 c_thrown c_hasRows c_hasPlan c_rows c_source c_along c_endAt c_far c_isWaiting c_pile c_rowAt c_rowSize c_strip c_turns c_waiting c_what v1 v2 v3 k1 = some (r0, o_thrown, o_hasRows, o_hasPlan, o_rows, o_source, o_along, o_endAt, o_far, o_isWaiting, o_pile, o_rowAt, o_rowSize, o_strip, o_turns, o_waiting) → WD g s A (w_X10_rows g a_t a_along a_endAt a_far a_isWaiting a_pile a_rowAt a_rowSize a_strip a_turns a_waiting a_what a_cornerX a_cornerY a_corners a_plan a_slantA a_slantB a_yields a_bears a_seen a_wagons a_rest a_isUsed c_thrown c_isLaid c_head c_hasRows c_hasPlan c_rows c_slants c_capacity c_weight c_unload c_source c_bunker c_along c_endAt c_far c_isWaiting c_pile c_rowAt c_rowSize c_strip c_turns c_waiting c_what) H locs → lv_has ls 4 [(0, .ref a_t), (1, .int v1), (2, .int v2), (3, .int v3)] → W p l e (rm9 4 96) s m args below meth c H locs 0 0 Q (F0 m 46 ls [.int k1, .ref a_t]) := by
    intro c_thrown c_hasRows c_hasPlan c_rows c_source c_along c_endAt c_far c_isWaiting c_pile c_rowAt c_rowSize c_strip c_turns c_waiting k1 H locs ls h hW hl
    unfold X10_rows_b46 at h
    refine lv_iconst (pc := 46) (v := 2) hx hb (dd dX10_rows 24 rfl) (by decide) ?_
    obtain ⟨⟨r_47, c_thrown_47⟩, hr, h⟩ := bnd_ex h
    have h := un2_at h
    refine callVI (pc := 47) (na := 2) (As := [.int k1, .int 2]) (rest := []) (ws2 := (w_X10_rows g a_t a_along a_endAt a_far a_isWaiting a_pile a_rowAt a_rowSize a_strip a_turns a_waiting a_what a_cornerX a_cornerY a_corners a_plan a_slantA a_slantB a_yields a_bears a_seen a_wagons a_rest a_isUsed c_thrown_47 c_isLaid c_head c_hasRows c_hasPlan c_rows c_slants c_capacity c_weight c_unload c_source c_bunker c_along c_endAt c_far c_isWaiting c_pile c_rowAt c_rowSize c_strip c_turns c_waiting c_what)) M hl.1 hW (t_X10_throwsIf l g a_t a_cornerX a_cornerY a_corners a_what a_rowAt a_strip a_along a_rowSize a_endAt a_turns a_plan a_slantA a_slantB a_yields a_bears a_seen a_wagons a_pile a_far a_waiting a_isWaiting a_rest a_isUsed c_thrown c_isLaid c_head c_hasRows c_hasPlan c_rows c_slants c_capacity c_weight c_unload c_source c_bunker k1 2 r_47 c_thrown_47 hr) rfl [0] [1, 2, 3, 4, 5, 6, 7, 8, 9, 10, 11] [11, 0, 1, 2, 3, 4, 5, 6, 7, 8, 9, 10] rfl rfl rfl rfl rfl rfl rfl 0 10 rfl rfl rfl (uw5 86 rfl rfl) (uw5 83 rfl rfl) (uw5 85 rfl rfl) (uwp 41 rfl rfl) (uw1 13 rfl rfl) ⟨by decide, by decide, by decide⟩ rfl ⟨by decide, by decide⟩ (Nat.le_of_ble_eq_true rfl) ⟨Nat.zero_le _, Nat.zero_le _⟩ (dd dX10_rows 25 rfl) (fun H locs hW => ?_)
    refine lv_if_eq (pc := 50) (tgt := 55) hx hb (dd dX10_rows 26 rfl) (by decide) (fun hc => ?_) (fun hc => ?_)
    · have h := it_t hc h
      refine lv_aload_n (pc := 55) hx hb (dd dX10_rows 29 rfl) rfl (lv_at hl 0 rfl) ?_
      refine lv_iload_n (pc := 56) hx hb (dd dX10_rows 30 rfl) rfl (lv_at hl 1 rfl) ?_
      refine lv_iload_n (pc := 57) hx hb (dd dX10_rows 31 rfl) rfl (lv_at hl 2 rfl) ?_
      refine lv_iload_n (pc := 58) hx hb (dd dX10_rows 32 rfl) rfl (lv_at hl 3 rfl) ?_
      obtain ⟨⟨r_59, c_hasRows_59, c_hasPlan_59, c_rows_59, c_source_59, c_along_59, c_endAt_59, c_far_59, c_isWaiting_59, c_pile_59, c_rowAt_59, c_rowSize_59, c_strip_59, c_turns_59, c_waiting_59⟩, hr, h⟩ := bnd_ex h
      have h := un15_at h
      refine callVI (pc := 59) (na := 3) (As := [.int v1, .int v2, .int v3]) (rest := []) (ws2 := (w_X10_rows g a_t a_along a_endAt a_far a_isWaiting a_pile a_rowAt a_rowSize a_strip a_turns a_waiting a_what a_cornerX a_cornerY a_corners a_plan a_slantA a_slantB a_yields a_bears a_seen a_wagons a_rest a_isUsed c_thrown_47 c_isLaid c_head c_hasRows_59 c_hasPlan_59 c_rows_59 c_slants c_capacity c_weight c_unload c_source_59 c_bunker c_along_59 c_endAt_59 c_far_59 c_isWaiting_59 c_pile_59 c_rowAt_59 c_rowSize_59 c_strip_59 c_turns_59 c_waiting_59 c_what)) M hl.1 hW (t_X10_makes l g a_t a_along a_endAt a_far a_isWaiting a_pile a_rowAt a_rowSize a_strip a_turns a_waiting a_what a_cornerX a_cornerY a_corners a_plan a_slantA a_slantB a_yields a_bears a_seen a_wagons a_rest a_isUsed c_thrown_47 c_isLaid c_head c_hasRows c_hasPlan c_rows c_slants c_capacity c_weight c_unload c_source c_bunker c_along c_endAt c_far c_isWaiting c_pile c_rowAt c_rowSize c_strip c_turns c_waiting c_what v1 v2 v3 r_59 c_hasRows_59 c_hasPlan_59 c_rows_59 c_source_59 c_along_59 c_endAt_59 c_far_59 c_isWaiting_59 c_pile_59 c_rowAt_59 c_rowSize_59 c_strip_59 c_turns_59 c_waiting_59 hr) rfl [0, 1, 2, 3, 4, 5, 6, 7, 8, 9, 10, 11] [] [0, 1, 2, 3, 4, 5, 6, 7, 8, 9, 10, 11] rfl rfl rfl rfl rfl rfl rfl 0 10 rfl rfl rfl (uw5 135 rfl rfl) (uw5 132 rfl rfl) (uw5 134 rfl rfl) (uwp 46 rfl rfl) (uw1 13 rfl rfl) ⟨by decide, by decide, by decide⟩ rfl ⟨by decide, by decide⟩ (Nat.le_of_ble_eq_true rfl) ⟨Nat.zero_le _, Nat.zero_le _⟩ (dd dX10_rows 33 rfl) (fun H locs hW => ?_)
      refine lv_if_eq (pc := 62) (tgt := 72) hx hb (dd dX10_rows 34 rfl) (by decide) (fun hc => ?_) (fun hc => ?_)
      · have h := it_t hc h
        refine lv_iconst (pc := 72) (v := (-1)) hx hb (dd dX10_rows 38 rfl) (by decide) ?_
        have hW9 := hW
        cases h
        exact ret _ _ _ 73 hW9 rfl (dd dX10_rows 39 rfl)
      · have h := it_f hc h
        refine lv_aload_n (pc := 65) hx hb (dd dX10_rows 35 rfl) rfl (lv_at hl 0 rfl) ?_
        refine rGet (pc := 66) M hW 0 9 iU10 rfl rfl (by decide) (uw4 222 rfl rfl) rfl (dd dX10_rows 36 rfl) ?_
        refine lv_goto (pc := 69) (tgt := 73) hx hb (dd dX10_rows 37 rfl) (by decide) ?_
        have hW9 := hW
        cases h
        exact ret _ _ _ 73 hW9 rfl (dd dX10_rows 39 rfl)
    · have h := it_f hc h
      refine lv_iconst (pc := 53) (v := 0) hx hb (dd dX10_rows 27 rfl) (by decide) ?_
      have hW9 := hW
      cases h
      exact ret _ _ _ 54 hW9 rfl (dd dX10_rows 28 rfl)
  have J41 : ∀ (c_thrown c_hasRows c_hasPlan c_rows c_source : Int32) (c_along c_endAt c_far c_isWaiting c_pile c_rowAt c_rowSize c_strip c_turns c_waiting : Ar) (H : Heap) (locs : List Loc) (ls : Array Slot), X10_rows_b41 c_thrown c_hasRows c_hasPlan c_rows c_source c_along c_endAt c_far c_isWaiting c_pile c_rowAt c_rowSize c_strip c_turns c_waiting c_what v1 v2 v3 = some (r0, o_thrown, o_hasRows, o_hasPlan, o_rows, o_source, o_along, o_endAt, o_far, o_isWaiting, o_pile, o_rowAt, o_rowSize, o_strip, o_turns, o_waiting) → WD g s A (w_X10_rows g a_t a_along a_endAt a_far a_isWaiting a_pile a_rowAt a_rowSize a_strip a_turns a_waiting a_what a_cornerX a_cornerY a_corners a_plan a_slantA a_slantB a_yields a_bears a_seen a_wagons a_rest a_isUsed c_thrown c_isLaid c_head c_hasRows c_hasPlan c_rows c_slants c_capacity c_weight c_unload c_source c_bunker c_along c_endAt c_far c_isWaiting c_pile c_rowAt c_rowSize c_strip c_turns c_waiting c_what) H locs → lv_has ls 4 [(0, .ref a_t), (1, .int v1), (2, .int v2), (3, .int v3)] → W p l e (rm9 4 96) s m args below meth c H locs 0 0 Q (F0 m 41 ls [.ref a_t]) := by
    intro c_thrown c_hasRows c_hasPlan c_rows c_source c_along c_endAt c_far c_isWaiting c_pile c_rowAt c_rowSize c_strip c_turns c_waiting H locs ls h hW hl
    unfold X10_rows_b41 at h
    refine lv_iconst (pc := 41) (v := 1) hx hb (dd dX10_rows 21 rfl) (by decide) ?_
    refine lv_goto (pc := 42) (tgt := 46) hx hb (dd dX10_rows 22 rfl) (by decide) ?_
    exact J46 _ _ _ _ _ _ _ _ _ _ _ _ _ _ _ _ _ _ _ h hW (lv_sub hl [0, 1, 2, 3] rfl)
  have J18 : ∀ (c_thrown c_hasRows c_hasPlan c_rows c_source : Int32) (c_along c_endAt c_far c_isWaiting c_pile c_rowAt c_rowSize c_strip c_turns c_waiting : Ar) (k1 : Int32) (H : Heap) (locs : List Loc) (ls : Array Slot), X10_rows_b18 c_thrown c_hasRows c_hasPlan c_rows c_source c_along c_endAt c_far c_isWaiting c_pile c_rowAt c_rowSize c_strip c_turns c_waiting c_what v1 v2 v3 k1 = some (r0, o_thrown, o_hasRows, o_hasPlan, o_rows, o_source, o_along, o_endAt, o_far, o_isWaiting, o_pile, o_rowAt, o_rowSize, o_strip, o_turns, o_waiting) → WD g s A (w_X10_rows g a_t a_along a_endAt a_far a_isWaiting a_pile a_rowAt a_rowSize a_strip a_turns a_waiting a_what a_cornerX a_cornerY a_corners a_plan a_slantA a_slantB a_yields a_bears a_seen a_wagons a_rest a_isUsed c_thrown c_isLaid c_head c_hasRows c_hasPlan c_rows c_slants c_capacity c_weight c_unload c_source c_bunker c_along c_endAt c_far c_isWaiting c_pile c_rowAt c_rowSize c_strip c_turns c_waiting c_what) H locs → lv_has ls 4 [(0, .ref a_t), (1, .int v1), (2, .int v2), (3, .int v3)] → W p l e (rm9 4 96) s m args below meth c H locs 0 0 Q (F0 m 18 ls [.int k1, .ref a_t]) := by
    intro c_thrown c_hasRows c_hasPlan c_rows c_source c_along c_endAt c_far c_isWaiting c_pile c_rowAt c_rowSize c_strip c_turns c_waiting k1 H locs ls h hW hl
    unfold X10_rows_b18 at h
    refine lv_iconst (pc := 18) (v := 1) hx hb (dd dX10_rows 10 rfl) (by decide) ?_
    obtain ⟨⟨r_19, c_thrown_19⟩, hr, h⟩ := bnd_ex h
    have h := un2_at h
    refine callVI (pc := 19) (na := 2) (As := [.int k1, .int 1]) (rest := []) (ws2 := (w_X10_rows g a_t a_along a_endAt a_far a_isWaiting a_pile a_rowAt a_rowSize a_strip a_turns a_waiting a_what a_cornerX a_cornerY a_corners a_plan a_slantA a_slantB a_yields a_bears a_seen a_wagons a_rest a_isUsed c_thrown_19 c_isLaid c_head c_hasRows c_hasPlan c_rows c_slants c_capacity c_weight c_unload c_source c_bunker c_along c_endAt c_far c_isWaiting c_pile c_rowAt c_rowSize c_strip c_turns c_waiting c_what)) M hl.1 hW (t_X10_throwsIf l g a_t a_cornerX a_cornerY a_corners a_what a_rowAt a_strip a_along a_rowSize a_endAt a_turns a_plan a_slantA a_slantB a_yields a_bears a_seen a_wagons a_pile a_far a_waiting a_isWaiting a_rest a_isUsed c_thrown c_isLaid c_head c_hasRows c_hasPlan c_rows c_slants c_capacity c_weight c_unload c_source c_bunker k1 1 r_19 c_thrown_19 hr) rfl [0] [1, 2, 3, 4, 5, 6, 7, 8, 9, 10, 11] [11, 0, 1, 2, 3, 4, 5, 6, 7, 8, 9, 10] rfl rfl rfl rfl rfl rfl rfl 0 10 rfl rfl rfl (uw5 86 rfl rfl) (uw5 83 rfl rfl) (uw5 85 rfl rfl) (uwp 41 rfl rfl) (uw1 13 rfl rfl) ⟨by decide, by decide, by decide⟩ rfl ⟨by decide, by decide⟩ (Nat.le_of_ble_eq_true rfl) ⟨Nat.zero_le _, Nat.zero_le _⟩ (dd dX10_rows 11 rfl) (fun H locs hW => ?_)
    refine lv_if_ne (pc := 22) (tgt := 53) hx hb (dd dX10_rows 12 rfl) (by decide) (fun hc => ?_) (fun hc => ?_)
    · have h := it_f hc h
      refine lv_iconst (pc := 53) (v := 0) hx hb (dd dX10_rows 27 rfl) (by decide) ?_
      have hW9 := hW
      cases h
      exact ret _ _ _ 54 hW9 rfl (dd dX10_rows 28 rfl)
    · have h := it_t hc h
      refine lv_aload_n (pc := 25) hx hb (dd dX10_rows 13 rfl) rfl (lv_at hl 0 rfl) ?_
      refine lv_iload_n (pc := 26) hx hb (dd dX10_rows 14 rfl) rfl (lv_at hl 1 rfl) ?_
      refine lv_iload_n (pc := 27) hx hb (dd dX10_rows 15 rfl) rfl (lv_at hl 2 rfl) ?_
      obtain ⟨r_28, hr, h⟩ := bnd_ex h
      refine callSI (pc := 28) (na := 2) (As := [.int v1, .int v2]) (rest := [.ref a_t]) (ws2 := (w_X10_rows g a_t a_along a_endAt a_far a_isWaiting a_pile a_rowAt a_rowSize a_strip a_turns a_waiting a_what a_cornerX a_cornerY a_corners a_plan a_slantA a_slantB a_yields a_bears a_seen a_wagons a_rest a_isUsed c_thrown_19 c_isLaid c_head c_hasRows c_hasPlan c_rows c_slants c_capacity c_weight c_unload c_source c_bunker c_along c_endAt c_far c_isWaiting c_pile c_rowAt c_rowSize c_strip c_turns c_waiting c_what)) M hl.1 hW (t_X10_isSlant l g v1 v2 r_28 hr) [] [0, 1, 2, 3, 4, 5, 6, 7, 8, 9, 10, 11] [0, 1, 2, 3, 4, 5, 6, 7, 8, 9, 10, 11] rfl rfl rfl rfl rfl rfl rfl (uw5 128 rfl rfl) (uw5 126 rfl rfl) (uw5 127 rfl rfl) (uw1 13 rfl rfl) ⟨by decide, by decide, by decide⟩ rfl ⟨by decide, by decide⟩ (Nat.le_of_ble_eq_true rfl) ⟨Nat.zero_le _, Nat.zero_le _⟩ (dd dX10_rows 16 rfl) (fun H locs hW => ?_)
      refine lv_if_eq (pc := 31) (tgt := 41) hx hb (dd dX10_rows 17 rfl) (by decide) (fun hc => ?_) (fun hc => ?_)
      · have h := it_t hc h
        exact J41 _ _ _ _ _ _ _ _ _ _ _ _ _ _ _ _ _ _ h hW (lv_sub hl [0, 1, 2, 3] rfl)
      · have h := it_f hc h
        refine lv_iload_n (pc := 34) hx hb (dd dX10_rows 18 rfl) rfl (lv_at hl 3 rfl) ?_
        obtain ⟨r_35, hr, h⟩ := bnd_ex h
        refine callSI (pc := 35) (na := 1) (As := [.int v3]) (rest := [.ref a_t]) (ws2 := (w_X10_rows g a_t a_along a_endAt a_far a_isWaiting a_pile a_rowAt a_rowSize a_strip a_turns a_waiting a_what a_cornerX a_cornerY a_corners a_plan a_slantA a_slantB a_yields a_bears a_seen a_wagons a_rest a_isUsed c_thrown_19 c_isLaid c_head c_hasRows c_hasPlan c_rows c_slants c_capacity c_weight c_unload c_source c_bunker c_along c_endAt c_far c_isWaiting c_pile c_rowAt c_rowSize c_strip c_turns c_waiting c_what)) M hl.1 hW (t_X10_isWidth l g v3 r_35 hr) [] [0, 1, 2, 3, 4, 5, 6, 7, 8, 9, 10, 11] [0, 1, 2, 3, 4, 5, 6, 7, 8, 9, 10, 11] rfl rfl rfl rfl rfl rfl rfl (uw5 131 rfl rfl) (uw5 129 rfl rfl) (uw5 130 rfl rfl) (uw1 13 rfl rfl) ⟨by decide, by decide, by decide⟩ rfl ⟨by decide, by decide⟩ (Nat.le_of_ble_eq_true rfl) ⟨Nat.zero_le _, Nat.zero_le _⟩ (dd dX10_rows 19 rfl) (fun H locs hW => ?_)
        refine lv_if_ne (pc := 38) (tgt := 45) hx hb (dd dX10_rows 20 rfl) (by decide) (fun hc => ?_) (fun hc => ?_)
        · have h := it_f hc h
          refine lv_iconst (pc := 45) (v := 0) hx hb (dd dX10_rows 23 rfl) (by decide) ?_
          exact J46 _ _ _ _ _ _ _ _ _ _ _ _ _ _ _ _ _ _ _ h hW (lv_sub hl [0, 1, 2, 3] rfl)
        · have h := it_t hc h
          exact J41 _ _ _ _ _ _ _ _ _ _ _ _ _ _ _ _ _ _ h hW (lv_sub hl [0, 1, 2, 3] rfl)
  refine lv_aload_n (pc := 0) hx hb (dd dX10_rows 0 rfl) rfl (lv_at hl 0 rfl) ?_
  refine lv_iconst (pc := 1) (v := 0) hx hb (dd dX10_rows 1 rfl) (by decide) ?_
  refine rPut (pc := 2) M hW 0 0 tyX10 tyX10_ok nmX10 iU10 rfl rfl (by decide) (uw4 213 rfl rfl) rfl rfl rfl (Nat.le_of_ble_eq_true rfl) (dd dX10_rows 2 rfl) (ws' := (w_X10_rows g a_t a_along a_endAt a_far a_isWaiting a_pile a_rowAt a_rowSize a_strip a_turns a_waiting a_what a_cornerX a_cornerY a_corners a_plan a_slantA a_slantB a_yields a_bears a_seen a_wagons a_rest a_isUsed 0 c_isLaid c_head c_hasRows c_hasPlan c_rows c_slants c_capacity c_weight c_unload c_source c_bunker c_along c_endAt c_far c_isWaiting c_pile c_rowAt c_rowSize c_strip c_turns c_waiting c_what)) rfl (fun H locs hW => ?_)
  refine lv_aload_n (pc := 5) hx hb (dd dX10_rows 3 rfl) rfl (lv_at hl 0 rfl) ?_
  refine lv_aload_n (pc := 6) hx hb (dd dX10_rows 4 rfl) rfl (lv_at hl 0 rfl) ?_
  refine rGet (pc := 7) M hW 0 5 iU10 rfl rfl (by decide) (uw4 218 rfl rfl) rfl (dd dX10_rows 5 rfl) ?_
  refine lv_if_ne (pc := 10) (tgt := 17) hx hb (dd dX10_rows 6 rfl) (by decide) (fun hc => ?_) (fun hc => ?_)
  · have h := it_f hc h
    refine lv_iconst (pc := 17) (v := 0) hx hb (dd dX10_rows 9 rfl) (by decide) ?_
    exact J18 _ _ _ _ _ _ _ _ _ _ _ _ _ _ _ _ _ _ _ h hW (lv_sub hl [0, 1, 2, 3] rfl)
  · have h := it_t hc h
    refine lv_iconst (pc := 13) (v := 1) hx hb (dd dX10_rows 7 rfl) (by decide) ?_
    refine lv_goto (pc := 14) (tgt := 18) hx hb (dd dX10_rows 8 rfl) (by decide) ?_
    exact J18 _ _ _ _ _ _ _ _ _ _ _ _ _ _ _ _ _ _ _ h hW (lv_sub hl [0, 1, 2, 3] rfl)
abbrev w_X10_row (g : G9) (a_t a_endAt a_rowSize a_strip a_cornerX a_cornerY a_corners a_what a_rowAt a_along a_turns a_plan a_slantA a_slantB a_yields a_bears a_seen a_wagons a_pile a_far a_waiting a_isWaiting a_rest a_isUsed : Nat) (c_thrown c_isLaid c_head c_hasRows c_hasPlan c_rows c_slants c_capacity c_weight c_unload c_source c_bunker : Int32) (c_endAt c_rowSize c_strip : Ar) : va_W := [ob a_t 10 [.int c_thrown, .ref a_cornerX, .ref a_cornerY, .ref a_corners, .ref a_what, .int c_isLaid, .int c_head, .int c_hasRows, .int c_hasPlan, .int c_rows, .ref a_rowAt, .ref a_strip, .ref a_along, .ref a_rowSize, .ref a_endAt, .ref a_turns, .ref a_plan, .ref a_slantA, .ref a_slantB, .int c_slants, .ref a_yields, .ref a_bears, .int c_capacity, .int c_weight, .int c_unload, .ref a_seen, .ref a_wagons, .ref a_pile, .ref a_far, .int c_source, .ref a_waiting, .ref a_isWaiting, .ref a_rest, .ref a_isUsed, .int c_bunker], ia g a_endAt 122 c_endAt, ia g a_rowSize 61 c_rowSize, ia g a_strip 1200 c_strip]
noncomputable def X10_row_b52 (c_thrown : Int32) (c_endAt c_rowSize c_strip : Ar) (v1 v2 k1 : Int32) : Option (Int32 × Int32) :=
  bnd (X10_throwsIf c_thrown k1 2) <| un2 fun r_53 c_thrown_53 => if r_53 = 0 then ((if v2 = 0 then (ck (ix (2 * v1) 122) <| ck (ix (ag c_endAt (2 * v1)) 1200) <| some ((ag c_strip (ag c_endAt (2 * v1))), c_thrown_53)) else (if v2 = 1 then (ck (ix v1 61) <| some ((ag c_rowSize v1), c_thrown_53)) else (if v2 = 2 then (ck (ix (2 * v1) 122) <| some (((ag c_endAt (2 * v1)) - (ag c_endAt (2 * v1)) / 40 * 40), c_thrown_53)) else (if v2 = 3 then (ck (ix (2 * v1) 122) <| some (((ag c_endAt (2 * v1)) / 40), c_thrown_53)) else (if v2 = 4 then (ck (ix ((2 * v1) + 1) 122) <| some (((ag c_endAt ((2 * v1) + 1)) - (ag c_endAt ((2 * v1) + 1)) / 40 * 40), c_thrown_53)) else (ck (ix ((2 * v1) + 1) 122) <| some (((ag c_endAt ((2 * v1) + 1)) / 40), c_thrown_53)))))))) else (some (0, c_thrown_53))
noncomputable def X10_row_b47 (c_thrown : Int32) (c_endAt c_rowSize c_strip : Ar) (v1 v2 : Int32) : Option (Int32 × Int32) :=
  X10_row_b52 c_thrown c_endAt c_rowSize c_strip v1 v2 1
noncomputable def X10_row_b18 (c_thrown c_rows : Int32) (c_endAt c_rowSize c_strip : Ar) (v1 v2 k1 : Int32) : Option (Int32 × Int32) :=
  bnd (X10_throwsIf c_thrown k1 1) <| un2 fun r_19 c_thrown_19 => if r_19 = 0 then (if v1 < 0 then (X10_row_b47 c_thrown_19 c_endAt c_rowSize c_strip v1 v2) else (if c_rows ≤ v1 then (X10_row_b47 c_thrown_19 c_endAt c_rowSize c_strip v1 v2) else (if v2 < 0 then (X10_row_b47 c_thrown_19 c_endAt c_rowSize c_strip v1 v2) else (if v2 ≤ 5 then (X10_row_b52 c_thrown_19 c_endAt c_rowSize c_strip v1 v2 0) else (X10_row_b47 c_thrown_19 c_endAt c_rowSize c_strip v1 v2))))) else (some (0, c_thrown_19))
noncomputable def X10_row (c_thrown c_hasRows c_rows : Int32) (c_endAt c_rowSize c_strip : Ar) (v1 v2 : Int32) : Option (Int32 × Int32) :=
  if c_hasRows = 0 then (X10_row_b18 0 c_rows c_endAt c_rowSize c_strip v1 v2 1) else (X10_row_b18 0 c_rows c_endAt c_rowSize c_strip v1 v2 0)
set_option maxHeartbeats 4000000 in
set_option maxRecDepth 100000 in
theorem t_X10_row (l : Launch) (g : G9) (a_t a_endAt a_rowSize a_strip a_cornerX a_cornerY a_corners a_what a_rowAt a_along a_turns a_plan a_slantA a_slantB a_yields a_bears a_seen a_wagons a_pile a_far a_waiting a_isWaiting a_rest a_isUsed : Nat) (c_thrown c_isLaid c_head c_hasRows c_hasPlan c_rows c_slants c_capacity c_weight c_unload c_source c_bunker : Int32) (c_endAt c_rowSize c_strip : Ar) (v1 v2 r0 o_thrown : Int32) (h : X10_row c_thrown c_hasRows c_rows c_endAt c_rowSize c_strip v1 v2 = some (r0, o_thrown)) : CtI l g yX10_row cX10_row 3 .int 1 22 [.ref a_t, .int v1, .int v2] (w_X10_row g a_t a_endAt a_rowSize a_strip a_cornerX a_cornerY a_corners a_what a_rowAt a_along a_turns a_plan a_slantA a_slantB a_yields a_bears a_seen a_wagons a_pile a_far a_waiting a_isWaiting a_rest a_isUsed c_thrown c_isLaid c_head c_hasRows c_hasPlan c_rows c_slants c_capacity c_weight c_unload c_source c_bunker c_endAt c_rowSize c_strip) r0 (w_X10_row g a_t a_endAt a_rowSize a_strip a_cornerX a_cornerY a_corners a_what a_rowAt a_along a_turns a_plan a_slantA a_slantB a_yields a_bears a_seen a_wagons a_pile a_far a_waiting a_isWaiting a_rest a_isUsed o_thrown c_isLaid c_head c_hasRows c_hasPlan c_rows c_slants c_capacity c_weight c_unload c_source c_bunker c_endAt c_rowSize c_strip) := by
  refine startI (by decide) (Nat.le_of_ble_eq_true rfl) ?_
  intro p e s m below meth c A Q ls args M hW hl ret
  have hx := M.1
  have hb := M.2.1
  have hown := M.2.2.2.1
  have hu := M.2.2.2.2.1
  have hl : lv_has ls 3 [(0, .ref a_t), (1, .int v1), (2, .int v2)] := hl
  unfold X10_row at h
  obtain ⟨H, eH⟩ : ∃ z, z = s.heap := ⟨_, rfl⟩
  obtain ⟨locs, eL⟩ : ∃ z, z = ([] : List Loc) := ⟨_, rfl⟩
  rw [← eL] at hW ⊢
  suffices hS9 : WD g s A (w_X10_row g a_t a_endAt a_rowSize a_strip a_cornerX a_cornerY a_corners a_what a_rowAt a_along a_turns a_plan a_slantA a_slantB a_yields a_bears a_seen a_wagons a_pile a_far a_waiting a_isWaiting a_rest a_isUsed c_thrown c_isLaid c_head c_hasRows c_hasPlan c_rows c_slants c_capacity c_weight c_unload c_source c_bunker c_endAt c_rowSize c_strip) H locs → W p l e (rm9 1 22) s m args below meth c H locs 0 0 Q (F0 m 0 ls []) by
    rw [← eH] at hW ⊢
    exact hS9 hW
  clear hW eH eL
  intro hW
  have J52 : ∀ (c_thrown k1 : Int32) (H : Heap) (locs : List Loc) (ls : Array Slot), X10_row_b52 c_thrown c_endAt c_rowSize c_strip v1 v2 k1 = some (r0, o_thrown) → WD g s A (w_X10_row g a_t a_endAt a_rowSize a_strip a_cornerX a_cornerY a_corners a_what a_rowAt a_along a_turns a_plan a_slantA a_slantB a_yields a_bears a_seen a_wagons a_pile a_far a_waiting a_isWaiting a_rest a_isUsed c_thrown c_isLaid c_head c_hasRows c_hasPlan c_rows c_slants c_capacity c_weight c_unload c_source c_bunker c_endAt c_rowSize c_strip) H locs → lv_has ls 3 [(0, .ref a_t), (1, .int v1), (2, .int v2)] → W p l e (rm9 1 22) s m args below meth c H locs 0 0 Q (F0 m 52 ls [.int k1, .ref a_t]) := by
    intro c_thrown k1 H locs ls h hW hl
    unfold X10_row_b52 at h
    refine lv_iconst (pc := 52) (v := 2) hx hb (dd dX10_row_p0 28 rfl) (by decide) ?_
    obtain ⟨⟨r_53, c_thrown_53⟩, hr, h⟩ := bnd_ex h
    have h := un2_at h
    refine callVI (pc := 53) (na := 2) (As := [.int k1, .int 2]) (rest := []) (ws2 := (w_X10_row g a_t a_endAt a_rowSize a_strip a_cornerX a_cornerY a_corners a_what a_rowAt a_along a_turns a_plan a_slantA a_slantB a_yields a_bears a_seen a_wagons a_pile a_far a_waiting a_isWaiting a_rest a_isUsed c_thrown_53 c_isLaid c_head c_hasRows c_hasPlan c_rows c_slants c_capacity c_weight c_unload c_source c_bunker c_endAt c_rowSize c_strip)) M hl.1 hW (t_X10_throwsIf l g a_t a_cornerX a_cornerY a_corners a_what a_rowAt a_strip a_along a_rowSize a_endAt a_turns a_plan a_slantA a_slantB a_yields a_bears a_seen a_wagons a_pile a_far a_waiting a_isWaiting a_rest a_isUsed c_thrown c_isLaid c_head c_hasRows c_hasPlan c_rows c_slants c_capacity c_weight c_unload c_source c_bunker k1 2 r_53 c_thrown_53 hr) rfl [0] [1, 2, 3] [3, 0, 1, 2] rfl rfl rfl rfl rfl rfl rfl 0 10 rfl rfl rfl (uw5 86 rfl rfl) (uw5 83 rfl rfl) (uw5 85 rfl rfl) (uwp 41 rfl rfl) (uw1 13 rfl rfl) ⟨by decide, by decide, by decide⟩ rfl ⟨by decide, by decide⟩ (Nat.le_of_ble_eq_true rfl) ⟨Nat.zero_le _, Nat.zero_le _⟩ (dd dX10_row_p0 29 rfl) (fun H locs hW => ?_)
    refine lv_if_eq (pc := 56) (tgt := 61) hx hb (dd dX10_row_p0 30 rfl) (by decide) (fun hc => ?_) (fun hc => ?_)
    · have h := it_t hc h
      refine lv_iload_n (pc := 61) hx hb (dd dX10_row_p0 33 rfl) rfl (lv_at hl 2 rfl) ?_
      by_cases hc0 : v2 = 0
      · have h := it_t hc0 h
        refine lv_tableIn (pc := 62) (tgt := 96) hx hb (dd dX10_row_p0 34 rfl) (by rw [hc0]; decide) (by rw [hc0]; decide) (by rw [hc0]; rfl) (by decide) ?_
        refine lv_aload_n (pc := 96) hx hb (dd dX10_row_p0 35 rfl) rfl (lv_at hl 0 rfl) ?_
        refine rGet (pc := 97) M hW 0 11 iU10 rfl rfl (by decide) (uw4 224 rfl rfl) rfl (dd dX10_row_p0 36 rfl) ?_
        refine lv_aload_n (pc := 100) hx hb (dd dX10_row_p0 37 rfl) rfl (lv_at hl 0 rfl) ?_
        refine rGet (pc := 101) M hW 0 14 iU10 rfl rfl (by decide) (uw4 227 rfl rfl) rfl (dd dX10_row_p0 38 rfl) ?_
        refine lv_iconst (pc := 104) (v := 2) hx hb (dd dX10_row_p0 39 rfl) (by decide) ?_
        refine lv_iload_n (pc := 105) hx hb (dd dX10_row_p0 40 rfl) rfl (lv_at hl 1 rfl) ?_
        refine lv_imul (pc := 106) hx hb (dd dX10_row_p0 41 rfl) ?_
        obtain ⟨hi, h⟩ := ck_ex h
        refine rIald (pc := 107) M hW 1 rfl hi (dd dX10_row_p0 42 rfl) ?_
        obtain ⟨hi, h⟩ := ck_ex h
        refine rIald (pc := 108) M hW 3 rfl hi (dd dX10_row_p0 43 rfl) ?_
        have hW9 := hW
        cases h
        exact ret _ _ _ 109 hW9 rfl (dd dX10_row_p0 44 rfl)
      have h := it_f hc0 h
      by_cases hc1 : v2 = 1
      · have h := it_t hc1 h
        refine lv_tableIn (pc := 62) (tgt := 110) hx hb (dd dX10_row_p0 34 rfl) (by rw [hc1]; decide) (by rw [hc1]; decide) (by rw [hc1]; rfl) (by decide) ?_
        refine lv_aload_n (pc := 110) hx hb (dd dX10_row_p0 45 rfl) rfl (lv_at hl 0 rfl) ?_
        refine rGet (pc := 111) M hW 0 13 iU10 rfl rfl (by decide) (uw4 226 rfl rfl) rfl (dd dX10_row_p0 46 rfl) ?_
        refine lv_iload_n (pc := 114) hx hb (dd dX10_row_p0 47 rfl) rfl (lv_at hl 1 rfl) ?_
        obtain ⟨hi, h⟩ := ck_ex h
        refine rIald (pc := 115) M hW 2 rfl hi (dd dX10_row_p0 48 rfl) ?_
        have hW9 := hW
        cases h
        exact ret _ _ _ 116 hW9 rfl (dd dX10_row_p0 49 rfl)
      have h := it_f hc1 h
      by_cases hc2 : v2 = 2
      · have h := it_t hc2 h
        refine lv_tableIn (pc := 62) (tgt := 117) hx hb (dd dX10_row_p0 34 rfl) (by rw [hc2]; decide) (by rw [hc2]; decide) (by rw [hc2]; rfl) (by decide) ?_
        refine lv_aload_n (pc := 117) hx hb (dd dX10_row_p0 50 rfl) rfl (lv_at hl 0 rfl) ?_
        refine rGet (pc := 118) M hW 0 14 iU10 rfl rfl (by decide) (uw4 227 rfl rfl) rfl (dd dX10_row_p0 51 rfl) ?_
        refine lv_iconst (pc := 121) (v := 2) hx hb (dd dX10_row_p0 52 rfl) (by decide) ?_
        refine lv_iload_n (pc := 122) hx hb (dd dX10_row_p0 53 rfl) rfl (lv_at hl 1 rfl) ?_
        refine lv_imul (pc := 123) hx hb (dd dX10_row_p0 54 rfl) ?_
        obtain ⟨hi, h⟩ := ck_ex h
        refine rIald (pc := 124) M hW 1 rfl hi (dd dX10_row_p0 55 rfl) ?_
        refine lv_bipush (pc := 125) (v := 40) hx hb (dd dX10_row_p0 56 rfl) (by decide) ?_
        refine lv_irem (pc := 127) hx hb (dd dX10_row_p0 57 rfl) (by decide) ?_
        have hW9 := hW
        cases h
        exact ret _ _ _ 128 hW9 rfl (dd dX10_row_p0 58 rfl)
      have h := it_f hc2 h
      by_cases hc3 : v2 = 3
      · have h := it_t hc3 h
        refine lv_tableIn (pc := 62) (tgt := 129) hx hb (dd dX10_row_p0 34 rfl) (by rw [hc3]; decide) (by rw [hc3]; decide) (by rw [hc3]; rfl) (by decide) ?_
        refine lv_aload_n (pc := 129) hx hb (dd dX10_row_p0 59 rfl) rfl (lv_at hl 0 rfl) ?_
        refine rGet (pc := 130) M hW 0 14 iU10 rfl rfl (by decide) (uw4 227 rfl rfl) rfl (dd dX10_row_p1 0 rfl) ?_
        refine lv_iconst (pc := 133) (v := 2) hx hb (dd dX10_row_p1 1 rfl) (by decide) ?_
        refine lv_iload_n (pc := 134) hx hb (dd dX10_row_p1 2 rfl) rfl (lv_at hl 1 rfl) ?_
        refine lv_imul (pc := 135) hx hb (dd dX10_row_p1 3 rfl) ?_
        obtain ⟨hi, h⟩ := ck_ex h
        refine rIald (pc := 136) M hW 1 rfl hi (dd dX10_row_p1 4 rfl) ?_
        refine lv_bipush (pc := 137) (v := 40) hx hb (dd dX10_row_p1 5 rfl) (by decide) ?_
        refine lv_idiv (pc := 139) hx hb (dd dX10_row_p1 6 rfl) (by decide) ?_
        have hW9 := hW
        cases h
        exact ret _ _ _ 140 hW9 rfl (dd dX10_row_p1 7 rfl)
      have h := it_f hc3 h
      by_cases hc4 : v2 = 4
      · have h := it_t hc4 h
        refine lv_tableIn (pc := 62) (tgt := 141) hx hb (dd dX10_row_p0 34 rfl) (by rw [hc4]; decide) (by rw [hc4]; decide) (by rw [hc4]; rfl) (by decide) ?_
        refine lv_aload_n (pc := 141) hx hb (dd dX10_row_p1 8 rfl) rfl (lv_at hl 0 rfl) ?_
        refine rGet (pc := 142) M hW 0 14 iU10 rfl rfl (by decide) (uw4 227 rfl rfl) rfl (dd dX10_row_p1 9 rfl) ?_
        refine lv_iconst (pc := 145) (v := 2) hx hb (dd dX10_row_p1 10 rfl) (by decide) ?_
        refine lv_iload_n (pc := 146) hx hb (dd dX10_row_p1 11 rfl) rfl (lv_at hl 1 rfl) ?_
        refine lv_imul (pc := 147) hx hb (dd dX10_row_p1 12 rfl) ?_
        refine lv_iconst (pc := 148) (v := 1) hx hb (dd dX10_row_p1 13 rfl) (by decide) ?_
        refine lv_iadd (pc := 149) hx hb (dd dX10_row_p1 14 rfl) ?_
        obtain ⟨hi, h⟩ := ck_ex h
        refine rIald (pc := 150) M hW 1 rfl hi (dd dX10_row_p1 15 rfl) ?_
        refine lv_bipush (pc := 151) (v := 40) hx hb (dd dX10_row_p1 16 rfl) (by decide) ?_
        refine lv_irem (pc := 153) hx hb (dd dX10_row_p1 17 rfl) (by decide) ?_
        have hW9 := hW
        cases h
        exact ret _ _ _ 154 hW9 rfl (dd dX10_row_p1 18 rfl)
      have h := it_f hc4 h
      have hd0 := ne_toInt hc0 (a := 0) (by decide)
      have hd1 := ne_toInt hc1 (a := 1) (by decide)
      have hd2 := ne_toInt hc2 (a := 2) (by decide)
      have hd3 := ne_toInt hc3 (a := 3) (by decide)
      have hd4 := ne_toInt hc4 (a := 4) (by decide)
      refine lv_tableOut (pc := 62) (tgt := 155) hx hb (dd dX10_row_p0 34 rfl) (by omega) (by decide) ?_
      refine lv_aload_n (pc := 155) hx hb (dd dX10_row_p1 19 rfl) rfl (lv_at hl 0 rfl) ?_
      refine rGet (pc := 156) M hW 0 14 iU10 rfl rfl (by decide) (uw4 227 rfl rfl) rfl (dd dX10_row_p1 20 rfl) ?_
      refine lv_iconst (pc := 159) (v := 2) hx hb (dd dX10_row_p1 21 rfl) (by decide) ?_
      refine lv_iload_n (pc := 160) hx hb (dd dX10_row_p1 22 rfl) rfl (lv_at hl 1 rfl) ?_
      refine lv_imul (pc := 161) hx hb (dd dX10_row_p1 23 rfl) ?_
      refine lv_iconst (pc := 162) (v := 1) hx hb (dd dX10_row_p1 24 rfl) (by decide) ?_
      refine lv_iadd (pc := 163) hx hb (dd dX10_row_p1 25 rfl) ?_
      obtain ⟨hi, h⟩ := ck_ex h
      refine rIald (pc := 164) M hW 1 rfl hi (dd dX10_row_p1 26 rfl) ?_
      refine lv_bipush (pc := 165) (v := 40) hx hb (dd dX10_row_p1 27 rfl) (by decide) ?_
      refine lv_idiv (pc := 167) hx hb (dd dX10_row_p1 28 rfl) (by decide) ?_
      have hW9 := hW
      cases h
      exact ret _ _ _ 168 hW9 rfl (dd dX10_row_p1 29 rfl)
    · have h := it_f hc h
      refine lv_iconst (pc := 59) (v := 0) hx hb (dd dX10_row_p0 31 rfl) (by decide) ?_
      have hW9 := hW
      cases h
      exact ret _ _ _ 60 hW9 rfl (dd dX10_row_p0 32 rfl)
  have J47 : ∀ (c_thrown : Int32) (H : Heap) (locs : List Loc) (ls : Array Slot), X10_row_b47 c_thrown c_endAt c_rowSize c_strip v1 v2 = some (r0, o_thrown) → WD g s A (w_X10_row g a_t a_endAt a_rowSize a_strip a_cornerX a_cornerY a_corners a_what a_rowAt a_along a_turns a_plan a_slantA a_slantB a_yields a_bears a_seen a_wagons a_pile a_far a_waiting a_isWaiting a_rest a_isUsed c_thrown c_isLaid c_head c_hasRows c_hasPlan c_rows c_slants c_capacity c_weight c_unload c_source c_bunker c_endAt c_rowSize c_strip) H locs → lv_has ls 3 [(0, .ref a_t), (1, .int v1), (2, .int v2)] → W p l e (rm9 1 22) s m args below meth c H locs 0 0 Q (F0 m 47 ls [.ref a_t]) := by
    intro c_thrown H locs ls h hW hl
    unfold X10_row_b47 at h
    refine lv_iconst (pc := 47) (v := 1) hx hb (dd dX10_row_p0 25 rfl) (by decide) ?_
    refine lv_goto (pc := 48) (tgt := 52) hx hb (dd dX10_row_p0 26 rfl) (by decide) ?_
    exact J52 _ _ _ _ _ h hW (lv_sub hl [0, 1, 2] rfl)
  have J18 : ∀ (c_thrown k1 : Int32) (H : Heap) (locs : List Loc) (ls : Array Slot), X10_row_b18 c_thrown c_rows c_endAt c_rowSize c_strip v1 v2 k1 = some (r0, o_thrown) → WD g s A (w_X10_row g a_t a_endAt a_rowSize a_strip a_cornerX a_cornerY a_corners a_what a_rowAt a_along a_turns a_plan a_slantA a_slantB a_yields a_bears a_seen a_wagons a_pile a_far a_waiting a_isWaiting a_rest a_isUsed c_thrown c_isLaid c_head c_hasRows c_hasPlan c_rows c_slants c_capacity c_weight c_unload c_source c_bunker c_endAt c_rowSize c_strip) H locs → lv_has ls 3 [(0, .ref a_t), (1, .int v1), (2, .int v2)] → W p l e (rm9 1 22) s m args below meth c H locs 0 0 Q (F0 m 18 ls [.int k1, .ref a_t]) := by
    intro c_thrown k1 H locs ls h hW hl
    unfold X10_row_b18 at h
    refine lv_iconst (pc := 18) (v := 1) hx hb (dd dX10_row_p0 10 rfl) (by decide) ?_
    obtain ⟨⟨r_19, c_thrown_19⟩, hr, h⟩ := bnd_ex h
    have h := un2_at h
    refine callVI (pc := 19) (na := 2) (As := [.int k1, .int 1]) (rest := []) (ws2 := (w_X10_row g a_t a_endAt a_rowSize a_strip a_cornerX a_cornerY a_corners a_what a_rowAt a_along a_turns a_plan a_slantA a_slantB a_yields a_bears a_seen a_wagons a_pile a_far a_waiting a_isWaiting a_rest a_isUsed c_thrown_19 c_isLaid c_head c_hasRows c_hasPlan c_rows c_slants c_capacity c_weight c_unload c_source c_bunker c_endAt c_rowSize c_strip)) M hl.1 hW (t_X10_throwsIf l g a_t a_cornerX a_cornerY a_corners a_what a_rowAt a_strip a_along a_rowSize a_endAt a_turns a_plan a_slantA a_slantB a_yields a_bears a_seen a_wagons a_pile a_far a_waiting a_isWaiting a_rest a_isUsed c_thrown c_isLaid c_head c_hasRows c_hasPlan c_rows c_slants c_capacity c_weight c_unload c_source c_bunker k1 1 r_19 c_thrown_19 hr) rfl [0] [1, 2, 3] [3, 0, 1, 2] rfl rfl rfl rfl rfl rfl rfl 0 10 rfl rfl rfl (uw5 86 rfl rfl) (uw5 83 rfl rfl) (uw5 85 rfl rfl) (uwp 41 rfl rfl) (uw1 13 rfl rfl) ⟨by decide, by decide, by decide⟩ rfl ⟨by decide, by decide⟩ (Nat.le_of_ble_eq_true rfl) ⟨Nat.zero_le _, Nat.zero_le _⟩ (dd dX10_row_p0 11 rfl) (fun H locs hW => ?_)
    refine lv_if_ne (pc := 22) (tgt := 59) hx hb (dd dX10_row_p0 12 rfl) (by decide) (fun hc => ?_) (fun hc => ?_)
    · have h := it_f hc h
      refine lv_iconst (pc := 59) (v := 0) hx hb (dd dX10_row_p0 31 rfl) (by decide) ?_
      have hW9 := hW
      cases h
      exact ret _ _ _ 60 hW9 rfl (dd dX10_row_p0 32 rfl)
    · have h := it_t hc h
      refine lv_aload_n (pc := 25) hx hb (dd dX10_row_p0 13 rfl) rfl (lv_at hl 0 rfl) ?_
      refine lv_iload_n (pc := 26) hx hb (dd dX10_row_p0 14 rfl) rfl (lv_at hl 1 rfl) ?_
      refine lv_if_lt (pc := 27) (tgt := 47) hx hb (dd dX10_row_p0 15 rfl) (by decide) (fun hc => ?_) (fun hc => ?_)
      · have h := it_t hc h
        exact J47 _ _ _ _ h hW (lv_sub hl [0, 1, 2] rfl)
      · have h := it_f hc h
        refine lv_iload_n (pc := 30) hx hb (dd dX10_row_p0 16 rfl) rfl (lv_at hl 1 rfl) ?_
        refine lv_aload_n (pc := 31) hx hb (dd dX10_row_p0 17 rfl) rfl (lv_at hl 0 rfl) ?_
        refine rGet (pc := 32) M hW 0 9 iU10 rfl rfl (by decide) (uw4 222 rfl rfl) rfl (dd dX10_row_p0 18 rfl) ?_
        refine lv_icmp_ge (pc := 35) (tgt := 47) hx hb (dd dX10_row_p0 19 rfl) (by decide) (fun hc => ?_) (fun hc => ?_)
        · have h := it_t hc h
          exact J47 _ _ _ _ h hW (lv_sub hl [0, 1, 2] rfl)
        · have h := it_f hc h
          refine lv_iload_n (pc := 38) hx hb (dd dX10_row_p0 20 rfl) rfl (lv_at hl 2 rfl) ?_
          refine lv_if_lt (pc := 39) (tgt := 47) hx hb (dd dX10_row_p0 21 rfl) (by decide) (fun hc => ?_) (fun hc => ?_)
          · have h := it_t hc h
            exact J47 _ _ _ _ h hW (lv_sub hl [0, 1, 2] rfl)
          · have h := it_f hc h
            refine lv_iload_n (pc := 42) hx hb (dd dX10_row_p0 22 rfl) rfl (lv_at hl 2 rfl) ?_
            refine lv_iconst (pc := 43) (v := 5) hx hb (dd dX10_row_p0 23 rfl) (by decide) ?_
            refine lv_icmp_le (pc := 44) (tgt := 51) hx hb (dd dX10_row_p0 24 rfl) (by decide) (fun hc => ?_) (fun hc => ?_)
            · have h := it_t hc h
              refine lv_iconst (pc := 51) (v := 0) hx hb (dd dX10_row_p0 27 rfl) (by decide) ?_
              exact J52 _ _ _ _ _ h hW (lv_sub hl [0, 1, 2] rfl)
            · have h := it_f hc h
              exact J47 _ _ _ _ h hW (lv_sub hl [0, 1, 2] rfl)
  refine lv_aload_n (pc := 0) hx hb (dd dX10_row_p0 0 rfl) rfl (lv_at hl 0 rfl) ?_
  refine lv_iconst (pc := 1) (v := 0) hx hb (dd dX10_row_p0 1 rfl) (by decide) ?_
  refine rPut (pc := 2) M hW 0 0 tyX10 tyX10_ok nmX10 iU10 rfl rfl (by decide) (uw4 213 rfl rfl) rfl rfl rfl (Nat.le_of_ble_eq_true rfl) (dd dX10_row_p0 2 rfl) (ws' := (w_X10_row g a_t a_endAt a_rowSize a_strip a_cornerX a_cornerY a_corners a_what a_rowAt a_along a_turns a_plan a_slantA a_slantB a_yields a_bears a_seen a_wagons a_pile a_far a_waiting a_isWaiting a_rest a_isUsed 0 c_isLaid c_head c_hasRows c_hasPlan c_rows c_slants c_capacity c_weight c_unload c_source c_bunker c_endAt c_rowSize c_strip)) rfl (fun H locs hW => ?_)
  refine lv_aload_n (pc := 5) hx hb (dd dX10_row_p0 3 rfl) rfl (lv_at hl 0 rfl) ?_
  refine lv_aload_n (pc := 6) hx hb (dd dX10_row_p0 4 rfl) rfl (lv_at hl 0 rfl) ?_
  refine rGet (pc := 7) M hW 0 7 iU10 rfl rfl (by decide) (uw4 220 rfl rfl) rfl (dd dX10_row_p0 5 rfl) ?_
  refine lv_if_ne (pc := 10) (tgt := 17) hx hb (dd dX10_row_p0 6 rfl) (by decide) (fun hc => ?_) (fun hc => ?_)
  · have h := it_f hc h
    refine lv_iconst (pc := 17) (v := 0) hx hb (dd dX10_row_p0 9 rfl) (by decide) ?_
    exact J18 _ _ _ _ _ h hW (lv_sub hl [0, 1, 2] rfl)
  · have h := it_t hc h
    refine lv_iconst (pc := 13) (v := 1) hx hb (dd dX10_row_p0 7 rfl) (by decide) ?_
    refine lv_goto (pc := 14) (tgt := 18) hx hb (dd dX10_row_p0 8 rfl) (by decide) ?_
    exact J18 _ _ _ _ _ h hW (lv_sub hl [0, 1, 2] rfl)
abbrev w_X10_rowOf (g : G9) (a_t a_rowAt a_cornerX a_cornerY a_corners a_what a_strip a_along a_rowSize a_endAt a_turns a_plan a_slantA a_slantB a_yields a_bears a_seen a_wagons a_pile a_far a_waiting a_isWaiting a_rest a_isUsed : Nat) (c_thrown c_isLaid c_head c_hasRows c_hasPlan c_rows c_slants c_capacity c_weight c_unload c_source c_bunker : Int32) (c_rowAt : Ar) : va_W := [ob a_t 10 [.int c_thrown, .ref a_cornerX, .ref a_cornerY, .ref a_corners, .ref a_what, .int c_isLaid, .int c_head, .int c_hasRows, .int c_hasPlan, .int c_rows, .ref a_rowAt, .ref a_strip, .ref a_along, .ref a_rowSize, .ref a_endAt, .ref a_turns, .ref a_plan, .ref a_slantA, .ref a_slantB, .int c_slants, .ref a_yields, .ref a_bears, .int c_capacity, .int c_weight, .int c_unload, .ref a_seen, .ref a_wagons, .ref a_pile, .ref a_far, .int c_source, .ref a_waiting, .ref a_isWaiting, .ref a_rest, .ref a_isUsed, .int c_bunker], ia g a_rowAt 1200 c_rowAt]
noncomputable def X10_rowOf_b18 (c_thrown : Int32) (c_rowAt : Ar) (v1 v2 k1 : Int32) : Option (Int32 × Int32) :=
  bnd (X10_throwsIf c_thrown k1 1) <| un2 fun r_19 c_thrown_19 => if r_19 = 0 then (bnd (X10_noSquare v1 v2) <| fun r_29 => if r_29 = 0 then (ck (ix ((40 * v2) + v1) 1200) <| some ((ag c_rowAt ((40 * v2) + v1)), c_thrown_19)) else (some ((-1), c_thrown_19))) else (some (0, c_thrown_19))
noncomputable def X10_rowOf (c_thrown c_hasRows : Int32) (c_rowAt : Ar) (v1 v2 : Int32) : Option (Int32 × Int32) :=
  if c_hasRows = 0 then (X10_rowOf_b18 0 c_rowAt v1 v2 1) else (X10_rowOf_b18 0 c_rowAt v1 v2 0)
set_option maxHeartbeats 4000000 in
set_option maxRecDepth 100000 in
theorem t_X10_rowOf (l : Launch) (g : G9) (a_t a_rowAt a_cornerX a_cornerY a_corners a_what a_strip a_along a_rowSize a_endAt a_turns a_plan a_slantA a_slantB a_yields a_bears a_seen a_wagons a_pile a_far a_waiting a_isWaiting a_rest a_isUsed : Nat) (c_thrown c_isLaid c_head c_hasRows c_hasPlan c_rows c_slants c_capacity c_weight c_unload c_source c_bunker : Int32) (c_rowAt : Ar) (v1 v2 r0 o_thrown : Int32) (h : X10_rowOf c_thrown c_hasRows c_rowAt v1 v2 = some (r0, o_thrown)) : CtI l g yX10_rowOf cX10_rowOf 3 .int 1 22 [.ref a_t, .int v1, .int v2] (w_X10_rowOf g a_t a_rowAt a_cornerX a_cornerY a_corners a_what a_strip a_along a_rowSize a_endAt a_turns a_plan a_slantA a_slantB a_yields a_bears a_seen a_wagons a_pile a_far a_waiting a_isWaiting a_rest a_isUsed c_thrown c_isLaid c_head c_hasRows c_hasPlan c_rows c_slants c_capacity c_weight c_unload c_source c_bunker c_rowAt) r0 (w_X10_rowOf g a_t a_rowAt a_cornerX a_cornerY a_corners a_what a_strip a_along a_rowSize a_endAt a_turns a_plan a_slantA a_slantB a_yields a_bears a_seen a_wagons a_pile a_far a_waiting a_isWaiting a_rest a_isUsed o_thrown c_isLaid c_head c_hasRows c_hasPlan c_rows c_slants c_capacity c_weight c_unload c_source c_bunker c_rowAt) := by
  refine startI (by decide) (Nat.le_of_ble_eq_true rfl) ?_
  intro p e s m below meth c A Q ls args M hW hl ret
  have hx := M.1
  have hb := M.2.1
  have hown := M.2.2.2.1
  have hu := M.2.2.2.2.1
  have hl : lv_has ls 3 [(0, .ref a_t), (1, .int v1), (2, .int v2)] := hl
  unfold X10_rowOf at h
  obtain ⟨H, eH⟩ : ∃ z, z = s.heap := ⟨_, rfl⟩
  obtain ⟨locs, eL⟩ : ∃ z, z = ([] : List Loc) := ⟨_, rfl⟩
  rw [← eL] at hW ⊢
  suffices hS9 : WD g s A (w_X10_rowOf g a_t a_rowAt a_cornerX a_cornerY a_corners a_what a_strip a_along a_rowSize a_endAt a_turns a_plan a_slantA a_slantB a_yields a_bears a_seen a_wagons a_pile a_far a_waiting a_isWaiting a_rest a_isUsed c_thrown c_isLaid c_head c_hasRows c_hasPlan c_rows c_slants c_capacity c_weight c_unload c_source c_bunker c_rowAt) H locs → W p l e (rm9 1 22) s m args below meth c H locs 0 0 Q (F0 m 0 ls []) by
    rw [← eH] at hW ⊢
    exact hS9 hW
  clear hW eH eL
  intro hW
  have J18 : ∀ (c_thrown k1 : Int32) (H : Heap) (locs : List Loc) (ls : Array Slot), X10_rowOf_b18 c_thrown c_rowAt v1 v2 k1 = some (r0, o_thrown) → WD g s A (w_X10_rowOf g a_t a_rowAt a_cornerX a_cornerY a_corners a_what a_strip a_along a_rowSize a_endAt a_turns a_plan a_slantA a_slantB a_yields a_bears a_seen a_wagons a_pile a_far a_waiting a_isWaiting a_rest a_isUsed c_thrown c_isLaid c_head c_hasRows c_hasPlan c_rows c_slants c_capacity c_weight c_unload c_source c_bunker c_rowAt) H locs → lv_has ls 3 [(0, .ref a_t), (1, .int v1), (2, .int v2)] → W p l e (rm9 1 22) s m args below meth c H locs 0 0 Q (F0 m 18 ls [.int k1, .ref a_t]) := by
    intro c_thrown k1 H locs ls h hW hl
    unfold X10_rowOf_b18 at h
    refine lv_iconst (pc := 18) (v := 1) hx hb (dd dX10_rowOf 10 rfl) (by decide) ?_
    obtain ⟨⟨r_19, c_thrown_19⟩, hr, h⟩ := bnd_ex h
    have h := un2_at h
    refine callVI (pc := 19) (na := 2) (As := [.int k1, .int 1]) (rest := []) (ws2 := (w_X10_rowOf g a_t a_rowAt a_cornerX a_cornerY a_corners a_what a_strip a_along a_rowSize a_endAt a_turns a_plan a_slantA a_slantB a_yields a_bears a_seen a_wagons a_pile a_far a_waiting a_isWaiting a_rest a_isUsed c_thrown_19 c_isLaid c_head c_hasRows c_hasPlan c_rows c_slants c_capacity c_weight c_unload c_source c_bunker c_rowAt)) M hl.1 hW (t_X10_throwsIf l g a_t a_cornerX a_cornerY a_corners a_what a_rowAt a_strip a_along a_rowSize a_endAt a_turns a_plan a_slantA a_slantB a_yields a_bears a_seen a_wagons a_pile a_far a_waiting a_isWaiting a_rest a_isUsed c_thrown c_isLaid c_head c_hasRows c_hasPlan c_rows c_slants c_capacity c_weight c_unload c_source c_bunker k1 1 r_19 c_thrown_19 hr) rfl [0] [1] [1, 0] rfl rfl rfl rfl rfl rfl rfl 0 10 rfl rfl rfl (uw5 86 rfl rfl) (uw5 83 rfl rfl) (uw5 85 rfl rfl) (uwp 41 rfl rfl) (uw1 13 rfl rfl) ⟨by decide, by decide, by decide⟩ rfl ⟨by decide, by decide⟩ (Nat.le_of_ble_eq_true rfl) ⟨Nat.zero_le _, Nat.zero_le _⟩ (dd dX10_rowOf 11 rfl) (fun H locs hW => ?_)
    refine lv_if_eq (pc := 22) (tgt := 27) hx hb (dd dX10_rowOf 12 rfl) (by decide) (fun hc => ?_) (fun hc => ?_)
    · have h := it_t hc h
      refine lv_iload_n (pc := 27) hx hb (dd dX10_rowOf 15 rfl) rfl (lv_at hl 1 rfl) ?_
      refine lv_iload_n (pc := 28) hx hb (dd dX10_rowOf 16 rfl) rfl (lv_at hl 2 rfl) ?_
      obtain ⟨r_29, hr, h⟩ := bnd_ex h
      refine callSI (pc := 29) (na := 2) (As := [.int v1, .int v2]) (rest := []) (ws2 := (w_X10_rowOf g a_t a_rowAt a_cornerX a_cornerY a_corners a_what a_strip a_along a_rowSize a_endAt a_turns a_plan a_slantA a_slantB a_yields a_bears a_seen a_wagons a_pile a_far a_waiting a_isWaiting a_rest a_isUsed c_thrown_19 c_isLaid c_head c_hasRows c_hasPlan c_rows c_slants c_capacity c_weight c_unload c_source c_bunker c_rowAt)) M hl.1 hW (t_X10_noSquare l g v1 v2 r_29 hr) [] [0, 1] [0, 1] rfl rfl rfl rfl rfl rfl rfl (uw5 113 rfl rfl) (uw5 111 rfl rfl) (uw5 112 rfl rfl) (uw1 13 rfl rfl) ⟨by decide, by decide, by decide⟩ rfl ⟨by decide, by decide⟩ (Nat.le_of_ble_eq_true rfl) ⟨Nat.zero_le _, Nat.zero_le _⟩ (dd dX10_rowOf 17 rfl) (fun H locs hW => ?_)
      refine lv_if_eq (pc := 32) (tgt := 39) hx hb (dd dX10_rowOf 18 rfl) (by decide) (fun hc => ?_) (fun hc => ?_)
      · have h := it_t hc h
        refine lv_aload_n (pc := 39) hx hb (dd dX10_rowOf 21 rfl) rfl (lv_at hl 0 rfl) ?_
        refine rGet (pc := 40) M hW 0 10 iU10 rfl rfl (by decide) (uw4 223 rfl rfl) rfl (dd dX10_rowOf 22 rfl) ?_
        refine lv_bipush (pc := 43) (v := 40) hx hb (dd dX10_rowOf 23 rfl) (by decide) ?_
        refine lv_iload_n (pc := 45) hx hb (dd dX10_rowOf 24 rfl) rfl (lv_at hl 2 rfl) ?_
        refine lv_imul (pc := 46) hx hb (dd dX10_rowOf 25 rfl) ?_
        refine lv_iload_n (pc := 47) hx hb (dd dX10_rowOf 26 rfl) rfl (lv_at hl 1 rfl) ?_
        refine lv_iadd (pc := 48) hx hb (dd dX10_rowOf 27 rfl) ?_
        obtain ⟨hi, h⟩ := ck_ex h
        refine rIald (pc := 49) M hW 1 rfl hi (dd dX10_rowOf 28 rfl) ?_
        have hW9 := hW
        cases h
        exact ret _ _ _ 50 hW9 rfl (dd dX10_rowOf 29 rfl)
      · have h := it_f hc h
        refine lv_iconst (pc := 35) (v := (-1)) hx hb (dd dX10_rowOf 19 rfl) (by decide) ?_
        refine lv_goto (pc := 36) (tgt := 50) hx hb (dd dX10_rowOf 20 rfl) (by decide) ?_
        have hW9 := hW
        cases h
        exact ret _ _ _ 50 hW9 rfl (dd dX10_rowOf 29 rfl)
    · have h := it_f hc h
      refine lv_iconst (pc := 25) (v := 0) hx hb (dd dX10_rowOf 13 rfl) (by decide) ?_
      have hW9 := hW
      cases h
      exact ret _ _ _ 26 hW9 rfl (dd dX10_rowOf 14 rfl)
  refine lv_aload_n (pc := 0) hx hb (dd dX10_rowOf 0 rfl) rfl (lv_at hl 0 rfl) ?_
  refine lv_iconst (pc := 1) (v := 0) hx hb (dd dX10_rowOf 1 rfl) (by decide) ?_
  refine rPut (pc := 2) M hW 0 0 tyX10 tyX10_ok nmX10 iU10 rfl rfl (by decide) (uw4 213 rfl rfl) rfl rfl rfl (Nat.le_of_ble_eq_true rfl) (dd dX10_rowOf 2 rfl) (ws' := (w_X10_rowOf g a_t a_rowAt a_cornerX a_cornerY a_corners a_what a_strip a_along a_rowSize a_endAt a_turns a_plan a_slantA a_slantB a_yields a_bears a_seen a_wagons a_pile a_far a_waiting a_isWaiting a_rest a_isUsed 0 c_isLaid c_head c_hasRows c_hasPlan c_rows c_slants c_capacity c_weight c_unload c_source c_bunker c_rowAt)) rfl (fun H locs hW => ?_)
  refine lv_aload_n (pc := 5) hx hb (dd dX10_rowOf 3 rfl) rfl (lv_at hl 0 rfl) ?_
  refine lv_aload_n (pc := 6) hx hb (dd dX10_rowOf 4 rfl) rfl (lv_at hl 0 rfl) ?_
  refine rGet (pc := 7) M hW 0 7 iU10 rfl rfl (by decide) (uw4 220 rfl rfl) rfl (dd dX10_rowOf 5 rfl) ?_
  refine lv_if_ne (pc := 10) (tgt := 17) hx hb (dd dX10_rowOf 6 rfl) (by decide) (fun hc => ?_) (fun hc => ?_)
  · have h := it_f hc h
    refine lv_iconst (pc := 17) (v := 0) hx hb (dd dX10_rowOf 9 rfl) (by decide) ?_
    exact J18 _ _ _ _ _ h hW (lv_sub hl [0, 1, 2] rfl)
  · have h := it_t hc h
    refine lv_iconst (pc := 13) (v := 1) hx hb (dd dX10_rowOf 7 rfl) (by decide) ?_
    refine lv_goto (pc := 14) (tgt := 18) hx hb (dd dX10_rowOf 8 rfl) (by decide) ?_
    exact J18 _ _ _ _ _ h hW (lv_sub hl [0, 1, 2] rfl)
abbrev w_X10_way (g : G9) (a_t a_far a_isWaiting a_waiting a_what a_cornerX a_cornerY a_corners a_rowAt a_strip a_along a_rowSize a_endAt a_turns a_plan a_slantA a_slantB a_yields a_bears a_seen a_wagons a_pile a_rest a_isUsed : Nat) (c_thrown c_isLaid c_head c_hasRows c_hasPlan c_rows c_slants c_capacity c_weight c_unload c_source c_bunker : Int32) (c_far c_isWaiting c_waiting c_what : Ar) : va_W := [ob a_t 10 [.int c_thrown, .ref a_cornerX, .ref a_cornerY, .ref a_corners, .ref a_what, .int c_isLaid, .int c_head, .int c_hasRows, .int c_hasPlan, .int c_rows, .ref a_rowAt, .ref a_strip, .ref a_along, .ref a_rowSize, .ref a_endAt, .ref a_turns, .ref a_plan, .ref a_slantA, .ref a_slantB, .int c_slants, .ref a_yields, .ref a_bears, .int c_capacity, .int c_weight, .int c_unload, .ref a_seen, .ref a_wagons, .ref a_pile, .ref a_far, .int c_source, .ref a_waiting, .ref a_isWaiting, .ref a_rest, .ref a_isUsed, .int c_bunker], ia g a_far 1200 c_far, za g a_isWaiting 1200 c_isWaiting, ia g a_waiting 1200 c_waiting, ia g a_what 1200 c_what]
noncomputable def X10_way_b18 (c_thrown c_source : Int32) (c_far c_isWaiting c_waiting c_what : Ar) (v1 v2 v3 v4 k1 : Int32) : Option (Int32 × Int32 × Int32 × Ar × Ar × Ar) :=
  bnd (X10_throwsIf c_thrown k1 1) <| un2 fun r_19 c_thrown_19 => if r_19 = 0 then (bnd (X10_noSquare v1 v2) <| fun r_29 => if r_29 = 0 then (bnd (X10_noSquare v3 v4) <| fun r_38 => if r_38 = 0 then (ck (ix ((40 * v2) + v1) 1200) <| if (ag c_what ((40 * v2) + v1)) = 0 then (some ((-1), c_thrown_19, c_source, c_far, c_isWaiting, c_waiting)) else (ck (ix ((40 * v4) + v3) 1200) <| if (ag c_what ((40 * v4) + v3)) = 0 then (some ((-1), c_thrown_19, c_source, c_far, c_isWaiting, c_waiting)) else (bnd (X10_reaches c_source c_far c_isWaiting c_waiting c_what ((40 * v2) + v1)) <| un4 fun c_source_82 c_far_82 c_isWaiting_82 c_waiting_82 => bnd (X10_endWay c_source_82 c_far_82 c_what ((40 * v4) + v3)) <| fun r_93 => some (r_93, c_thrown_19, c_source_82, c_far_82, c_isWaiting_82, c_waiting_82)))) else (some ((-1), c_thrown_19, c_source, c_far, c_isWaiting, c_waiting))) else (some ((-1), c_thrown_19, c_source, c_far, c_isWaiting, c_waiting))) else (some (0, c_thrown_19, c_source, c_far, c_isWaiting, c_waiting))
noncomputable def X10_way (c_thrown c_isLaid c_source : Int32) (c_far c_isWaiting c_waiting c_what : Ar) (v1 v2 v3 v4 : Int32) : Option (Int32 × Int32 × Int32 × Ar × Ar × Ar) :=
  if c_isLaid = 0 then (X10_way_b18 0 c_source c_far c_isWaiting c_waiting c_what v1 v2 v3 v4 1) else (X10_way_b18 0 c_source c_far c_isWaiting c_waiting c_what v1 v2 v3 v4 0)
set_option maxHeartbeats 4000000 in
set_option maxRecDepth 100000 in
theorem t_X10_way (l : Launch) (g : G9) (a_t a_far a_isWaiting a_waiting a_what a_cornerX a_cornerY a_corners a_rowAt a_strip a_along a_rowSize a_endAt a_turns a_plan a_slantA a_slantB a_yields a_bears a_seen a_wagons a_pile a_rest a_isUsed : Nat) (c_thrown c_isLaid c_head c_hasRows c_hasPlan c_rows c_slants c_capacity c_weight c_unload c_source c_bunker : Int32) (c_far c_isWaiting c_waiting c_what : Ar) (v1 v2 v3 v4 r0 o_thrown o_source : Int32) (o_far o_isWaiting o_waiting : Ar) (h : X10_way c_thrown c_isLaid c_source c_far c_isWaiting c_waiting c_what v1 v2 v3 v4 = some (r0, o_thrown, o_source, o_far, o_isWaiting, o_waiting)) : CtI l g yX10_way cX10_way 5 .int 3 70 [.ref a_t, .int v1, .int v2, .int v3, .int v4] (w_X10_way g a_t a_far a_isWaiting a_waiting a_what a_cornerX a_cornerY a_corners a_rowAt a_strip a_along a_rowSize a_endAt a_turns a_plan a_slantA a_slantB a_yields a_bears a_seen a_wagons a_pile a_rest a_isUsed c_thrown c_isLaid c_head c_hasRows c_hasPlan c_rows c_slants c_capacity c_weight c_unload c_source c_bunker c_far c_isWaiting c_waiting c_what) r0 (w_X10_way g a_t a_far a_isWaiting a_waiting a_what a_cornerX a_cornerY a_corners a_rowAt a_strip a_along a_rowSize a_endAt a_turns a_plan a_slantA a_slantB a_yields a_bears a_seen a_wagons a_pile a_rest a_isUsed o_thrown c_isLaid c_head c_hasRows c_hasPlan c_rows c_slants c_capacity c_weight c_unload o_source c_bunker o_far o_isWaiting o_waiting c_what) := by
  refine startI (by decide) (Nat.le_of_ble_eq_true rfl) ?_
  intro p e s m below meth c A Q ls args M hW hl ret
  have hx := M.1
  have hb := M.2.1
  have hown := M.2.2.2.1
  have hu := M.2.2.2.2.1
  have hl : lv_has ls 5 [(0, .ref a_t), (1, .int v1), (2, .int v2), (3, .int v3), (4, .int v4)] := hl
  unfold X10_way at h
  obtain ⟨H, eH⟩ : ∃ z, z = s.heap := ⟨_, rfl⟩
  obtain ⟨locs, eL⟩ : ∃ z, z = ([] : List Loc) := ⟨_, rfl⟩
  rw [← eL] at hW ⊢
  suffices hS9 : WD g s A (w_X10_way g a_t a_far a_isWaiting a_waiting a_what a_cornerX a_cornerY a_corners a_rowAt a_strip a_along a_rowSize a_endAt a_turns a_plan a_slantA a_slantB a_yields a_bears a_seen a_wagons a_pile a_rest a_isUsed c_thrown c_isLaid c_head c_hasRows c_hasPlan c_rows c_slants c_capacity c_weight c_unload c_source c_bunker c_far c_isWaiting c_waiting c_what) H locs → W p l e (rm9 3 70) s m args below meth c H locs 0 0 Q (F0 m 0 ls []) by
    rw [← eH] at hW ⊢
    exact hS9 hW
  clear hW eH eL
  intro hW
  have J18 : ∀ (c_thrown c_source : Int32) (c_far c_isWaiting c_waiting : Ar) (k1 : Int32) (H : Heap) (locs : List Loc) (ls : Array Slot), X10_way_b18 c_thrown c_source c_far c_isWaiting c_waiting c_what v1 v2 v3 v4 k1 = some (r0, o_thrown, o_source, o_far, o_isWaiting, o_waiting) → WD g s A (w_X10_way g a_t a_far a_isWaiting a_waiting a_what a_cornerX a_cornerY a_corners a_rowAt a_strip a_along a_rowSize a_endAt a_turns a_plan a_slantA a_slantB a_yields a_bears a_seen a_wagons a_pile a_rest a_isUsed c_thrown c_isLaid c_head c_hasRows c_hasPlan c_rows c_slants c_capacity c_weight c_unload c_source c_bunker c_far c_isWaiting c_waiting c_what) H locs → lv_has ls 5 [(0, .ref a_t), (1, .int v1), (2, .int v2), (3, .int v3), (4, .int v4)] → W p l e (rm9 3 70) s m args below meth c H locs 0 0 Q (F0 m 18 ls [.int k1, .ref a_t]) := by
    intro c_thrown c_source c_far c_isWaiting c_waiting k1 H locs ls h hW hl
    unfold X10_way_b18 at h
    refine lv_iconst (pc := 18) (v := 1) hx hb (dd dX10_way 10 rfl) (by decide) ?_
    obtain ⟨⟨r_19, c_thrown_19⟩, hr, h⟩ := bnd_ex h
    have h := un2_at h
    refine callVI (pc := 19) (na := 2) (As := [.int k1, .int 1]) (rest := []) (ws2 := (w_X10_way g a_t a_far a_isWaiting a_waiting a_what a_cornerX a_cornerY a_corners a_rowAt a_strip a_along a_rowSize a_endAt a_turns a_plan a_slantA a_slantB a_yields a_bears a_seen a_wagons a_pile a_rest a_isUsed c_thrown_19 c_isLaid c_head c_hasRows c_hasPlan c_rows c_slants c_capacity c_weight c_unload c_source c_bunker c_far c_isWaiting c_waiting c_what)) M hl.1 hW (t_X10_throwsIf l g a_t a_cornerX a_cornerY a_corners a_what a_rowAt a_strip a_along a_rowSize a_endAt a_turns a_plan a_slantA a_slantB a_yields a_bears a_seen a_wagons a_pile a_far a_waiting a_isWaiting a_rest a_isUsed c_thrown c_isLaid c_head c_hasRows c_hasPlan c_rows c_slants c_capacity c_weight c_unload c_source c_bunker k1 1 r_19 c_thrown_19 hr) rfl [0] [1, 2, 3, 4] [4, 0, 1, 2, 3] rfl rfl rfl rfl rfl rfl rfl 0 10 rfl rfl rfl (uw5 86 rfl rfl) (uw5 83 rfl rfl) (uw5 85 rfl rfl) (uwp 41 rfl rfl) (uw1 13 rfl rfl) ⟨by decide, by decide, by decide⟩ rfl ⟨by decide, by decide⟩ (Nat.le_of_ble_eq_true rfl) ⟨Nat.zero_le _, Nat.zero_le _⟩ (dd dX10_way 11 rfl) (fun H locs hW => ?_)
    refine lv_if_eq (pc := 22) (tgt := 27) hx hb (dd dX10_way 12 rfl) (by decide) (fun hc => ?_) (fun hc => ?_)
    · have h := it_t hc h
      refine lv_iload_n (pc := 27) hx hb (dd dX10_way 15 rfl) rfl (lv_at hl 1 rfl) ?_
      refine lv_iload_n (pc := 28) hx hb (dd dX10_way 16 rfl) rfl (lv_at hl 2 rfl) ?_
      obtain ⟨r_29, hr, h⟩ := bnd_ex h
      refine callSI (pc := 29) (na := 2) (As := [.int v1, .int v2]) (rest := []) (ws2 := (w_X10_way g a_t a_far a_isWaiting a_waiting a_what a_cornerX a_cornerY a_corners a_rowAt a_strip a_along a_rowSize a_endAt a_turns a_plan a_slantA a_slantB a_yields a_bears a_seen a_wagons a_pile a_rest a_isUsed c_thrown_19 c_isLaid c_head c_hasRows c_hasPlan c_rows c_slants c_capacity c_weight c_unload c_source c_bunker c_far c_isWaiting c_waiting c_what)) M hl.1 hW (t_X10_noSquare l g v1 v2 r_29 hr) [] [0, 1, 2, 3, 4] [0, 1, 2, 3, 4] rfl rfl rfl rfl rfl rfl rfl (uw5 113 rfl rfl) (uw5 111 rfl rfl) (uw5 112 rfl rfl) (uw1 13 rfl rfl) ⟨by decide, by decide, by decide⟩ rfl ⟨by decide, by decide⟩ (Nat.le_of_ble_eq_true rfl) ⟨Nat.zero_le _, Nat.zero_le _⟩ (dd dX10_way 17 rfl) (fun H locs hW => ?_)
      refine lv_if_ne (pc := 32) (tgt := 73) hx hb (dd dX10_way 18 rfl) (by decide) (fun hc => ?_) (fun hc => ?_)
      · have h := it_f hc h
        refine lv_iconst (pc := 73) (v := (-1)) hx hb (dd dX10_way 41 rfl) (by decide) ?_
        have hW9 := hW
        cases h
        exact ret _ _ _ 74 hW9 rfl (dd dX10_way 42 rfl)
      · have h := it_t hc h
        refine lv_iload_n (pc := 35) hx hb (dd dX10_way 19 rfl) rfl (lv_at hl 3 rfl) ?_
        refine lv_iload (pc := 36) hx hb (dd dX10_way 20 rfl) (lv_at hl 4 rfl) ?_
        obtain ⟨r_38, hr, h⟩ := bnd_ex h
        refine callSI (pc := 38) (na := 2) (As := [.int v3, .int v4]) (rest := []) (ws2 := (w_X10_way g a_t a_far a_isWaiting a_waiting a_what a_cornerX a_cornerY a_corners a_rowAt a_strip a_along a_rowSize a_endAt a_turns a_plan a_slantA a_slantB a_yields a_bears a_seen a_wagons a_pile a_rest a_isUsed c_thrown_19 c_isLaid c_head c_hasRows c_hasPlan c_rows c_slants c_capacity c_weight c_unload c_source c_bunker c_far c_isWaiting c_waiting c_what)) M hl.1 hW (t_X10_noSquare l g v3 v4 r_38 hr) [] [0, 1, 2, 3, 4] [0, 1, 2, 3, 4] rfl rfl rfl rfl rfl rfl rfl (uw5 113 rfl rfl) (uw5 111 rfl rfl) (uw5 112 rfl rfl) (uw1 13 rfl rfl) ⟨by decide, by decide, by decide⟩ rfl ⟨by decide, by decide⟩ (Nat.le_of_ble_eq_true rfl) ⟨Nat.zero_le _, Nat.zero_le _⟩ (dd dX10_way 21 rfl) (fun H locs hW => ?_)
        refine lv_if_ne (pc := 41) (tgt := 73) hx hb (dd dX10_way 22 rfl) (by decide) (fun hc => ?_) (fun hc => ?_)
        · have h := it_f hc h
          refine lv_iconst (pc := 73) (v := (-1)) hx hb (dd dX10_way 41 rfl) (by decide) ?_
          have hW9 := hW
          cases h
          exact ret _ _ _ 74 hW9 rfl (dd dX10_way 42 rfl)
        · have h := it_t hc h
          refine lv_aload_n (pc := 44) hx hb (dd dX10_way 23 rfl) rfl (lv_at hl 0 rfl) ?_
          refine rGet (pc := 45) M hW 0 4 iU10 rfl rfl (by decide) (uw4 217 rfl rfl) rfl (dd dX10_way 24 rfl) ?_
          refine lv_bipush (pc := 48) (v := 40) hx hb (dd dX10_way 25 rfl) (by decide) ?_
          refine lv_iload_n (pc := 50) hx hb (dd dX10_way 26 rfl) rfl (lv_at hl 2 rfl) ?_
          refine lv_imul (pc := 51) hx hb (dd dX10_way 27 rfl) ?_
          refine lv_iload_n (pc := 52) hx hb (dd dX10_way 28 rfl) rfl (lv_at hl 1 rfl) ?_
          refine lv_iadd (pc := 53) hx hb (dd dX10_way 29 rfl) ?_
          obtain ⟨hi, h⟩ := ck_ex h
          refine rIald (pc := 54) M hW 4 rfl hi (dd dX10_way 30 rfl) ?_
          refine lv_if_eq (pc := 55) (tgt := 73) hx hb (dd dX10_way 31 rfl) (by decide) (fun hc => ?_) (fun hc => ?_)
          · have h := it_t hc h
            refine lv_iconst (pc := 73) (v := (-1)) hx hb (dd dX10_way 41 rfl) (by decide) ?_
            have hW9 := hW
            cases h
            exact ret _ _ _ 74 hW9 rfl (dd dX10_way 42 rfl)
          · have h := it_f hc h
            refine lv_aload_n (pc := 58) hx hb (dd dX10_way 32 rfl) rfl (lv_at hl 0 rfl) ?_
            refine rGet (pc := 59) M hW 0 4 iU10 rfl rfl (by decide) (uw4 217 rfl rfl) rfl (dd dX10_way 33 rfl) ?_
            refine lv_bipush (pc := 62) (v := 40) hx hb (dd dX10_way 34 rfl) (by decide) ?_
            refine lv_iload (pc := 64) hx hb (dd dX10_way 35 rfl) (lv_at hl 4 rfl) ?_
            refine lv_imul (pc := 66) hx hb (dd dX10_way 36 rfl) ?_
            refine lv_iload_n (pc := 67) hx hb (dd dX10_way 37 rfl) rfl (lv_at hl 3 rfl) ?_
            refine lv_iadd (pc := 68) hx hb (dd dX10_way 38 rfl) ?_
            obtain ⟨hi, h⟩ := ck_ex h
            refine rIald (pc := 69) M hW 4 rfl hi (dd dX10_way 39 rfl) ?_
            refine lv_if_ne (pc := 70) (tgt := 75) hx hb (dd dX10_way 40 rfl) (by decide) (fun hc => ?_) (fun hc => ?_)
            · have h := it_f hc h
              refine lv_aload_n (pc := 75) hx hb (dd dX10_way 43 rfl) rfl (lv_at hl 0 rfl) ?_
              refine lv_bipush (pc := 76) (v := 40) hx hb (dd dX10_way 44 rfl) (by decide) ?_
              refine lv_iload_n (pc := 78) hx hb (dd dX10_way 45 rfl) rfl (lv_at hl 2 rfl) ?_
              refine lv_imul (pc := 79) hx hb (dd dX10_way 46 rfl) ?_
              refine lv_iload_n (pc := 80) hx hb (dd dX10_way 47 rfl) rfl (lv_at hl 1 rfl) ?_
              refine lv_iadd (pc := 81) hx hb (dd dX10_way 48 rfl) ?_
              obtain ⟨⟨c_source_82, c_far_82, c_isWaiting_82, c_waiting_82⟩, hr, h⟩ := bnd_ex h
              have h := un4_at h
              refine callVV (pc := 82) (na := 1) (As := [.int ((40 * v2) + v1)]) (rest := []) (ws2 := (w_X10_way g a_t a_far a_isWaiting a_waiting a_what a_cornerX a_cornerY a_corners a_rowAt a_strip a_along a_rowSize a_endAt a_turns a_plan a_slantA a_slantB a_yields a_bears a_seen a_wagons a_pile a_rest a_isUsed c_thrown_19 c_isLaid c_head c_hasRows c_hasPlan c_rows c_slants c_capacity c_weight c_unload c_source_82 c_bunker c_far_82 c_isWaiting_82 c_waiting_82 c_what)) M hl.1 hW (t_X10_reaches l g a_t a_far a_isWaiting a_waiting a_what a_cornerX a_cornerY a_corners a_rowAt a_strip a_along a_rowSize a_endAt a_turns a_plan a_slantA a_slantB a_yields a_bears a_seen a_wagons a_pile a_rest a_isUsed c_thrown_19 c_isLaid c_head c_hasRows c_hasPlan c_rows c_slants c_capacity c_weight c_unload c_source c_bunker c_far c_isWaiting c_waiting c_what ((40 * v2) + v1) c_source_82 c_far_82 c_isWaiting_82 c_waiting_82 hr) rfl [0, 1, 2, 3, 4] [] [0, 1, 2, 3, 4] rfl rfl rfl rfl rfl rfl rfl 0 10 rfl rfl rfl (uw5 152 rfl rfl) (uw5 149 rfl rfl) (uw5 151 rfl rfl) (uwp 50 rfl rfl) (uw1 13 rfl rfl) ⟨by decide, by decide, by decide⟩ rfl ⟨by decide, by decide⟩ (Nat.le_of_ble_eq_true rfl) ⟨Nat.zero_le _, Nat.zero_le _⟩ (dd dX10_way 49 rfl) (fun H locs hW => ?_)
              refine lv_aload_n (pc := 85) hx hb (dd dX10_way 50 rfl) rfl (lv_at hl 0 rfl) ?_
              refine lv_bipush (pc := 86) (v := 40) hx hb (dd dX10_way 51 rfl) (by decide) ?_
              refine lv_iload (pc := 88) hx hb (dd dX10_way 52 rfl) (lv_at hl 4 rfl) ?_
              refine lv_imul (pc := 90) hx hb (dd dX10_way 53 rfl) ?_
              refine lv_iload_n (pc := 91) hx hb (dd dX10_way 54 rfl) rfl (lv_at hl 3 rfl) ?_
              refine lv_iadd (pc := 92) hx hb (dd dX10_way 55 rfl) ?_
              obtain ⟨r_93, hr, h⟩ := bnd_ex h
              refine callVI (pc := 93) (na := 1) (As := [.int ((40 * v4) + v3)]) (rest := []) (ws2 := (w_X10_way g a_t a_far a_isWaiting a_waiting a_what a_cornerX a_cornerY a_corners a_rowAt a_strip a_along a_rowSize a_endAt a_turns a_plan a_slantA a_slantB a_yields a_bears a_seen a_wagons a_pile a_rest a_isUsed c_thrown_19 c_isLaid c_head c_hasRows c_hasPlan c_rows c_slants c_capacity c_weight c_unload c_source_82 c_bunker c_far_82 c_isWaiting_82 c_waiting_82 c_what)) M hl.1 hW (t_X10_endWay l g a_t a_far a_what a_cornerX a_cornerY a_corners a_rowAt a_strip a_along a_rowSize a_endAt a_turns a_plan a_slantA a_slantB a_yields a_bears a_seen a_wagons a_pile a_waiting a_isWaiting a_rest a_isUsed c_thrown_19 c_isLaid c_head c_hasRows c_hasPlan c_rows c_slants c_capacity c_weight c_unload c_source_82 c_bunker c_far_82 c_what ((40 * v4) + v3) r_93 hr) rfl [0, 1, 4] [2, 3] [2, 3, 0, 1, 4] rfl rfl rfl rfl rfl rfl rfl 0 10 rfl rfl rfl (uw5 157 rfl rfl) (uw5 154 rfl rfl) (uw5 156 rfl rfl) (uwp 51 rfl rfl) (uw1 13 rfl rfl) ⟨by decide, by decide, by decide⟩ rfl ⟨by decide, by decide⟩ (Nat.le_of_ble_eq_true rfl) ⟨Nat.zero_le _, Nat.zero_le _⟩ (dd dX10_way 56 rfl) (fun H locs hW => ?_)
              have hW9 := hW
              cases h
              exact ret _ _ _ 96 hW9 rfl (dd dX10_way 57 rfl)
            · have h := it_t hc h
              refine lv_iconst (pc := 73) (v := (-1)) hx hb (dd dX10_way 41 rfl) (by decide) ?_
              have hW9 := hW
              cases h
              exact ret _ _ _ 74 hW9 rfl (dd dX10_way 42 rfl)
    · have h := it_f hc h
      refine lv_iconst (pc := 25) (v := 0) hx hb (dd dX10_way 13 rfl) (by decide) ?_
      have hW9 := hW
      cases h
      exact ret _ _ _ 26 hW9 rfl (dd dX10_way 14 rfl)
  refine lv_aload_n (pc := 0) hx hb (dd dX10_way 0 rfl) rfl (lv_at hl 0 rfl) ?_
  refine lv_iconst (pc := 1) (v := 0) hx hb (dd dX10_way 1 rfl) (by decide) ?_
  refine rPut (pc := 2) M hW 0 0 tyX10 tyX10_ok nmX10 iU10 rfl rfl (by decide) (uw4 213 rfl rfl) rfl rfl rfl (Nat.le_of_ble_eq_true rfl) (dd dX10_way 2 rfl) (ws' := (w_X10_way g a_t a_far a_isWaiting a_waiting a_what a_cornerX a_cornerY a_corners a_rowAt a_strip a_along a_rowSize a_endAt a_turns a_plan a_slantA a_slantB a_yields a_bears a_seen a_wagons a_pile a_rest a_isUsed 0 c_isLaid c_head c_hasRows c_hasPlan c_rows c_slants c_capacity c_weight c_unload c_source c_bunker c_far c_isWaiting c_waiting c_what)) rfl (fun H locs hW => ?_)
  refine lv_aload_n (pc := 5) hx hb (dd dX10_way 3 rfl) rfl (lv_at hl 0 rfl) ?_
  refine lv_aload_n (pc := 6) hx hb (dd dX10_way 4 rfl) rfl (lv_at hl 0 rfl) ?_
  refine rGet (pc := 7) M hW 0 5 iU10 rfl rfl (by decide) (uw4 218 rfl rfl) rfl (dd dX10_way 5 rfl) ?_
  refine lv_if_ne (pc := 10) (tgt := 17) hx hb (dd dX10_way 6 rfl) (by decide) (fun hc => ?_) (fun hc => ?_)
  · have h := it_f hc h
    refine lv_iconst (pc := 17) (v := 0) hx hb (dd dX10_way 9 rfl) (by decide) ?_
    exact J18 _ _ _ _ _ _ _ _ _ h hW (lv_sub hl [0, 1, 2, 3, 4] rfl)
  · have h := it_t hc h
    refine lv_iconst (pc := 13) (v := 1) hx hb (dd dX10_way 7 rfl) (by decide) ?_
    refine lv_goto (pc := 14) (tgt := 18) hx hb (dd dX10_way 8 rfl) (by decide) ?_
    exact J18 _ _ _ _ _ _ _ _ _ h hW (lv_sub hl [0, 1, 2, 3, 4] rfl)
abbrev w_X10_noEnd (g : G9) (a_t a_cornerX a_cornerY a_corners a_what a_rowAt a_strip a_along a_rowSize a_endAt a_turns a_plan a_slantA a_slantB a_yields a_bears a_seen a_wagons a_pile a_far a_waiting a_isWaiting a_rest a_isUsed : Nat) (c_thrown c_isLaid c_head c_hasRows c_hasPlan c_rows c_slants c_capacity c_weight c_unload c_source c_bunker : Int32) : va_W := [ob a_t 10 [.int c_thrown, .ref a_cornerX, .ref a_cornerY, .ref a_corners, .ref a_what, .int c_isLaid, .int c_head, .int c_hasRows, .int c_hasPlan, .int c_rows, .ref a_rowAt, .ref a_strip, .ref a_along, .ref a_rowSize, .ref a_endAt, .ref a_turns, .ref a_plan, .ref a_slantA, .ref a_slantB, .int c_slants, .ref a_yields, .ref a_bears, .int c_capacity, .int c_weight, .int c_unload, .ref a_seen, .ref a_wagons, .ref a_pile, .ref a_far, .int c_source, .ref a_waiting, .ref a_isWaiting, .ref a_rest, .ref a_isUsed, .int c_bunker]]
noncomputable def X10_noEnd_b14  : Option Int32 :=
  some 1
noncomputable def X10_noEnd (c_rows v1 : Int32) : Option Int32 :=
  if v1 < 0 then (X10_noEnd_b14 ) else (if v1 < (2 * c_rows) then (some 0) else (X10_noEnd_b14 ))
set_option maxHeartbeats 4000000 in
set_option maxRecDepth 100000 in
theorem t_X10_noEnd (l : Launch) (g : G9) (a_t a_cornerX a_cornerY a_corners a_what a_rowAt a_strip a_along a_rowSize a_endAt a_turns a_plan a_slantA a_slantB a_yields a_bears a_seen a_wagons a_pile a_far a_waiting a_isWaiting a_rest a_isUsed : Nat) (c_thrown c_isLaid c_head c_hasRows c_hasPlan c_rows c_slants c_capacity c_weight c_unload c_source c_bunker v1 r0 : Int32) (h : X10_noEnd c_rows v1 = some r0) : CtI l g yX10_noEnd cX10_noEnd 2 .boolean 0 0 [.ref a_t, .int v1] (w_X10_noEnd g a_t a_cornerX a_cornerY a_corners a_what a_rowAt a_strip a_along a_rowSize a_endAt a_turns a_plan a_slantA a_slantB a_yields a_bears a_seen a_wagons a_pile a_far a_waiting a_isWaiting a_rest a_isUsed c_thrown c_isLaid c_head c_hasRows c_hasPlan c_rows c_slants c_capacity c_weight c_unload c_source c_bunker) r0 (w_X10_noEnd g a_t a_cornerX a_cornerY a_corners a_what a_rowAt a_strip a_along a_rowSize a_endAt a_turns a_plan a_slantA a_slantB a_yields a_bears a_seen a_wagons a_pile a_far a_waiting a_isWaiting a_rest a_isUsed c_thrown c_isLaid c_head c_hasRows c_hasPlan c_rows c_slants c_capacity c_weight c_unload c_source c_bunker) := by
  refine startI (by decide) (Nat.le_of_ble_eq_true rfl) ?_
  intro p e s m below meth c A Q ls args M hW hl ret
  have hx := M.1
  have hb := M.2.1
  have hown := M.2.2.2.1
  have hu := M.2.2.2.2.1
  have hl : lv_has ls 2 [(0, .ref a_t), (1, .int v1)] := hl
  unfold X10_noEnd at h
  obtain ⟨H, eH⟩ : ∃ z, z = s.heap := ⟨_, rfl⟩
  obtain ⟨locs, eL⟩ : ∃ z, z = ([] : List Loc) := ⟨_, rfl⟩
  rw [← eL] at hW ⊢
  suffices hS9 : WD g s A (w_X10_noEnd g a_t a_cornerX a_cornerY a_corners a_what a_rowAt a_strip a_along a_rowSize a_endAt a_turns a_plan a_slantA a_slantB a_yields a_bears a_seen a_wagons a_pile a_far a_waiting a_isWaiting a_rest a_isUsed c_thrown c_isLaid c_head c_hasRows c_hasPlan c_rows c_slants c_capacity c_weight c_unload c_source c_bunker) H locs → W p l e (rm9 0 0) s m args below meth c H locs 0 0 Q (F0 m 0 ls []) by
    rw [← eH] at hW ⊢
    exact hS9 hW
  clear hW eH eL
  intro hW
  have J14 : ∀ (H : Heap) (locs : List Loc) (ls : Array Slot), X10_noEnd_b14  = some r0 → WD g s A (w_X10_noEnd g a_t a_cornerX a_cornerY a_corners a_what a_rowAt a_strip a_along a_rowSize a_endAt a_turns a_plan a_slantA a_slantB a_yields a_bears a_seen a_wagons a_pile a_far a_waiting a_isWaiting a_rest a_isUsed c_thrown c_isLaid c_head c_hasRows c_hasPlan c_rows c_slants c_capacity c_weight c_unload c_source c_bunker) H locs → lv_has ls 2 [] → W p l e (rm9 0 0) s m args below meth c H locs 0 0 Q (F0 m 14 ls []) := by
    intro H locs ls h hW hl
    unfold X10_noEnd_b14 at h
    refine lv_iconst (pc := 14) (v := 1) hx hb (dd dX10_noEnd 8 rfl) (by decide) ?_
    refine lv_goto (pc := 15) (tgt := 19) hx hb (dd dX10_noEnd 9 rfl) (by decide) ?_
    have hW9 := hW
    cases h
    exact ret _ _ _ 19 hW9 rfl (dd dX10_noEnd 11 rfl)
  refine lv_iload_n (pc := 0) hx hb (dd dX10_noEnd 0 rfl) rfl (lv_at hl 1 rfl) ?_
  refine lv_if_lt (pc := 1) (tgt := 14) hx hb (dd dX10_noEnd 1 rfl) (by decide) (fun hc => ?_) (fun hc => ?_)
  · have h := it_t hc h
    exact J14 _ _ _ h hW (lv_sub hl [] rfl)
  · have h := it_f hc h
    refine lv_iload_n (pc := 4) hx hb (dd dX10_noEnd 2 rfl) rfl (lv_at hl 1 rfl) ?_
    refine lv_iconst (pc := 5) (v := 2) hx hb (dd dX10_noEnd 3 rfl) (by decide) ?_
    refine lv_aload_n (pc := 6) hx hb (dd dX10_noEnd 4 rfl) rfl (lv_at hl 0 rfl) ?_
    refine rGet (pc := 7) M hW 0 9 iU10 rfl rfl (by decide) (uw4 222 rfl rfl) rfl (dd dX10_noEnd 5 rfl) ?_
    refine lv_imul (pc := 10) hx hb (dd dX10_noEnd 6 rfl) ?_
    refine lv_icmp_lt (pc := 11) (tgt := 18) hx hb (dd dX10_noEnd 7 rfl) (by decide) (fun hc => ?_) (fun hc => ?_)
    · have h := it_t hc h
      refine lv_iconst (pc := 18) (v := 0) hx hb (dd dX10_noEnd 10 rfl) (by decide) ?_
      have hW9 := hW
      cases h
      exact ret _ _ _ 19 hW9 rfl (dd dX10_noEnd 11 rfl)
    · have h := it_f hc h
      exact J14 _ _ _ h hW (lv_sub hl [] rfl)
abbrev w_X10_turnOf (g : G9) (a_t a_turns a_cornerX a_cornerY a_corners a_what a_rowAt a_strip a_along a_rowSize a_endAt a_plan a_slantA a_slantB a_yields a_bears a_seen a_wagons a_pile a_far a_waiting a_isWaiting a_rest a_isUsed : Nat) (c_thrown c_isLaid c_head c_hasRows c_hasPlan c_rows c_slants c_capacity c_weight c_unload c_source c_bunker : Int32) (c_turns : Ar) : va_W := [ob a_t 10 [.int c_thrown, .ref a_cornerX, .ref a_cornerY, .ref a_corners, .ref a_what, .int c_isLaid, .int c_head, .int c_hasRows, .int c_hasPlan, .int c_rows, .ref a_rowAt, .ref a_strip, .ref a_along, .ref a_rowSize, .ref a_endAt, .ref a_turns, .ref a_plan, .ref a_slantA, .ref a_slantB, .int c_slants, .ref a_yields, .ref a_bears, .int c_capacity, .int c_weight, .int c_unload, .ref a_seen, .ref a_wagons, .ref a_pile, .ref a_far, .int c_source, .ref a_waiting, .ref a_isWaiting, .ref a_rest, .ref a_isUsed, .int c_bunker], ia g a_turns 14400 c_turns]
noncomputable def X10_turnOf (c_turns : Ar) (v1 v2 : Int32) : Option Int32 :=
  ck (ix ((120 * v1) + v2) 14400) <| some (ag c_turns ((120 * v1) + v2))
set_option maxHeartbeats 4000000 in
set_option maxRecDepth 100000 in
theorem t_X10_turnOf (l : Launch) (g : G9) (a_t a_turns a_cornerX a_cornerY a_corners a_what a_rowAt a_strip a_along a_rowSize a_endAt a_plan a_slantA a_slantB a_yields a_bears a_seen a_wagons a_pile a_far a_waiting a_isWaiting a_rest a_isUsed : Nat) (c_thrown c_isLaid c_head c_hasRows c_hasPlan c_rows c_slants c_capacity c_weight c_unload c_source c_bunker : Int32) (c_turns : Ar) (v1 v2 r0 : Int32) (h : X10_turnOf c_turns v1 v2 = some r0) : CtI l g yX10_turnOf cX10_turnOf 3 .int 0 0 [.ref a_t, .int v1, .int v2] (w_X10_turnOf g a_t a_turns a_cornerX a_cornerY a_corners a_what a_rowAt a_strip a_along a_rowSize a_endAt a_plan a_slantA a_slantB a_yields a_bears a_seen a_wagons a_pile a_far a_waiting a_isWaiting a_rest a_isUsed c_thrown c_isLaid c_head c_hasRows c_hasPlan c_rows c_slants c_capacity c_weight c_unload c_source c_bunker c_turns) r0 (w_X10_turnOf g a_t a_turns a_cornerX a_cornerY a_corners a_what a_rowAt a_strip a_along a_rowSize a_endAt a_plan a_slantA a_slantB a_yields a_bears a_seen a_wagons a_pile a_far a_waiting a_isWaiting a_rest a_isUsed c_thrown c_isLaid c_head c_hasRows c_hasPlan c_rows c_slants c_capacity c_weight c_unload c_source c_bunker c_turns) := by
  refine startI (by decide) (Nat.le_of_ble_eq_true rfl) ?_
  intro p e s m below meth c A Q ls args M hW hl ret
  have hx := M.1
  have hb := M.2.1
  have hown := M.2.2.2.1
  have hu := M.2.2.2.2.1
  have hl : lv_has ls 3 [(0, .ref a_t), (1, .int v1), (2, .int v2)] := hl
  unfold X10_turnOf at h
  obtain ⟨H, eH⟩ : ∃ z, z = s.heap := ⟨_, rfl⟩
  obtain ⟨locs, eL⟩ : ∃ z, z = ([] : List Loc) := ⟨_, rfl⟩
  rw [← eL] at hW ⊢
  suffices hS9 : WD g s A (w_X10_turnOf g a_t a_turns a_cornerX a_cornerY a_corners a_what a_rowAt a_strip a_along a_rowSize a_endAt a_plan a_slantA a_slantB a_yields a_bears a_seen a_wagons a_pile a_far a_waiting a_isWaiting a_rest a_isUsed c_thrown c_isLaid c_head c_hasRows c_hasPlan c_rows c_slants c_capacity c_weight c_unload c_source c_bunker c_turns) H locs → W p l e (rm9 0 0) s m args below meth c H locs 0 0 Q (F0 m 0 ls []) by
    rw [← eH] at hW ⊢
    exact hS9 hW
  clear hW eH eL
  intro hW
  refine lv_aload_n (pc := 0) hx hb (dd dX10_turnOf 0 rfl) rfl (lv_at hl 0 rfl) ?_
  refine rGet (pc := 1) M hW 0 15 iU10 rfl rfl (by decide) (uw4 228 rfl rfl) rfl (dd dX10_turnOf 1 rfl) ?_
  refine lv_bipush (pc := 4) (v := 120) hx hb (dd dX10_turnOf 2 rfl) (by decide) ?_
  refine lv_iload_n (pc := 6) hx hb (dd dX10_turnOf 3 rfl) rfl (lv_at hl 1 rfl) ?_
  refine lv_imul (pc := 7) hx hb (dd dX10_turnOf 4 rfl) ?_
  refine lv_iload_n (pc := 8) hx hb (dd dX10_turnOf 5 rfl) rfl (lv_at hl 2 rfl) ?_
  refine lv_iadd (pc := 9) hx hb (dd dX10_turnOf 6 rfl) ?_
  obtain ⟨hi, h⟩ := ck_ex h
  refine rIald (pc := 10) M hW 1 rfl hi (dd dX10_turnOf 7 rfl) ?_
  have hW9 := hW
  cases h
  exact ret _ _ _ 11 hW9 rfl (dd dX10_turnOf 8 rfl)
abbrev w_X10_turn (g : G9) (a_t a_turns a_cornerX a_cornerY a_corners a_what a_rowAt a_strip a_along a_rowSize a_endAt a_plan a_slantA a_slantB a_yields a_bears a_seen a_wagons a_pile a_far a_waiting a_isWaiting a_rest a_isUsed : Nat) (c_thrown c_isLaid c_head c_hasRows c_hasPlan c_rows c_slants c_capacity c_weight c_unload c_source c_bunker : Int32) (c_turns : Ar) : va_W := [ob a_t 10 [.int c_thrown, .ref a_cornerX, .ref a_cornerY, .ref a_corners, .ref a_what, .int c_isLaid, .int c_head, .int c_hasRows, .int c_hasPlan, .int c_rows, .ref a_rowAt, .ref a_strip, .ref a_along, .ref a_rowSize, .ref a_endAt, .ref a_turns, .ref a_plan, .ref a_slantA, .ref a_slantB, .int c_slants, .ref a_yields, .ref a_bears, .int c_capacity, .int c_weight, .int c_unload, .ref a_seen, .ref a_wagons, .ref a_pile, .ref a_far, .int c_source, .ref a_waiting, .ref a_isWaiting, .ref a_rest, .ref a_isUsed, .int c_bunker], ia g a_turns 14400 c_turns]
noncomputable def X10_turn_b56 (c_thrown : Int32) (c_turns : Ar) (v1 v2 k1 : Int32) : Option (Int32 × Int32) :=
  bnd (X10_throwsIf c_thrown k1 2) <| un2 fun r_57 c_thrown_57 => if r_57 = 0 then (bnd (X10_turnOf c_turns v1 v2) <| fun r_68 => some (r_68, c_thrown_57)) else (some (0, c_thrown_57))
noncomputable def X10_turn_b51 (c_thrown : Int32) (c_turns : Ar) (v1 v2 : Int32) : Option (Int32 × Int32) :=
  X10_turn_b56 c_thrown c_turns v1 v2 1
noncomputable def X10_turn_b18 (c_thrown c_rows : Int32) (c_turns : Ar) (v1 v2 k1 : Int32) : Option (Int32 × Int32) :=
  bnd (X10_throwsIf c_thrown k1 1) <| un2 fun r_19 c_thrown_19 => if r_19 = 0 then (bnd (X10_noEnd c_rows v1) <| fun r_28 => if r_28 = 0 then (bnd (X10_noEnd c_rows v2) <| fun r_36 => if r_36 = 0 then (if (v1 / 2) = (v2 / 2) then (X10_turn_b51 c_thrown_19 c_turns v1 v2) else (X10_turn_b56 c_thrown_19 c_turns v1 v2 0)) else (X10_turn_b51 c_thrown_19 c_turns v1 v2)) else (X10_turn_b51 c_thrown_19 c_turns v1 v2)) else (some (0, c_thrown_19))
noncomputable def X10_turn (c_thrown c_hasRows c_rows : Int32) (c_turns : Ar) (v1 v2 : Int32) : Option (Int32 × Int32) :=
  if c_hasRows = 0 then (X10_turn_b18 0 c_rows c_turns v1 v2 1) else (X10_turn_b18 0 c_rows c_turns v1 v2 0)
set_option maxHeartbeats 4000000 in
set_option maxRecDepth 100000 in
theorem t_X10_turn (l : Launch) (g : G9) (a_t a_turns a_cornerX a_cornerY a_corners a_what a_rowAt a_strip a_along a_rowSize a_endAt a_plan a_slantA a_slantB a_yields a_bears a_seen a_wagons a_pile a_far a_waiting a_isWaiting a_rest a_isUsed : Nat) (c_thrown c_isLaid c_head c_hasRows c_hasPlan c_rows c_slants c_capacity c_weight c_unload c_source c_bunker : Int32) (c_turns : Ar) (v1 v2 r0 o_thrown : Int32) (h : X10_turn c_thrown c_hasRows c_rows c_turns v1 v2 = some (r0, o_thrown)) : CtI l g yX10_turn cX10_turn 3 .int 1 22 [.ref a_t, .int v1, .int v2] (w_X10_turn g a_t a_turns a_cornerX a_cornerY a_corners a_what a_rowAt a_strip a_along a_rowSize a_endAt a_plan a_slantA a_slantB a_yields a_bears a_seen a_wagons a_pile a_far a_waiting a_isWaiting a_rest a_isUsed c_thrown c_isLaid c_head c_hasRows c_hasPlan c_rows c_slants c_capacity c_weight c_unload c_source c_bunker c_turns) r0 (w_X10_turn g a_t a_turns a_cornerX a_cornerY a_corners a_what a_rowAt a_strip a_along a_rowSize a_endAt a_plan a_slantA a_slantB a_yields a_bears a_seen a_wagons a_pile a_far a_waiting a_isWaiting a_rest a_isUsed o_thrown c_isLaid c_head c_hasRows c_hasPlan c_rows c_slants c_capacity c_weight c_unload c_source c_bunker c_turns) := by
  refine startI (by decide) (Nat.le_of_ble_eq_true rfl) ?_
  intro p e s m below meth c A Q ls args M hW hl ret
  have hx := M.1
  have hb := M.2.1
  have hown := M.2.2.2.1
  have hu := M.2.2.2.2.1
  have hl : lv_has ls 3 [(0, .ref a_t), (1, .int v1), (2, .int v2)] := hl
  unfold X10_turn at h
  obtain ⟨H, eH⟩ : ∃ z, z = s.heap := ⟨_, rfl⟩
  obtain ⟨locs, eL⟩ : ∃ z, z = ([] : List Loc) := ⟨_, rfl⟩
  rw [← eL] at hW ⊢
  suffices hS9 : WD g s A (w_X10_turn g a_t a_turns a_cornerX a_cornerY a_corners a_what a_rowAt a_strip a_along a_rowSize a_endAt a_plan a_slantA a_slantB a_yields a_bears a_seen a_wagons a_pile a_far a_waiting a_isWaiting a_rest a_isUsed c_thrown c_isLaid c_head c_hasRows c_hasPlan c_rows c_slants c_capacity c_weight c_unload c_source c_bunker c_turns) H locs → W p l e (rm9 1 22) s m args below meth c H locs 0 0 Q (F0 m 0 ls []) by
    rw [← eH] at hW ⊢
    exact hS9 hW
  clear hW eH eL
  intro hW
  have J56 : ∀ (c_thrown k1 : Int32) (H : Heap) (locs : List Loc) (ls : Array Slot), X10_turn_b56 c_thrown c_turns v1 v2 k1 = some (r0, o_thrown) → WD g s A (w_X10_turn g a_t a_turns a_cornerX a_cornerY a_corners a_what a_rowAt a_strip a_along a_rowSize a_endAt a_plan a_slantA a_slantB a_yields a_bears a_seen a_wagons a_pile a_far a_waiting a_isWaiting a_rest a_isUsed c_thrown c_isLaid c_head c_hasRows c_hasPlan c_rows c_slants c_capacity c_weight c_unload c_source c_bunker c_turns) H locs → lv_has ls 3 [(0, .ref a_t), (1, .int v1), (2, .int v2)] → W p l e (rm9 1 22) s m args below meth c H locs 0 0 Q (F0 m 56 ls [.int k1, .ref a_t]) := by
    intro c_thrown k1 H locs ls h hW hl
    unfold X10_turn_b56 at h
    refine lv_iconst (pc := 56) (v := 2) hx hb (dd dX10_turn 32 rfl) (by decide) ?_
    obtain ⟨⟨r_57, c_thrown_57⟩, hr, h⟩ := bnd_ex h
    have h := un2_at h
    refine callVI (pc := 57) (na := 2) (As := [.int k1, .int 2]) (rest := []) (ws2 := (w_X10_turn g a_t a_turns a_cornerX a_cornerY a_corners a_what a_rowAt a_strip a_along a_rowSize a_endAt a_plan a_slantA a_slantB a_yields a_bears a_seen a_wagons a_pile a_far a_waiting a_isWaiting a_rest a_isUsed c_thrown_57 c_isLaid c_head c_hasRows c_hasPlan c_rows c_slants c_capacity c_weight c_unload c_source c_bunker c_turns)) M hl.1 hW (t_X10_throwsIf l g a_t a_cornerX a_cornerY a_corners a_what a_rowAt a_strip a_along a_rowSize a_endAt a_turns a_plan a_slantA a_slantB a_yields a_bears a_seen a_wagons a_pile a_far a_waiting a_isWaiting a_rest a_isUsed c_thrown c_isLaid c_head c_hasRows c_hasPlan c_rows c_slants c_capacity c_weight c_unload c_source c_bunker k1 2 r_57 c_thrown_57 hr) rfl [0] [1] [1, 0] rfl rfl rfl rfl rfl rfl rfl 0 10 rfl rfl rfl (uw5 86 rfl rfl) (uw5 83 rfl rfl) (uw5 85 rfl rfl) (uwp 41 rfl rfl) (uw1 13 rfl rfl) ⟨by decide, by decide, by decide⟩ rfl ⟨by decide, by decide⟩ (Nat.le_of_ble_eq_true rfl) ⟨Nat.zero_le _, Nat.zero_le _⟩ (dd dX10_turn 33 rfl) (fun H locs hW => ?_)
    refine lv_if_eq (pc := 60) (tgt := 65) hx hb (dd dX10_turn 34 rfl) (by decide) (fun hc => ?_) (fun hc => ?_)
    · have h := it_t hc h
      refine lv_aload_n (pc := 65) hx hb (dd dX10_turn 37 rfl) rfl (lv_at hl 0 rfl) ?_
      refine lv_iload_n (pc := 66) hx hb (dd dX10_turn 38 rfl) rfl (lv_at hl 1 rfl) ?_
      refine lv_iload_n (pc := 67) hx hb (dd dX10_turn 39 rfl) rfl (lv_at hl 2 rfl) ?_
      obtain ⟨r_68, hr, h⟩ := bnd_ex h
      refine callVI (pc := 68) (na := 2) (As := [.int v1, .int v2]) (rest := []) (ws2 := (w_X10_turn g a_t a_turns a_cornerX a_cornerY a_corners a_what a_rowAt a_strip a_along a_rowSize a_endAt a_plan a_slantA a_slantB a_yields a_bears a_seen a_wagons a_pile a_far a_waiting a_isWaiting a_rest a_isUsed c_thrown_57 c_isLaid c_head c_hasRows c_hasPlan c_rows c_slants c_capacity c_weight c_unload c_source c_bunker c_turns)) M hl.1 hW (t_X10_turnOf l g a_t a_turns a_cornerX a_cornerY a_corners a_what a_rowAt a_strip a_along a_rowSize a_endAt a_plan a_slantA a_slantB a_yields a_bears a_seen a_wagons a_pile a_far a_waiting a_isWaiting a_rest a_isUsed c_thrown_57 c_isLaid c_head c_hasRows c_hasPlan c_rows c_slants c_capacity c_weight c_unload c_source c_bunker c_turns v1 v2 r_68 hr) rfl [0, 1] [] [0, 1] rfl rfl rfl rfl rfl rfl rfl 0 10 rfl rfl rfl (uw5 185 rfl rfl) (uw5 182 rfl rfl) (uw5 184 rfl rfl) (uwp 54 rfl rfl) (uw1 13 rfl rfl) ⟨by decide, by decide, by decide⟩ rfl ⟨by decide, by decide⟩ (Nat.le_of_ble_eq_true rfl) ⟨Nat.zero_le _, Nat.zero_le _⟩ (dd dX10_turn 40 rfl) (fun H locs hW => ?_)
      have hW9 := hW
      cases h
      exact ret _ _ _ 71 hW9 rfl (dd dX10_turn 41 rfl)
    · have h := it_f hc h
      refine lv_iconst (pc := 63) (v := 0) hx hb (dd dX10_turn 35 rfl) (by decide) ?_
      have hW9 := hW
      cases h
      exact ret _ _ _ 64 hW9 rfl (dd dX10_turn 36 rfl)
  have J51 : ∀ (c_thrown : Int32) (H : Heap) (locs : List Loc) (ls : Array Slot), X10_turn_b51 c_thrown c_turns v1 v2 = some (r0, o_thrown) → WD g s A (w_X10_turn g a_t a_turns a_cornerX a_cornerY a_corners a_what a_rowAt a_strip a_along a_rowSize a_endAt a_plan a_slantA a_slantB a_yields a_bears a_seen a_wagons a_pile a_far a_waiting a_isWaiting a_rest a_isUsed c_thrown c_isLaid c_head c_hasRows c_hasPlan c_rows c_slants c_capacity c_weight c_unload c_source c_bunker c_turns) H locs → lv_has ls 3 [(0, .ref a_t), (1, .int v1), (2, .int v2)] → W p l e (rm9 1 22) s m args below meth c H locs 0 0 Q (F0 m 51 ls [.ref a_t]) := by
    intro c_thrown H locs ls h hW hl
    unfold X10_turn_b51 at h
    refine lv_iconst (pc := 51) (v := 1) hx hb (dd dX10_turn 29 rfl) (by decide) ?_
    refine lv_goto (pc := 52) (tgt := 56) hx hb (dd dX10_turn 30 rfl) (by decide) ?_
    exact J56 _ _ _ _ _ h hW (lv_sub hl [0, 1, 2] rfl)
  have J18 : ∀ (c_thrown k1 : Int32) (H : Heap) (locs : List Loc) (ls : Array Slot), X10_turn_b18 c_thrown c_rows c_turns v1 v2 k1 = some (r0, o_thrown) → WD g s A (w_X10_turn g a_t a_turns a_cornerX a_cornerY a_corners a_what a_rowAt a_strip a_along a_rowSize a_endAt a_plan a_slantA a_slantB a_yields a_bears a_seen a_wagons a_pile a_far a_waiting a_isWaiting a_rest a_isUsed c_thrown c_isLaid c_head c_hasRows c_hasPlan c_rows c_slants c_capacity c_weight c_unload c_source c_bunker c_turns) H locs → lv_has ls 3 [(0, .ref a_t), (1, .int v1), (2, .int v2)] → W p l e (rm9 1 22) s m args below meth c H locs 0 0 Q (F0 m 18 ls [.int k1, .ref a_t]) := by
    intro c_thrown k1 H locs ls h hW hl
    unfold X10_turn_b18 at h
    refine lv_iconst (pc := 18) (v := 1) hx hb (dd dX10_turn 10 rfl) (by decide) ?_
    obtain ⟨⟨r_19, c_thrown_19⟩, hr, h⟩ := bnd_ex h
    have h := un2_at h
    refine callVI (pc := 19) (na := 2) (As := [.int k1, .int 1]) (rest := []) (ws2 := (w_X10_turn g a_t a_turns a_cornerX a_cornerY a_corners a_what a_rowAt a_strip a_along a_rowSize a_endAt a_plan a_slantA a_slantB a_yields a_bears a_seen a_wagons a_pile a_far a_waiting a_isWaiting a_rest a_isUsed c_thrown_19 c_isLaid c_head c_hasRows c_hasPlan c_rows c_slants c_capacity c_weight c_unload c_source c_bunker c_turns)) M hl.1 hW (t_X10_throwsIf l g a_t a_cornerX a_cornerY a_corners a_what a_rowAt a_strip a_along a_rowSize a_endAt a_turns a_plan a_slantA a_slantB a_yields a_bears a_seen a_wagons a_pile a_far a_waiting a_isWaiting a_rest a_isUsed c_thrown c_isLaid c_head c_hasRows c_hasPlan c_rows c_slants c_capacity c_weight c_unload c_source c_bunker k1 1 r_19 c_thrown_19 hr) rfl [0] [1] [1, 0] rfl rfl rfl rfl rfl rfl rfl 0 10 rfl rfl rfl (uw5 86 rfl rfl) (uw5 83 rfl rfl) (uw5 85 rfl rfl) (uwp 41 rfl rfl) (uw1 13 rfl rfl) ⟨by decide, by decide, by decide⟩ rfl ⟨by decide, by decide⟩ (Nat.le_of_ble_eq_true rfl) ⟨Nat.zero_le _, Nat.zero_le _⟩ (dd dX10_turn 11 rfl) (fun H locs hW => ?_)
    refine lv_if_ne (pc := 22) (tgt := 63) hx hb (dd dX10_turn 12 rfl) (by decide) (fun hc => ?_) (fun hc => ?_)
    · have h := it_f hc h
      refine lv_iconst (pc := 63) (v := 0) hx hb (dd dX10_turn 35 rfl) (by decide) ?_
      have hW9 := hW
      cases h
      exact ret _ _ _ 64 hW9 rfl (dd dX10_turn 36 rfl)
    · have h := it_t hc h
      refine lv_aload_n (pc := 25) hx hb (dd dX10_turn 13 rfl) rfl (lv_at hl 0 rfl) ?_
      refine lv_aload_n (pc := 26) hx hb (dd dX10_turn 14 rfl) rfl (lv_at hl 0 rfl) ?_
      refine lv_iload_n (pc := 27) hx hb (dd dX10_turn 15 rfl) rfl (lv_at hl 1 rfl) ?_
      obtain ⟨r_28, hr, h⟩ := bnd_ex h
      refine callVI (pc := 28) (na := 1) (As := [.int v1]) (rest := [.ref a_t]) (ws2 := (w_X10_turn g a_t a_turns a_cornerX a_cornerY a_corners a_what a_rowAt a_strip a_along a_rowSize a_endAt a_plan a_slantA a_slantB a_yields a_bears a_seen a_wagons a_pile a_far a_waiting a_isWaiting a_rest a_isUsed c_thrown_19 c_isLaid c_head c_hasRows c_hasPlan c_rows c_slants c_capacity c_weight c_unload c_source c_bunker c_turns)) M hl.1 hW (t_X10_noEnd l g a_t a_cornerX a_cornerY a_corners a_what a_rowAt a_strip a_along a_rowSize a_endAt a_turns a_plan a_slantA a_slantB a_yields a_bears a_seen a_wagons a_pile a_far a_waiting a_isWaiting a_rest a_isUsed c_thrown_19 c_isLaid c_head c_hasRows c_hasPlan c_rows c_slants c_capacity c_weight c_unload c_source c_bunker v1 r_28 hr) rfl [0] [1] [1, 0] rfl rfl rfl rfl rfl rfl rfl 0 10 rfl rfl rfl (uw5 181 rfl rfl) (uw5 178 rfl rfl) (uw5 180 rfl rfl) (uwp 53 rfl rfl) (uw1 13 rfl rfl) ⟨by decide, by decide, by decide⟩ rfl ⟨by decide, by decide⟩ (Nat.le_of_ble_eq_true rfl) ⟨Nat.zero_le _, Nat.zero_le _⟩ (dd dX10_turn 16 rfl) (fun H locs hW => ?_)
      refine lv_if_ne (pc := 31) (tgt := 51) hx hb (dd dX10_turn 17 rfl) (by decide) (fun hc => ?_) (fun hc => ?_)
      · have h := it_f hc h
        exact J51 _ _ _ _ h hW (lv_sub hl [0, 1, 2] rfl)
      · have h := it_t hc h
        refine lv_aload_n (pc := 34) hx hb (dd dX10_turn 18 rfl) rfl (lv_at hl 0 rfl) ?_
        refine lv_iload_n (pc := 35) hx hb (dd dX10_turn 19 rfl) rfl (lv_at hl 2 rfl) ?_
        obtain ⟨r_36, hr, h⟩ := bnd_ex h
        refine callVI (pc := 36) (na := 1) (As := [.int v2]) (rest := [.ref a_t]) (ws2 := (w_X10_turn g a_t a_turns a_cornerX a_cornerY a_corners a_what a_rowAt a_strip a_along a_rowSize a_endAt a_plan a_slantA a_slantB a_yields a_bears a_seen a_wagons a_pile a_far a_waiting a_isWaiting a_rest a_isUsed c_thrown_19 c_isLaid c_head c_hasRows c_hasPlan c_rows c_slants c_capacity c_weight c_unload c_source c_bunker c_turns)) M hl.1 hW (t_X10_noEnd l g a_t a_cornerX a_cornerY a_corners a_what a_rowAt a_strip a_along a_rowSize a_endAt a_turns a_plan a_slantA a_slantB a_yields a_bears a_seen a_wagons a_pile a_far a_waiting a_isWaiting a_rest a_isUsed c_thrown_19 c_isLaid c_head c_hasRows c_hasPlan c_rows c_slants c_capacity c_weight c_unload c_source c_bunker v2 r_36 hr) rfl [0] [1] [1, 0] rfl rfl rfl rfl rfl rfl rfl 0 10 rfl rfl rfl (uw5 181 rfl rfl) (uw5 178 rfl rfl) (uw5 180 rfl rfl) (uwp 53 rfl rfl) (uw1 13 rfl rfl) ⟨by decide, by decide, by decide⟩ rfl ⟨by decide, by decide⟩ (Nat.le_of_ble_eq_true rfl) ⟨Nat.zero_le _, Nat.zero_le _⟩ (dd dX10_turn 20 rfl) (fun H locs hW => ?_)
        refine lv_if_ne (pc := 39) (tgt := 51) hx hb (dd dX10_turn 21 rfl) (by decide) (fun hc => ?_) (fun hc => ?_)
        · have h := it_f hc h
          exact J51 _ _ _ _ h hW (lv_sub hl [0, 1, 2] rfl)
        · have h := it_t hc h
          refine lv_iload_n (pc := 42) hx hb (dd dX10_turn 22 rfl) rfl (lv_at hl 1 rfl) ?_
          refine lv_iconst (pc := 43) (v := 2) hx hb (dd dX10_turn 23 rfl) (by decide) ?_
          refine lv_idiv (pc := 44) hx hb (dd dX10_turn 24 rfl) (by decide) ?_
          refine lv_iload_n (pc := 45) hx hb (dd dX10_turn 25 rfl) rfl (lv_at hl 2 rfl) ?_
          refine lv_iconst (pc := 46) (v := 2) hx hb (dd dX10_turn 26 rfl) (by decide) ?_
          refine lv_idiv (pc := 47) hx hb (dd dX10_turn 27 rfl) (by decide) ?_
          refine lv_icmp_ne (pc := 48) (tgt := 55) hx hb (dd dX10_turn 28 rfl) (by decide) (fun hc => ?_) (fun hc => ?_)
          · have h := it_f hc h
            refine lv_iconst (pc := 55) (v := 0) hx hb (dd dX10_turn 31 rfl) (by decide) ?_
            exact J56 _ _ _ _ _ h hW (lv_sub hl [0, 1, 2] rfl)
          · have h := it_t hc h
            exact J51 _ _ _ _ h hW (lv_sub hl [0, 1, 2] rfl)
  refine lv_aload_n (pc := 0) hx hb (dd dX10_turn 0 rfl) rfl (lv_at hl 0 rfl) ?_
  refine lv_iconst (pc := 1) (v := 0) hx hb (dd dX10_turn 1 rfl) (by decide) ?_
  refine rPut (pc := 2) M hW 0 0 tyX10 tyX10_ok nmX10 iU10 rfl rfl (by decide) (uw4 213 rfl rfl) rfl rfl rfl (Nat.le_of_ble_eq_true rfl) (dd dX10_turn 2 rfl) (ws' := (w_X10_turn g a_t a_turns a_cornerX a_cornerY a_corners a_what a_rowAt a_strip a_along a_rowSize a_endAt a_plan a_slantA a_slantB a_yields a_bears a_seen a_wagons a_pile a_far a_waiting a_isWaiting a_rest a_isUsed 0 c_isLaid c_head c_hasRows c_hasPlan c_rows c_slants c_capacity c_weight c_unload c_source c_bunker c_turns)) rfl (fun H locs hW => ?_)
  refine lv_aload_n (pc := 5) hx hb (dd dX10_turn 3 rfl) rfl (lv_at hl 0 rfl) ?_
  refine lv_aload_n (pc := 6) hx hb (dd dX10_turn 4 rfl) rfl (lv_at hl 0 rfl) ?_
  refine rGet (pc := 7) M hW 0 7 iU10 rfl rfl (by decide) (uw4 220 rfl rfl) rfl (dd dX10_turn 5 rfl) ?_
  refine lv_if_ne (pc := 10) (tgt := 17) hx hb (dd dX10_turn 6 rfl) (by decide) (fun hc => ?_) (fun hc => ?_)
  · have h := it_f hc h
    refine lv_iconst (pc := 17) (v := 0) hx hb (dd dX10_turn 9 rfl) (by decide) ?_
    exact J18 _ _ _ _ _ h hW (lv_sub hl [0, 1, 2] rfl)
  · have h := it_t hc h
    refine lv_iconst (pc := 13) (v := 1) hx hb (dd dX10_turn 7 rfl) (by decide) ?_
    refine lv_goto (pc := 14) (tgt := 18) hx hb (dd dX10_turn 8 rfl) (by decide) ?_
    exact J18 _ _ _ _ _ h hW (lv_sub hl [0, 1, 2] rfl)
