abbrev w_X10_nearest (g : G9) (a_t a_isUsed a_plan a_turns a_cornerX a_cornerY a_corners a_what a_rowAt a_strip a_along a_rowSize a_endAt a_slantA a_slantB a_yields a_bears a_seen a_wagons a_pile a_far a_waiting a_isWaiting a_rest : Nat) (c_thrown c_isLaid c_head c_hasRows c_hasPlan c_rows c_slants c_capacity c_weight c_unload c_source c_bunker : Int32) (c_isUsed c_plan c_turns : Ar) : va_W := [ob a_t 10 [.int c_thrown, .ref a_cornerX, .ref a_cornerY, .ref a_corners, .ref a_what, .int c_isLaid, .int c_head, .int c_hasRows, .int c_hasPlan, .int c_rows, .ref a_rowAt, .ref a_strip, .ref a_along, .ref a_rowSize, .ref a_endAt, .ref a_turns, .ref a_plan, .ref a_slantA, .ref a_slantB, .int c_slants, .ref a_yields, .ref a_bears, .int c_capacity, .int c_weight, .int c_unload, .ref a_seen, .ref a_wagons, .ref a_pile, .ref a_far, .int c_source, .ref a_waiting, .ref a_isWaiting, .ref a_rest, .ref a_isUsed, .int c_bunker], za g a_isUsed 60 c_isUsed, ia g a_plan 60 c_plan, ia g a_turns 14400 c_turns]
noncomputable def X10_nearest_b2_24 (c_isUsed : Ar) (v1 k1 k2 : Int32) : Option ((Ar × Int32) ⊕ Ar) :=
  ck (ix k1 60) <| nm (au c_isUsed k1 (vp_nar .boolean k2)) fun c_isUsed_24 => nm (v1 + 1) fun v1_25 => some (.inl (c_isUsed_24, v1_25))
noncomputable def X10_nearest_L2 (c_rows : Int32) (c_isUsed : Ar) (v1 : Int32) : Option ((Ar × Int32) ⊕ Ar) :=
  if c_rows ≤ v1 then (some (.inr c_isUsed)) else (if v1 = 0 then (X10_nearest_b2_24 c_isUsed v1 v1 1) else (X10_nearest_b2_24 c_isUsed v1 v1 0))
noncomputable def X10_nearest_b64_123 (v1 v2 v3 v4 : Int32) : Option ((Int32 × Int32) ⊕ Int32) :=
  nm (v4 + 1) fun v4_123 => some (.inl (v2, v4_123))
noncomputable def X10_nearest_b64_120 (v1 v3 v4 : Int32) : Option ((Int32 × Int32) ⊕ Int32) :=
  X10_nearest_b64_123 v1 v4 v3 v4
noncomputable def X10_nearest_L64 (c_rows : Int32) (c_isUsed c_turns : Ar) (v1 v3 v2 v4 : Int32) : Option ((Int32 × Int32) ⊕ Int32) :=
  if (2 * c_rows) ≤ v4 then (some (.inr v2)) else (ck (ix (v4 / 2) 60) <| if (ag c_isUsed (v4 / 2)) = 0 then (bnd (X10_turnOf c_turns v3 v4) <| fun r_91 => if 0 ≤ r_91 then (if v2 < 0 then (X10_nearest_b64_120 v1 v3 v4) else (bnd (X10_turnOf c_turns v3 v4) <| fun r_108 => bnd (X10_turnOf c_turns v3 v2) <| fun r_114 => if r_114 ≤ r_108 then (X10_nearest_b64_123 v1 v2 v3 v4) else (X10_nearest_b64_120 v1 v3 v4))) else (X10_nearest_b64_123 v1 v2 v3 v4)) else (X10_nearest_b64_123 v1 v2 v3 v4))
noncomputable def X10_nearest_L40 (c_rows : Int32) (c_turns c_isUsed c_plan : Ar) (v1 : Int32) : Option ((Ar × Ar × Int32) ⊕ ((Ar × Ar) ⊕ (Ar × Ar))) :=
  if c_rows ≤ v1 then (some (.inr (.inl (c_isUsed, c_plan)))) else (ck (ix (v1 - 1) 60) <| nm (((ag c_plan (v1 - 1)) ^^^ 1)) fun v3_60 => bnd (whileV (fun st => X10_nearest_L64 c_rows c_isUsed c_turns v1 v3_60 st.1 st.2) ((-1), 0)) <| (fun v2_129 => if 0 ≤ v2_129 then (ck (ix v1 60) <| nm (au c_plan v1 v2_129) fun c_plan_141 => ck (ix (v2_129 / 2) 60) <| nm (au c_isUsed (v2_129 / 2) (vp_nar .boolean 1)) fun c_isUsed_150 => nm (v1 + 1) fun v1_151 => some (.inl (c_isUsed_150, c_plan_141, v1_151))) else (some (.inr (.inr ((c_isUsed, c_plan)))))))
noncomputable def X10_nearest (c_rows : Int32) (c_isUsed c_plan c_turns : Ar) : Option (Int32 × Ar × Ar) :=
  bnd (whileV (fun st => X10_nearest_L2 c_rows st.1 st.2) (c_isUsed, 0)) <| (fun c_isUsed_31 => ck (ix 0 60) <| nm (au c_plan 0 0) fun c_plan_37 => bnd (whileV (fun st => X10_nearest_L40 c_rows c_turns st.1 st.2.1 st.2.2) (c_isUsed_31, c_plan_37, 1)) <| (Sum.elim (un2 fun c_isUsed_157 c_plan_157 => some (1, c_isUsed_157, c_plan_157)) (un2 fun c_isUsed_133 c_plan_133 => some (0, c_isUsed_133, c_plan_133))))
set_option maxHeartbeats 4000000 in
set_option maxRecDepth 100000 in
theorem t_X10_nearest (l : Launch) (g : G9) (a_t a_isUsed a_plan a_turns a_cornerX a_cornerY a_corners a_what a_rowAt a_strip a_along a_rowSize a_endAt a_slantA a_slantB a_yields a_bears a_seen a_wagons a_pile a_far a_waiting a_isWaiting a_rest : Nat) (c_thrown c_isLaid c_head c_hasRows c_hasPlan c_rows c_slants c_capacity c_weight c_unload c_source c_bunker : Int32) (c_isUsed c_plan c_turns : Ar) (r0 : Int32) (o_isUsed o_plan : Ar) (h : X10_nearest c_rows c_isUsed c_plan c_turns = some (r0, o_isUsed, o_plan)) : CtI l g yX10_nearest cX10_nearest 5 .boolean 1 22 [.ref a_t] (w_X10_nearest g a_t a_isUsed a_plan a_turns a_cornerX a_cornerY a_corners a_what a_rowAt a_strip a_along a_rowSize a_endAt a_slantA a_slantB a_yields a_bears a_seen a_wagons a_pile a_far a_waiting a_isWaiting a_rest c_thrown c_isLaid c_head c_hasRows c_hasPlan c_rows c_slants c_capacity c_weight c_unload c_source c_bunker c_isUsed c_plan c_turns) r0 (w_X10_nearest g a_t a_isUsed a_plan a_turns a_cornerX a_cornerY a_corners a_what a_rowAt a_strip a_along a_rowSize a_endAt a_slantA a_slantB a_yields a_bears a_seen a_wagons a_pile a_far a_waiting a_isWaiting a_rest c_thrown c_isLaid c_head c_hasRows c_hasPlan c_rows c_slants c_capacity c_weight c_unload c_source c_bunker o_isUsed o_plan c_turns) := by
  refine startI (by decide) (Nat.le_of_ble_eq_true rfl) ?_
  intro p e s m below meth c A Q ls args M hW hl ret
  have hx := M.1
  have hb := M.2.1
  have hown := M.2.2.2.1
  have hu := M.2.2.2.2.1
  have hl : lv_has ls 5 [(0, .ref a_t)] := hl
  unfold X10_nearest at h
  obtain ⟨H, eH⟩ : ∃ z, z = s.heap := ⟨_, rfl⟩
  obtain ⟨locs, eL⟩ : ∃ z, z = ([] : List Loc) := ⟨_, rfl⟩
  rw [← eL] at hW ⊢
  suffices hS9 : WD g s A (w_X10_nearest g a_t a_isUsed a_plan a_turns a_cornerX a_cornerY a_corners a_what a_rowAt a_strip a_along a_rowSize a_endAt a_slantA a_slantB a_yields a_bears a_seen a_wagons a_pile a_far a_waiting a_isWaiting a_rest c_thrown c_isLaid c_head c_hasRows c_hasPlan c_rows c_slants c_capacity c_weight c_unload c_source c_bunker c_isUsed c_plan c_turns) H locs → W p l e (rm9 1 22) s m args below meth c H locs 0 0 Q (F0 m 0 ls []) by
    rw [← eH] at hW ⊢
    exact hS9 hW
  clear hW eH eL
  intro hW
  refine lv_iconst (pc := 0) (v := 0) hx hb (dd dX10_nearest_p0 0 rfl) (by decide) ?_
  refine lv_istore_n (pc := 1) (lv' := [(1, .int 0), (0, .ref a_t)]) hx hb (dd dX10_nearest_p0 1 rfl) rfl hl (by decide) rfl (fun ls hl => ?_)
  obtain ⟨ex, hw, h⟩ := bnd_ex h
  refine loopW (fun st => ∀ (H : Heap) (locs : List Loc) (ls : Array Slot), WD g s A (w_X10_nearest g a_t a_isUsed a_plan a_turns a_cornerX a_cornerY a_corners a_what a_rowAt a_strip a_along a_rowSize a_endAt a_slantA a_slantB a_yields a_bears a_seen a_wagons a_pile a_far a_waiting a_isWaiting a_rest c_thrown c_isLaid c_head c_hasRows c_hasPlan c_rows c_slants c_capacity c_weight c_unload c_source c_bunker (st.1) c_plan c_turns) H locs → lv_has ls 5 [(0, .ref a_t), (1, .int (st.2))] → W p l e (rm9 1 22) s m args below meth c H locs 0 0 Q (F0 m 2 ls [])) (fun (ex : Ar) => ∀ (H : Heap) (locs : List Loc) (ls : Array Slot), WD g s A (w_X10_nearest g a_t a_isUsed a_plan a_turns a_cornerX a_cornerY a_corners a_what a_rowAt a_strip a_along a_rowSize a_endAt a_slantA a_slantB a_yields a_bears a_seen a_wagons a_pile a_far a_waiting a_isWaiting a_rest c_thrown c_isLaid c_head c_hasRows c_hasPlan c_rows c_slants c_capacity c_weight c_unload c_source c_bunker ex c_plan c_turns) H locs → lv_has ls 5 [(0, .ref a_t)] → W p l e (rm9 1 22) s m args below meth c H locs 0 0 Q (F0 m 31 ls [])) ?_ hw ?_ H locs ls hW (lv_sub hl [1, 0] rfl)
  · rintro ⟨c_isUsed, v1⟩ o hb9 hk H locs ls hW hl
    have h : X10_nearest_L2 c_rows c_isUsed v1 = some o := hb9
    clear hb9
    unfold X10_nearest_L2 at h
    have J24 : ∀ (c_isUsed : Ar) (v1 k1 k2 : Int32) (H : Heap) (locs : List Loc) (ls : Array Slot), X10_nearest_b2_24 c_isUsed v1 k1 k2 = some o → WD g s A (w_X10_nearest g a_t a_isUsed a_plan a_turns a_cornerX a_cornerY a_corners a_what a_rowAt a_strip a_along a_rowSize a_endAt a_slantA a_slantB a_yields a_bears a_seen a_wagons a_pile a_far a_waiting a_isWaiting a_rest c_thrown c_isLaid c_head c_hasRows c_hasPlan c_rows c_slants c_capacity c_weight c_unload c_source c_bunker c_isUsed c_plan c_turns) H locs → lv_has ls 5 [(0, .ref a_t), (1, .int v1)] → W p l e (rm9 1 22) s m args below meth c H locs 0 0 Q (F0 m 24 ls [.int k2, .int k1, .ref a_isUsed]) := by
      intro c_isUsed v1 k1 k2 H locs ls h hW hl
      unfold X10_nearest_b2_24 at h
      obtain ⟨hi, h⟩ := ck_ex h
      obtain ⟨c_isUsed_24, ec_isUsed_24, h⟩ := nm_ex h
      refine rZast (pc := 24) M hW 1 rfl hi ec_isUsed_24 (ws' := (w_X10_nearest g a_t a_isUsed a_plan a_turns a_cornerX a_cornerY a_corners a_what a_rowAt a_strip a_along a_rowSize a_endAt a_slantA a_slantB a_yields a_bears a_seen a_wagons a_pile a_far a_waiting a_isWaiting a_rest c_thrown c_isLaid c_head c_hasRows c_hasPlan c_rows c_slants c_capacity c_weight c_unload c_source c_bunker c_isUsed_24 c_plan c_turns)) rfl (dd dX10_nearest_p0 14 rfl) (fun H locs hW => ?_)
      obtain ⟨v1_25, ev1_25, h⟩ := nm_ex h
      refine lv_iinc (pc := 25) (v := v1_25) (lv' := [(1, .int v1_25), (0, .ref a_t)]) hx hb (dd dX10_nearest_p0 15 rfl) hl (k := 1) rfl (by rw [ev1_25]; rfl) (by decide) rfl (fun ls hl => ?_)
      refine lv_goto (pc := 28) (tgt := 2) hx hb (dd dX10_nearest_p0 16 rfl) (by decide) ?_
      obtain rfl := Option.some.inj h
      exact hk _ _ _ hW (lv_sub hl [1, 0] rfl)
    refine lv_iload_n (pc := 2) hx hb (dd dX10_nearest_p0 2 rfl) rfl (lv_at hl 1 rfl) ?_
    refine lv_aload_n (pc := 3) hx hb (dd dX10_nearest_p0 3 rfl) rfl (lv_at hl 0 rfl) ?_
    refine rGet (pc := 4) M hW 0 9 iU10 rfl rfl (by decide) (uw4 222 rfl rfl) rfl (dd dX10_nearest_p0 4 rfl) ?_
    refine lv_icmp_ge (pc := 7) (tgt := 31) hx hb (dd dX10_nearest_p0 5 rfl) (by decide) (fun hc => ?_) (fun hc => ?_)
    · have h := it_t hc h
      obtain rfl := Option.some.inj h
      exact hk _ _ _ hW (lv_sub hl [0] rfl)
    · have h := it_f hc h
      refine lv_aload_n (pc := 10) hx hb (dd dX10_nearest_p0 6 rfl) rfl (lv_at hl 0 rfl) ?_
      refine rGet (pc := 11) M hW 0 33 iU10 rfl rfl (by decide) (uw5 6 rfl rfl) rfl (dd dX10_nearest_p0 7 rfl) ?_
      refine lv_iload_n (pc := 14) hx hb (dd dX10_nearest_p0 8 rfl) rfl (lv_at hl 1 rfl) ?_
      refine lv_iload_n (pc := 15) hx hb (dd dX10_nearest_p0 9 rfl) rfl (lv_at hl 1 rfl) ?_
      refine lv_if_ne (pc := 16) (tgt := 23) hx hb (dd dX10_nearest_p0 10 rfl) (by decide) (fun hc => ?_) (fun hc => ?_)
      · have h := it_f hc h
        refine lv_iconst (pc := 23) (v := 0) hx hb (dd dX10_nearest_p0 13 rfl) (by decide) ?_
        exact J24 _ _ _ _ _ _ _ h hW (lv_sub hl [0, 1] rfl)
      · have h := it_t hc h
        refine lv_iconst (pc := 19) (v := 1) hx hb (dd dX10_nearest_p0 11 rfl) (by decide) ?_
        refine lv_goto (pc := 20) (tgt := 24) hx hb (dd dX10_nearest_p0 12 rfl) (by decide) ?_
        exact J24 _ _ _ _ _ _ _ h hW (lv_sub hl [0, 1] rfl)
  · obtain ⟨c_isUsed_31, e9⟩ : ∃ z, z = ex := ⟨_, rfl⟩
    subst e9
    intro H locs ls hW hl
    refine lv_aload_n (pc := 31) hx hb (dd dX10_nearest_p0 17 rfl) rfl (lv_at hl 0 rfl) ?_
    refine rGet (pc := 32) M hW 0 16 iU10 rfl rfl (by decide) (uw4 229 rfl rfl) rfl (dd dX10_nearest_p0 18 rfl) ?_
    refine lv_iconst (pc := 35) (v := 0) hx hb (dd dX10_nearest_p0 19 rfl) (by decide) ?_
    refine lv_iconst (pc := 36) (v := 0) hx hb (dd dX10_nearest_p0 20 rfl) (by decide) ?_
    obtain ⟨hi, h⟩ := ck_ex h
    obtain ⟨c_plan_37, ec_plan_37, h⟩ := nm_ex h
    refine rIast (pc := 37) M hW 2 rfl hi ec_plan_37 (ws' := (w_X10_nearest g a_t a_isUsed a_plan a_turns a_cornerX a_cornerY a_corners a_what a_rowAt a_strip a_along a_rowSize a_endAt a_slantA a_slantB a_yields a_bears a_seen a_wagons a_pile a_far a_waiting a_isWaiting a_rest c_thrown c_isLaid c_head c_hasRows c_hasPlan c_rows c_slants c_capacity c_weight c_unload c_source c_bunker c_isUsed_31 c_plan_37 c_turns)) rfl (dd dX10_nearest_p0 21 rfl) (fun H locs hW => ?_)
    refine lv_iconst (pc := 38) (v := 1) hx hb (dd dX10_nearest_p0 22 rfl) (by decide) ?_
    refine lv_istore_n (pc := 39) (lv' := [(1, .int 1), (0, .ref a_t)]) hx hb (dd dX10_nearest_p0 23 rfl) rfl hl (by decide) rfl (fun ls hl => ?_)
    obtain ⟨ex, hw, h⟩ := bnd_ex h
    refine loopW (fun st => ∀ (H : Heap) (locs : List Loc) (ls : Array Slot), WD g s A (w_X10_nearest g a_t a_isUsed a_plan a_turns a_cornerX a_cornerY a_corners a_what a_rowAt a_strip a_along a_rowSize a_endAt a_slantA a_slantB a_yields a_bears a_seen a_wagons a_pile a_far a_waiting a_isWaiting a_rest c_thrown c_isLaid c_head c_hasRows c_hasPlan c_rows c_slants c_capacity c_weight c_unload c_source c_bunker (st.1) (st.2.1) c_turns) H locs → lv_has ls 5 [(0, .ref a_t), (1, .int (st.2.2))] → W p l e (rm9 1 22) s m args below meth c H locs 0 0 Q (F0 m 40 ls [])) (Sum.elim (fun (ex : (Ar × Ar)) => ∀ (H : Heap) (locs : List Loc) (ls : Array Slot), WD g s A (w_X10_nearest g a_t a_isUsed a_plan a_turns a_cornerX a_cornerY a_corners a_what a_rowAt a_strip a_along a_rowSize a_endAt a_slantA a_slantB a_yields a_bears a_seen a_wagons a_pile a_far a_waiting a_isWaiting a_rest c_thrown c_isLaid c_head c_hasRows c_hasPlan c_rows c_slants c_capacity c_weight c_unload c_source c_bunker (ex.1) (ex.2) c_turns) H locs → lv_has ls 5 [] → W p l e (rm9 1 22) s m args below meth c H locs 0 0 Q (F0 m 157 ls [])) (fun (ex : (Ar × Ar)) => ∀ (H : Heap) (locs : List Loc) (ls : Array Slot), WD g s A (w_X10_nearest g a_t a_isUsed a_plan a_turns a_cornerX a_cornerY a_corners a_what a_rowAt a_strip a_along a_rowSize a_endAt a_slantA a_slantB a_yields a_bears a_seen a_wagons a_pile a_far a_waiting a_isWaiting a_rest c_thrown c_isLaid c_head c_hasRows c_hasPlan c_rows c_slants c_capacity c_weight c_unload c_source c_bunker (ex.1) (ex.2) c_turns) H locs → lv_has ls 5 [] → W p l e (rm9 1 22) s m args below meth c H locs 0 0 Q (F0 m 133 ls []))) ?_ hw ?_ H locs ls hW (lv_sub hl [1, 0] rfl)
    · rintro ⟨c_isUsed, c_plan, v1⟩ o hb9 hk H locs ls hW hl
      have h : X10_nearest_L40 c_rows c_turns c_isUsed c_plan v1 = some o := hb9
      clear hb9
      unfold X10_nearest_L40 at h
      refine lv_iload_n (pc := 40) hx hb (dd dX10_nearest_p0 24 rfl) rfl (lv_at hl 1 rfl) ?_
      refine lv_aload_n (pc := 41) hx hb (dd dX10_nearest_p0 25 rfl) rfl (lv_at hl 0 rfl) ?_
      refine rGet (pc := 42) M hW 0 9 iU10 rfl rfl (by decide) (uw4 222 rfl rfl) rfl (dd dX10_nearest_p0 26 rfl) ?_
      refine lv_icmp_ge (pc := 45) (tgt := 157) hx hb (dd dX10_nearest_p0 27 rfl) (by decide) (fun hc => ?_) (fun hc => ?_)
      · have h := it_t hc h
        obtain rfl := Option.some.inj h
        exact hk _ _ _ hW (lv_sub hl [] rfl)
      · have h := it_f hc h
        refine lv_iconst (pc := 48) (v := (-1)) hx hb (dd dX10_nearest_p0 28 rfl) (by decide) ?_
        refine lv_istore_n (pc := 49) (lv' := [(2, .int (-1)), (0, .ref a_t), (1, .int v1)]) hx hb (dd dX10_nearest_p0 29 rfl) rfl hl (by decide) rfl (fun ls hl => ?_)
        refine lv_aload_n (pc := 50) hx hb (dd dX10_nearest_p0 30 rfl) rfl (lv_at hl 1 rfl) ?_
        refine rGet (pc := 51) M hW 0 16 iU10 rfl rfl (by decide) (uw4 229 rfl rfl) rfl (dd dX10_nearest_p0 31 rfl) ?_
        refine lv_iload_n (pc := 54) hx hb (dd dX10_nearest_p0 32 rfl) rfl (lv_at hl 2 rfl) ?_
        refine lv_iconst (pc := 55) (v := 1) hx hb (dd dX10_nearest_p0 33 rfl) (by decide) ?_
        refine lv_isub (pc := 56) hx hb (dd dX10_nearest_p0 34 rfl) ?_
        obtain ⟨hi, h⟩ := ck_ex h
        refine rIald (pc := 57) M hW 2 rfl hi (dd dX10_nearest_p0 35 rfl) ?_
        refine lv_iconst (pc := 58) (v := 1) hx hb (dd dX10_nearest_p0 36 rfl) (by decide) ?_
        refine lv_ixor (pc := 59) hx hb (dd dX10_nearest_p0 37 rfl) ?_
        obtain ⟨v3_60, ev3_60, h⟩ := nm_ex h
        refine rTopi (pc := 60) ev3_60 ?_
        refine lv_istore_n (pc := 60) (lv' := [(3, .int v3_60), (2, .int (-1)), (0, .ref a_t), (1, .int v1)]) hx hb (dd dX10_nearest_p0 38 rfl) rfl hl (by decide) rfl (fun ls hl => ?_)
        refine lv_iconst (pc := 61) (v := 0) hx hb (dd dX10_nearest_p0 39 rfl) (by decide) ?_
        refine lv_istore (pc := 62) (lv' := [(4, .int 0), (3, .int v3_60), (2, .int (-1)), (0, .ref a_t), (1, .int v1)]) hx hb (dd dX10_nearest_p0 40 rfl) hl (by decide) rfl (fun ls hl => ?_)
        obtain ⟨ex, hw, h⟩ := bnd_ex h
        refine loopW (fun st => ∀ (H : Heap) (locs : List Loc) (ls : Array Slot), WD g s A (w_X10_nearest g a_t a_isUsed a_plan a_turns a_cornerX a_cornerY a_corners a_what a_rowAt a_strip a_along a_rowSize a_endAt a_slantA a_slantB a_yields a_bears a_seen a_wagons a_pile a_far a_waiting a_isWaiting a_rest c_thrown c_isLaid c_head c_hasRows c_hasPlan c_rows c_slants c_capacity c_weight c_unload c_source c_bunker c_isUsed c_plan c_turns) H locs → lv_has ls 5 [(0, .ref a_t), (1, .int v1), (2, .int (st.1)), (3, .int v3_60), (4, .int (st.2))] → W p l e (rm9 1 22) s m args below meth c H locs 0 0 Q (F0 m 64 ls [])) (fun (ex : Int32) => ∀ (H : Heap) (locs : List Loc) (ls : Array Slot), WD g s A (w_X10_nearest g a_t a_isUsed a_plan a_turns a_cornerX a_cornerY a_corners a_what a_rowAt a_strip a_along a_rowSize a_endAt a_slantA a_slantB a_yields a_bears a_seen a_wagons a_pile a_far a_waiting a_isWaiting a_rest c_thrown c_isLaid c_head c_hasRows c_hasPlan c_rows c_slants c_capacity c_weight c_unload c_source c_bunker c_isUsed c_plan c_turns) H locs → lv_has ls 5 [(0, .ref a_t), (1, .int v1), (2, .int ex)] → W p l e (rm9 1 22) s m args below meth c H locs 0 0 Q (F0 m 129 ls [])) ?_ hw ?_ H locs ls hW (lv_sub hl [3, 4, 2, 1, 0] rfl)
        · rintro ⟨v2, v4⟩ o hb9 hk H locs ls hW hl
          have h : X10_nearest_L64 c_rows c_isUsed c_turns v1 v3_60 v2 v4 = some o := hb9
          clear hb9
          unfold X10_nearest_L64 at h
          have J123 : ∀ (v2 v4 : Int32) (H : Heap) (locs : List Loc) (ls : Array Slot), X10_nearest_b64_123 v1 v2 v3_60 v4 = some o → WD g s A (w_X10_nearest g a_t a_isUsed a_plan a_turns a_cornerX a_cornerY a_corners a_what a_rowAt a_strip a_along a_rowSize a_endAt a_slantA a_slantB a_yields a_bears a_seen a_wagons a_pile a_far a_waiting a_isWaiting a_rest c_thrown c_isLaid c_head c_hasRows c_hasPlan c_rows c_slants c_capacity c_weight c_unload c_source c_bunker c_isUsed c_plan c_turns) H locs → lv_has ls 5 [(0, .ref a_t), (1, .int v1), (2, .int v2), (3, .int v3_60), (4, .int v4)] → W p l e (rm9 1 22) s m args below meth c H locs 0 0 Q (F0 m 123 ls []) := by
            intro v2 v4 H locs ls h hW hl
            unfold X10_nearest_b64_123 at h
            obtain ⟨v4_123, ev4_123, h⟩ := nm_ex h
            refine lv_iinc (pc := 123) (v := v4_123) (lv' := [(4, .int v4_123), (0, .ref a_t), (1, .int v1), (2, .int v2), (3, .int v3_60)]) hx hb (dd dX10_nearest_p1 13 rfl) hl (k := 4) rfl (by rw [ev4_123]; rfl) (by decide) rfl (fun ls hl => ?_)
            refine lv_goto (pc := 126) (tgt := 64) hx hb (dd dX10_nearest_p1 14 rfl) (by decide) ?_
            obtain rfl := Option.some.inj h
            exact hk _ _ _ hW (lv_sub hl [1, 2, 3, 4, 0] rfl)
          have J120 : ∀ (v4 : Int32) (H : Heap) (locs : List Loc) (ls : Array Slot), X10_nearest_b64_120 v1 v3_60 v4 = some o → WD g s A (w_X10_nearest g a_t a_isUsed a_plan a_turns a_cornerX a_cornerY a_corners a_what a_rowAt a_strip a_along a_rowSize a_endAt a_slantA a_slantB a_yields a_bears a_seen a_wagons a_pile a_far a_waiting a_isWaiting a_rest c_thrown c_isLaid c_head c_hasRows c_hasPlan c_rows c_slants c_capacity c_weight c_unload c_source c_bunker c_isUsed c_plan c_turns) H locs → lv_has ls 5 [(0, .ref a_t), (1, .int v1), (3, .int v3_60), (4, .int v4)] → W p l e (rm9 1 22) s m args below meth c H locs 0 0 Q (F0 m 120 ls []) := by
            intro v4 H locs ls h hW hl
            unfold X10_nearest_b64_120 at h
            refine lv_iload (pc := 120) hx hb (dd dX10_nearest_p1 11 rfl) (lv_at hl 3 rfl) ?_
            refine lv_istore_n (pc := 122) (lv' := [(2, .int v4), (0, .ref a_t), (1, .int v1), (3, .int v3_60), (4, .int v4)]) hx hb (dd dX10_nearest_p1 12 rfl) rfl hl (by decide) rfl (fun ls hl => ?_)
            exact J123 _ _ _ _ _ h hW (lv_sub hl [1, 2, 0, 3, 4] rfl)
          refine lv_iload (pc := 64) hx hb (dd dX10_nearest_p0 41 rfl) (lv_at hl 4 rfl) ?_
          refine lv_iconst (pc := 66) (v := 2) hx hb (dd dX10_nearest_p0 42 rfl) (by decide) ?_
          refine lv_aload_n (pc := 67) hx hb (dd dX10_nearest_p0 43 rfl) rfl (lv_at hl 0 rfl) ?_
          refine rGet (pc := 68) M hW 0 9 iU10 rfl rfl (by decide) (uw4 222 rfl rfl) rfl (dd dX10_nearest_p0 44 rfl) ?_
          refine lv_imul (pc := 71) hx hb (dd dX10_nearest_p0 45 rfl) ?_
          refine lv_icmp_ge (pc := 72) (tgt := 129) hx hb (dd dX10_nearest_p0 46 rfl) (by decide) (fun hc => ?_) (fun hc => ?_)
          · have h := it_t hc h
            obtain rfl := Option.some.inj h
            exact hk _ _ _ hW (lv_sub hl [0, 1, 2] rfl)
          · have h := it_f hc h
            refine lv_aload_n (pc := 75) hx hb (dd dX10_nearest_p0 47 rfl) rfl (lv_at hl 0 rfl) ?_
            refine rGet (pc := 76) M hW 0 33 iU10 rfl rfl (by decide) (uw5 6 rfl rfl) rfl (dd dX10_nearest_p0 48 rfl) ?_
            refine lv_iload (pc := 79) hx hb (dd dX10_nearest_p0 49 rfl) (lv_at hl 4 rfl) ?_
            refine lv_iconst (pc := 81) (v := 2) hx hb (dd dX10_nearest_p0 50 rfl) (by decide) ?_
            refine lv_idiv (pc := 82) hx hb (dd dX10_nearest_p0 51 rfl) (by decide) ?_
            obtain ⟨hi, h⟩ := ck_ex h
            refine rZald (pc := 83) M hW 1 rfl hi (dd dX10_nearest_p0 52 rfl) ?_
            refine lv_if_ne (pc := 84) (tgt := 123) hx hb (dd dX10_nearest_p0 53 rfl) (by decide) (fun hc => ?_) (fun hc => ?_)
            · have h := it_f hc h
              exact J123 _ _ _ _ _ h hW (lv_sub hl [0, 1, 2, 3, 4] rfl)
            · have h := it_t hc h
              refine lv_aload_n (pc := 87) hx hb (dd dX10_nearest_p0 54 rfl) rfl (lv_at hl 0 rfl) ?_
              refine lv_iload_n (pc := 88) hx hb (dd dX10_nearest_p0 55 rfl) rfl (lv_at hl 3 rfl) ?_
              refine lv_iload (pc := 89) hx hb (dd dX10_nearest_p0 56 rfl) (lv_at hl 4 rfl) ?_
              obtain ⟨r_91, hr, h⟩ := bnd_ex h
              refine callVI (pc := 91) (na := 2) (As := [.int v3_60, .int v4]) (rest := []) (ws2 := (w_X10_nearest g a_t a_isUsed a_plan a_turns a_cornerX a_cornerY a_corners a_what a_rowAt a_strip a_along a_rowSize a_endAt a_slantA a_slantB a_yields a_bears a_seen a_wagons a_pile a_far a_waiting a_isWaiting a_rest c_thrown c_isLaid c_head c_hasRows c_hasPlan c_rows c_slants c_capacity c_weight c_unload c_source c_bunker c_isUsed c_plan c_turns)) M hl.1 hW (t_X10_turnOf l g a_t a_turns a_cornerX a_cornerY a_corners a_what a_rowAt a_strip a_along a_rowSize a_endAt a_plan a_slantA a_slantB a_yields a_bears a_seen a_wagons a_pile a_far a_waiting a_isWaiting a_rest a_isUsed c_thrown c_isLaid c_head c_hasRows c_hasPlan c_rows c_slants c_capacity c_weight c_unload c_source c_bunker c_turns v3_60 v4 r_91 hr) rfl [0, 3] [1, 2] [2, 0, 1, 3] rfl rfl rfl rfl rfl rfl rfl 0 10 rfl rfl rfl (uw5 185 rfl rfl) (uw5 182 rfl rfl) (uw5 184 rfl rfl) (uwp 54 rfl rfl) (uw1 13 rfl rfl) ⟨by decide, by decide, by decide⟩ rfl ⟨by decide, by decide⟩ (Nat.le_of_ble_eq_true rfl) ⟨Nat.zero_le _, Nat.zero_le _⟩ (dd dX10_nearest_p0 57 rfl) (fun H locs hW => ?_)
              refine lv_if_ge (pc := 94) (tgt := 100) hx hb (dd dX10_nearest_p0 58 rfl) (by decide) (fun hc => ?_) (fun hc => ?_)
              · have h := it_t hc h
                refine lv_iload_n (pc := 100) hx hb (dd dX10_nearest_p1 0 rfl) rfl (lv_at hl 2 rfl) ?_
                refine lv_if_lt (pc := 101) (tgt := 120) hx hb (dd dX10_nearest_p1 1 rfl) (by decide) (fun hc => ?_) (fun hc => ?_)
                · have h := it_t hc h
                  exact J120 _ _ _ _ h hW (lv_sub hl [0, 1, 3, 4] rfl)
                · have h := it_f hc h
                  refine lv_aload_n (pc := 104) hx hb (dd dX10_nearest_p1 2 rfl) rfl (lv_at hl 0 rfl) ?_
                  refine lv_iload_n (pc := 105) hx hb (dd dX10_nearest_p1 3 rfl) rfl (lv_at hl 3 rfl) ?_
                  refine lv_iload (pc := 106) hx hb (dd dX10_nearest_p1 4 rfl) (lv_at hl 4 rfl) ?_
                  obtain ⟨r_108, hr, h⟩ := bnd_ex h
                  refine callVI (pc := 108) (na := 2) (As := [.int v3_60, .int v4]) (rest := []) (ws2 := (w_X10_nearest g a_t a_isUsed a_plan a_turns a_cornerX a_cornerY a_corners a_what a_rowAt a_strip a_along a_rowSize a_endAt a_slantA a_slantB a_yields a_bears a_seen a_wagons a_pile a_far a_waiting a_isWaiting a_rest c_thrown c_isLaid c_head c_hasRows c_hasPlan c_rows c_slants c_capacity c_weight c_unload c_source c_bunker c_isUsed c_plan c_turns)) M hl.1 hW (t_X10_turnOf l g a_t a_turns a_cornerX a_cornerY a_corners a_what a_rowAt a_strip a_along a_rowSize a_endAt a_plan a_slantA a_slantB a_yields a_bears a_seen a_wagons a_pile a_far a_waiting a_isWaiting a_rest a_isUsed c_thrown c_isLaid c_head c_hasRows c_hasPlan c_rows c_slants c_capacity c_weight c_unload c_source c_bunker c_turns v3_60 v4 r_108 hr) rfl [0, 3] [1, 2] [2, 0, 1, 3] rfl rfl rfl rfl rfl rfl rfl 0 10 rfl rfl rfl (uw5 185 rfl rfl) (uw5 182 rfl rfl) (uw5 184 rfl rfl) (uwp 54 rfl rfl) (uw1 13 rfl rfl) ⟨by decide, by decide, by decide⟩ rfl ⟨by decide, by decide⟩ (Nat.le_of_ble_eq_true rfl) ⟨Nat.zero_le _, Nat.zero_le _⟩ (dd dX10_nearest_p1 5 rfl) (fun H locs hW => ?_)
                  refine lv_aload_n (pc := 111) hx hb (dd dX10_nearest_p1 6 rfl) rfl (lv_at hl 0 rfl) ?_
                  refine lv_iload_n (pc := 112) hx hb (dd dX10_nearest_p1 7 rfl) rfl (lv_at hl 3 rfl) ?_
                  refine lv_iload_n (pc := 113) hx hb (dd dX10_nearest_p1 8 rfl) rfl (lv_at hl 2 rfl) ?_
                  obtain ⟨r_114, hr, h⟩ := bnd_ex h
                  refine callVI (pc := 114) (na := 2) (As := [.int v3_60, .int v2]) (rest := [.int r_108]) (ws2 := (w_X10_nearest g a_t a_isUsed a_plan a_turns a_cornerX a_cornerY a_corners a_what a_rowAt a_strip a_along a_rowSize a_endAt a_slantA a_slantB a_yields a_bears a_seen a_wagons a_pile a_far a_waiting a_isWaiting a_rest c_thrown c_isLaid c_head c_hasRows c_hasPlan c_rows c_slants c_capacity c_weight c_unload c_source c_bunker c_isUsed c_plan c_turns)) M hl.1 hW (t_X10_turnOf l g a_t a_turns a_cornerX a_cornerY a_corners a_what a_rowAt a_strip a_along a_rowSize a_endAt a_plan a_slantA a_slantB a_yields a_bears a_seen a_wagons a_pile a_far a_waiting a_isWaiting a_rest a_isUsed c_thrown c_isLaid c_head c_hasRows c_hasPlan c_rows c_slants c_capacity c_weight c_unload c_source c_bunker c_turns v3_60 v2 r_114 hr) rfl [0, 3] [1, 2] [2, 0, 1, 3] rfl rfl rfl rfl rfl rfl rfl 0 10 rfl rfl rfl (uw5 185 rfl rfl) (uw5 182 rfl rfl) (uw5 184 rfl rfl) (uwp 54 rfl rfl) (uw1 13 rfl rfl) ⟨by decide, by decide, by decide⟩ rfl ⟨by decide, by decide⟩ (Nat.le_of_ble_eq_true rfl) ⟨Nat.zero_le _, Nat.zero_le _⟩ (dd dX10_nearest_p1 9 rfl) (fun H locs hW => ?_)
                  refine lv_icmp_ge (pc := 117) (tgt := 123) hx hb (dd dX10_nearest_p1 10 rfl) (by decide) (fun hc => ?_) (fun hc => ?_)
                  · have h := it_t hc h
                    exact J123 _ _ _ _ _ h hW (lv_sub hl [0, 1, 2, 3, 4] rfl)
                  · have h := it_f hc h
                    exact J120 _ _ _ _ h hW (lv_sub hl [0, 1, 3, 4] rfl)
              · have h := it_f hc h
                refine lv_goto (pc := 97) (tgt := 123) hx hb (dd dX10_nearest_p0 59 rfl) (by decide) ?_
                exact J123 _ _ _ _ _ h hW (lv_sub hl [0, 1, 2, 3, 4] rfl)
        · obtain ⟨v2_129, e9⟩ : ∃ z, z = ex := ⟨_, rfl⟩
          subst e9
          intro H locs ls hW hl
          refine lv_iload_n (pc := 129) hx hb (dd dX10_nearest_p1 15 rfl) rfl (lv_at hl 2 rfl) ?_
          refine lv_if_ge (pc := 130) (tgt := 135) hx hb (dd dX10_nearest_p1 16 rfl) (by decide) (fun hc => ?_) (fun hc => ?_)
          · have h := it_t hc h
            refine lv_aload_n (pc := 135) hx hb (dd dX10_nearest_p1 19 rfl) rfl (lv_at hl 0 rfl) ?_
            refine rGet (pc := 136) M hW 0 16 iU10 rfl rfl (by decide) (uw4 229 rfl rfl) rfl (dd dX10_nearest_p1 20 rfl) ?_
            refine lv_iload_n (pc := 139) hx hb (dd dX10_nearest_p1 21 rfl) rfl (lv_at hl 1 rfl) ?_
            refine lv_iload_n (pc := 140) hx hb (dd dX10_nearest_p1 22 rfl) rfl (lv_at hl 2 rfl) ?_
            obtain ⟨hi, h⟩ := ck_ex h
            obtain ⟨c_plan_141, ec_plan_141, h⟩ := nm_ex h
            refine rIast (pc := 141) M hW 2 rfl hi ec_plan_141 (ws' := (w_X10_nearest g a_t a_isUsed a_plan a_turns a_cornerX a_cornerY a_corners a_what a_rowAt a_strip a_along a_rowSize a_endAt a_slantA a_slantB a_yields a_bears a_seen a_wagons a_pile a_far a_waiting a_isWaiting a_rest c_thrown c_isLaid c_head c_hasRows c_hasPlan c_rows c_slants c_capacity c_weight c_unload c_source c_bunker c_isUsed c_plan_141 c_turns)) rfl (dd dX10_nearest_p1 23 rfl) (fun H locs hW => ?_)
            refine lv_aload_n (pc := 142) hx hb (dd dX10_nearest_p1 24 rfl) rfl (lv_at hl 0 rfl) ?_
            refine rGet (pc := 143) M hW 0 33 iU10 rfl rfl (by decide) (uw5 6 rfl rfl) rfl (dd dX10_nearest_p1 25 rfl) ?_
            refine lv_iload_n (pc := 146) hx hb (dd dX10_nearest_p1 26 rfl) rfl (lv_at hl 2 rfl) ?_
            refine lv_iconst (pc := 147) (v := 2) hx hb (dd dX10_nearest_p1 27 rfl) (by decide) ?_
            refine lv_idiv (pc := 148) hx hb (dd dX10_nearest_p1 28 rfl) (by decide) ?_
            refine lv_iconst (pc := 149) (v := 1) hx hb (dd dX10_nearest_p1 29 rfl) (by decide) ?_
            obtain ⟨hi, h⟩ := ck_ex h
            obtain ⟨c_isUsed_150, ec_isUsed_150, h⟩ := nm_ex h
            refine rZast (pc := 150) M hW 1 rfl hi ec_isUsed_150 (ws' := (w_X10_nearest g a_t a_isUsed a_plan a_turns a_cornerX a_cornerY a_corners a_what a_rowAt a_strip a_along a_rowSize a_endAt a_slantA a_slantB a_yields a_bears a_seen a_wagons a_pile a_far a_waiting a_isWaiting a_rest c_thrown c_isLaid c_head c_hasRows c_hasPlan c_rows c_slants c_capacity c_weight c_unload c_source c_bunker c_isUsed_150 c_plan_141 c_turns)) rfl (dd dX10_nearest_p1 30 rfl) (fun H locs hW => ?_)
            obtain ⟨v1_151, ev1_151, h⟩ := nm_ex h
            refine lv_iinc (pc := 151) (v := v1_151) (lv' := [(1, .int v1_151), (0, .ref a_t), (2, .int v2_129)]) hx hb (dd dX10_nearest_p1 31 rfl) hl (k := 1) rfl (by rw [ev1_151]; rfl) (by decide) rfl (fun ls hl => ?_)
            refine lv_goto (pc := 154) (tgt := 40) hx hb (dd dX10_nearest_p1 32 rfl) (by decide) ?_
            obtain rfl := Option.some.inj h
            exact hk _ _ _ hW (lv_sub hl [1, 0] rfl)
          · have h := it_f hc h
            obtain rfl := Option.some.inj h
            exact hk _ _ _ hW (lv_sub hl [] rfl)
    · rcases ex with ⟨c_isUsed_157, c_plan_157⟩ | ⟨c_isUsed_133, c_plan_133⟩
      · intro H locs ls hW hl
        have h := sE_l h
        have h := un2_at h
        refine lv_iconst (pc := 157) (v := 1) hx hb (dd dX10_nearest_p1 33 rfl) (by decide) ?_
        have hW9 := hW
        cases h
        exact ret _ _ _ 158 hW9 rfl (dd dX10_nearest_p1 34 rfl)
      · intro H locs ls hW hl
        have h := sE_r h
        have h := un2_at h
        refine lv_iconst (pc := 133) (v := 0) hx hb (dd dX10_nearest_p1 17 rfl) (by decide) ?_
        have hW9 := hW
        cases h
        exact ret _ _ _ 134 hW9 rfl (dd dX10_nearest_p1 18 rfl)
abbrev w_X10_sumOf (g : G9) (a_t a_plan a_turns a_cornerX a_cornerY a_corners a_what a_rowAt a_strip a_along a_rowSize a_endAt a_slantA a_slantB a_yields a_bears a_seen a_wagons a_pile a_far a_waiting a_isWaiting a_rest a_isUsed : Nat) (c_thrown c_isLaid c_head c_hasRows c_hasPlan c_rows c_slants c_capacity c_weight c_unload c_source c_bunker : Int32) (c_plan c_turns : Ar) : va_W := [ob a_t 10 [.int c_thrown, .ref a_cornerX, .ref a_cornerY, .ref a_corners, .ref a_what, .int c_isLaid, .int c_head, .int c_hasRows, .int c_hasPlan, .int c_rows, .ref a_rowAt, .ref a_strip, .ref a_along, .ref a_rowSize, .ref a_endAt, .ref a_turns, .ref a_plan, .ref a_slantA, .ref a_slantB, .int c_slants, .ref a_yields, .ref a_bears, .int c_capacity, .int c_weight, .int c_unload, .ref a_seen, .ref a_wagons, .ref a_pile, .ref a_far, .int c_source, .ref a_waiting, .ref a_isWaiting, .ref a_rest, .ref a_isUsed, .int c_bunker], ia g a_plan 60 c_plan, ia g a_turns 14400 c_turns]
noncomputable def X10_sumOf_L4 (c_rows : Int32) (c_plan c_turns : Ar) (v1 v2 : Int32) : Option ((Int32 × Int32) ⊕ (Int32 ⊕ Unit)) :=
  if c_rows ≤ v2 then (some (.inr (.inl v1))) else (ck (ix (v2 - 1) 60) <| ck (ix v2 60) <| bnd (X10_turnOf c_turns ((ag c_plan (v2 - 1)) ^^^ 1) (ag c_plan v2)) <| fun r_29 => if 0 ≤ r_29 then (nm ((v1 + r_29)) fun v1_42 => nm (v2 + 1) fun v2_43 => some (.inl (v1_42, v2_43))) else (some (.inr (.inr (())))))
noncomputable def X10_sumOf (c_rows : Int32) (c_plan c_turns : Ar) : Option Int32 :=
  bnd (whileV (fun st => X10_sumOf_L4 c_rows c_plan c_turns st.1 st.2) (0, 1)) <| (Sum.elim (fun v1_49 => some v1_49) (fun (_ : Unit) => some (-1)))
set_option maxHeartbeats 4000000 in
set_option maxRecDepth 100000 in
theorem t_X10_sumOf (l : Launch) (g : G9) (a_t a_plan a_turns a_cornerX a_cornerY a_corners a_what a_rowAt a_strip a_along a_rowSize a_endAt a_slantA a_slantB a_yields a_bears a_seen a_wagons a_pile a_far a_waiting a_isWaiting a_rest a_isUsed : Nat) (c_thrown c_isLaid c_head c_hasRows c_hasPlan c_rows c_slants c_capacity c_weight c_unload c_source c_bunker : Int32) (c_plan c_turns : Ar) (r0 : Int32) (h : X10_sumOf c_rows c_plan c_turns = some r0) : CtI l g yX10_sumOf cX10_sumOf 4 .int 1 22 [.ref a_t] (w_X10_sumOf g a_t a_plan a_turns a_cornerX a_cornerY a_corners a_what a_rowAt a_strip a_along a_rowSize a_endAt a_slantA a_slantB a_yields a_bears a_seen a_wagons a_pile a_far a_waiting a_isWaiting a_rest a_isUsed c_thrown c_isLaid c_head c_hasRows c_hasPlan c_rows c_slants c_capacity c_weight c_unload c_source c_bunker c_plan c_turns) r0 (w_X10_sumOf g a_t a_plan a_turns a_cornerX a_cornerY a_corners a_what a_rowAt a_strip a_along a_rowSize a_endAt a_slantA a_slantB a_yields a_bears a_seen a_wagons a_pile a_far a_waiting a_isWaiting a_rest a_isUsed c_thrown c_isLaid c_head c_hasRows c_hasPlan c_rows c_slants c_capacity c_weight c_unload c_source c_bunker c_plan c_turns) := by
  refine startI (by decide) (Nat.le_of_ble_eq_true rfl) ?_
  intro p e s m below meth c A Q ls args M hW hl ret
  have hx := M.1
  have hb := M.2.1
  have hown := M.2.2.2.1
  have hu := M.2.2.2.2.1
  have hl : lv_has ls 4 [(0, .ref a_t)] := hl
  unfold X10_sumOf at h
  obtain ⟨H, eH⟩ : ∃ z, z = s.heap := ⟨_, rfl⟩
  obtain ⟨locs, eL⟩ : ∃ z, z = ([] : List Loc) := ⟨_, rfl⟩
  rw [← eL] at hW ⊢
  suffices hS9 : WD g s A (w_X10_sumOf g a_t a_plan a_turns a_cornerX a_cornerY a_corners a_what a_rowAt a_strip a_along a_rowSize a_endAt a_slantA a_slantB a_yields a_bears a_seen a_wagons a_pile a_far a_waiting a_isWaiting a_rest a_isUsed c_thrown c_isLaid c_head c_hasRows c_hasPlan c_rows c_slants c_capacity c_weight c_unload c_source c_bunker c_plan c_turns) H locs → W p l e (rm9 1 22) s m args below meth c H locs 0 0 Q (F0 m 0 ls []) by
    rw [← eH] at hW ⊢
    exact hS9 hW
  clear hW eH eL
  intro hW
  refine lv_iconst (pc := 0) (v := 0) hx hb (dd dX10_sumOf 0 rfl) (by decide) ?_
  refine lv_istore_n (pc := 1) (lv' := [(1, .int 0), (0, .ref a_t)]) hx hb (dd dX10_sumOf 1 rfl) rfl hl (by decide) rfl (fun ls hl => ?_)
  refine lv_iconst (pc := 2) (v := 1) hx hb (dd dX10_sumOf 2 rfl) (by decide) ?_
  refine lv_istore_n (pc := 3) (lv' := [(2, .int 1), (1, .int 0), (0, .ref a_t)]) hx hb (dd dX10_sumOf 3 rfl) rfl hl (by decide) rfl (fun ls hl => ?_)
  obtain ⟨ex, hw, h⟩ := bnd_ex h
  refine loopW (fun st => ∀ (H : Heap) (locs : List Loc) (ls : Array Slot), WD g s A (w_X10_sumOf g a_t a_plan a_turns a_cornerX a_cornerY a_corners a_what a_rowAt a_strip a_along a_rowSize a_endAt a_slantA a_slantB a_yields a_bears a_seen a_wagons a_pile a_far a_waiting a_isWaiting a_rest a_isUsed c_thrown c_isLaid c_head c_hasRows c_hasPlan c_rows c_slants c_capacity c_weight c_unload c_source c_bunker c_plan c_turns) H locs → lv_has ls 4 [(0, .ref a_t), (1, .int (st.1)), (2, .int (st.2))] → W p l e (rm9 1 22) s m args below meth c H locs 0 0 Q (F0 m 4 ls [])) (Sum.elim (fun (ex : Int32) => ∀ (H : Heap) (locs : List Loc) (ls : Array Slot), WD g s A (w_X10_sumOf g a_t a_plan a_turns a_cornerX a_cornerY a_corners a_what a_rowAt a_strip a_along a_rowSize a_endAt a_slantA a_slantB a_yields a_bears a_seen a_wagons a_pile a_far a_waiting a_isWaiting a_rest a_isUsed c_thrown c_isLaid c_head c_hasRows c_hasPlan c_rows c_slants c_capacity c_weight c_unload c_source c_bunker c_plan c_turns) H locs → lv_has ls 4 [(1, .int ex)] → W p l e (rm9 1 22) s m args below meth c H locs 0 0 Q (F0 m 49 ls [])) (fun (ex : Unit) => ∀ (H : Heap) (locs : List Loc) (ls : Array Slot), WD g s A (w_X10_sumOf g a_t a_plan a_turns a_cornerX a_cornerY a_corners a_what a_rowAt a_strip a_along a_rowSize a_endAt a_slantA a_slantB a_yields a_bears a_seen a_wagons a_pile a_far a_waiting a_isWaiting a_rest a_isUsed c_thrown c_isLaid c_head c_hasRows c_hasPlan c_rows c_slants c_capacity c_weight c_unload c_source c_bunker c_plan c_turns) H locs → lv_has ls 4 [] → W p l e (rm9 1 22) s m args below meth c H locs 0 0 Q (F0 m 37 ls []))) ?_ hw ?_ H locs ls hW (lv_sub hl [2, 1, 0] rfl)
  · rintro ⟨v1, v2⟩ o hb9 hk H locs ls hW hl
    have h : X10_sumOf_L4 c_rows c_plan c_turns v1 v2 = some o := hb9
    clear hb9
    unfold X10_sumOf_L4 at h
    refine lv_iload_n (pc := 4) hx hb (dd dX10_sumOf 4 rfl) rfl (lv_at hl 2 rfl) ?_
    refine lv_aload_n (pc := 5) hx hb (dd dX10_sumOf 5 rfl) rfl (lv_at hl 0 rfl) ?_
    refine rGet (pc := 6) M hW 0 9 iU10 rfl rfl (by decide) (uw4 222 rfl rfl) rfl (dd dX10_sumOf 6 rfl) ?_
    refine lv_icmp_ge (pc := 9) (tgt := 49) hx hb (dd dX10_sumOf 7 rfl) (by decide) (fun hc => ?_) (fun hc => ?_)
    · have h := it_t hc h
      obtain rfl := Option.some.inj h
      exact hk _ _ _ hW (lv_sub hl [1] rfl)
    · have h := it_f hc h
      refine lv_aload_n (pc := 12) hx hb (dd dX10_sumOf 8 rfl) rfl (lv_at hl 0 rfl) ?_
      refine lv_aload_n (pc := 13) hx hb (dd dX10_sumOf 9 rfl) rfl (lv_at hl 0 rfl) ?_
      refine rGet (pc := 14) M hW 0 16 iU10 rfl rfl (by decide) (uw4 229 rfl rfl) rfl (dd dX10_sumOf 10 rfl) ?_
      refine lv_iload_n (pc := 17) hx hb (dd dX10_sumOf 11 rfl) rfl (lv_at hl 2 rfl) ?_
      refine lv_iconst (pc := 18) (v := 1) hx hb (dd dX10_sumOf 12 rfl) (by decide) ?_
      refine lv_isub (pc := 19) hx hb (dd dX10_sumOf 13 rfl) ?_
      obtain ⟨hi, h⟩ := ck_ex h
      refine rIald (pc := 20) M hW 1 rfl hi (dd dX10_sumOf 14 rfl) ?_
      refine lv_iconst (pc := 21) (v := 1) hx hb (dd dX10_sumOf 15 rfl) (by decide) ?_
      refine lv_ixor (pc := 22) hx hb (dd dX10_sumOf 16 rfl) ?_
      refine lv_aload_n (pc := 23) hx hb (dd dX10_sumOf 17 rfl) rfl (lv_at hl 0 rfl) ?_
      refine rGet (pc := 24) M hW 0 16 iU10 rfl rfl (by decide) (uw4 229 rfl rfl) rfl (dd dX10_sumOf 18 rfl) ?_
      refine lv_iload_n (pc := 27) hx hb (dd dX10_sumOf 19 rfl) rfl (lv_at hl 2 rfl) ?_
      obtain ⟨hi, h⟩ := ck_ex h
      refine rIald (pc := 28) M hW 1 rfl hi (dd dX10_sumOf 20 rfl) ?_
      obtain ⟨r_29, hr, h⟩ := bnd_ex h
      refine callVI (pc := 29) (na := 2) (As := [.int ((ag c_plan (v2 - 1)) ^^^ 1), .int (ag c_plan v2)]) (rest := []) (ws2 := (w_X10_sumOf g a_t a_plan a_turns a_cornerX a_cornerY a_corners a_what a_rowAt a_strip a_along a_rowSize a_endAt a_slantA a_slantB a_yields a_bears a_seen a_wagons a_pile a_far a_waiting a_isWaiting a_rest a_isUsed c_thrown c_isLaid c_head c_hasRows c_hasPlan c_rows c_slants c_capacity c_weight c_unload c_source c_bunker c_plan c_turns)) M hl.1 hW (t_X10_turnOf l g a_t a_turns a_cornerX a_cornerY a_corners a_what a_rowAt a_strip a_along a_rowSize a_endAt a_plan a_slantA a_slantB a_yields a_bears a_seen a_wagons a_pile a_far a_waiting a_isWaiting a_rest a_isUsed c_thrown c_isLaid c_head c_hasRows c_hasPlan c_rows c_slants c_capacity c_weight c_unload c_source c_bunker c_turns ((ag c_plan (v2 - 1)) ^^^ 1) (ag c_plan v2) r_29 hr) rfl [0, 2] [1] [1, 0, 2] rfl rfl rfl rfl rfl rfl rfl 0 10 rfl rfl rfl (uw5 185 rfl rfl) (uw5 182 rfl rfl) (uw5 184 rfl rfl) (uwp 54 rfl rfl) (uw1 13 rfl rfl) ⟨by decide, by decide, by decide⟩ rfl ⟨by decide, by decide⟩ (Nat.le_of_ble_eq_true rfl) ⟨Nat.zero_le _, Nat.zero_le _⟩ (dd dX10_sumOf 21 rfl) (fun H locs hW => ?_)
      refine lv_istore_n (pc := 32) (lv' := [(3, .int r_29), (0, .ref a_t), (1, .int v1), (2, .int v2)]) hx hb (dd dX10_sumOf 22 rfl) rfl hl (by decide) rfl (fun ls hl => ?_)
      refine lv_iload_n (pc := 33) hx hb (dd dX10_sumOf 23 rfl) rfl (lv_at hl 0 rfl) ?_
      refine lv_if_ge (pc := 34) (tgt := 39) hx hb (dd dX10_sumOf 24 rfl) (by decide) (fun hc => ?_) (fun hc => ?_)
      · have h := it_t hc h
        refine lv_iload_n (pc := 39) hx hb (dd dX10_sumOf 27 rfl) rfl (lv_at hl 2 rfl) ?_
        refine lv_iload_n (pc := 40) hx hb (dd dX10_sumOf 28 rfl) rfl (lv_at hl 0 rfl) ?_
        refine lv_iadd (pc := 41) hx hb (dd dX10_sumOf 29 rfl) ?_
        obtain ⟨v1_42, ev1_42, h⟩ := nm_ex h
        refine rTopi (pc := 42) ev1_42 ?_
        refine lv_istore_n (pc := 42) (lv' := [(1, .int v1_42), (3, .int r_29), (0, .ref a_t), (2, .int v2)]) hx hb (dd dX10_sumOf 30 rfl) rfl hl (by decide) rfl (fun ls hl => ?_)
        obtain ⟨v2_43, ev2_43, h⟩ := nm_ex h
        refine lv_iinc (pc := 43) (v := v2_43) (lv' := [(2, .int v2_43), (1, .int v1_42), (3, .int r_29), (0, .ref a_t)]) hx hb (dd dX10_sumOf 31 rfl) hl (k := 3) rfl (by rw [ev2_43]; rfl) (by decide) rfl (fun ls hl => ?_)
        refine lv_goto (pc := 46) (tgt := 4) hx hb (dd dX10_sumOf 32 rfl) (by decide) ?_
        obtain rfl := Option.some.inj h
        exact hk _ _ _ hW (lv_sub hl [3, 1, 0] rfl)
      · have h := it_f hc h
        obtain rfl := Option.some.inj h
        exact hk _ _ _ hW (lv_sub hl [] rfl)
  · rcases ex with v1_49 | _
    · intro H locs ls hW hl
      have h := sE_l h
      refine lv_iload_n (pc := 49) hx hb (dd dX10_sumOf 33 rfl) rfl (lv_at hl 0 rfl) ?_
      have hW9 := hW
      cases h
      exact ret _ _ _ 50 hW9 rfl (dd dX10_sumOf 34 rfl)
    · intro H locs ls hW hl
      have h := sE_r h
      refine lv_iconst (pc := 37) (v := (-1)) hx hb (dd dX10_sumOf 25 rfl) (by decide) ?_
      have hW9 := hW
      cases h
      exact ret _ _ _ 38 hW9 rfl (dd dX10_sumOf 26 rfl)
abbrev w_X10_turnsRound (g : G9) (a_t a_plan a_cornerX a_cornerY a_corners a_what a_rowAt a_strip a_along a_rowSize a_endAt a_turns a_slantA a_slantB a_yields a_bears a_seen a_wagons a_pile a_far a_waiting a_isWaiting a_rest a_isUsed : Nat) (c_thrown c_isLaid c_head c_hasRows c_hasPlan c_rows c_slants c_capacity c_weight c_unload c_source c_bunker : Int32) (c_plan : Ar) : va_W := [ob a_t 10 [.int c_thrown, .ref a_cornerX, .ref a_cornerY, .ref a_corners, .ref a_what, .int c_isLaid, .int c_head, .int c_hasRows, .int c_hasPlan, .int c_rows, .ref a_rowAt, .ref a_strip, .ref a_along, .ref a_rowSize, .ref a_endAt, .ref a_turns, .ref a_plan, .ref a_slantA, .ref a_slantB, .int c_slants, .ref a_yields, .ref a_bears, .int c_capacity, .int c_weight, .int c_unload, .ref a_seen, .ref a_wagons, .ref a_pile, .ref a_far, .int c_source, .ref a_waiting, .ref a_isWaiting, .ref a_rest, .ref a_isUsed, .int c_bunker], ia g a_plan 60 c_plan]
noncomputable def X10_turnsRound_L5 (c_plan : Ar) (v3 v4 : Int32) : Option ((Ar × Int32 × Int32) ⊕ Ar) :=
  if v4 < v3 then (some (.inr c_plan)) else (ck (ix v3 60) <| nm (((ag c_plan v3) ^^^ 1)) fun v5_19 => ck (ix v4 60) <| ck (ix v3 60) <| nm (au c_plan v3 ((ag c_plan v4) ^^^ 1)) fun c_plan_35 => ck (ix v4 60) <| nm (au c_plan_35 v4 v5_19) fun c_plan_44 => nm (v3 + 1) fun v3_45 => nm (v4 + (-1)) fun v4_48 => some (.inl (c_plan_44, v3_45, v4_48)))
noncomputable def X10_turnsRound (c_plan : Ar) (v1 v2 : Int32) : Option Ar :=
  bnd (whileV (fun st => X10_turnsRound_L5  st.1 st.2.1 st.2.2) (c_plan, v1, v2)) <| (fun c_plan_54 => some c_plan_54)
set_option maxHeartbeats 4000000 in
set_option maxRecDepth 100000 in
theorem t_X10_turnsRound (l : Launch) (g : G9) (a_t a_plan a_cornerX a_cornerY a_corners a_what a_rowAt a_strip a_along a_rowSize a_endAt a_turns a_slantA a_slantB a_yields a_bears a_seen a_wagons a_pile a_far a_waiting a_isWaiting a_rest a_isUsed : Nat) (c_thrown c_isLaid c_head c_hasRows c_hasPlan c_rows c_slants c_capacity c_weight c_unload c_source c_bunker : Int32) (c_plan : Ar) (v1 v2 : Int32) (o_plan : Ar) (h : X10_turnsRound c_plan v1 v2 = some o_plan) : CtV l g yX10_turnsRound cX10_turnsRound 6 0 0 [.ref a_t, .int v1, .int v2] (w_X10_turnsRound g a_t a_plan a_cornerX a_cornerY a_corners a_what a_rowAt a_strip a_along a_rowSize a_endAt a_turns a_slantA a_slantB a_yields a_bears a_seen a_wagons a_pile a_far a_waiting a_isWaiting a_rest a_isUsed c_thrown c_isLaid c_head c_hasRows c_hasPlan c_rows c_slants c_capacity c_weight c_unload c_source c_bunker c_plan) (w_X10_turnsRound g a_t a_plan a_cornerX a_cornerY a_corners a_what a_rowAt a_strip a_along a_rowSize a_endAt a_turns a_slantA a_slantB a_yields a_bears a_seen a_wagons a_pile a_far a_waiting a_isWaiting a_rest a_isUsed c_thrown c_isLaid c_head c_hasRows c_hasPlan c_rows c_slants c_capacity c_weight c_unload c_source c_bunker o_plan) := by
  refine startV (by decide) (Nat.le_of_ble_eq_true rfl) ?_
  intro p e s m below meth c A Q ls args M hW hl ret
  have hx := M.1
  have hb := M.2.1
  have hown := M.2.2.2.1
  have hu := M.2.2.2.2.1
  have hl : lv_has ls 6 [(0, .ref a_t), (1, .int v1), (2, .int v2)] := hl
  unfold X10_turnsRound at h
  obtain ⟨H, eH⟩ : ∃ z, z = s.heap := ⟨_, rfl⟩
  obtain ⟨locs, eL⟩ : ∃ z, z = ([] : List Loc) := ⟨_, rfl⟩
  rw [← eL] at hW ⊢
  suffices hS9 : WD g s A (w_X10_turnsRound g a_t a_plan a_cornerX a_cornerY a_corners a_what a_rowAt a_strip a_along a_rowSize a_endAt a_turns a_slantA a_slantB a_yields a_bears a_seen a_wagons a_pile a_far a_waiting a_isWaiting a_rest a_isUsed c_thrown c_isLaid c_head c_hasRows c_hasPlan c_rows c_slants c_capacity c_weight c_unload c_source c_bunker c_plan) H locs → W p l e (rm9 0 0) s m args below meth c H locs 0 0 Q (F0 m 0 ls []) by
    rw [← eH] at hW ⊢
    exact hS9 hW
  clear hW eH eL
  intro hW
  refine lv_iload_n (pc := 0) hx hb (dd dX10_turnsRound 0 rfl) rfl (lv_at hl 1 rfl) ?_
  refine lv_istore_n (pc := 1) (lv' := [(3, .int v1), (0, .ref a_t), (1, .int v1), (2, .int v2)]) hx hb (dd dX10_turnsRound 1 rfl) rfl hl (by decide) rfl (fun ls hl => ?_)
  refine lv_iload_n (pc := 2) hx hb (dd dX10_turnsRound 2 rfl) rfl (lv_at hl 3 rfl) ?_
  refine lv_istore (pc := 3) (lv' := [(4, .int v2), (3, .int v1), (0, .ref a_t), (1, .int v1), (2, .int v2)]) hx hb (dd dX10_turnsRound 3 rfl) hl (by decide) rfl (fun ls hl => ?_)
  obtain ⟨ex, hw, h⟩ := bnd_ex h
  refine loopW (fun st => ∀ (H : Heap) (locs : List Loc) (ls : Array Slot), WD g s A (w_X10_turnsRound g a_t a_plan a_cornerX a_cornerY a_corners a_what a_rowAt a_strip a_along a_rowSize a_endAt a_turns a_slantA a_slantB a_yields a_bears a_seen a_wagons a_pile a_far a_waiting a_isWaiting a_rest a_isUsed c_thrown c_isLaid c_head c_hasRows c_hasPlan c_rows c_slants c_capacity c_weight c_unload c_source c_bunker (st.1)) H locs → lv_has ls 6 [(0, .ref a_t), (3, .int (st.2.1)), (4, .int (st.2.2))] → W p l e (rm9 0 0) s m args below meth c H locs 0 0 Q (F0 m 5 ls [])) (fun (ex : Ar) => ∀ (H : Heap) (locs : List Loc) (ls : Array Slot), WD g s A (w_X10_turnsRound g a_t a_plan a_cornerX a_cornerY a_corners a_what a_rowAt a_strip a_along a_rowSize a_endAt a_turns a_slantA a_slantB a_yields a_bears a_seen a_wagons a_pile a_far a_waiting a_isWaiting a_rest a_isUsed c_thrown c_isLaid c_head c_hasRows c_hasPlan c_rows c_slants c_capacity c_weight c_unload c_source c_bunker ex) H locs → lv_has ls 6 [] → W p l e (rm9 0 0) s m args below meth c H locs 0 0 Q (F0 m 54 ls [])) ?_ hw ?_ H locs ls hW (lv_sub hl [2, 1, 0] rfl)
  · rintro ⟨c_plan, v3, v4⟩ o hb9 hk H locs ls hW hl
    have h : X10_turnsRound_L5  c_plan v3 v4 = some o := hb9
    clear hb9
    unfold X10_turnsRound_L5 at h
    refine lv_iload_n (pc := 5) hx hb (dd dX10_turnsRound 4 rfl) rfl (lv_at hl 1 rfl) ?_
    refine lv_iload (pc := 6) hx hb (dd dX10_turnsRound 5 rfl) (lv_at hl 2 rfl) ?_
    refine lv_icmp_gt (pc := 8) (tgt := 54) hx hb (dd dX10_turnsRound 6 rfl) (by decide) (fun hc => ?_) (fun hc => ?_)
    · have h := it_t hc h
      obtain rfl := Option.some.inj h
      exact hk _ _ _ hW (lv_sub hl [] rfl)
    · have h := it_f hc h
      refine lv_aload_n (pc := 11) hx hb (dd dX10_turnsRound 7 rfl) rfl (lv_at hl 0 rfl) ?_
      refine rGet (pc := 12) M hW 0 16 iU10 rfl rfl (by decide) (uw4 229 rfl rfl) rfl (dd dX10_turnsRound 8 rfl) ?_
      refine lv_iload_n (pc := 15) hx hb (dd dX10_turnsRound 9 rfl) rfl (lv_at hl 1 rfl) ?_
      obtain ⟨hi, h⟩ := ck_ex h
      refine rIald (pc := 16) M hW 1 rfl hi (dd dX10_turnsRound 10 rfl) ?_
      refine lv_iconst (pc := 17) (v := 1) hx hb (dd dX10_turnsRound 11 rfl) (by decide) ?_
      refine lv_ixor (pc := 18) hx hb (dd dX10_turnsRound 12 rfl) ?_
      obtain ⟨v5_19, ev5_19, h⟩ := nm_ex h
      refine rTopi (pc := 19) ev5_19 ?_
      refine lv_istore (pc := 19) (lv' := [(5, .int v5_19), (0, .ref a_t), (3, .int v3), (4, .int v4)]) hx hb (dd dX10_turnsRound 13 rfl) hl (by decide) rfl (fun ls hl => ?_)
      refine lv_aload_n (pc := 21) hx hb (dd dX10_turnsRound 14 rfl) rfl (lv_at hl 1 rfl) ?_
      refine rGet (pc := 22) M hW 0 16 iU10 rfl rfl (by decide) (uw4 229 rfl rfl) rfl (dd dX10_turnsRound 15 rfl) ?_
      refine lv_iload_n (pc := 25) hx hb (dd dX10_turnsRound 16 rfl) rfl (lv_at hl 2 rfl) ?_
      refine lv_aload_n (pc := 26) hx hb (dd dX10_turnsRound 17 rfl) rfl (lv_at hl 1 rfl) ?_
      refine rGet (pc := 27) M hW 0 16 iU10 rfl rfl (by decide) (uw4 229 rfl rfl) rfl (dd dX10_turnsRound 18 rfl) ?_
      refine lv_iload (pc := 30) hx hb (dd dX10_turnsRound 19 rfl) (lv_at hl 3 rfl) ?_
      obtain ⟨hi, h⟩ := ck_ex h
      refine rIald (pc := 32) M hW 1 rfl hi (dd dX10_turnsRound 20 rfl) ?_
      refine lv_iconst (pc := 33) (v := 1) hx hb (dd dX10_turnsRound 21 rfl) (by decide) ?_
      refine lv_ixor (pc := 34) hx hb (dd dX10_turnsRound 22 rfl) ?_
      obtain ⟨hi, h⟩ := ck_ex h
      obtain ⟨c_plan_35, ec_plan_35, h⟩ := nm_ex h
      refine rIast (pc := 35) M hW 1 rfl hi ec_plan_35 (ws' := (w_X10_turnsRound g a_t a_plan a_cornerX a_cornerY a_corners a_what a_rowAt a_strip a_along a_rowSize a_endAt a_turns a_slantA a_slantB a_yields a_bears a_seen a_wagons a_pile a_far a_waiting a_isWaiting a_rest a_isUsed c_thrown c_isLaid c_head c_hasRows c_hasPlan c_rows c_slants c_capacity c_weight c_unload c_source c_bunker c_plan_35)) rfl (dd dX10_turnsRound 23 rfl) (fun H locs hW => ?_)
      refine lv_aload_n (pc := 36) hx hb (dd dX10_turnsRound 24 rfl) rfl (lv_at hl 1 rfl) ?_
      refine rGet (pc := 37) M hW 0 16 iU10 rfl rfl (by decide) (uw4 229 rfl rfl) rfl (dd dX10_turnsRound 25 rfl) ?_
      refine lv_iload (pc := 40) hx hb (dd dX10_turnsRound 26 rfl) (lv_at hl 3 rfl) ?_
      refine lv_iload (pc := 42) hx hb (dd dX10_turnsRound 27 rfl) (lv_at hl 0 rfl) ?_
      obtain ⟨hi, h⟩ := ck_ex h
      obtain ⟨c_plan_44, ec_plan_44, h⟩ := nm_ex h
      refine rIast (pc := 44) M hW 1 rfl hi ec_plan_44 (ws' := (w_X10_turnsRound g a_t a_plan a_cornerX a_cornerY a_corners a_what a_rowAt a_strip a_along a_rowSize a_endAt a_turns a_slantA a_slantB a_yields a_bears a_seen a_wagons a_pile a_far a_waiting a_isWaiting a_rest a_isUsed c_thrown c_isLaid c_head c_hasRows c_hasPlan c_rows c_slants c_capacity c_weight c_unload c_source c_bunker c_plan_44)) rfl (dd dX10_turnsRound 28 rfl) (fun H locs hW => ?_)
      obtain ⟨v3_45, ev3_45, h⟩ := nm_ex h
      refine lv_iinc (pc := 45) (v := v3_45) (lv' := [(3, .int v3_45), (5, .int v5_19), (0, .ref a_t), (4, .int v4)]) hx hb (dd dX10_turnsRound 29 rfl) hl (k := 2) rfl (by rw [ev3_45]; rfl) (by decide) rfl (fun ls hl => ?_)
      obtain ⟨v4_48, ev4_48, h⟩ := nm_ex h
      refine lv_iinc (pc := 48) (v := v4_48) (lv' := [(4, .int v4_48), (3, .int v3_45), (5, .int v5_19), (0, .ref a_t)]) hx hb (dd dX10_turnsRound 30 rfl) hl (k := 3) rfl (by rw [ev4_48]; rfl) (by decide) rfl (fun ls hl => ?_)
      refine lv_goto (pc := 51) (tgt := 5) hx hb (dd dX10_turnsRound 31 rfl) (by decide) ?_
      obtain rfl := Option.some.inj h
      exact hk _ _ _ hW (lv_sub hl [3, 1, 0] rfl)
  · obtain ⟨c_plan_54, e9⟩ : ∃ z, z = ex := ⟨_, rfl⟩
    subst e9
    intro H locs ls hW hl
    have hW9 := hW
    cases h
    exact ret _ _ _ 54 hW9 (dd dX10_turnsRound 32 rfl)
abbrev w_X10_shortens (g : G9) (a_t a_plan a_turns a_cornerX a_cornerY a_corners a_what a_rowAt a_strip a_along a_rowSize a_endAt a_slantA a_slantB a_yields a_bears a_seen a_wagons a_pile a_far a_waiting a_isWaiting a_rest a_isUsed : Nat) (c_thrown c_isLaid c_head c_hasRows c_hasPlan c_rows c_slants c_capacity c_weight c_unload c_source c_bunker : Int32) (c_plan c_turns : Ar) : va_W := [ob a_t 10 [.int c_thrown, .ref a_cornerX, .ref a_cornerY, .ref a_corners, .ref a_what, .int c_isLaid, .int c_head, .int c_hasRows, .int c_hasPlan, .int c_rows, .ref a_rowAt, .ref a_strip, .ref a_along, .ref a_rowSize, .ref a_endAt, .ref a_turns, .ref a_plan, .ref a_slantA, .ref a_slantB, .int c_slants, .ref a_yields, .ref a_bears, .int c_capacity, .int c_weight, .int c_unload, .ref a_seen, .ref a_wagons, .ref a_pile, .ref a_far, .int c_source, .ref a_waiting, .ref a_isWaiting, .ref a_rest, .ref a_isUsed, .int c_bunker], ia g a_plan 60 c_plan, ia g a_turns 14400 c_turns]
noncomputable def X10_shortens_b13_49 (c_plan : Ar) (v2 v3 v4 : Int32) : Option ((Ar × Int32) ⊕ (Ar ⊕ (Ar × Int32))) :=
  bnd (X10_turnsRound c_plan v3 v4) <| fun c_plan_53 => nm (v4 + 1) fun v4_56 => some (.inl (c_plan_53, v4_56))
noncomputable def X10_shortens_L13 (c_rows : Int32) (c_turns : Ar) (v2 v3 : Int32) (c_plan : Ar) (v4 : Int32) : Option ((Ar × Int32) ⊕ (Ar ⊕ (Ar × Int32))) :=
  if c_rows ≤ v4 then (some (.inr (.inl c_plan))) else (bnd (X10_turnsRound c_plan v3 v4) <| fun c_plan_26 => bnd (X10_sumOf c_rows c_plan_26 c_turns) <| fun r_30 => if r_30 < 0 then (X10_shortens_b13_49 c_plan_26 v2 v3 v4) else (if v2 ≤ r_30 then (X10_shortens_b13_49 c_plan_26 v2 v3 v4) else (some (.inr (.inr ((c_plan_26, r_30)))))))
noncomputable def X10_shortens_L2 (c_rows : Int32) (c_turns : Ar) (v2 : Int32) (c_plan : Ar) (v3 : Int32) : Option ((Ar × Int32) ⊕ (Ar ⊕ (Ar × Int32))) :=
  if c_rows ≤ v3 then (some (.inr (.inl c_plan))) else (bnd (whileV (fun st => X10_shortens_L13 c_rows c_turns v2 v3 st.1 st.2) (c_plan, v3)) <| (Sum.elim (fun c_plan_62 => nm (v3 + 1) fun v3_62 => some (.inl (c_plan_62, v3_62))) (un2 fun c_plan_46 v5_46 => some (.inr (.inr ((c_plan_46, v5_46)))))))
noncomputable def X10_shortens (c_rows : Int32) (c_plan c_turns : Ar) (v1 v2 : Int32) : Option (Int32 × Ar) :=
  bnd (whileV (fun st => X10_shortens_L2 c_rows c_turns v2 st.1 st.2) (c_plan, v1)) <| (Sum.elim (fun c_plan_68 => some ((-1), c_plan_68)) (un2 fun c_plan_46 v5_46 => some (v5_46, c_plan_46)))
set_option maxHeartbeats 4000000 in
set_option maxRecDepth 100000 in
theorem t_X10_shortens (l : Launch) (g : G9) (a_t a_plan a_turns a_cornerX a_cornerY a_corners a_what a_rowAt a_strip a_along a_rowSize a_endAt a_slantA a_slantB a_yields a_bears a_seen a_wagons a_pile a_far a_waiting a_isWaiting a_rest a_isUsed : Nat) (c_thrown c_isLaid c_head c_hasRows c_hasPlan c_rows c_slants c_capacity c_weight c_unload c_source c_bunker : Int32) (c_plan c_turns : Ar) (v1 v2 r0 : Int32) (o_plan : Ar) (h : X10_shortens c_rows c_plan c_turns v1 v2 = some (r0, o_plan)) : CtI l g yX10_shortens cX10_shortens 6 .int 2 45 [.ref a_t, .int v1, .int v2] (w_X10_shortens g a_t a_plan a_turns a_cornerX a_cornerY a_corners a_what a_rowAt a_strip a_along a_rowSize a_endAt a_slantA a_slantB a_yields a_bears a_seen a_wagons a_pile a_far a_waiting a_isWaiting a_rest a_isUsed c_thrown c_isLaid c_head c_hasRows c_hasPlan c_rows c_slants c_capacity c_weight c_unload c_source c_bunker c_plan c_turns) r0 (w_X10_shortens g a_t a_plan a_turns a_cornerX a_cornerY a_corners a_what a_rowAt a_strip a_along a_rowSize a_endAt a_slantA a_slantB a_yields a_bears a_seen a_wagons a_pile a_far a_waiting a_isWaiting a_rest a_isUsed c_thrown c_isLaid c_head c_hasRows c_hasPlan c_rows c_slants c_capacity c_weight c_unload c_source c_bunker o_plan c_turns) := by
  refine startI (by decide) (Nat.le_of_ble_eq_true rfl) ?_
  intro p e s m below meth c A Q ls args M hW hl ret
  have hx := M.1
  have hb := M.2.1
  have hown := M.2.2.2.1
  have hu := M.2.2.2.2.1
  have hl : lv_has ls 6 [(0, .ref a_t), (1, .int v1), (2, .int v2)] := hl
  unfold X10_shortens at h
  obtain ⟨H, eH⟩ : ∃ z, z = s.heap := ⟨_, rfl⟩
  obtain ⟨locs, eL⟩ : ∃ z, z = ([] : List Loc) := ⟨_, rfl⟩
  rw [← eL] at hW ⊢
  suffices hS9 : WD g s A (w_X10_shortens g a_t a_plan a_turns a_cornerX a_cornerY a_corners a_what a_rowAt a_strip a_along a_rowSize a_endAt a_slantA a_slantB a_yields a_bears a_seen a_wagons a_pile a_far a_waiting a_isWaiting a_rest a_isUsed c_thrown c_isLaid c_head c_hasRows c_hasPlan c_rows c_slants c_capacity c_weight c_unload c_source c_bunker c_plan c_turns) H locs → W p l e (rm9 2 45) s m args below meth c H locs 0 0 Q (F0 m 0 ls []) by
    rw [← eH] at hW ⊢
    exact hS9 hW
  clear hW eH eL
  intro hW
  refine lv_iload_n (pc := 0) hx hb (dd dX10_shortens 0 rfl) rfl (lv_at hl 1 rfl) ?_
  refine lv_istore_n (pc := 1) (lv' := [(3, .int v1), (0, .ref a_t), (1, .int v1), (2, .int v2)]) hx hb (dd dX10_shortens 1 rfl) rfl hl (by decide) rfl (fun ls hl => ?_)
  obtain ⟨ex, hw, h⟩ := bnd_ex h
  refine loopW (fun st => ∀ (H : Heap) (locs : List Loc) (ls : Array Slot), WD g s A (w_X10_shortens g a_t a_plan a_turns a_cornerX a_cornerY a_corners a_what a_rowAt a_strip a_along a_rowSize a_endAt a_slantA a_slantB a_yields a_bears a_seen a_wagons a_pile a_far a_waiting a_isWaiting a_rest a_isUsed c_thrown c_isLaid c_head c_hasRows c_hasPlan c_rows c_slants c_capacity c_weight c_unload c_source c_bunker (st.1) c_turns) H locs → lv_has ls 6 [(0, .ref a_t), (2, .int v2), (3, .int (st.2))] → W p l e (rm9 2 45) s m args below meth c H locs 0 0 Q (F0 m 2 ls [])) (Sum.elim (fun (ex : Ar) => ∀ (H : Heap) (locs : List Loc) (ls : Array Slot), WD g s A (w_X10_shortens g a_t a_plan a_turns a_cornerX a_cornerY a_corners a_what a_rowAt a_strip a_along a_rowSize a_endAt a_slantA a_slantB a_yields a_bears a_seen a_wagons a_pile a_far a_waiting a_isWaiting a_rest a_isUsed c_thrown c_isLaid c_head c_hasRows c_hasPlan c_rows c_slants c_capacity c_weight c_unload c_source c_bunker ex c_turns) H locs → lv_has ls 6 [] → W p l e (rm9 2 45) s m args below meth c H locs 0 0 Q (F0 m 68 ls [])) (fun (ex : (Ar × Int32)) => ∀ (H : Heap) (locs : List Loc) (ls : Array Slot), WD g s A (w_X10_shortens g a_t a_plan a_turns a_cornerX a_cornerY a_corners a_what a_rowAt a_strip a_along a_rowSize a_endAt a_slantA a_slantB a_yields a_bears a_seen a_wagons a_pile a_far a_waiting a_isWaiting a_rest a_isUsed c_thrown c_isLaid c_head c_hasRows c_hasPlan c_rows c_slants c_capacity c_weight c_unload c_source c_bunker (ex.1) c_turns) H locs → lv_has ls 6 [(5, .int (ex.2))] → W p l e (rm9 2 45) s m args below meth c H locs 0 0 Q (F0 m 46 ls []))) ?_ hw ?_ H locs ls hW (lv_sub hl [1, 3, 0] rfl)
  · rintro ⟨c_plan, v3⟩ o hb9 hk H locs ls hW hl
    have h : X10_shortens_L2 c_rows c_turns v2 c_plan v3 = some o := hb9
    clear hb9
    unfold X10_shortens_L2 at h
    refine lv_iload_n (pc := 2) hx hb (dd dX10_shortens 2 rfl) rfl (lv_at hl 2 rfl) ?_
    refine lv_aload_n (pc := 3) hx hb (dd dX10_shortens 3 rfl) rfl (lv_at hl 0 rfl) ?_
    refine rGet (pc := 4) M hW 0 9 iU10 rfl rfl (by decide) (uw4 222 rfl rfl) rfl (dd dX10_shortens 4 rfl) ?_
    refine lv_icmp_ge (pc := 7) (tgt := 68) hx hb (dd dX10_shortens 5 rfl) (by decide) (fun hc => ?_) (fun hc => ?_)
    · have h := it_t hc h
      obtain rfl := Option.some.inj h
      exact hk _ _ _ hW (lv_sub hl [] rfl)
    · have h := it_f hc h
      refine lv_iload_n (pc := 10) hx hb (dd dX10_shortens 6 rfl) rfl (lv_at hl 2 rfl) ?_
      refine lv_istore (pc := 11) (lv' := [(4, .int v3), (0, .ref a_t), (2, .int v2), (3, .int v3)]) hx hb (dd dX10_shortens 7 rfl) hl (by decide) rfl (fun ls hl => ?_)
      obtain ⟨ex, hw, h⟩ := bnd_ex h
      refine loopW (fun st => ∀ (H : Heap) (locs : List Loc) (ls : Array Slot), WD g s A (w_X10_shortens g a_t a_plan a_turns a_cornerX a_cornerY a_corners a_what a_rowAt a_strip a_along a_rowSize a_endAt a_slantA a_slantB a_yields a_bears a_seen a_wagons a_pile a_far a_waiting a_isWaiting a_rest a_isUsed c_thrown c_isLaid c_head c_hasRows c_hasPlan c_rows c_slants c_capacity c_weight c_unload c_source c_bunker (st.1) c_turns) H locs → lv_has ls 6 [(0, .ref a_t), (2, .int v2), (3, .int v3), (4, .int (st.2))] → W p l e (rm9 2 45) s m args below meth c H locs 0 0 Q (F0 m 13 ls [])) (Sum.elim (fun (ex : Ar) => ∀ (H : Heap) (locs : List Loc) (ls : Array Slot), WD g s A (w_X10_shortens g a_t a_plan a_turns a_cornerX a_cornerY a_corners a_what a_rowAt a_strip a_along a_rowSize a_endAt a_slantA a_slantB a_yields a_bears a_seen a_wagons a_pile a_far a_waiting a_isWaiting a_rest a_isUsed c_thrown c_isLaid c_head c_hasRows c_hasPlan c_rows c_slants c_capacity c_weight c_unload c_source c_bunker ex c_turns) H locs → lv_has ls 6 [(0, .ref a_t), (2, .int v2), (3, .int v3)] → W p l e (rm9 2 45) s m args below meth c H locs 0 0 Q (F0 m 62 ls [])) (fun (ex : (Ar × Int32)) => ∀ (H : Heap) (locs : List Loc) (ls : Array Slot), WD g s A (w_X10_shortens g a_t a_plan a_turns a_cornerX a_cornerY a_corners a_what a_rowAt a_strip a_along a_rowSize a_endAt a_slantA a_slantB a_yields a_bears a_seen a_wagons a_pile a_far a_waiting a_isWaiting a_rest a_isUsed c_thrown c_isLaid c_head c_hasRows c_hasPlan c_rows c_slants c_capacity c_weight c_unload c_source c_bunker (ex.1) c_turns) H locs → lv_has ls 6 [(5, .int (ex.2))] → W p l e (rm9 2 45) s m args below meth c H locs 0 0 Q (F0 m 46 ls []))) ?_ hw ?_ H locs ls hW (lv_sub hl [1, 2, 3, 0] rfl)
      · rintro ⟨c_plan, v4⟩ o hb9 hk H locs ls hW hl
        have h : X10_shortens_L13 c_rows c_turns v2 v3 c_plan v4 = some o := hb9
        clear hb9
        unfold X10_shortens_L13 at h
        have J49 : ∀ (c_plan : Ar) (v4 : Int32) (H : Heap) (locs : List Loc) (ls : Array Slot), X10_shortens_b13_49 c_plan v2 v3 v4 = some o → WD g s A (w_X10_shortens g a_t a_plan a_turns a_cornerX a_cornerY a_corners a_what a_rowAt a_strip a_along a_rowSize a_endAt a_slantA a_slantB a_yields a_bears a_seen a_wagons a_pile a_far a_waiting a_isWaiting a_rest a_isUsed c_thrown c_isLaid c_head c_hasRows c_hasPlan c_rows c_slants c_capacity c_weight c_unload c_source c_bunker c_plan c_turns) H locs → lv_has ls 6 [(0, .ref a_t), (2, .int v2), (3, .int v3), (4, .int v4)] → W p l e (rm9 2 45) s m args below meth c H locs 0 0 Q (F0 m 49 ls []) := by
          intro c_plan v4 H locs ls h hW hl
          unfold X10_shortens_b13_49 at h
          refine lv_aload_n (pc := 49) hx hb (dd dX10_shortens 26 rfl) rfl (lv_at hl 0 rfl) ?_
          refine lv_iload_n (pc := 50) hx hb (dd dX10_shortens 27 rfl) rfl (lv_at hl 2 rfl) ?_
          refine lv_iload (pc := 51) hx hb (dd dX10_shortens 28 rfl) (lv_at hl 3 rfl) ?_
          obtain ⟨c_plan_53, hr, h⟩ := bnd_ex h
          refine callVV (pc := 53) (na := 2) (As := [.int v3, .int v4]) (rest := []) (ws2 := (w_X10_shortens g a_t a_plan a_turns a_cornerX a_cornerY a_corners a_what a_rowAt a_strip a_along a_rowSize a_endAt a_slantA a_slantB a_yields a_bears a_seen a_wagons a_pile a_far a_waiting a_isWaiting a_rest a_isUsed c_thrown c_isLaid c_head c_hasRows c_hasPlan c_rows c_slants c_capacity c_weight c_unload c_source c_bunker c_plan_53 c_turns)) M hl.1 hW (t_X10_turnsRound l g a_t a_plan a_cornerX a_cornerY a_corners a_what a_rowAt a_strip a_along a_rowSize a_endAt a_turns a_slantA a_slantB a_yields a_bears a_seen a_wagons a_pile a_far a_waiting a_isWaiting a_rest a_isUsed c_thrown c_isLaid c_head c_hasRows c_hasPlan c_rows c_slants c_capacity c_weight c_unload c_source c_bunker c_plan v3 v4 c_plan_53 hr) rfl [0, 1] [2] [1, 2, 0] rfl rfl rfl rfl rfl rfl rfl 0 10 rfl rfl rfl (uw5 218 rfl rfl) (uw5 215 rfl rfl) (uw5 217 rfl rfl) (uwp 61 rfl rfl) (uw1 13 rfl rfl) ⟨by decide, by decide, by decide⟩ rfl ⟨by decide, by decide⟩ (Nat.le_of_ble_eq_true rfl) ⟨Nat.zero_le _, Nat.zero_le _⟩ (dd dX10_shortens 29 rfl) (fun H locs hW => ?_)
          obtain ⟨v4_56, ev4_56, h⟩ := nm_ex h
          refine lv_iinc (pc := 56) (v := v4_56) (lv' := [(4, .int v4_56), (0, .ref a_t), (2, .int v2), (3, .int v3)]) hx hb (dd dX10_shortens 30 rfl) hl (k := 3) rfl (by rw [ev4_56]; rfl) (by decide) rfl (fun ls hl => ?_)
          refine lv_goto (pc := 59) (tgt := 13) hx hb (dd dX10_shortens 31 rfl) (by decide) ?_
          obtain rfl := Option.some.inj h
          exact hk _ _ _ hW (lv_sub hl [1, 2, 3, 0] rfl)
        refine lv_iload (pc := 13) hx hb (dd dX10_shortens 8 rfl) (lv_at hl 3 rfl) ?_
        refine lv_aload_n (pc := 15) hx hb (dd dX10_shortens 9 rfl) rfl (lv_at hl 0 rfl) ?_
        refine rGet (pc := 16) M hW 0 9 iU10 rfl rfl (by decide) (uw4 222 rfl rfl) rfl (dd dX10_shortens 10 rfl) ?_
        refine lv_icmp_ge (pc := 19) (tgt := 62) hx hb (dd dX10_shortens 11 rfl) (by decide) (fun hc => ?_) (fun hc => ?_)
        · have h := it_t hc h
          obtain rfl := Option.some.inj h
          exact hk _ _ _ hW (lv_sub hl [0, 1, 2] rfl)
        · have h := it_f hc h
          refine lv_aload_n (pc := 22) hx hb (dd dX10_shortens 12 rfl) rfl (lv_at hl 0 rfl) ?_
          refine lv_iload_n (pc := 23) hx hb (dd dX10_shortens 13 rfl) rfl (lv_at hl 2 rfl) ?_
          refine lv_iload (pc := 24) hx hb (dd dX10_shortens 14 rfl) (lv_at hl 3 rfl) ?_
          obtain ⟨c_plan_26, hr, h⟩ := bnd_ex h
          refine callVV (pc := 26) (na := 2) (As := [.int v3, .int v4]) (rest := []) (ws2 := (w_X10_shortens g a_t a_plan a_turns a_cornerX a_cornerY a_corners a_what a_rowAt a_strip a_along a_rowSize a_endAt a_slantA a_slantB a_yields a_bears a_seen a_wagons a_pile a_far a_waiting a_isWaiting a_rest a_isUsed c_thrown c_isLaid c_head c_hasRows c_hasPlan c_rows c_slants c_capacity c_weight c_unload c_source c_bunker c_plan_26 c_turns)) M hl.1 hW (t_X10_turnsRound l g a_t a_plan a_cornerX a_cornerY a_corners a_what a_rowAt a_strip a_along a_rowSize a_endAt a_turns a_slantA a_slantB a_yields a_bears a_seen a_wagons a_pile a_far a_waiting a_isWaiting a_rest a_isUsed c_thrown c_isLaid c_head c_hasRows c_hasPlan c_rows c_slants c_capacity c_weight c_unload c_source c_bunker c_plan v3 v4 c_plan_26 hr) rfl [0, 1] [2] [1, 2, 0] rfl rfl rfl rfl rfl rfl rfl 0 10 rfl rfl rfl (uw5 218 rfl rfl) (uw5 215 rfl rfl) (uw5 217 rfl rfl) (uwp 61 rfl rfl) (uw1 13 rfl rfl) ⟨by decide, by decide, by decide⟩ rfl ⟨by decide, by decide⟩ (Nat.le_of_ble_eq_true rfl) ⟨Nat.zero_le _, Nat.zero_le _⟩ (dd dX10_shortens 15 rfl) (fun H locs hW => ?_)
          refine lv_aload_n (pc := 29) hx hb (dd dX10_shortens 16 rfl) rfl (lv_at hl 0 rfl) ?_
          obtain ⟨r_30, hr, h⟩ := bnd_ex h
          refine callVI (pc := 30) (na := 0) (As := []) (rest := []) (ws2 := (w_X10_shortens g a_t a_plan a_turns a_cornerX a_cornerY a_corners a_what a_rowAt a_strip a_along a_rowSize a_endAt a_slantA a_slantB a_yields a_bears a_seen a_wagons a_pile a_far a_waiting a_isWaiting a_rest a_isUsed c_thrown c_isLaid c_head c_hasRows c_hasPlan c_rows c_slants c_capacity c_weight c_unload c_source c_bunker c_plan_26 c_turns)) M hl.1 hW (t_X10_sumOf l g a_t a_plan a_turns a_cornerX a_cornerY a_corners a_what a_rowAt a_strip a_along a_rowSize a_endAt a_slantA a_slantB a_yields a_bears a_seen a_wagons a_pile a_far a_waiting a_isWaiting a_rest a_isUsed c_thrown c_isLaid c_head c_hasRows c_hasPlan c_rows c_slants c_capacity c_weight c_unload c_source c_bunker c_plan_26 c_turns r_30 hr) rfl [0, 1, 2] [] [0, 1, 2] rfl rfl rfl rfl rfl rfl rfl 0 10 rfl rfl rfl (uw5 210 rfl rfl) (uw5 207 rfl rfl) (uw5 209 rfl rfl) (uwp 59 rfl rfl) (uw1 13 rfl rfl) ⟨by decide, by decide, by decide⟩ rfl ⟨by decide, by decide⟩ (Nat.le_of_ble_eq_true rfl) ⟨Nat.zero_le _, Nat.zero_le _⟩ (dd dX10_shortens 17 rfl) (fun H locs hW => ?_)
          refine lv_istore (pc := 33) (lv' := [(5, .int r_30), (0, .ref a_t), (2, .int v2), (3, .int v3), (4, .int v4)]) hx hb (dd dX10_shortens 18 rfl) hl (by decide) rfl (fun ls hl => ?_)
          refine lv_iload (pc := 35) hx hb (dd dX10_shortens 19 rfl) (lv_at hl 0 rfl) ?_
          refine lv_if_lt (pc := 37) (tgt := 49) hx hb (dd dX10_shortens 20 rfl) (by decide) (fun hc => ?_) (fun hc => ?_)
          · have h := it_t hc h
            exact J49 _ _ _ _ _ h hW (lv_sub hl [1, 2, 3, 4] rfl)
          · have h := it_f hc h
            refine lv_iload (pc := 40) hx hb (dd dX10_shortens 21 rfl) (lv_at hl 0 rfl) ?_
            refine lv_iload_n (pc := 42) hx hb (dd dX10_shortens 22 rfl) rfl (lv_at hl 2 rfl) ?_
            refine lv_icmp_ge (pc := 43) (tgt := 49) hx hb (dd dX10_shortens 23 rfl) (by decide) (fun hc => ?_) (fun hc => ?_)
            · have h := it_t hc h
              exact J49 _ _ _ _ _ h hW (lv_sub hl [1, 2, 3, 4] rfl)
            · have h := it_f hc h
              obtain rfl := Option.some.inj h
              exact hk _ _ _ hW (lv_sub hl [0] rfl)
      · rcases ex with c_plan_62 | ⟨c_plan_46, v5_46⟩
        · intro H locs ls hW hl
          have h := sE_l h
          obtain ⟨v3_62, ev3_62, h⟩ := nm_ex h
          refine lv_iinc (pc := 62) (v := v3_62) (lv' := [(3, .int v3_62), (0, .ref a_t), (2, .int v2)]) hx hb (dd dX10_shortens 32 rfl) hl (k := 2) rfl (by rw [ev3_62]; rfl) (by decide) rfl (fun ls hl => ?_)
          refine lv_goto (pc := 65) (tgt := 2) hx hb (dd dX10_shortens 33 rfl) (by decide) ?_
          obtain rfl := Option.some.inj h
          exact hk _ _ _ hW (lv_sub hl [1, 2, 0] rfl)
        · intro H locs ls hW hl
          have h := sE_r h
          have h := un2_at h
          obtain rfl := Option.some.inj h
          exact hk _ _ _ hW (lv_sub hl [0] rfl)
  · rcases ex with c_plan_68 | ⟨c_plan_46, v5_46⟩
    · intro H locs ls hW hl
      have h := sE_l h
      refine lv_iconst (pc := 68) (v := (-1)) hx hb (dd dX10_shortens 34 rfl) (by decide) ?_
      have hW9 := hW
      cases h
      exact ret _ _ _ 69 hW9 rfl (dd dX10_shortens 35 rfl)
    · intro H locs ls hW hl
      have h := sE_r h
      have h := un2_at h
      refine lv_iload (pc := 46) hx hb (dd dX10_shortens 24 rfl) (lv_at hl 0 rfl) ?_
      have hW9 := hW
      cases h
      exact ret _ _ _ 48 hW9 rfl (dd dX10_shortens 25 rfl)
abbrev w_X10_tables (g : G9) (a_t a_rest a_turns a_cornerX a_cornerY a_corners a_what a_rowAt a_strip a_along a_rowSize a_endAt a_plan a_slantA a_slantB a_yields a_bears a_seen a_wagons a_pile a_far a_waiting a_isWaiting a_isUsed : Nat) (c_thrown c_isLaid c_head c_hasRows c_hasPlan c_rows c_slants c_capacity c_weight c_unload c_source c_bunker : Int32) (c_rest c_turns : Ar) : va_W := [ob a_t 10 [.int c_thrown, .ref a_cornerX, .ref a_cornerY, .ref a_corners, .ref a_what, .int c_isLaid, .int c_head, .int c_hasRows, .int c_hasPlan, .int c_rows, .ref a_rowAt, .ref a_strip, .ref a_along, .ref a_rowSize, .ref a_endAt, .ref a_turns, .ref a_plan, .ref a_slantA, .ref a_slantB, .int c_slants, .ref a_yields, .ref a_bears, .int c_capacity, .int c_weight, .int c_unload, .ref a_seen, .ref a_wagons, .ref a_pile, .ref a_far, .int c_source, .ref a_waiting, .ref a_isWaiting, .ref a_rest, .ref a_isUsed, .int c_bunker], ia g a_rest 9216 c_rest, ia g a_turns 14400 c_turns]
noncomputable def X10_tables_b38_133 (v1 v2 v3 v4 : Int32) : Option ((Int32 × Int32) ⊕ Int32) :=
  nm (v4 + 1) fun v4_133 => some (.inl (v3, v4_133))
noncomputable def X10_tables_b38_132 (v1 v2 v4 k0 : Int32) : Option ((Int32 × Int32) ⊕ Int32) :=
  X10_tables_b38_133 v1 v2 k0 v4
noncomputable def X10_tables_b38_118 (v1 v2 v3 v4 k0 : Int32) : Option ((Int32 × Int32) ⊕ Int32) :=
  if v3 ≤ k0 then (X10_tables_b38_132 v1 v2 v4 v3) else (X10_tables_b38_132 v1 v2 v4 k0)
noncomputable def X10_tables_L38 (c_rows : Int32) (c_rest c_turns : Ar) (v1 v2 v3 v4 : Int32) : Option ((Int32 × Int32) ⊕ Int32) :=
  if (2 * c_rows) ≤ v4 then (some (.inr v3)) else (if ((v1 >>> ((v4 / 2) &&& 31)) &&& 1) = 0 then (X10_tables_b38_133 v1 v2 v3 v4) else (if (v4 / 2) = (v2 / 2) then (X10_tables_b38_133 v1 v2 v3 v4) else (bnd (X10_turnOf c_turns (v2 ^^^ 1) v4) <| fun r_79 => if 0 ≤ r_79 then (ck (ix ((18 * (v1 &&& (((1 : Int32) <<< ((v4 / 2) &&& 31)) ^^^ (-1)))) + v4) 9216) <| X10_tables_b38_118 v1 v2 v3 v4 (r_79 + (ag c_rest ((18 * (v1 &&& (((1 : Int32) <<< ((v4 / 2) &&& 31)) ^^^ (-1)))) + v4)))) else (X10_tables_b38_118 v1 v2 v3 v4 100000000))))
noncomputable def X10_tables_b14_34 (c_rows : Int32) (c_rest c_turns : Ar) (v1 v2 k0 : Int32) : Option ((Ar × Int32) ⊕ Ar) :=
  bnd (whileV (fun st => X10_tables_L38 c_rows c_rest c_turns v1 v2 st.1 st.2) (k0, 0)) <| (fun v3_139 => ck (ix ((18 * v1) + v2) 9216) <| nm (au c_rest ((18 * v1) + v2) v3_139) fun c_rest_150 => nm (v2 + 1) fun v2_151 => some (.inl (c_rest_150, v2_151)))
noncomputable def X10_tables_L14 (c_rows : Int32) (c_turns : Ar) (v1 : Int32) (c_rest : Ar) (v2 : Int32) : Option ((Ar × Int32) ⊕ Ar) :=
  if (2 * c_rows) ≤ v2 then (some (.inr c_rest)) else (if v1 = 0 then (X10_tables_b14_34 c_rows c_rest c_turns v1 v2 0) else (X10_tables_b14_34 c_rows c_rest c_turns v1 v2 100000000))
noncomputable def X10_tables_L2 (c_rows : Int32) (c_turns c_rest : Ar) (v1 : Int32) : Option ((Ar × Int32) ⊕ Ar) :=
  if ((1 : Int32) <<< (c_rows &&& 31)) ≤ v1 then (some (.inr c_rest)) else (bnd (whileV (fun st => X10_tables_L14 c_rows c_turns v1 st.1 st.2) (c_rest, 0)) <| (fun c_rest_157 => nm (v1 + 1) fun v1_157 => some (.inl (c_rest_157, v1_157))))
noncomputable def X10_tables (c_rows : Int32) (c_rest c_turns : Ar) : Option Ar :=
  bnd (whileV (fun st => X10_tables_L2 c_rows c_turns st.1 st.2) (c_rest, 0)) <| (fun c_rest_163 => some c_rest_163)
set_option maxHeartbeats 4000000 in
set_option maxRecDepth 100000 in
theorem t_X10_tables (l : Launch) (g : G9) (a_t a_rest a_turns a_cornerX a_cornerY a_corners a_what a_rowAt a_strip a_along a_rowSize a_endAt a_plan a_slantA a_slantB a_yields a_bears a_seen a_wagons a_pile a_far a_waiting a_isWaiting a_isUsed : Nat) (c_thrown c_isLaid c_head c_hasRows c_hasPlan c_rows c_slants c_capacity c_weight c_unload c_source c_bunker : Int32) (c_rest c_turns o_rest : Ar) (h : X10_tables c_rows c_rest c_turns = some o_rest) : CtV l g yX10_tables cX10_tables 7 1 22 [.ref a_t] (w_X10_tables g a_t a_rest a_turns a_cornerX a_cornerY a_corners a_what a_rowAt a_strip a_along a_rowSize a_endAt a_plan a_slantA a_slantB a_yields a_bears a_seen a_wagons a_pile a_far a_waiting a_isWaiting a_isUsed c_thrown c_isLaid c_head c_hasRows c_hasPlan c_rows c_slants c_capacity c_weight c_unload c_source c_bunker c_rest c_turns) (w_X10_tables g a_t a_rest a_turns a_cornerX a_cornerY a_corners a_what a_rowAt a_strip a_along a_rowSize a_endAt a_plan a_slantA a_slantB a_yields a_bears a_seen a_wagons a_pile a_far a_waiting a_isWaiting a_isUsed c_thrown c_isLaid c_head c_hasRows c_hasPlan c_rows c_slants c_capacity c_weight c_unload c_source c_bunker o_rest c_turns) := by
  refine startV (by decide) (Nat.le_of_ble_eq_true rfl) ?_
  intro p e s m below meth c A Q ls args M hW hl ret
  have hx := M.1
  have hb := M.2.1
  have hown := M.2.2.2.1
  have hu := M.2.2.2.2.1
  have hl : lv_has ls 7 [(0, .ref a_t)] := hl
  unfold X10_tables at h
  obtain ⟨H, eH⟩ : ∃ z, z = s.heap := ⟨_, rfl⟩
  obtain ⟨locs, eL⟩ : ∃ z, z = ([] : List Loc) := ⟨_, rfl⟩
  rw [← eL] at hW ⊢
  suffices hS9 : WD g s A (w_X10_tables g a_t a_rest a_turns a_cornerX a_cornerY a_corners a_what a_rowAt a_strip a_along a_rowSize a_endAt a_plan a_slantA a_slantB a_yields a_bears a_seen a_wagons a_pile a_far a_waiting a_isWaiting a_isUsed c_thrown c_isLaid c_head c_hasRows c_hasPlan c_rows c_slants c_capacity c_weight c_unload c_source c_bunker c_rest c_turns) H locs → W p l e (rm9 1 22) s m args below meth c H locs 0 0 Q (F0 m 0 ls []) by
    rw [← eH] at hW ⊢
    exact hS9 hW
  clear hW eH eL
  intro hW
  refine lv_iconst (pc := 0) (v := 0) hx hb (dd dX10_tables_p0 0 rfl) (by decide) ?_
  refine lv_istore_n (pc := 1) (lv' := [(1, .int 0), (0, .ref a_t)]) hx hb (dd dX10_tables_p0 1 rfl) rfl hl (by decide) rfl (fun ls hl => ?_)
  obtain ⟨ex, hw, h⟩ := bnd_ex h
  refine loopW (fun st => ∀ (H : Heap) (locs : List Loc) (ls : Array Slot), WD g s A (w_X10_tables g a_t a_rest a_turns a_cornerX a_cornerY a_corners a_what a_rowAt a_strip a_along a_rowSize a_endAt a_plan a_slantA a_slantB a_yields a_bears a_seen a_wagons a_pile a_far a_waiting a_isWaiting a_isUsed c_thrown c_isLaid c_head c_hasRows c_hasPlan c_rows c_slants c_capacity c_weight c_unload c_source c_bunker (st.1) c_turns) H locs → lv_has ls 7 [(0, .ref a_t), (1, .int (st.2))] → W p l e (rm9 1 22) s m args below meth c H locs 0 0 Q (F0 m 2 ls [])) (fun (ex : Ar) => ∀ (H : Heap) (locs : List Loc) (ls : Array Slot), WD g s A (w_X10_tables g a_t a_rest a_turns a_cornerX a_cornerY a_corners a_what a_rowAt a_strip a_along a_rowSize a_endAt a_plan a_slantA a_slantB a_yields a_bears a_seen a_wagons a_pile a_far a_waiting a_isWaiting a_isUsed c_thrown c_isLaid c_head c_hasRows c_hasPlan c_rows c_slants c_capacity c_weight c_unload c_source c_bunker ex c_turns) H locs → lv_has ls 7 [] → W p l e (rm9 1 22) s m args below meth c H locs 0 0 Q (F0 m 163 ls [])) ?_ hw ?_ H locs ls hW (lv_sub hl [1, 0] rfl)
  · rintro ⟨c_rest, v1⟩ o hb9 hk H locs ls hW hl
    have h : X10_tables_L2 c_rows c_turns c_rest v1 = some o := hb9
    clear hb9
    unfold X10_tables_L2 at h
    refine lv_iload_n (pc := 2) hx hb (dd dX10_tables_p0 2 rfl) rfl (lv_at hl 1 rfl) ?_
    refine lv_iconst (pc := 3) (v := 1) hx hb (dd dX10_tables_p0 3 rfl) (by decide) ?_
    refine lv_aload_n (pc := 4) hx hb (dd dX10_tables_p0 4 rfl) rfl (lv_at hl 0 rfl) ?_
    refine rGet (pc := 5) M hW 0 9 iU10 rfl rfl (by decide) (uw4 222 rfl rfl) rfl (dd dX10_tables_p0 5 rfl) ?_
    refine lv_ishl (pc := 8) hx hb (dd dX10_tables_p0 6 rfl) ?_
    refine lv_icmp_ge (pc := 9) (tgt := 163) hx hb (dd dX10_tables_p0 7 rfl) (by decide) (fun hc => ?_) (fun hc => ?_)
    · have h := it_t hc h
      obtain rfl := Option.some.inj h
      exact hk _ _ _ hW (lv_sub hl [] rfl)
    · have h := it_f hc h
      refine lv_iconst (pc := 12) (v := 0) hx hb (dd dX10_tables_p0 8 rfl) (by decide) ?_
      refine lv_istore_n (pc := 13) (lv' := [(2, .int 0), (0, .ref a_t), (1, .int v1)]) hx hb (dd dX10_tables_p0 9 rfl) rfl hl (by decide) rfl (fun ls hl => ?_)
      obtain ⟨ex, hw, h⟩ := bnd_ex h
      refine loopW (fun st => ∀ (H : Heap) (locs : List Loc) (ls : Array Slot), WD g s A (w_X10_tables g a_t a_rest a_turns a_cornerX a_cornerY a_corners a_what a_rowAt a_strip a_along a_rowSize a_endAt a_plan a_slantA a_slantB a_yields a_bears a_seen a_wagons a_pile a_far a_waiting a_isWaiting a_isUsed c_thrown c_isLaid c_head c_hasRows c_hasPlan c_rows c_slants c_capacity c_weight c_unload c_source c_bunker (st.1) c_turns) H locs → lv_has ls 7 [(0, .ref a_t), (1, .int v1), (2, .int (st.2))] → W p l e (rm9 1 22) s m args below meth c H locs 0 0 Q (F0 m 14 ls [])) (fun (ex : Ar) => ∀ (H : Heap) (locs : List Loc) (ls : Array Slot), WD g s A (w_X10_tables g a_t a_rest a_turns a_cornerX a_cornerY a_corners a_what a_rowAt a_strip a_along a_rowSize a_endAt a_plan a_slantA a_slantB a_yields a_bears a_seen a_wagons a_pile a_far a_waiting a_isWaiting a_isUsed c_thrown c_isLaid c_head c_hasRows c_hasPlan c_rows c_slants c_capacity c_weight c_unload c_source c_bunker ex c_turns) H locs → lv_has ls 7 [(0, .ref a_t), (1, .int v1)] → W p l e (rm9 1 22) s m args below meth c H locs 0 0 Q (F0 m 157 ls [])) ?_ hw ?_ H locs ls hW (lv_sub hl [1, 2, 0] rfl)
      · rintro ⟨c_rest, v2⟩ o hb9 hk H locs ls hW hl
        have h : X10_tables_L14 c_rows c_turns v1 c_rest v2 = some o := hb9
        clear hb9
        unfold X10_tables_L14 at h
        have J34 : ∀ (c_rest : Ar) (v2 k0 : Int32) (H : Heap) (locs : List Loc) (ls : Array Slot), X10_tables_b14_34 c_rows c_rest c_turns v1 v2 k0 = some o → WD g s A (w_X10_tables g a_t a_rest a_turns a_cornerX a_cornerY a_corners a_what a_rowAt a_strip a_along a_rowSize a_endAt a_plan a_slantA a_slantB a_yields a_bears a_seen a_wagons a_pile a_far a_waiting a_isWaiting a_isUsed c_thrown c_isLaid c_head c_hasRows c_hasPlan c_rows c_slants c_capacity c_weight c_unload c_source c_bunker c_rest c_turns) H locs → lv_has ls 7 [(0, .ref a_t), (1, .int v1), (2, .int v2)] → W p l e (rm9 1 22) s m args below meth c H locs 0 0 Q (F0 m 34 ls [.int k0]) := by
          intro c_rest v2 k0 H locs ls h hW hl
          unfold X10_tables_b14_34 at h
          refine lv_istore_n (pc := 34) (lv' := [(3, .int k0), (0, .ref a_t), (1, .int v1), (2, .int v2)]) hx hb (dd dX10_tables_p0 21 rfl) rfl hl (by decide) rfl (fun ls hl => ?_)
          refine lv_iconst (pc := 35) (v := 0) hx hb (dd dX10_tables_p0 22 rfl) (by decide) ?_
          refine lv_istore (pc := 36) (lv' := [(4, .int 0), (3, .int k0), (0, .ref a_t), (1, .int v1), (2, .int v2)]) hx hb (dd dX10_tables_p0 23 rfl) hl (by decide) rfl (fun ls hl => ?_)
          obtain ⟨ex, hw, h⟩ := bnd_ex h
          refine loopW (fun st => ∀ (H : Heap) (locs : List Loc) (ls : Array Slot), WD g s A (w_X10_tables g a_t a_rest a_turns a_cornerX a_cornerY a_corners a_what a_rowAt a_strip a_along a_rowSize a_endAt a_plan a_slantA a_slantB a_yields a_bears a_seen a_wagons a_pile a_far a_waiting a_isWaiting a_isUsed c_thrown c_isLaid c_head c_hasRows c_hasPlan c_rows c_slants c_capacity c_weight c_unload c_source c_bunker c_rest c_turns) H locs → lv_has ls 7 [(0, .ref a_t), (1, .int v1), (2, .int v2), (3, .int (st.1)), (4, .int (st.2))] → W p l e (rm9 1 22) s m args below meth c H locs 0 0 Q (F0 m 38 ls [])) (fun (ex : Int32) => ∀ (H : Heap) (locs : List Loc) (ls : Array Slot), WD g s A (w_X10_tables g a_t a_rest a_turns a_cornerX a_cornerY a_corners a_what a_rowAt a_strip a_along a_rowSize a_endAt a_plan a_slantA a_slantB a_yields a_bears a_seen a_wagons a_pile a_far a_waiting a_isWaiting a_isUsed c_thrown c_isLaid c_head c_hasRows c_hasPlan c_rows c_slants c_capacity c_weight c_unload c_source c_bunker c_rest c_turns) H locs → lv_has ls 7 [(0, .ref a_t), (1, .int v1), (2, .int v2), (3, .int ex)] → W p l e (rm9 1 22) s m args below meth c H locs 0 0 Q (F0 m 139 ls [])) ?_ hw ?_ H locs ls hW (lv_sub hl [2, 3, 4, 1, 0] rfl)
          · rintro ⟨v3, v4⟩ o hb9 hk H locs ls hW hl
            have h : X10_tables_L38 c_rows c_rest c_turns v1 v2 v3 v4 = some o := hb9
            clear hb9
            unfold X10_tables_L38 at h
            have J133 : ∀ (v3 v4 : Int32) (H : Heap) (locs : List Loc) (ls : Array Slot), X10_tables_b38_133 v1 v2 v3 v4 = some o → WD g s A (w_X10_tables g a_t a_rest a_turns a_cornerX a_cornerY a_corners a_what a_rowAt a_strip a_along a_rowSize a_endAt a_plan a_slantA a_slantB a_yields a_bears a_seen a_wagons a_pile a_far a_waiting a_isWaiting a_isUsed c_thrown c_isLaid c_head c_hasRows c_hasPlan c_rows c_slants c_capacity c_weight c_unload c_source c_bunker c_rest c_turns) H locs → lv_has ls 7 [(0, .ref a_t), (1, .int v1), (2, .int v2), (3, .int v3), (4, .int v4)] → W p l e (rm9 1 22) s m args below meth c H locs 0 0 Q (F0 m 133 ls []) := by
              intro v3 v4 H locs ls h hW hl
              unfold X10_tables_b38_133 at h
              obtain ⟨v4_133, ev4_133, h⟩ := nm_ex h
              refine lv_iinc (pc := 133) (v := v4_133) (lv' := [(4, .int v4_133), (0, .ref a_t), (1, .int v1), (2, .int v2), (3, .int v3)]) hx hb (dd dX10_tables_p1 23 rfl) hl (k := 4) rfl (by rw [ev4_133]; rfl) (by decide) rfl (fun ls hl => ?_)
              refine lv_goto (pc := 136) (tgt := 38) hx hb (dd dX10_tables_p1 24 rfl) (by decide) ?_
              obtain rfl := Option.some.inj h
              exact hk _ _ _ hW (lv_sub hl [1, 2, 3, 4, 0] rfl)
            have J132 : ∀ (v4 k0 : Int32) (H : Heap) (locs : List Loc) (ls : Array Slot), X10_tables_b38_132 v1 v2 v4 k0 = some o → WD g s A (w_X10_tables g a_t a_rest a_turns a_cornerX a_cornerY a_corners a_what a_rowAt a_strip a_along a_rowSize a_endAt a_plan a_slantA a_slantB a_yields a_bears a_seen a_wagons a_pile a_far a_waiting a_isWaiting a_isUsed c_thrown c_isLaid c_head c_hasRows c_hasPlan c_rows c_slants c_capacity c_weight c_unload c_source c_bunker c_rest c_turns) H locs → lv_has ls 7 [(0, .ref a_t), (1, .int v1), (2, .int v2), (4, .int v4)] → W p l e (rm9 1 22) s m args below meth c H locs 0 0 Q (F0 m 132 ls [.int k0]) := by
              intro v4 k0 H locs ls h hW hl
              unfold X10_tables_b38_132 at h
              refine lv_istore_n (pc := 132) (lv' := [(3, .int k0), (0, .ref a_t), (1, .int v1), (2, .int v2), (4, .int v4)]) hx hb (dd dX10_tables_p1 22 rfl) rfl hl (by decide) rfl (fun ls hl => ?_)
              exact J133 _ _ _ _ _ h hW (lv_sub hl [1, 2, 3, 0, 4] rfl)
            have J118 : ∀ (v3 v4 k0 : Int32) (H : Heap) (locs : List Loc) (ls : Array Slot), X10_tables_b38_118 v1 v2 v3 v4 k0 = some o → WD g s A (w_X10_tables g a_t a_rest a_turns a_cornerX a_cornerY a_corners a_what a_rowAt a_strip a_along a_rowSize a_endAt a_plan a_slantA a_slantB a_yields a_bears a_seen a_wagons a_pile a_far a_waiting a_isWaiting a_isUsed c_thrown c_isLaid c_head c_hasRows c_hasPlan c_rows c_slants c_capacity c_weight c_unload c_source c_bunker c_rest c_turns) H locs → lv_has ls 7 [(0, .ref a_t), (1, .int v1), (2, .int v2), (3, .int v3), (4, .int v4)] → W p l e (rm9 1 22) s m args below meth c H locs 0 0 Q (F0 m 118 ls [.int k0]) := by
              intro v3 v4 k0 H locs ls h hW hl
              unfold X10_tables_b38_118 at h
              refine lv_istore (pc := 118) (lv' := [(6, .int k0), (0, .ref a_t), (1, .int v1), (2, .int v2), (3, .int v3), (4, .int v4)]) hx hb (dd dX10_tables_p1 15 rfl) hl (by decide) rfl (fun ls hl => ?_)
              refine lv_iload (pc := 120) hx hb (dd dX10_tables_p1 16 rfl) (lv_at hl 0 rfl) ?_
              refine lv_iload_n (pc := 122) hx hb (dd dX10_tables_p1 17 rfl) rfl (lv_at hl 4 rfl) ?_
              refine lv_icmp_ge (pc := 123) (tgt := 131) hx hb (dd dX10_tables_p1 18 rfl) (by decide) (fun hc => ?_) (fun hc => ?_)
              · have h := it_t hc h
                refine lv_iload_n (pc := 131) hx hb (dd dX10_tables_p1 21 rfl) rfl (lv_at hl 4 rfl) ?_
                exact J132 _ _ _ _ _ h hW (lv_sub hl [1, 2, 3, 5] rfl)
              · have h := it_f hc h
                refine lv_iload (pc := 126) hx hb (dd dX10_tables_p1 19 rfl) (lv_at hl 0 rfl) ?_
                refine lv_goto (pc := 128) (tgt := 132) hx hb (dd dX10_tables_p1 20 rfl) (by decide) ?_
                exact J132 _ _ _ _ _ h hW (lv_sub hl [1, 2, 3, 5] rfl)
            refine lv_iload (pc := 38) hx hb (dd dX10_tables_p0 24 rfl) (lv_at hl 4 rfl) ?_
            refine lv_iconst (pc := 40) (v := 2) hx hb (dd dX10_tables_p0 25 rfl) (by decide) ?_
            refine lv_aload_n (pc := 41) hx hb (dd dX10_tables_p0 26 rfl) rfl (lv_at hl 0 rfl) ?_
            refine rGet (pc := 42) M hW 0 9 iU10 rfl rfl (by decide) (uw4 222 rfl rfl) rfl (dd dX10_tables_p0 27 rfl) ?_
            refine lv_imul (pc := 45) hx hb (dd dX10_tables_p0 28 rfl) ?_
            refine lv_icmp_ge (pc := 46) (tgt := 139) hx hb (dd dX10_tables_p0 29 rfl) (by decide) (fun hc => ?_) (fun hc => ?_)
            · have h := it_t hc h
              obtain rfl := Option.some.inj h
              exact hk _ _ _ hW (lv_sub hl [0, 1, 2, 3] rfl)
            · have h := it_f hc h
              refine lv_iload_n (pc := 49) hx hb (dd dX10_tables_p0 30 rfl) rfl (lv_at hl 1 rfl) ?_
              refine lv_iload (pc := 50) hx hb (dd dX10_tables_p0 31 rfl) (lv_at hl 4 rfl) ?_
              refine lv_iconst (pc := 52) (v := 2) hx hb (dd dX10_tables_p0 32 rfl) (by decide) ?_
              refine lv_idiv (pc := 53) hx hb (dd dX10_tables_p0 33 rfl) (by decide) ?_
              refine lv_ishr (pc := 54) hx hb (dd dX10_tables_p0 34 rfl) ?_
              refine lv_iconst (pc := 55) (v := 1) hx hb (dd dX10_tables_p0 35 rfl) (by decide) ?_
              refine lv_iand (pc := 56) hx hb (dd dX10_tables_p0 36 rfl) ?_
              refine lv_if_eq (pc := 57) (tgt := 133) hx hb (dd dX10_tables_p0 37 rfl) (by decide) (fun hc => ?_) (fun hc => ?_)
              · have h := it_t hc h
                exact J133 _ _ _ _ _ h hW (lv_sub hl [0, 1, 2, 3, 4] rfl)
              · have h := it_f hc h
                refine lv_iload (pc := 60) hx hb (dd dX10_tables_p0 38 rfl) (lv_at hl 4 rfl) ?_
                refine lv_iconst (pc := 62) (v := 2) hx hb (dd dX10_tables_p0 39 rfl) (by decide) ?_
                refine lv_idiv (pc := 63) hx hb (dd dX10_tables_p0 40 rfl) (by decide) ?_
                refine lv_iload_n (pc := 64) hx hb (dd dX10_tables_p0 41 rfl) rfl (lv_at hl 2 rfl) ?_
                refine lv_iconst (pc := 65) (v := 2) hx hb (dd dX10_tables_p0 42 rfl) (by decide) ?_
                refine lv_idiv (pc := 66) hx hb (dd dX10_tables_p0 43 rfl) (by decide) ?_
                refine lv_icmp_ne (pc := 67) (tgt := 73) hx hb (dd dX10_tables_p0 44 rfl) (by decide) (fun hc => ?_) (fun hc => ?_)
                · have h := it_f hc h
                  refine lv_aload_n (pc := 73) hx hb (dd dX10_tables_p0 46 rfl) rfl (lv_at hl 0 rfl) ?_
                  refine lv_iload_n (pc := 74) hx hb (dd dX10_tables_p0 47 rfl) rfl (lv_at hl 2 rfl) ?_
                  refine lv_iconst (pc := 75) (v := 1) hx hb (dd dX10_tables_p0 48 rfl) (by decide) ?_
                  refine lv_ixor (pc := 76) hx hb (dd dX10_tables_p0 49 rfl) ?_
                  refine lv_iload (pc := 77) hx hb (dd dX10_tables_p0 50 rfl) (lv_at hl 4 rfl) ?_
                  obtain ⟨r_79, hr, h⟩ := bnd_ex h
                  refine callVI (pc := 79) (na := 2) (As := [.int (v2 ^^^ 1), .int v4]) (rest := []) (ws2 := (w_X10_tables g a_t a_rest a_turns a_cornerX a_cornerY a_corners a_what a_rowAt a_strip a_along a_rowSize a_endAt a_plan a_slantA a_slantB a_yields a_bears a_seen a_wagons a_pile a_far a_waiting a_isWaiting a_isUsed c_thrown c_isLaid c_head c_hasRows c_hasPlan c_rows c_slants c_capacity c_weight c_unload c_source c_bunker c_rest c_turns)) M hl.1 hW (t_X10_turnOf l g a_t a_turns a_cornerX a_cornerY a_corners a_what a_rowAt a_strip a_along a_rowSize a_endAt a_plan a_slantA a_slantB a_yields a_bears a_seen a_wagons a_pile a_far a_waiting a_isWaiting a_rest a_isUsed c_thrown c_isLaid c_head c_hasRows c_hasPlan c_rows c_slants c_capacity c_weight c_unload c_source c_bunker c_turns (v2 ^^^ 1) v4 r_79 hr) rfl [0, 2] [1] [1, 0, 2] rfl rfl rfl rfl rfl rfl rfl 0 10 rfl rfl rfl (uw5 185 rfl rfl) (uw5 182 rfl rfl) (uw5 184 rfl rfl) (uwp 54 rfl rfl) (uw1 13 rfl rfl) ⟨by decide, by decide, by decide⟩ rfl ⟨by decide, by decide⟩ (Nat.le_of_ble_eq_true rfl) ⟨Nat.zero_le _, Nat.zero_le _⟩ (dd dX10_tables_p0 51 rfl) (fun H locs hW => ?_)
                  refine lv_istore (pc := 82) (lv' := [(5, .int r_79), (0, .ref a_t), (1, .int v1), (2, .int v2), (3, .int v3), (4, .int v4)]) hx hb (dd dX10_tables_p0 52 rfl) hl (by decide) rfl (fun ls hl => ?_)
                  refine lv_iload (pc := 84) hx hb (dd dX10_tables_p0 53 rfl) (lv_at hl 0 rfl) ?_
                  refine lv_if_ge (pc := 86) (tgt := 94) hx hb (dd dX10_tables_p0 54 rfl) (by decide) (fun hc => ?_) (fun hc => ?_)
                  · have h := it_t hc h
                    refine lv_iload (pc := 94) hx hb (dd dX10_tables_p0 57 rfl) (lv_at hl 0 rfl) ?_
                    refine lv_aload_n (pc := 96) hx hb (dd dX10_tables_p0 58 rfl) rfl (lv_at hl 1 rfl) ?_
                    refine rGet (pc := 97) M hW 0 32 iU10 rfl rfl (by decide) (uw5 5 rfl rfl) rfl (dd dX10_tables_p0 59 rfl) ?_
                    refine lv_bipush (pc := 100) (v := 18) hx hb (dd dX10_tables_p1 0 rfl) (by decide) ?_
                    refine lv_iload_n (pc := 102) hx hb (dd dX10_tables_p1 1 rfl) rfl (lv_at hl 2 rfl) ?_
                    refine lv_iconst (pc := 103) (v := 1) hx hb (dd dX10_tables_p1 2 rfl) (by decide) ?_
                    refine lv_iload (pc := 104) hx hb (dd dX10_tables_p1 3 rfl) (lv_at hl 5 rfl) ?_
                    refine lv_iconst (pc := 106) (v := 2) hx hb (dd dX10_tables_p1 4 rfl) (by decide) ?_
                    refine lv_idiv (pc := 107) hx hb (dd dX10_tables_p1 5 rfl) (by decide) ?_
                    refine lv_ishl (pc := 108) hx hb (dd dX10_tables_p1 6 rfl) ?_
                    refine lv_iconst (pc := 109) (v := (-1)) hx hb (dd dX10_tables_p1 7 rfl) (by decide) ?_
                    refine lv_ixor (pc := 110) hx hb (dd dX10_tables_p1 8 rfl) ?_
                    refine lv_iand (pc := 111) hx hb (dd dX10_tables_p1 9 rfl) ?_
                    refine lv_imul (pc := 112) hx hb (dd dX10_tables_p1 10 rfl) ?_
                    refine lv_iload (pc := 113) hx hb (dd dX10_tables_p1 11 rfl) (lv_at hl 5 rfl) ?_
                    refine lv_iadd (pc := 115) hx hb (dd dX10_tables_p1 12 rfl) ?_
                    obtain ⟨hi, h⟩ := ck_ex h
                    refine rIald (pc := 116) M hW 1 rfl hi (dd dX10_tables_p1 13 rfl) ?_
                    refine lv_iadd (pc := 117) hx hb (dd dX10_tables_p1 14 rfl) ?_
                    exact J118 _ _ _ _ _ _ h hW (lv_sub hl [1, 2, 3, 4, 5] rfl)
                  · have h := it_f hc h
                    refine lv_ldc (pc := 89) (v := 100000000) hx hb hown (hu _ (uw5 153 rfl rfl)) (dd dX10_tables_p0 55 rfl) ?_
                    refine lv_goto (pc := 91) (tgt := 118) hx hb (dd dX10_tables_p0 56 rfl) (by decide) ?_
                    exact J118 _ _ _ _ _ _ h hW (lv_sub hl [1, 2, 3, 4, 5] rfl)
                · have h := it_t hc h
                  refine lv_goto (pc := 70) (tgt := 133) hx hb (dd dX10_tables_p0 45 rfl) (by decide) ?_
                  exact J133 _ _ _ _ _ h hW (lv_sub hl [0, 1, 2, 3, 4] rfl)
          · obtain ⟨v3_139, e9⟩ : ∃ z, z = ex := ⟨_, rfl⟩
            subst e9
            intro H locs ls hW hl
            refine lv_aload_n (pc := 139) hx hb (dd dX10_tables_p1 25 rfl) rfl (lv_at hl 0 rfl) ?_
            refine rGet (pc := 140) M hW 0 32 iU10 rfl rfl (by decide) (uw5 5 rfl rfl) rfl (dd dX10_tables_p1 26 rfl) ?_
            refine lv_bipush (pc := 143) (v := 18) hx hb (dd dX10_tables_p1 27 rfl) (by decide) ?_
            refine lv_iload_n (pc := 145) hx hb (dd dX10_tables_p1 28 rfl) rfl (lv_at hl 1 rfl) ?_
            refine lv_imul (pc := 146) hx hb (dd dX10_tables_p1 29 rfl) ?_
            refine lv_iload_n (pc := 147) hx hb (dd dX10_tables_p1 30 rfl) rfl (lv_at hl 2 rfl) ?_
            refine lv_iadd (pc := 148) hx hb (dd dX10_tables_p1 31 rfl) ?_
            refine lv_iload_n (pc := 149) hx hb (dd dX10_tables_p1 32 rfl) rfl (lv_at hl 3 rfl) ?_
            obtain ⟨hi, h⟩ := ck_ex h
            obtain ⟨c_rest_150, ec_rest_150, h⟩ := nm_ex h
            refine rIast (pc := 150) M hW 1 rfl hi ec_rest_150 (ws' := (w_X10_tables g a_t a_rest a_turns a_cornerX a_cornerY a_corners a_what a_rowAt a_strip a_along a_rowSize a_endAt a_plan a_slantA a_slantB a_yields a_bears a_seen a_wagons a_pile a_far a_waiting a_isWaiting a_isUsed c_thrown c_isLaid c_head c_hasRows c_hasPlan c_rows c_slants c_capacity c_weight c_unload c_source c_bunker c_rest_150 c_turns)) rfl (dd dX10_tables_p1 33 rfl) (fun H locs hW => ?_)
            obtain ⟨v2_151, ev2_151, h⟩ := nm_ex h
            refine lv_iinc (pc := 151) (v := v2_151) (lv' := [(2, .int v2_151), (0, .ref a_t), (1, .int v1), (3, .int v3_139)]) hx hb (dd dX10_tables_p1 34 rfl) hl (k := 2) rfl (by rw [ev2_151]; rfl) (by decide) rfl (fun ls hl => ?_)
            refine lv_goto (pc := 154) (tgt := 14) hx hb (dd dX10_tables_p1 35 rfl) (by decide) ?_
            obtain rfl := Option.some.inj h
            exact hk _ _ _ hW (lv_sub hl [1, 2, 0] rfl)
        refine lv_iload_n (pc := 14) hx hb (dd dX10_tables_p0 10 rfl) rfl (lv_at hl 2 rfl) ?_
        refine lv_iconst (pc := 15) (v := 2) hx hb (dd dX10_tables_p0 11 rfl) (by decide) ?_
        refine lv_aload_n (pc := 16) hx hb (dd dX10_tables_p0 12 rfl) rfl (lv_at hl 0 rfl) ?_
        refine rGet (pc := 17) M hW 0 9 iU10 rfl rfl (by decide) (uw4 222 rfl rfl) rfl (dd dX10_tables_p0 13 rfl) ?_
        refine lv_imul (pc := 20) hx hb (dd dX10_tables_p0 14 rfl) ?_
        refine lv_icmp_ge (pc := 21) (tgt := 157) hx hb (dd dX10_tables_p0 15 rfl) (by decide) (fun hc => ?_) (fun hc => ?_)
        · have h := it_t hc h
          obtain rfl := Option.some.inj h
          exact hk _ _ _ hW (lv_sub hl [0, 1] rfl)
        · have h := it_f hc h
          refine lv_iload_n (pc := 24) hx hb (dd dX10_tables_p0 16 rfl) rfl (lv_at hl 1 rfl) ?_
          refine lv_if_ne (pc := 25) (tgt := 32) hx hb (dd dX10_tables_p0 17 rfl) (by decide) (fun hc => ?_) (fun hc => ?_)
          · have h := it_f hc h
            refine lv_ldc (pc := 32) (v := 100000000) hx hb hown (hu _ (uw5 153 rfl rfl)) (dd dX10_tables_p0 20 rfl) ?_
            exact J34 _ _ _ _ _ _ h hW (lv_sub hl [0, 1, 2] rfl)
          · have h := it_t hc h
            refine lv_iconst (pc := 28) (v := 0) hx hb (dd dX10_tables_p0 18 rfl) (by decide) ?_
            refine lv_goto (pc := 29) (tgt := 34) hx hb (dd dX10_tables_p0 19 rfl) (by decide) ?_
            exact J34 _ _ _ _ _ _ h hW (lv_sub hl [0, 1, 2] rfl)
      · obtain ⟨c_rest_157, e9⟩ : ∃ z, z = ex := ⟨_, rfl⟩
        subst e9
        intro H locs ls hW hl
        obtain ⟨v1_157, ev1_157, h⟩ := nm_ex h
        refine lv_iinc (pc := 157) (v := v1_157) (lv' := [(1, .int v1_157), (0, .ref a_t)]) hx hb (dd dX10_tables_p1 36 rfl) hl (k := 1) rfl (by rw [ev1_157]; rfl) (by decide) rfl (fun ls hl => ?_)
        refine lv_goto (pc := 160) (tgt := 2) hx hb (dd dX10_tables_p1 37 rfl) (by decide) ?_
        obtain rfl := Option.some.inj h
        exact hk _ _ _ hW (lv_sub hl [1, 0] rfl)
  · obtain ⟨c_rest_163, e9⟩ : ∃ z, z = ex := ⟨_, rfl⟩
    subst e9
    intro H locs ls hW hl
    have hW9 := hW
    cases h
    exact ret _ _ _ 163 hW9 (dd dX10_tables_p1 38 rfl)
abbrev w_X10_few (g : G9) (a_t a_plan a_rest a_turns a_cornerX a_cornerY a_corners a_what a_rowAt a_strip a_along a_rowSize a_endAt a_slantA a_slantB a_yields a_bears a_seen a_wagons a_pile a_far a_waiting a_isWaiting a_isUsed : Nat) (c_thrown c_isLaid c_head c_hasRows c_hasPlan c_rows c_slants c_capacity c_weight c_unload c_source c_bunker : Int32) (c_plan c_rest c_turns : Ar) : va_W := [ob a_t 10 [.int c_thrown, .ref a_cornerX, .ref a_cornerY, .ref a_corners, .ref a_what, .int c_isLaid, .int c_head, .int c_hasRows, .int c_hasPlan, .int c_rows, .ref a_rowAt, .ref a_strip, .ref a_along, .ref a_rowSize, .ref a_endAt, .ref a_turns, .ref a_plan, .ref a_slantA, .ref a_slantB, .int c_slants, .ref a_yields, .ref a_bears, .int c_capacity, .int c_weight, .int c_unload, .ref a_seen, .ref a_wagons, .ref a_pile, .ref a_far, .int c_source, .ref a_waiting, .ref a_isWaiting, .ref a_rest, .ref a_isUsed, .int c_bunker], ia g a_plan 60 c_plan, ia g a_rest 9216 c_rest, ia g a_turns 14400 c_turns]
noncomputable def X10_few_L29 (c_rows : Int32) (c_rest : Ar) (v1 v2 v3 : Int32) : Option ((Int32 × Int32) ⊕ Int32) :=
  if (2 * c_rows) ≤ v3 then (some (.inr v2)) else (ck (ix ((18 * (v1 &&& (((1 : Int32) <<< ((v3 / 2) &&& 31)) ^^^ (-1)))) + v3) 9216) <| nm ((mn v2 (ag c_rest ((18 * (v1 &&& (((1 : Int32) <<< ((v3 / 2) &&& 31)) ^^^ (-1)))) + v3)))) fun v2_62 => nm (v3 + 1) fun v3_63 => some (.inl (v2_62, v3_63)))
noncomputable def X10_few_b104_194 (c_plan : Ar) (v2 v3 v4 v5 v6 : Int32) : Option ((Ar × Int32) ⊕ Ar) :=
  nm (v6 + (-1)) fun v6_194 => some (.inl (c_plan, v6_194))
noncomputable def X10_few_b104_149 (c_plan c_rest : Ar) (v2 v3 v4 v5 v6 k0 : Int32) : Option ((Ar × Int32) ⊕ Ar) :=
  if k0 < 0 then (X10_few_b104_194 c_plan v2 v3 v4 v5 v6) else (ck (ix ((18 * (v3 &&& (((1 : Int32) <<< ((v6 / 2) &&& 31)) ^^^ (-1)))) + v6) 9216) <| if (k0 + (ag c_rest ((18 * (v3 &&& (((1 : Int32) <<< ((v6 / 2) &&& 31)) ^^^ (-1)))) + v6))) = v4 then (ck (ix v5 60) <| nm (au c_plan v5 v6) fun c_plan_193 => X10_few_b104_194 c_plan_193 v2 v3 v4 v5 v6) else (X10_few_b104_194 c_plan v2 v3 v4 v5 v6))
noncomputable def X10_few_L104 (c_rest c_turns : Ar) (v2 v3 v4 v5 : Int32) (c_plan : Ar) (v6 : Int32) : Option ((Ar × Int32) ⊕ Ar) :=
  if v6 < 0 then (some (.inr c_plan)) else (if ((v3 >>> ((v6 / 2) &&& 31)) &&& 1) = 0 then (X10_few_b104_194 c_plan v2 v3 v4 v5 v6) else (if v5 = 0 then (X10_few_b104_149 c_plan c_rest v2 v3 v4 v5 v6 0) else (ck (ix (v5 - 1) 60) <| bnd (X10_turnOf c_turns ((ag c_plan (v5 - 1)) ^^^ 1) v6) <| fun r_146 => X10_few_b104_149 c_plan c_rest v2 v3 v4 v5 v6 r_146)))
noncomputable def X10_few_L85 (c_rows : Int32) (c_rest c_turns : Ar) (v2 : Int32) (c_plan : Ar) (v3 v4 v5 : Int32) : Option ((Ar × Int32 × Int32 × Int32) ⊕ Ar) :=
  if c_rows ≤ v5 then (some (.inr c_plan)) else (nm (((2 * c_rows) - 1)) fun v6_102 => bnd (whileV (fun st => X10_few_L104 c_rest c_turns v2 v3 v4 v5 st.1 st.2) (c_plan, v6_102)) <| (fun c_plan_200 => ck (ix v5 60) <| nm ((v3 &&& (((1 : Int32) <<< (((ag c_plan_200 v5) / 2) &&& 31)) ^^^ (-1)))) fun v3_215 => ck (ix v5 60) <| ck (ix ((18 * v3_215) + (ag c_plan_200 v5)) 9216) <| nm ((ag c_rest ((18 * v3_215) + (ag c_plan_200 v5)))) fun v4_233 => nm (v5 + 1) fun v5_235 => some (.inl (c_plan_200, v3_215, v4_233, v5_235))))
noncomputable def X10_few_b26 (c_rows : Int32) (c_plan c_rest c_turns : Ar) (v1 k0 : Int32) : Option (Int32 × Ar × Ar) :=
  bnd (whileV (fun st => X10_few_L29 c_rows c_rest v1 st.1 st.2) (k0, 0)) <| (fun v2_69 => if v2_69 < 100000000 then (bnd (whileV (fun st => X10_few_L85 c_rows c_rest c_turns v2_69 st.1 st.2.1 st.2.2.1 st.2.2.2) (c_plan, v1, v2_69, 0)) <| (fun c_plan_241 => some (v2_69, c_plan_241, c_rest))) else (some ((-1), c_plan, c_rest)))
noncomputable def X10_few (c_rows : Int32) (c_plan c_rest c_turns : Ar) : Option (Int32 × Ar × Ar) :=
  bnd (X10_tables c_rows c_rest c_turns) <| fun c_rest_1 => nm ((((1 : Int32) <<< (c_rows &&& 31)) - 1)) fun v1_12 => if c_rows = 0 then (X10_few_b26 c_rows c_plan c_rest_1 c_turns v1_12 0) else (X10_few_b26 c_rows c_plan c_rest_1 c_turns v1_12 100000000)
set_option maxHeartbeats 4000000 in
set_option maxRecDepth 100000 in
theorem t_X10_few (l : Launch) (g : G9) (a_t a_plan a_rest a_turns a_cornerX a_cornerY a_corners a_what a_rowAt a_strip a_along a_rowSize a_endAt a_slantA a_slantB a_yields a_bears a_seen a_wagons a_pile a_far a_waiting a_isWaiting a_isUsed : Nat) (c_thrown c_isLaid c_head c_hasRows c_hasPlan c_rows c_slants c_capacity c_weight c_unload c_source c_bunker : Int32) (c_plan c_rest c_turns : Ar) (r0 : Int32) (o_plan o_rest : Ar) (h : X10_few c_rows c_plan c_rest c_turns = some (r0, o_plan, o_rest)) : CtI l g yX10_few cX10_few 8 .int 2 48 [.ref a_t] (w_X10_few g a_t a_plan a_rest a_turns a_cornerX a_cornerY a_corners a_what a_rowAt a_strip a_along a_rowSize a_endAt a_slantA a_slantB a_yields a_bears a_seen a_wagons a_pile a_far a_waiting a_isWaiting a_isUsed c_thrown c_isLaid c_head c_hasRows c_hasPlan c_rows c_slants c_capacity c_weight c_unload c_source c_bunker c_plan c_rest c_turns) r0 (w_X10_few g a_t a_plan a_rest a_turns a_cornerX a_cornerY a_corners a_what a_rowAt a_strip a_along a_rowSize a_endAt a_slantA a_slantB a_yields a_bears a_seen a_wagons a_pile a_far a_waiting a_isWaiting a_isUsed c_thrown c_isLaid c_head c_hasRows c_hasPlan c_rows c_slants c_capacity c_weight c_unload c_source c_bunker o_plan o_rest c_turns) := by
  refine startI (by decide) (Nat.le_of_ble_eq_true rfl) ?_
  intro p e s m below meth c A Q ls args M hW hl ret
  have hx := M.1
  have hb := M.2.1
  have hown := M.2.2.2.1
  have hu := M.2.2.2.2.1
  have hl : lv_has ls 8 [(0, .ref a_t)] := hl
  unfold X10_few at h
  obtain ⟨H, eH⟩ : ∃ z, z = s.heap := ⟨_, rfl⟩
  obtain ⟨locs, eL⟩ : ∃ z, z = ([] : List Loc) := ⟨_, rfl⟩
  rw [← eL] at hW ⊢
  suffices hS9 : WD g s A (w_X10_few g a_t a_plan a_rest a_turns a_cornerX a_cornerY a_corners a_what a_rowAt a_strip a_along a_rowSize a_endAt a_slantA a_slantB a_yields a_bears a_seen a_wagons a_pile a_far a_waiting a_isWaiting a_isUsed c_thrown c_isLaid c_head c_hasRows c_hasPlan c_rows c_slants c_capacity c_weight c_unload c_source c_bunker c_plan c_rest c_turns) H locs → W p l e (rm9 2 48) s m args below meth c H locs 0 0 Q (F0 m 0 ls []) by
    rw [← eH] at hW ⊢
    exact hS9 hW
  clear hW eH eL
  intro hW
  have J26 : ∀ (c_plan c_rest : Ar) (v1 k0 : Int32) (H : Heap) (locs : List Loc) (ls : Array Slot), X10_few_b26 c_rows c_plan c_rest c_turns v1 k0 = some (r0, o_plan, o_rest) → WD g s A (w_X10_few g a_t a_plan a_rest a_turns a_cornerX a_cornerY a_corners a_what a_rowAt a_strip a_along a_rowSize a_endAt a_slantA a_slantB a_yields a_bears a_seen a_wagons a_pile a_far a_waiting a_isWaiting a_isUsed c_thrown c_isLaid c_head c_hasRows c_hasPlan c_rows c_slants c_capacity c_weight c_unload c_source c_bunker c_plan c_rest c_turns) H locs → lv_has ls 8 [(0, .ref a_t), (1, .int v1)] → W p l e (rm9 2 48) s m args below meth c H locs 0 0 Q (F0 m 26 ls [.int k0]) := by
    intro c_plan c_rest v1 k0 H locs ls h hW hl
    unfold X10_few_b26 at h
    refine lv_istore_n (pc := 26) (lv' := [(2, .int k0), (0, .ref a_t), (1, .int v1)]) hx hb (dd dX10_few_p0 15 rfl) rfl hl (by decide) rfl (fun ls hl => ?_)
    refine lv_iconst (pc := 27) (v := 0) hx hb (dd dX10_few_p0 16 rfl) (by decide) ?_
    refine lv_istore_n (pc := 28) (lv' := [(3, .int 0), (2, .int k0), (0, .ref a_t), (1, .int v1)]) hx hb (dd dX10_few_p0 17 rfl) rfl hl (by decide) rfl (fun ls hl => ?_)
    obtain ⟨ex, hw, h⟩ := bnd_ex h
    refine loopW (fun st => ∀ (H : Heap) (locs : List Loc) (ls : Array Slot), WD g s A (w_X10_few g a_t a_plan a_rest a_turns a_cornerX a_cornerY a_corners a_what a_rowAt a_strip a_along a_rowSize a_endAt a_slantA a_slantB a_yields a_bears a_seen a_wagons a_pile a_far a_waiting a_isWaiting a_isUsed c_thrown c_isLaid c_head c_hasRows c_hasPlan c_rows c_slants c_capacity c_weight c_unload c_source c_bunker c_plan c_rest c_turns) H locs → lv_has ls 8 [(0, .ref a_t), (1, .int v1), (2, .int (st.1)), (3, .int (st.2))] → W p l e (rm9 2 48) s m args below meth c H locs 0 0 Q (F0 m 29 ls [])) (fun (ex : Int32) => ∀ (H : Heap) (locs : List Loc) (ls : Array Slot), WD g s A (w_X10_few g a_t a_plan a_rest a_turns a_cornerX a_cornerY a_corners a_what a_rowAt a_strip a_along a_rowSize a_endAt a_slantA a_slantB a_yields a_bears a_seen a_wagons a_pile a_far a_waiting a_isWaiting a_isUsed c_thrown c_isLaid c_head c_hasRows c_hasPlan c_rows c_slants c_capacity c_weight c_unload c_source c_bunker c_plan c_rest c_turns) H locs → lv_has ls 8 [(0, .ref a_t), (1, .int v1), (2, .int ex)] → W p l e (rm9 2 48) s m args below meth c H locs 0 0 Q (F0 m 69 ls [])) ?_ hw ?_ H locs ls hW (lv_sub hl [2, 3, 1, 0] rfl)
    · rintro ⟨v2, v3⟩ o hb9 hk H locs ls hW hl
      have h : X10_few_L29 c_rows c_rest v1 v2 v3 = some o := hb9
      clear hb9
      unfold X10_few_L29 at h
      refine lv_iload_n (pc := 29) hx hb (dd dX10_few_p0 18 rfl) rfl (lv_at hl 3 rfl) ?_
      refine lv_iconst (pc := 30) (v := 2) hx hb (dd dX10_few_p0 19 rfl) (by decide) ?_
      refine lv_aload_n (pc := 31) hx hb (dd dX10_few_p0 20 rfl) rfl (lv_at hl 0 rfl) ?_
      refine rGet (pc := 32) M hW 0 9 iU10 rfl rfl (by decide) (uw4 222 rfl rfl) rfl (dd dX10_few_p0 21 rfl) ?_
      refine lv_imul (pc := 35) hx hb (dd dX10_few_p0 22 rfl) ?_
      refine lv_icmp_ge (pc := 36) (tgt := 69) hx hb (dd dX10_few_p0 23 rfl) (by decide) (fun hc => ?_) (fun hc => ?_)
      · have h := it_t hc h
        obtain rfl := Option.some.inj h
        exact hk _ _ _ hW (lv_sub hl [0, 1, 2] rfl)
      · have h := it_f hc h
        refine lv_iload_n (pc := 39) hx hb (dd dX10_few_p0 24 rfl) rfl (lv_at hl 2 rfl) ?_
        refine lv_aload_n (pc := 40) hx hb (dd dX10_few_p0 25 rfl) rfl (lv_at hl 0 rfl) ?_
        refine rGet (pc := 41) M hW 0 32 iU10 rfl rfl (by decide) (uw5 5 rfl rfl) rfl (dd dX10_few_p0 26 rfl) ?_
        refine lv_bipush (pc := 44) (v := 18) hx hb (dd dX10_few_p0 27 rfl) (by decide) ?_
        refine lv_iload_n (pc := 46) hx hb (dd dX10_few_p0 28 rfl) rfl (lv_at hl 1 rfl) ?_
        refine lv_iconst (pc := 47) (v := 1) hx hb (dd dX10_few_p0 29 rfl) (by decide) ?_
        refine lv_iload_n (pc := 48) hx hb (dd dX10_few_p0 30 rfl) rfl (lv_at hl 3 rfl) ?_
        refine lv_iconst (pc := 49) (v := 2) hx hb (dd dX10_few_p0 31 rfl) (by decide) ?_
        refine lv_idiv (pc := 50) hx hb (dd dX10_few_p0 32 rfl) (by decide) ?_
        refine lv_ishl (pc := 51) hx hb (dd dX10_few_p0 33 rfl) ?_
        refine lv_iconst (pc := 52) (v := (-1)) hx hb (dd dX10_few_p0 34 rfl) (by decide) ?_
        refine lv_ixor (pc := 53) hx hb (dd dX10_few_p0 35 rfl) ?_
        refine lv_iand (pc := 54) hx hb (dd dX10_few_p0 36 rfl) ?_
        refine lv_imul (pc := 55) hx hb (dd dX10_few_p0 37 rfl) ?_
        refine lv_iload_n (pc := 56) hx hb (dd dX10_few_p0 38 rfl) rfl (lv_at hl 3 rfl) ?_
        refine lv_iadd (pc := 57) hx hb (dd dX10_few_p0 39 rfl) ?_
        obtain ⟨hi, h⟩ := ck_ex h
        refine rIald (pc := 58) M hW 2 rfl hi (dd dX10_few_p0 40 rfl) ?_
        refine rMin (pc := 59) M hl.1 (uw5 202 rfl rfl) (uw3 97 rfl rfl) (uw1 4 rfl rfl) (uw3 98 rfl rfl) ⟨by decide, by decide⟩ (Nat.le_of_ble_eq_true rfl) ⟨Nat.zero_le _, Nat.zero_le _⟩ (dd dX10_few_p0 41 rfl) ?_
        obtain ⟨v2_62, ev2_62, h⟩ := nm_ex h
        refine rTopi (pc := 62) ev2_62 ?_
        refine lv_istore_n (pc := 62) (lv' := [(2, .int v2_62), (0, .ref a_t), (1, .int v1), (3, .int v3)]) hx hb (dd dX10_few_p0 42 rfl) rfl hl (by decide) rfl (fun ls hl => ?_)
        obtain ⟨v3_63, ev3_63, h⟩ := nm_ex h
        refine lv_iinc (pc := 63) (v := v3_63) (lv' := [(3, .int v3_63), (2, .int v2_62), (0, .ref a_t), (1, .int v1)]) hx hb (dd dX10_few_p0 43 rfl) hl (k := 3) rfl (by rw [ev3_63]; rfl) (by decide) rfl (fun ls hl => ?_)
        refine lv_goto (pc := 66) (tgt := 29) hx hb (dd dX10_few_p0 44 rfl) (by decide) ?_
        obtain rfl := Option.some.inj h
        exact hk _ _ _ hW (lv_sub hl [2, 3, 1, 0] rfl)
    · obtain ⟨v2_69, e9⟩ : ∃ z, z = ex := ⟨_, rfl⟩
      subst e9
      intro H locs ls hW hl
      refine lv_iload_n (pc := 69) hx hb (dd dX10_few_p0 45 rfl) rfl (lv_at hl 2 rfl) ?_
      refine lv_ldc (pc := 70) (v := 100000000) hx hb hown (hu _ (uw5 153 rfl rfl)) (dd dX10_few_p0 46 rfl) ?_
      refine lv_icmp_lt (pc := 72) (tgt := 77) hx hb (dd dX10_few_p0 47 rfl) (by decide) (fun hc => ?_) (fun hc => ?_)
      · have h := it_t hc h
        refine lv_iload_n (pc := 77) hx hb (dd dX10_few_p0 50 rfl) rfl (lv_at hl 1 rfl) ?_
        refine lv_istore_n (pc := 78) (lv' := [(3, .int v1), (0, .ref a_t), (1, .int v1), (2, .int v2_69)]) hx hb (dd dX10_few_p0 51 rfl) rfl hl (by decide) rfl (fun ls hl => ?_)
        refine lv_iload_n (pc := 79) hx hb (dd dX10_few_p0 52 rfl) rfl (lv_at hl 3 rfl) ?_
        refine lv_istore (pc := 80) (lv' := [(4, .int v2_69), (3, .int v1), (0, .ref a_t), (1, .int v1), (2, .int v2_69)]) hx hb (dd dX10_few_p0 53 rfl) hl (by decide) rfl (fun ls hl => ?_)
        refine lv_iconst (pc := 82) (v := 0) hx hb (dd dX10_few_p0 54 rfl) (by decide) ?_
        refine lv_istore (pc := 83) (lv' := [(5, .int 0), (4, .int v2_69), (3, .int v1), (0, .ref a_t), (1, .int v1), (2, .int v2_69)]) hx hb (dd dX10_few_p0 55 rfl) hl (by decide) rfl (fun ls hl => ?_)
        obtain ⟨ex, hw, h⟩ := bnd_ex h
        refine loopW (fun st => ∀ (H : Heap) (locs : List Loc) (ls : Array Slot), WD g s A (w_X10_few g a_t a_plan a_rest a_turns a_cornerX a_cornerY a_corners a_what a_rowAt a_strip a_along a_rowSize a_endAt a_slantA a_slantB a_yields a_bears a_seen a_wagons a_pile a_far a_waiting a_isWaiting a_isUsed c_thrown c_isLaid c_head c_hasRows c_hasPlan c_rows c_slants c_capacity c_weight c_unload c_source c_bunker (st.1) c_rest c_turns) H locs → lv_has ls 8 [(0, .ref a_t), (2, .int v2_69), (3, .int (st.2.1)), (4, .int (st.2.2.1)), (5, .int (st.2.2.2))] → W p l e (rm9 2 48) s m args below meth c H locs 0 0 Q (F0 m 85 ls [])) (fun (ex : Ar) => ∀ (H : Heap) (locs : List Loc) (ls : Array Slot), WD g s A (w_X10_few g a_t a_plan a_rest a_turns a_cornerX a_cornerY a_corners a_what a_rowAt a_strip a_along a_rowSize a_endAt a_slantA a_slantB a_yields a_bears a_seen a_wagons a_pile a_far a_waiting a_isWaiting a_isUsed c_thrown c_isLaid c_head c_hasRows c_hasPlan c_rows c_slants c_capacity c_weight c_unload c_source c_bunker ex c_rest c_turns) H locs → lv_has ls 8 [(2, .int v2_69)] → W p l e (rm9 2 48) s m args below meth c H locs 0 0 Q (F0 m 241 ls [])) ?_ hw ?_ H locs ls hW (lv_sub hl [3, 5, 2, 1, 0] rfl)
        · rintro ⟨c_plan, v3, v4, v5⟩ o hb9 hk H locs ls hW hl
          have h : X10_few_L85 c_rows c_rest c_turns v2_69 c_plan v3 v4 v5 = some o := hb9
          clear hb9
          unfold X10_few_L85 at h
          refine lv_iload (pc := 85) hx hb (dd dX10_few_p0 56 rfl) (lv_at hl 4 rfl) ?_
          refine lv_aload_n (pc := 87) hx hb (dd dX10_few_p0 57 rfl) rfl (lv_at hl 0 rfl) ?_
          refine rGet (pc := 88) M hW 0 9 iU10 rfl rfl (by decide) (uw4 222 rfl rfl) rfl (dd dX10_few_p0 58 rfl) ?_
          refine lv_icmp_ge (pc := 91) (tgt := 241) hx hb (dd dX10_few_p0 59 rfl) (by decide) (fun hc => ?_) (fun hc => ?_)
          · have h := it_t hc h
            obtain rfl := Option.some.inj h
            exact hk _ _ _ hW (lv_sub hl [1] rfl)
          · have h := it_f hc h
            refine lv_iconst (pc := 94) (v := 2) hx hb (dd dX10_few_p1 0 rfl) (by decide) ?_
            refine lv_aload_n (pc := 95) hx hb (dd dX10_few_p1 1 rfl) rfl (lv_at hl 0 rfl) ?_
            refine rGet (pc := 96) M hW 0 9 iU10 rfl rfl (by decide) (uw4 222 rfl rfl) rfl (dd dX10_few_p1 2 rfl) ?_
            refine lv_imul (pc := 99) hx hb (dd dX10_few_p1 3 rfl) ?_
            refine lv_iconst (pc := 100) (v := 1) hx hb (dd dX10_few_p1 4 rfl) (by decide) ?_
            refine lv_isub (pc := 101) hx hb (dd dX10_few_p1 5 rfl) ?_
            obtain ⟨v6_102, ev6_102, h⟩ := nm_ex h
            refine rTopi (pc := 102) ev6_102 ?_
            refine lv_istore (pc := 102) (lv' := [(6, .int v6_102), (0, .ref a_t), (2, .int v2_69), (3, .int v3), (4, .int v4), (5, .int v5)]) hx hb (dd dX10_few_p1 6 rfl) hl (by decide) rfl (fun ls hl => ?_)
            obtain ⟨ex, hw, h⟩ := bnd_ex h
            refine loopW (fun st => ∀ (H : Heap) (locs : List Loc) (ls : Array Slot), WD g s A (w_X10_few g a_t a_plan a_rest a_turns a_cornerX a_cornerY a_corners a_what a_rowAt a_strip a_along a_rowSize a_endAt a_slantA a_slantB a_yields a_bears a_seen a_wagons a_pile a_far a_waiting a_isWaiting a_isUsed c_thrown c_isLaid c_head c_hasRows c_hasPlan c_rows c_slants c_capacity c_weight c_unload c_source c_bunker (st.1) c_rest c_turns) H locs → lv_has ls 8 [(0, .ref a_t), (2, .int v2_69), (3, .int v3), (4, .int v4), (5, .int v5), (6, .int (st.2))] → W p l e (rm9 2 48) s m args below meth c H locs 0 0 Q (F0 m 104 ls [])) (fun (ex : Ar) => ∀ (H : Heap) (locs : List Loc) (ls : Array Slot), WD g s A (w_X10_few g a_t a_plan a_rest a_turns a_cornerX a_cornerY a_corners a_what a_rowAt a_strip a_along a_rowSize a_endAt a_slantA a_slantB a_yields a_bears a_seen a_wagons a_pile a_far a_waiting a_isWaiting a_isUsed c_thrown c_isLaid c_head c_hasRows c_hasPlan c_rows c_slants c_capacity c_weight c_unload c_source c_bunker ex c_rest c_turns) H locs → lv_has ls 8 [(0, .ref a_t), (2, .int v2_69), (3, .int v3), (5, .int v5)] → W p l e (rm9 2 48) s m args below meth c H locs 0 0 Q (F0 m 200 ls [])) ?_ hw ?_ H locs ls hW (lv_sub hl [1, 2, 3, 4, 5, 0] rfl)
            · rintro ⟨c_plan, v6⟩ o hb9 hk H locs ls hW hl
              have h : X10_few_L104 c_rest c_turns v2_69 v3 v4 v5 c_plan v6 = some o := hb9
              clear hb9
              unfold X10_few_L104 at h
              have J194 : ∀ (c_plan : Ar) (v6 : Int32) (H : Heap) (locs : List Loc) (ls : Array Slot), X10_few_b104_194 c_plan v2_69 v3 v4 v5 v6 = some o → WD g s A (w_X10_few g a_t a_plan a_rest a_turns a_cornerX a_cornerY a_corners a_what a_rowAt a_strip a_along a_rowSize a_endAt a_slantA a_slantB a_yields a_bears a_seen a_wagons a_pile a_far a_waiting a_isWaiting a_isUsed c_thrown c_isLaid c_head c_hasRows c_hasPlan c_rows c_slants c_capacity c_weight c_unload c_source c_bunker c_plan c_rest c_turns) H locs → lv_has ls 8 [(0, .ref a_t), (2, .int v2_69), (3, .int v3), (4, .int v4), (5, .int v5), (6, .int v6)] → W p l e (rm9 2 48) s m args below meth c H locs 0 0 Q (F0 m 194 ls []) := by
                intro c_plan v6 H locs ls h hW hl
                unfold X10_few_b104_194 at h
                obtain ⟨v6_194, ev6_194, h⟩ := nm_ex h
                refine lv_iinc (pc := 194) (v := v6_194) (lv' := [(6, .int v6_194), (0, .ref a_t), (2, .int v2_69), (3, .int v3), (4, .int v4), (5, .int v5)]) hx hb (dd dX10_few_p2 1 rfl) hl (k := 5) rfl (by rw [ev6_194]; rfl) (by decide) rfl (fun ls hl => ?_)
                refine lv_goto (pc := 197) (tgt := 104) hx hb (dd dX10_few_p2 2 rfl) (by decide) ?_
                obtain rfl := Option.some.inj h
                exact hk _ _ _ hW (lv_sub hl [1, 2, 3, 4, 5, 0] rfl)
              have J149 : ∀ (c_plan : Ar) (v6 k0 : Int32) (H : Heap) (locs : List Loc) (ls : Array Slot), X10_few_b104_149 c_plan c_rest v2_69 v3 v4 v5 v6 k0 = some o → WD g s A (w_X10_few g a_t a_plan a_rest a_turns a_cornerX a_cornerY a_corners a_what a_rowAt a_strip a_along a_rowSize a_endAt a_slantA a_slantB a_yields a_bears a_seen a_wagons a_pile a_far a_waiting a_isWaiting a_isUsed c_thrown c_isLaid c_head c_hasRows c_hasPlan c_rows c_slants c_capacity c_weight c_unload c_source c_bunker c_plan c_rest c_turns) H locs → lv_has ls 8 [(0, .ref a_t), (2, .int v2_69), (3, .int v3), (4, .int v4), (5, .int v5), (6, .int v6)] → W p l e (rm9 2 48) s m args below meth c H locs 0 0 Q (F0 m 149 ls [.int k0]) := by
                intro c_plan v6 k0 H locs ls h hW hl
                unfold X10_few_b104_149 at h
                refine lv_istore (pc := 149) (lv' := [(7, .int k0), (0, .ref a_t), (2, .int v2_69), (3, .int v3), (4, .int v4), (5, .int v5), (6, .int v6)]) hx hb (dd dX10_few_p1 33 rfl) hl (by decide) rfl (fun ls hl => ?_)
                refine lv_iload (pc := 151) hx hb (dd dX10_few_p1 34 rfl) (lv_at hl 0 rfl) ?_
                refine lv_if_lt (pc := 153) (tgt := 194) hx hb (dd dX10_few_p1 35 rfl) (by decide) (fun hc => ?_) (fun hc => ?_)
                · have h := it_t hc h
                  exact J194 _ _ _ _ _ h hW (lv_sub hl [1, 2, 3, 4, 5, 6] rfl)
                · have h := it_f hc h
                  refine lv_iload (pc := 156) hx hb (dd dX10_few_p1 36 rfl) (lv_at hl 0 rfl) ?_
                  refine lv_aload_n (pc := 158) hx hb (dd dX10_few_p1 37 rfl) rfl (lv_at hl 1 rfl) ?_
                  refine rGet (pc := 159) M hW 0 32 iU10 rfl rfl (by decide) (uw5 5 rfl rfl) rfl (dd dX10_few_p1 38 rfl) ?_
                  refine lv_bipush (pc := 162) (v := 18) hx hb (dd dX10_few_p1 39 rfl) (by decide) ?_
                  refine lv_iload_n (pc := 164) hx hb (dd dX10_few_p1 40 rfl) rfl (lv_at hl 3 rfl) ?_
                  refine lv_iconst (pc := 165) (v := 1) hx hb (dd dX10_few_p1 41 rfl) (by decide) ?_
                  refine lv_iload (pc := 166) hx hb (dd dX10_few_p1 42 rfl) (lv_at hl 6 rfl) ?_
                  refine lv_iconst (pc := 168) (v := 2) hx hb (dd dX10_few_p1 43 rfl) (by decide) ?_
                  refine lv_idiv (pc := 169) hx hb (dd dX10_few_p1 44 rfl) (by decide) ?_
                  refine lv_ishl (pc := 170) hx hb (dd dX10_few_p1 45 rfl) ?_
                  refine lv_iconst (pc := 171) (v := (-1)) hx hb (dd dX10_few_p1 46 rfl) (by decide) ?_
                  refine lv_ixor (pc := 172) hx hb (dd dX10_few_p1 47 rfl) ?_
                  refine lv_iand (pc := 173) hx hb (dd dX10_few_p1 48 rfl) ?_
                  refine lv_imul (pc := 174) hx hb (dd dX10_few_p1 49 rfl) ?_
                  refine lv_iload (pc := 175) hx hb (dd dX10_few_p1 50 rfl) (lv_at hl 6 rfl) ?_
                  refine lv_iadd (pc := 177) hx hb (dd dX10_few_p1 51 rfl) ?_
                  obtain ⟨hi, h⟩ := ck_ex h
                  refine rIald (pc := 178) M hW 2 rfl hi (dd dX10_few_p1 52 rfl) ?_
                  refine lv_iadd (pc := 179) hx hb (dd dX10_few_p1 53 rfl) ?_
                  refine lv_iload (pc := 180) hx hb (dd dX10_few_p1 54 rfl) (lv_at hl 4 rfl) ?_
                  refine lv_icmp_ne (pc := 182) (tgt := 194) hx hb (dd dX10_few_p1 55 rfl) (by decide) (fun hc => ?_) (fun hc => ?_)
                  · have h := it_f hc h
                    exact J194 _ _ _ _ _ h hW (lv_sub hl [1, 2, 3, 4, 5, 6] rfl)
                  · have h := it_t hc h
                    refine lv_aload_n (pc := 185) hx hb (dd dX10_few_p1 56 rfl) rfl (lv_at hl 1 rfl) ?_
                    refine rGet (pc := 186) M hW 0 16 iU10 rfl rfl (by decide) (uw4 229 rfl rfl) rfl (dd dX10_few_p1 57 rfl) ?_
                    refine lv_iload (pc := 189) hx hb (dd dX10_few_p1 58 rfl) (lv_at hl 5 rfl) ?_
                    refine lv_iload (pc := 191) hx hb (dd dX10_few_p1 59 rfl) (lv_at hl 6 rfl) ?_
                    obtain ⟨hi, h⟩ := ck_ex h
                    obtain ⟨c_plan_193, ec_plan_193, h⟩ := nm_ex h
                    refine rIast (pc := 193) M hW 1 rfl hi ec_plan_193 (ws' := (w_X10_few g a_t a_plan a_rest a_turns a_cornerX a_cornerY a_corners a_what a_rowAt a_strip a_along a_rowSize a_endAt a_slantA a_slantB a_yields a_bears a_seen a_wagons a_pile a_far a_waiting a_isWaiting a_isUsed c_thrown c_isLaid c_head c_hasRows c_hasPlan c_rows c_slants c_capacity c_weight c_unload c_source c_bunker c_plan_193 c_rest c_turns)) rfl (dd dX10_few_p2 0 rfl) (fun H locs hW => ?_)
                    exact J194 _ _ _ _ _ h hW (lv_sub hl [1, 2, 3, 4, 5, 6] rfl)
              refine lv_iload (pc := 104) hx hb (dd dX10_few_p1 7 rfl) (lv_at hl 5 rfl) ?_
              refine lv_if_lt (pc := 106) (tgt := 200) hx hb (dd dX10_few_p1 8 rfl) (by decide) (fun hc => ?_) (fun hc => ?_)
              · have h := it_t hc h
                obtain rfl := Option.some.inj h
                exact hk _ _ _ hW (lv_sub hl [0, 1, 2, 4] rfl)
              · have h := it_f hc h
                refine lv_iload_n (pc := 109) hx hb (dd dX10_few_p1 9 rfl) rfl (lv_at hl 2 rfl) ?_
                refine lv_iload (pc := 110) hx hb (dd dX10_few_p1 10 rfl) (lv_at hl 5 rfl) ?_
                refine lv_iconst (pc := 112) (v := 2) hx hb (dd dX10_few_p1 11 rfl) (by decide) ?_
                refine lv_idiv (pc := 113) hx hb (dd dX10_few_p1 12 rfl) (by decide) ?_
                refine lv_ishr (pc := 114) hx hb (dd dX10_few_p1 13 rfl) ?_
                refine lv_iconst (pc := 115) (v := 1) hx hb (dd dX10_few_p1 14 rfl) (by decide) ?_
                refine lv_iand (pc := 116) hx hb (dd dX10_few_p1 15 rfl) ?_
                refine lv_if_ne (pc := 117) (tgt := 123) hx hb (dd dX10_few_p1 16 rfl) (by decide) (fun hc => ?_) (fun hc => ?_)
                · have h := it_f hc h
                  refine lv_iload (pc := 123) hx hb (dd dX10_few_p1 18 rfl) (lv_at hl 4 rfl) ?_
                  refine lv_if_ne (pc := 125) (tgt := 132) hx hb (dd dX10_few_p1 19 rfl) (by decide) (fun hc => ?_) (fun hc => ?_)
                  · have h := it_f hc h
                    refine lv_aload_n (pc := 132) hx hb (dd dX10_few_p1 22 rfl) rfl (lv_at hl 0 rfl) ?_
                    refine lv_aload_n (pc := 133) hx hb (dd dX10_few_p1 23 rfl) rfl (lv_at hl 0 rfl) ?_
                    refine rGet (pc := 134) M hW 0 16 iU10 rfl rfl (by decide) (uw4 229 rfl rfl) rfl (dd dX10_few_p1 24 rfl) ?_
                    refine lv_iload (pc := 137) hx hb (dd dX10_few_p1 25 rfl) (lv_at hl 4 rfl) ?_
                    refine lv_iconst (pc := 139) (v := 1) hx hb (dd dX10_few_p1 26 rfl) (by decide) ?_
                    refine lv_isub (pc := 140) hx hb (dd dX10_few_p1 27 rfl) ?_
                    obtain ⟨hi, h⟩ := ck_ex h
                    refine rIald (pc := 141) M hW 1 rfl hi (dd dX10_few_p1 28 rfl) ?_
                    refine lv_iconst (pc := 142) (v := 1) hx hb (dd dX10_few_p1 29 rfl) (by decide) ?_
                    refine lv_ixor (pc := 143) hx hb (dd dX10_few_p1 30 rfl) ?_
                    refine lv_iload (pc := 144) hx hb (dd dX10_few_p1 31 rfl) (lv_at hl 5 rfl) ?_
                    obtain ⟨r_146, hr, h⟩ := bnd_ex h
                    refine callVI (pc := 146) (na := 2) (As := [.int ((ag c_plan (v5 - 1)) ^^^ 1), .int v6]) (rest := []) (ws2 := (w_X10_few g a_t a_plan a_rest a_turns a_cornerX a_cornerY a_corners a_what a_rowAt a_strip a_along a_rowSize a_endAt a_slantA a_slantB a_yields a_bears a_seen a_wagons a_pile a_far a_waiting a_isWaiting a_isUsed c_thrown c_isLaid c_head c_hasRows c_hasPlan c_rows c_slants c_capacity c_weight c_unload c_source c_bunker c_plan c_rest c_turns)) M hl.1 hW (t_X10_turnOf l g a_t a_turns a_cornerX a_cornerY a_corners a_what a_rowAt a_strip a_along a_rowSize a_endAt a_plan a_slantA a_slantB a_yields a_bears a_seen a_wagons a_pile a_far a_waiting a_isWaiting a_rest a_isUsed c_thrown c_isLaid c_head c_hasRows c_hasPlan c_rows c_slants c_capacity c_weight c_unload c_source c_bunker c_turns ((ag c_plan (v5 - 1)) ^^^ 1) v6 r_146 hr) rfl [0, 3] [1, 2] [2, 0, 1, 3] rfl rfl rfl rfl rfl rfl rfl 0 10 rfl rfl rfl (uw5 185 rfl rfl) (uw5 182 rfl rfl) (uw5 184 rfl rfl) (uwp 54 rfl rfl) (uw1 13 rfl rfl) ⟨by decide, by decide, by decide⟩ rfl ⟨by decide, by decide⟩ (Nat.le_of_ble_eq_true rfl) ⟨Nat.zero_le _, Nat.zero_le _⟩ (dd dX10_few_p1 32 rfl) (fun H locs hW => ?_)
                    exact J149 _ _ _ _ _ _ h hW (lv_sub hl [0, 1, 2, 3, 4, 5] rfl)
                  · have h := it_t hc h
                    refine lv_iconst (pc := 128) (v := 0) hx hb (dd dX10_few_p1 20 rfl) (by decide) ?_
                    refine lv_goto (pc := 129) (tgt := 149) hx hb (dd dX10_few_p1 21 rfl) (by decide) ?_
                    exact J149 _ _ _ _ _ _ h hW (lv_sub hl [0, 1, 2, 3, 4, 5] rfl)
                · have h := it_t hc h
                  refine lv_goto (pc := 120) (tgt := 194) hx hb (dd dX10_few_p1 17 rfl) (by decide) ?_
                  exact J194 _ _ _ _ _ h hW (lv_sub hl [0, 1, 2, 3, 4, 5] rfl)
            · obtain ⟨c_plan_200, e9⟩ : ∃ z, z = ex := ⟨_, rfl⟩
              subst e9
              intro H locs ls hW hl
              refine lv_iload_n (pc := 200) hx hb (dd dX10_few_p2 3 rfl) rfl (lv_at hl 2 rfl) ?_
              refine lv_iconst (pc := 201) (v := 1) hx hb (dd dX10_few_p2 4 rfl) (by decide) ?_
              refine lv_aload_n (pc := 202) hx hb (dd dX10_few_p2 5 rfl) rfl (lv_at hl 0 rfl) ?_
              refine rGet (pc := 203) M hW 0 16 iU10 rfl rfl (by decide) (uw4 229 rfl rfl) rfl (dd dX10_few_p2 6 rfl) ?_
              refine lv_iload (pc := 206) hx hb (dd dX10_few_p2 7 rfl) (lv_at hl 3 rfl) ?_
              obtain ⟨hi, h⟩ := ck_ex h
              refine rIald (pc := 208) M hW 1 rfl hi (dd dX10_few_p2 8 rfl) ?_
              refine lv_iconst (pc := 209) (v := 2) hx hb (dd dX10_few_p2 9 rfl) (by decide) ?_
              refine lv_idiv (pc := 210) hx hb (dd dX10_few_p2 10 rfl) (by decide) ?_
              refine lv_ishl (pc := 211) hx hb (dd dX10_few_p2 11 rfl) ?_
              refine lv_iconst (pc := 212) (v := (-1)) hx hb (dd dX10_few_p2 12 rfl) (by decide) ?_
              refine lv_ixor (pc := 213) hx hb (dd dX10_few_p2 13 rfl) ?_
              refine lv_iand (pc := 214) hx hb (dd dX10_few_p2 14 rfl) ?_
              obtain ⟨v3_215, ev3_215, h⟩ := nm_ex h
              refine rTopi (pc := 215) ev3_215 ?_
              refine lv_istore_n (pc := 215) (lv' := [(3, .int v3_215), (0, .ref a_t), (2, .int v2_69), (5, .int v5)]) hx hb (dd dX10_few_p2 15 rfl) rfl hl (by decide) rfl (fun ls hl => ?_)
              refine lv_aload_n (pc := 216) hx hb (dd dX10_few_p2 16 rfl) rfl (lv_at hl 1 rfl) ?_
              refine rGet (pc := 217) M hW 0 32 iU10 rfl rfl (by decide) (uw5 5 rfl rfl) rfl (dd dX10_few_p2 17 rfl) ?_
              refine lv_bipush (pc := 220) (v := 18) hx hb (dd dX10_few_p2 18 rfl) (by decide) ?_
              refine lv_iload_n (pc := 222) hx hb (dd dX10_few_p2 19 rfl) rfl (lv_at hl 0 rfl) ?_
              refine lv_imul (pc := 223) hx hb (dd dX10_few_p2 20 rfl) ?_
              refine lv_aload_n (pc := 224) hx hb (dd dX10_few_p2 21 rfl) rfl (lv_at hl 1 rfl) ?_
              refine rGet (pc := 225) M hW 0 16 iU10 rfl rfl (by decide) (uw4 229 rfl rfl) rfl (dd dX10_few_p2 22 rfl) ?_
              refine lv_iload (pc := 228) hx hb (dd dX10_few_p2 23 rfl) (lv_at hl 3 rfl) ?_
              obtain ⟨hi, h⟩ := ck_ex h
              refine rIald (pc := 230) M hW 1 rfl hi (dd dX10_few_p2 24 rfl) ?_
              refine lv_iadd (pc := 231) hx hb (dd dX10_few_p2 25 rfl) ?_
              obtain ⟨hi, h⟩ := ck_ex h
              refine rIald (pc := 232) M hW 2 rfl hi (dd dX10_few_p2 26 rfl) ?_
              obtain ⟨v4_233, ev4_233, h⟩ := nm_ex h
              refine rTopi (pc := 233) ev4_233 ?_
              refine lv_istore (pc := 233) (lv' := [(4, .int v4_233), (3, .int v3_215), (0, .ref a_t), (2, .int v2_69), (5, .int v5)]) hx hb (dd dX10_few_p2 27 rfl) hl (by decide) rfl (fun ls hl => ?_)
              obtain ⟨v5_235, ev5_235, h⟩ := nm_ex h
              refine lv_iinc (pc := 235) (v := v5_235) (lv' := [(5, .int v5_235), (4, .int v4_233), (3, .int v3_215), (0, .ref a_t), (2, .int v2_69)]) hx hb (dd dX10_few_p2 28 rfl) hl (k := 4) rfl (by rw [ev5_235]; rfl) (by decide) rfl (fun ls hl => ?_)
              refine lv_goto (pc := 238) (tgt := 85) hx hb (dd dX10_few_p2 29 rfl) (by decide) ?_
              obtain rfl := Option.some.inj h
              exact hk _ _ _ hW (lv_sub hl [3, 4, 2, 1, 0] rfl)
        · obtain ⟨c_plan_241, e9⟩ : ∃ z, z = ex := ⟨_, rfl⟩
          subst e9
          intro H locs ls hW hl
          refine lv_iload_n (pc := 241) hx hb (dd dX10_few_p2 30 rfl) rfl (lv_at hl 0 rfl) ?_
          have hW9 := hW
          cases h
          exact ret _ _ _ 242 hW9 rfl (dd dX10_few_p2 31 rfl)
      · have h := it_f hc h
        refine lv_iconst (pc := 75) (v := (-1)) hx hb (dd dX10_few_p0 48 rfl) (by decide) ?_
        have hW9 := hW
        cases h
        exact ret _ _ _ 76 hW9 rfl (dd dX10_few_p0 49 rfl)
  refine lv_aload_n (pc := 0) hx hb (dd dX10_few_p0 0 rfl) rfl (lv_at hl 0 rfl) ?_
  obtain ⟨c_rest_1, hr, h⟩ := bnd_ex h
  refine callVV (pc := 1) (na := 0) (As := []) (rest := []) (ws2 := (w_X10_few g a_t a_plan a_rest a_turns a_cornerX a_cornerY a_corners a_what a_rowAt a_strip a_along a_rowSize a_endAt a_slantA a_slantB a_yields a_bears a_seen a_wagons a_pile a_far a_waiting a_isWaiting a_isUsed c_thrown c_isLaid c_head c_hasRows c_hasPlan c_rows c_slants c_capacity c_weight c_unload c_source c_bunker c_plan c_rest_1 c_turns)) M hl.1 hW (t_X10_tables l g a_t a_rest a_turns a_cornerX a_cornerY a_corners a_what a_rowAt a_strip a_along a_rowSize a_endAt a_plan a_slantA a_slantB a_yields a_bears a_seen a_wagons a_pile a_far a_waiting a_isWaiting a_isUsed c_thrown c_isLaid c_head c_hasRows c_hasPlan c_rows c_slants c_capacity c_weight c_unload c_source c_bunker c_rest c_turns c_rest_1 hr) rfl [0, 2, 3] [1] [1, 0, 2, 3] rfl rfl rfl rfl rfl rfl rfl 0 10 rfl rfl rfl (uw5 201 rfl rfl) (uw5 198 rfl rfl) (uw5 200 rfl rfl) (uwp 57 rfl rfl) (uw1 13 rfl rfl) ⟨by decide, by decide, by decide⟩ rfl ⟨by decide, by decide⟩ (Nat.le_of_ble_eq_true rfl) ⟨Nat.zero_le _, Nat.zero_le _⟩ (dd dX10_few_p0 1 rfl) (fun H locs hW => ?_)
  refine lv_iconst (pc := 4) (v := 1) hx hb (dd dX10_few_p0 2 rfl) (by decide) ?_
  refine lv_aload_n (pc := 5) hx hb (dd dX10_few_p0 3 rfl) rfl (lv_at hl 0 rfl) ?_
  refine rGet (pc := 6) M hW 0 9 iU10 rfl rfl (by decide) (uw4 222 rfl rfl) rfl (dd dX10_few_p0 4 rfl) ?_
  refine lv_ishl (pc := 9) hx hb (dd dX10_few_p0 5 rfl) ?_
  refine lv_iconst (pc := 10) (v := 1) hx hb (dd dX10_few_p0 6 rfl) (by decide) ?_
  refine lv_isub (pc := 11) hx hb (dd dX10_few_p0 7 rfl) ?_
  obtain ⟨v1_12, ev1_12, h⟩ := nm_ex h
  refine rTopi (pc := 12) ev1_12 ?_
  refine lv_istore_n (pc := 12) (lv' := [(1, .int v1_12), (0, .ref a_t)]) hx hb (dd dX10_few_p0 8 rfl) rfl hl (by decide) rfl (fun ls hl => ?_)
  refine lv_aload_n (pc := 13) hx hb (dd dX10_few_p0 9 rfl) rfl (lv_at hl 1 rfl) ?_
  refine rGet (pc := 14) M hW 0 9 iU10 rfl rfl (by decide) (uw4 222 rfl rfl) rfl (dd dX10_few_p0 10 rfl) ?_
  refine lv_if_ne (pc := 17) (tgt := 24) hx hb (dd dX10_few_p0 11 rfl) (by decide) (fun hc => ?_) (fun hc => ?_)
  · have h := it_f hc h
    refine lv_ldc (pc := 24) (v := 100000000) hx hb hown (hu _ (uw5 153 rfl rfl)) (dd dX10_few_p0 14 rfl) ?_
    exact J26 _ _ _ _ _ _ _ h hW (lv_sub hl [1, 0] rfl)
  · have h := it_t hc h
    refine lv_iconst (pc := 20) (v := 0) hx hb (dd dX10_few_p0 12 rfl) (by decide) ?_
    refine lv_goto (pc := 21) (tgt := 26) hx hb (dd dX10_few_p0 13 rfl) (by decide) ?_
    exact J26 _ _ _ _ _ _ _ h hW (lv_sub hl [1, 0] rfl)
abbrev w_X10_bestOf (g : G9) (a_t a_isUsed a_plan a_rest a_turns a_cornerX a_cornerY a_corners a_what a_rowAt a_strip a_along a_rowSize a_endAt a_slantA a_slantB a_yields a_bears a_seen a_wagons a_pile a_far a_waiting a_isWaiting : Nat) (c_thrown c_isLaid c_head c_hasRows c_hasPlan c_rows c_slants c_capacity c_weight c_unload c_source c_bunker : Int32) (c_isUsed c_plan c_rest c_turns : Ar) : va_W := [ob a_t 10 [.int c_thrown, .ref a_cornerX, .ref a_cornerY, .ref a_corners, .ref a_what, .int c_isLaid, .int c_head, .int c_hasRows, .int c_hasPlan, .int c_rows, .ref a_rowAt, .ref a_strip, .ref a_along, .ref a_rowSize, .ref a_endAt, .ref a_turns, .ref a_plan, .ref a_slantA, .ref a_slantB, .int c_slants, .ref a_yields, .ref a_bears, .int c_capacity, .int c_weight, .int c_unload, .ref a_seen, .ref a_wagons, .ref a_pile, .ref a_far, .int c_source, .ref a_waiting, .ref a_isWaiting, .ref a_rest, .ref a_isUsed, .int c_bunker], za g a_isUsed 60 c_isUsed, ia g a_plan 60 c_plan, ia g a_rest 9216 c_rest, ia g a_turns 14400 c_turns]
noncomputable def X10_bestOf_L55 (c_rows : Int32) (c_turns c_plan : Ar) (v1 v2 : Int32) : Option ((Ar × Int32 × Int32) ⊕ (Ar × Int32)) :=
  if v2 < 0 then (some (.inr (c_plan, v1))) else (bnd (X10_shortens c_rows c_plan c_turns 0 v2) <| un2 fun r_64 c_plan_64 => some (.inl (c_plan_64, v2, r_64)))
noncomputable def X10_bestOf_b29 (c_hasPlan : Int32) (c_isUsed c_plan c_rest : Ar) (v1 k1 : Int32) : Option (Int32 × Int32 × Ar × Ar × Ar) :=
  ck (bl k1) <| some (v1, k1, c_isUsed, c_plan, c_rest)
noncomputable def X10_bestOf (c_hasPlan c_rows : Int32) (c_isUsed c_plan c_rest c_turns : Ar) : Option (Int32 × Int32 × Ar × Ar × Ar) :=
  if 9 < c_rows then (bnd (X10_nearest c_rows c_isUsed c_plan c_turns) <| un3 fun r_35 c_isUsed_35 c_plan_35 => if r_35 = 0 then (some ((-1), 0, c_isUsed_35, c_plan_35, c_rest)) else (bnd (X10_sumOf c_rows c_plan_35 c_turns) <| fun r_44 => bnd (X10_shortens c_rows c_plan_35 c_turns 0 r_44) <| un2 fun r_51 c_plan_51 => bnd (whileV (fun st => X10_bestOf_L55 c_rows c_turns st.1 st.2.1 st.2.2) (c_plan_51, r_44, r_51)) <| (un2 fun c_plan_71 v1_71 => some (v1_71, 1, c_isUsed_35, c_plan_71, c_rest)))) else (bnd (X10_few c_rows c_plan c_rest c_turns) <| un3 fun r_15 c_plan_15 c_rest_15 => if r_15 < 0 then (X10_bestOf_b29 0 c_isUsed c_plan_15 c_rest_15 r_15 0) else (X10_bestOf_b29 0 c_isUsed c_plan_15 c_rest_15 r_15 1))
set_option maxHeartbeats 4000000 in
set_option maxRecDepth 100000 in
theorem t_X10_bestOf (l : Launch) (g : G9) (a_t a_isUsed a_plan a_rest a_turns a_cornerX a_cornerY a_corners a_what a_rowAt a_strip a_along a_rowSize a_endAt a_slantA a_slantB a_yields a_bears a_seen a_wagons a_pile a_far a_waiting a_isWaiting : Nat) (c_thrown c_isLaid c_head c_hasRows c_hasPlan c_rows c_slants c_capacity c_weight c_unload c_source c_bunker : Int32) (c_isUsed c_plan c_rest c_turns : Ar) (r0 o_hasPlan : Int32) (o_isUsed o_plan o_rest : Ar) (h : X10_bestOf c_hasPlan c_rows c_isUsed c_plan c_rest c_turns = some (r0, o_hasPlan, o_isUsed, o_plan, o_rest)) : CtI l g yX10_bestOf cX10_bestOf 3 .int 3 75 [.ref a_t] (w_X10_bestOf g a_t a_isUsed a_plan a_rest a_turns a_cornerX a_cornerY a_corners a_what a_rowAt a_strip a_along a_rowSize a_endAt a_slantA a_slantB a_yields a_bears a_seen a_wagons a_pile a_far a_waiting a_isWaiting c_thrown c_isLaid c_head c_hasRows c_hasPlan c_rows c_slants c_capacity c_weight c_unload c_source c_bunker c_isUsed c_plan c_rest c_turns) r0 (w_X10_bestOf g a_t a_isUsed a_plan a_rest a_turns a_cornerX a_cornerY a_corners a_what a_rowAt a_strip a_along a_rowSize a_endAt a_slantA a_slantB a_yields a_bears a_seen a_wagons a_pile a_far a_waiting a_isWaiting c_thrown c_isLaid c_head c_hasRows o_hasPlan c_rows c_slants c_capacity c_weight c_unload c_source c_bunker o_isUsed o_plan o_rest c_turns) := by
  refine startI (by decide) (Nat.le_of_ble_eq_true rfl) ?_
  intro p e s m below meth c A Q ls args M hW hl ret
  have hx := M.1
  have hb := M.2.1
  have hown := M.2.2.2.1
  have hu := M.2.2.2.2.1
  have hl : lv_has ls 3 [(0, .ref a_t)] := hl
  unfold X10_bestOf at h
  obtain ⟨H, eH⟩ : ∃ z, z = s.heap := ⟨_, rfl⟩
  obtain ⟨locs, eL⟩ : ∃ z, z = ([] : List Loc) := ⟨_, rfl⟩
  rw [← eL] at hW ⊢
  suffices hS9 : WD g s A (w_X10_bestOf g a_t a_isUsed a_plan a_rest a_turns a_cornerX a_cornerY a_corners a_what a_rowAt a_strip a_along a_rowSize a_endAt a_slantA a_slantB a_yields a_bears a_seen a_wagons a_pile a_far a_waiting a_isWaiting c_thrown c_isLaid c_head c_hasRows c_hasPlan c_rows c_slants c_capacity c_weight c_unload c_source c_bunker c_isUsed c_plan c_rest c_turns) H locs → W p l e (rm9 3 75) s m args below meth c H locs 0 0 Q (F0 m 0 ls []) by
    rw [← eH] at hW ⊢
    exact hS9 hW
  clear hW eH eL
  intro hW
  have J29 : ∀ (c_hasPlan : Int32) (c_isUsed c_plan c_rest : Ar) (v1 k1 : Int32) (H : Heap) (locs : List Loc) (ls : Array Slot), X10_bestOf_b29 c_hasPlan c_isUsed c_plan c_rest v1 k1 = some (r0, o_hasPlan, o_isUsed, o_plan, o_rest) → WD g s A (w_X10_bestOf g a_t a_isUsed a_plan a_rest a_turns a_cornerX a_cornerY a_corners a_what a_rowAt a_strip a_along a_rowSize a_endAt a_slantA a_slantB a_yields a_bears a_seen a_wagons a_pile a_far a_waiting a_isWaiting c_thrown c_isLaid c_head c_hasRows c_hasPlan c_rows c_slants c_capacity c_weight c_unload c_source c_bunker c_isUsed c_plan c_rest c_turns) H locs → lv_has ls 3 [(1, .int v1)] → W p l e (rm9 3 75) s m args below meth c H locs 0 0 Q (F0 m 29 ls [.int k1, .ref a_t]) := by
    intro c_hasPlan c_isUsed c_plan c_rest v1 k1 H locs ls h hW hl
    unfold X10_bestOf_b29 at h
    obtain ⟨hi, h⟩ := ck_ex h
    refine rPut (pc := 29) M hW 0 8 tyX10 tyX10_ok nmX10 iU10 rfl rfl (by decide) (uw4 221 rfl rfl) rfl (bl_nar hi) (bl_fit hi) (Nat.le_of_ble_eq_true rfl) (dd dX10_bestOf 16 rfl) (ws' := (w_X10_bestOf g a_t a_isUsed a_plan a_rest a_turns a_cornerX a_cornerY a_corners a_what a_rowAt a_strip a_along a_rowSize a_endAt a_slantA a_slantB a_yields a_bears a_seen a_wagons a_pile a_far a_waiting a_isWaiting c_thrown c_isLaid c_head c_hasRows k1 c_rows c_slants c_capacity c_weight c_unload c_source c_bunker c_isUsed c_plan c_rest c_turns)) rfl (fun H locs hW => ?_)
    refine lv_iload_n (pc := 32) hx hb (dd dX10_bestOf 17 rfl) rfl (lv_at hl 0 rfl) ?_
    have hW9 := hW
    cases h
    exact ret _ _ _ 33 hW9 rfl (dd dX10_bestOf 18 rfl)
  refine lv_aload_n (pc := 0) hx hb (dd dX10_bestOf 0 rfl) rfl (lv_at hl 0 rfl) ?_
  refine lv_iconst (pc := 1) (v := 0) hx hb (dd dX10_bestOf 1 rfl) (by decide) ?_
  refine rPut (pc := 2) M hW 0 8 tyX10 tyX10_ok nmX10 iU10 rfl rfl (by decide) (uw4 221 rfl rfl) rfl rfl rfl (Nat.le_of_ble_eq_true rfl) (dd dX10_bestOf 2 rfl) (ws' := (w_X10_bestOf g a_t a_isUsed a_plan a_rest a_turns a_cornerX a_cornerY a_corners a_what a_rowAt a_strip a_along a_rowSize a_endAt a_slantA a_slantB a_yields a_bears a_seen a_wagons a_pile a_far a_waiting a_isWaiting c_thrown c_isLaid c_head c_hasRows 0 c_rows c_slants c_capacity c_weight c_unload c_source c_bunker c_isUsed c_plan c_rest c_turns)) rfl (fun H locs hW => ?_)
  refine lv_aload_n (pc := 5) hx hb (dd dX10_bestOf 3 rfl) rfl (lv_at hl 0 rfl) ?_
  refine rGet (pc := 6) M hW 0 9 iU10 rfl rfl (by decide) (uw4 222 rfl rfl) rfl (dd dX10_bestOf 4 rfl) ?_
  refine lv_bipush (pc := 9) (v := 9) hx hb (dd dX10_bestOf 5 rfl) (by decide) ?_
  refine lv_icmp_gt (pc := 11) (tgt := 34) hx hb (dd dX10_bestOf 6 rfl) (by decide) (fun hc => ?_) (fun hc => ?_)
  · have h := it_t hc h
    refine lv_aload_n (pc := 34) hx hb (dd dX10_bestOf 19 rfl) rfl (lv_at hl 0 rfl) ?_
    obtain ⟨⟨r_35, c_isUsed_35, c_plan_35⟩, hr, h⟩ := bnd_ex h
    have h := un3_at h
    refine callVI (pc := 35) (na := 0) (As := []) (rest := []) (ws2 := (w_X10_bestOf g a_t a_isUsed a_plan a_rest a_turns a_cornerX a_cornerY a_corners a_what a_rowAt a_strip a_along a_rowSize a_endAt a_slantA a_slantB a_yields a_bears a_seen a_wagons a_pile a_far a_waiting a_isWaiting c_thrown c_isLaid c_head c_hasRows 0 c_rows c_slants c_capacity c_weight c_unload c_source c_bunker c_isUsed_35 c_plan_35 c_rest c_turns)) M hl.1 hW (t_X10_nearest l g a_t a_isUsed a_plan a_turns a_cornerX a_cornerY a_corners a_what a_rowAt a_strip a_along a_rowSize a_endAt a_slantA a_slantB a_yields a_bears a_seen a_wagons a_pile a_far a_waiting a_isWaiting a_rest c_thrown c_isLaid c_head c_hasRows 0 c_rows c_slants c_capacity c_weight c_unload c_source c_bunker c_isUsed c_plan c_turns r_35 c_isUsed_35 c_plan_35 hr) rfl [0, 1, 2, 4] [3] [1, 2, 3, 0, 4] rfl rfl rfl rfl rfl rfl rfl 0 10 rfl rfl rfl (uw5 206 rfl rfl) (uw5 203 rfl rfl) (uw5 205 rfl rfl) (uwp 58 rfl rfl) (uw1 13 rfl rfl) ⟨by decide, by decide, by decide⟩ rfl ⟨by decide, by decide⟩ (Nat.le_of_ble_eq_true rfl) ⟨Nat.zero_le _, Nat.zero_le _⟩ (dd dX10_bestOf 20 rfl) (fun H locs hW => ?_)
    refine lv_if_ne (pc := 38) (tgt := 43) hx hb (dd dX10_bestOf 21 rfl) (by decide) (fun hc => ?_) (fun hc => ?_)
    · have h := it_f hc h
      refine lv_aload_n (pc := 43) hx hb (dd dX10_bestOf 24 rfl) rfl (lv_at hl 0 rfl) ?_
      obtain ⟨r_44, hr, h⟩ := bnd_ex h
      refine callVI (pc := 44) (na := 0) (As := []) (rest := []) (ws2 := (w_X10_bestOf g a_t a_isUsed a_plan a_rest a_turns a_cornerX a_cornerY a_corners a_what a_rowAt a_strip a_along a_rowSize a_endAt a_slantA a_slantB a_yields a_bears a_seen a_wagons a_pile a_far a_waiting a_isWaiting c_thrown c_isLaid c_head c_hasRows 0 c_rows c_slants c_capacity c_weight c_unload c_source c_bunker c_isUsed_35 c_plan_35 c_rest c_turns)) M hl.1 hW (t_X10_sumOf l g a_t a_plan a_turns a_cornerX a_cornerY a_corners a_what a_rowAt a_strip a_along a_rowSize a_endAt a_slantA a_slantB a_yields a_bears a_seen a_wagons a_pile a_far a_waiting a_isWaiting a_rest a_isUsed c_thrown c_isLaid c_head c_hasRows 0 c_rows c_slants c_capacity c_weight c_unload c_source c_bunker c_plan_35 c_turns r_44 hr) rfl [0, 2, 4] [1, 3] [2, 0, 3, 1, 4] rfl rfl rfl rfl rfl rfl rfl 0 10 rfl rfl rfl (uw5 210 rfl rfl) (uw5 207 rfl rfl) (uw5 209 rfl rfl) (uwp 59 rfl rfl) (uw1 13 rfl rfl) ⟨by decide, by decide, by decide⟩ rfl ⟨by decide, by decide⟩ (Nat.le_of_ble_eq_true rfl) ⟨Nat.zero_le _, Nat.zero_le _⟩ (dd dX10_bestOf 25 rfl) (fun H locs hW => ?_)
      refine lv_istore_n (pc := 47) (lv' := [(1, .int r_44), (0, .ref a_t)]) hx hb (dd dX10_bestOf 26 rfl) rfl hl (by decide) rfl (fun ls hl => ?_)
      refine lv_aload_n (pc := 48) hx hb (dd dX10_bestOf 27 rfl) rfl (lv_at hl 1 rfl) ?_
      refine lv_iconst (pc := 49) (v := 0) hx hb (dd dX10_bestOf 28 rfl) (by decide) ?_
      refine lv_iload_n (pc := 50) hx hb (dd dX10_bestOf 29 rfl) rfl (lv_at hl 0 rfl) ?_
      obtain ⟨⟨r_51, c_plan_51⟩, hr, h⟩ := bnd_ex h
      have h := un2_at h
      refine callVI (pc := 51) (na := 2) (As := [.int 0, .int r_44]) (rest := []) (ws2 := (w_X10_bestOf g a_t a_isUsed a_plan a_rest a_turns a_cornerX a_cornerY a_corners a_what a_rowAt a_strip a_along a_rowSize a_endAt a_slantA a_slantB a_yields a_bears a_seen a_wagons a_pile a_far a_waiting a_isWaiting c_thrown c_isLaid c_head c_hasRows 0 c_rows c_slants c_capacity c_weight c_unload c_source c_bunker c_isUsed_35 c_plan_51 c_rest c_turns)) M hl.1 hW (t_X10_shortens l g a_t a_plan a_turns a_cornerX a_cornerY a_corners a_what a_rowAt a_strip a_along a_rowSize a_endAt a_slantA a_slantB a_yields a_bears a_seen a_wagons a_pile a_far a_waiting a_isWaiting a_rest a_isUsed c_thrown c_isLaid c_head c_hasRows 0 c_rows c_slants c_capacity c_weight c_unload c_source c_bunker c_plan_35 c_turns 0 r_44 r_51 c_plan_51 hr) rfl [0, 2, 4] [1, 3] [2, 0, 3, 1, 4] rfl rfl rfl rfl rfl rfl rfl 0 10 rfl rfl rfl (uw5 214 rfl rfl) (uw5 211 rfl rfl) (uw5 213 rfl rfl) (uwp 60 rfl rfl) (uw1 13 rfl rfl) ⟨by decide, by decide, by decide⟩ rfl ⟨by decide, by decide⟩ (Nat.le_of_ble_eq_true rfl) ⟨Nat.zero_le _, Nat.zero_le _⟩ (dd dX10_bestOf 30 rfl) (fun H locs hW => ?_)
      refine lv_istore_n (pc := 54) (lv' := [(2, .int r_51), (1, .int r_44), (0, .ref a_t)]) hx hb (dd dX10_bestOf 31 rfl) rfl hl (by decide) rfl (fun ls hl => ?_)
      obtain ⟨ex, hw, h⟩ := bnd_ex h
      refine loopW (fun st => ∀ (H : Heap) (locs : List Loc) (ls : Array Slot), WD g s A (w_X10_bestOf g a_t a_isUsed a_plan a_rest a_turns a_cornerX a_cornerY a_corners a_what a_rowAt a_strip a_along a_rowSize a_endAt a_slantA a_slantB a_yields a_bears a_seen a_wagons a_pile a_far a_waiting a_isWaiting c_thrown c_isLaid c_head c_hasRows 0 c_rows c_slants c_capacity c_weight c_unload c_source c_bunker c_isUsed_35 (st.1) c_rest c_turns) H locs → lv_has ls 3 [(0, .ref a_t), (1, .int (st.2.1)), (2, .int (st.2.2))] → W p l e (rm9 3 75) s m args below meth c H locs 0 0 Q (F0 m 55 ls [])) (fun (ex : (Ar × Int32)) => ∀ (H : Heap) (locs : List Loc) (ls : Array Slot), WD g s A (w_X10_bestOf g a_t a_isUsed a_plan a_rest a_turns a_cornerX a_cornerY a_corners a_what a_rowAt a_strip a_along a_rowSize a_endAt a_slantA a_slantB a_yields a_bears a_seen a_wagons a_pile a_far a_waiting a_isWaiting c_thrown c_isLaid c_head c_hasRows 0 c_rows c_slants c_capacity c_weight c_unload c_source c_bunker c_isUsed_35 (ex.1) c_rest c_turns) H locs → lv_has ls 3 [(0, .ref a_t), (1, .int (ex.2))] → W p l e (rm9 3 75) s m args below meth c H locs 0 0 Q (F0 m 71 ls [])) ?_ hw ?_ H locs ls hW (lv_sub hl [2, 1, 0] rfl)
      · rintro ⟨c_plan, v1, v2⟩ o hb9 hk H locs ls hW hl
        have h : X10_bestOf_L55 c_rows c_turns c_plan v1 v2 = some o := hb9
        clear hb9
        unfold X10_bestOf_L55 at h
        refine lv_iload_n (pc := 55) hx hb (dd dX10_bestOf 32 rfl) rfl (lv_at hl 2 rfl) ?_
        refine lv_if_lt (pc := 56) (tgt := 71) hx hb (dd dX10_bestOf 33 rfl) (by decide) (fun hc => ?_) (fun hc => ?_)
        · have h := it_t hc h
          obtain rfl := Option.some.inj h
          exact hk _ _ _ hW (lv_sub hl [0, 1] rfl)
        · have h := it_f hc h
          refine lv_iload_n (pc := 59) hx hb (dd dX10_bestOf 34 rfl) rfl (lv_at hl 2 rfl) ?_
          refine lv_istore_n (pc := 60) (lv' := [(1, .int v2), (0, .ref a_t), (2, .int v2)]) hx hb (dd dX10_bestOf 35 rfl) rfl hl (by decide) rfl (fun ls hl => ?_)
          refine lv_aload_n (pc := 61) hx hb (dd dX10_bestOf 36 rfl) rfl (lv_at hl 1 rfl) ?_
          refine lv_iconst (pc := 62) (v := 0) hx hb (dd dX10_bestOf 37 rfl) (by decide) ?_
          refine lv_iload_n (pc := 63) hx hb (dd dX10_bestOf 38 rfl) rfl (lv_at hl 0 rfl) ?_
          obtain ⟨⟨r_64, c_plan_64⟩, hr, h⟩ := bnd_ex h
          have h := un2_at h
          refine callVI (pc := 64) (na := 2) (As := [.int 0, .int v2]) (rest := []) (ws2 := (w_X10_bestOf g a_t a_isUsed a_plan a_rest a_turns a_cornerX a_cornerY a_corners a_what a_rowAt a_strip a_along a_rowSize a_endAt a_slantA a_slantB a_yields a_bears a_seen a_wagons a_pile a_far a_waiting a_isWaiting c_thrown c_isLaid c_head c_hasRows 0 c_rows c_slants c_capacity c_weight c_unload c_source c_bunker c_isUsed_35 c_plan_64 c_rest c_turns)) M hl.1 hW (t_X10_shortens l g a_t a_plan a_turns a_cornerX a_cornerY a_corners a_what a_rowAt a_strip a_along a_rowSize a_endAt a_slantA a_slantB a_yields a_bears a_seen a_wagons a_pile a_far a_waiting a_isWaiting a_rest a_isUsed c_thrown c_isLaid c_head c_hasRows 0 c_rows c_slants c_capacity c_weight c_unload c_source c_bunker c_plan c_turns 0 v2 r_64 c_plan_64 hr) rfl [0, 2, 4] [1, 3] [2, 0, 3, 1, 4] rfl rfl rfl rfl rfl rfl rfl 0 10 rfl rfl rfl (uw5 214 rfl rfl) (uw5 211 rfl rfl) (uw5 213 rfl rfl) (uwp 60 rfl rfl) (uw1 13 rfl rfl) ⟨by decide, by decide, by decide⟩ rfl ⟨by decide, by decide⟩ (Nat.le_of_ble_eq_true rfl) ⟨Nat.zero_le _, Nat.zero_le _⟩ (dd dX10_bestOf 39 rfl) (fun H locs hW => ?_)
          refine lv_istore_n (pc := 67) (lv' := [(2, .int r_64), (1, .int v2), (0, .ref a_t)]) hx hb (dd dX10_bestOf 40 rfl) rfl hl (by decide) rfl (fun ls hl => ?_)
          refine lv_goto (pc := 68) (tgt := 55) hx hb (dd dX10_bestOf 41 rfl) (by decide) ?_
          obtain rfl := Option.some.inj h
          exact hk _ _ _ hW (lv_sub hl [2, 1, 0] rfl)
      · obtain ⟨c_plan_71, v1_71⟩ := ex
        have h := un2_at h
        intro H locs ls hW hl
        refine lv_aload_n (pc := 71) hx hb (dd dX10_bestOf 42 rfl) rfl (lv_at hl 0 rfl) ?_
        refine lv_iconst (pc := 72) (v := 1) hx hb (dd dX10_bestOf 43 rfl) (by decide) ?_
        refine rPut (pc := 73) M hW 0 8 tyX10 tyX10_ok nmX10 iU10 rfl rfl (by decide) (uw4 221 rfl rfl) rfl rfl rfl (Nat.le_of_ble_eq_true rfl) (dd dX10_bestOf 44 rfl) (ws' := (w_X10_bestOf g a_t a_isUsed a_plan a_rest a_turns a_cornerX a_cornerY a_corners a_what a_rowAt a_strip a_along a_rowSize a_endAt a_slantA a_slantB a_yields a_bears a_seen a_wagons a_pile a_far a_waiting a_isWaiting c_thrown c_isLaid c_head c_hasRows 1 c_rows c_slants c_capacity c_weight c_unload c_source c_bunker c_isUsed_35 c_plan_71 c_rest c_turns)) rfl (fun H locs hW => ?_)
        refine lv_iload_n (pc := 76) hx hb (dd dX10_bestOf 45 rfl) rfl (lv_at hl 1 rfl) ?_
        have hW9 := hW
        cases h
        exact ret _ _ _ 77 hW9 rfl (dd dX10_bestOf 46 rfl)
    · have h := it_t hc h
      refine lv_iconst (pc := 41) (v := (-1)) hx hb (dd dX10_bestOf 22 rfl) (by decide) ?_
      have hW9 := hW
      cases h
      exact ret _ _ _ 42 hW9 rfl (dd dX10_bestOf 23 rfl)
  · have h := it_f hc h
    refine lv_aload_n (pc := 14) hx hb (dd dX10_bestOf 7 rfl) rfl (lv_at hl 0 rfl) ?_
    obtain ⟨⟨r_15, c_plan_15, c_rest_15⟩, hr, h⟩ := bnd_ex h
    have h := un3_at h
    refine callVI (pc := 15) (na := 0) (As := []) (rest := []) (ws2 := (w_X10_bestOf g a_t a_isUsed a_plan a_rest a_turns a_cornerX a_cornerY a_corners a_what a_rowAt a_strip a_along a_rowSize a_endAt a_slantA a_slantB a_yields a_bears a_seen a_wagons a_pile a_far a_waiting a_isWaiting c_thrown c_isLaid c_head c_hasRows 0 c_rows c_slants c_capacity c_weight c_unload c_source c_bunker c_isUsed c_plan_15 c_rest_15 c_turns)) M hl.1 hW (t_X10_few l g a_t a_plan a_rest a_turns a_cornerX a_cornerY a_corners a_what a_rowAt a_strip a_along a_rowSize a_endAt a_slantA a_slantB a_yields a_bears a_seen a_wagons a_pile a_far a_waiting a_isWaiting a_isUsed c_thrown c_isLaid c_head c_hasRows 0 c_rows c_slants c_capacity c_weight c_unload c_source c_bunker c_plan c_rest c_turns r_15 c_plan_15 c_rest_15 hr) rfl [0, 2, 3, 4] [1] [1, 0, 2, 3, 4] rfl rfl rfl rfl rfl rfl rfl 0 10 rfl rfl rfl (uw5 197 rfl rfl) (uw5 194 rfl rfl) (uw5 196 rfl rfl) (uwp 56 rfl rfl) (uw1 13 rfl rfl) ⟨by decide, by decide, by decide⟩ rfl ⟨by decide, by decide⟩ (Nat.le_of_ble_eq_true rfl) ⟨Nat.zero_le _, Nat.zero_le _⟩ (dd dX10_bestOf 8 rfl) (fun H locs hW => ?_)
    refine lv_istore_n (pc := 18) (lv' := [(1, .int r_15), (0, .ref a_t)]) hx hb (dd dX10_bestOf 9 rfl) rfl hl (by decide) rfl (fun ls hl => ?_)
    refine lv_aload_n (pc := 19) hx hb (dd dX10_bestOf 10 rfl) rfl (lv_at hl 1 rfl) ?_
    refine lv_iload_n (pc := 20) hx hb (dd dX10_bestOf 11 rfl) rfl (lv_at hl 0 rfl) ?_
    refine lv_if_lt (pc := 21) (tgt := 28) hx hb (dd dX10_bestOf 12 rfl) (by decide) (fun hc => ?_) (fun hc => ?_)
    · have h := it_t hc h
      refine lv_iconst (pc := 28) (v := 0) hx hb (dd dX10_bestOf 15 rfl) (by decide) ?_
      exact J29 _ _ _ _ _ _ _ _ _ h hW (lv_sub hl [0] rfl)
    · have h := it_f hc h
      refine lv_iconst (pc := 24) (v := 1) hx hb (dd dX10_bestOf 13 rfl) (by decide) ?_
      refine lv_goto (pc := 25) (tgt := 29) hx hb (dd dX10_bestOf 14 rfl) (by decide) ?_
      exact J29 _ _ _ _ _ _ _ _ _ h hW (lv_sub hl [0] rfl)
abbrev w_X10_best (g : G9) (a_t a_isUsed a_plan a_rest a_turns a_cornerX a_cornerY a_corners a_what a_rowAt a_strip a_along a_rowSize a_endAt a_slantA a_slantB a_yields a_bears a_seen a_wagons a_pile a_far a_waiting a_isWaiting : Nat) (c_thrown c_isLaid c_head c_hasRows c_hasPlan c_rows c_slants c_capacity c_weight c_unload c_source c_bunker : Int32) (c_isUsed c_plan c_rest c_turns : Ar) : va_W := [ob a_t 10 [.int c_thrown, .ref a_cornerX, .ref a_cornerY, .ref a_corners, .ref a_what, .int c_isLaid, .int c_head, .int c_hasRows, .int c_hasPlan, .int c_rows, .ref a_rowAt, .ref a_strip, .ref a_along, .ref a_rowSize, .ref a_endAt, .ref a_turns, .ref a_plan, .ref a_slantA, .ref a_slantB, .int c_slants, .ref a_yields, .ref a_bears, .int c_capacity, .int c_weight, .int c_unload, .ref a_seen, .ref a_wagons, .ref a_pile, .ref a_far, .int c_source, .ref a_waiting, .ref a_isWaiting, .ref a_rest, .ref a_isUsed, .int c_bunker], za g a_isUsed 60 c_isUsed, ia g a_plan 60 c_plan, ia g a_rest 9216 c_rest, ia g a_turns 14400 c_turns]
noncomputable def X10_best_b18 (c_thrown c_hasPlan c_rows : Int32) (c_isUsed c_plan c_rest c_turns : Ar) (k1 : Int32) : Option (Int32 × Int32 × Int32 × Ar × Ar × Ar) :=
  bnd (X10_throwsIf c_thrown k1 1) <| un2 fun r_19 c_thrown_19 => if r_19 = 0 then (bnd (X10_bestOf c_hasPlan c_rows c_isUsed c_plan c_rest c_turns) <| un5 fun r_30 c_hasPlan_30 c_isUsed_30 c_plan_30 c_rest_30 => some (r_30, c_thrown_19, c_hasPlan_30, c_isUsed_30, c_plan_30, c_rest_30)) else (some (0, c_thrown_19, c_hasPlan, c_isUsed, c_plan, c_rest))
noncomputable def X10_best (c_thrown c_hasRows c_hasPlan c_rows : Int32) (c_isUsed c_plan c_rest c_turns : Ar) : Option (Int32 × Int32 × Int32 × Ar × Ar × Ar) :=
  if c_hasRows = 0 then (X10_best_b18 0 c_hasPlan c_rows c_isUsed c_plan c_rest c_turns 1) else (X10_best_b18 0 c_hasPlan c_rows c_isUsed c_plan c_rest c_turns 0)
set_option maxHeartbeats 4000000 in
set_option maxRecDepth 100000 in
theorem t_X10_best (l : Launch) (g : G9) (a_t a_isUsed a_plan a_rest a_turns a_cornerX a_cornerY a_corners a_what a_rowAt a_strip a_along a_rowSize a_endAt a_slantA a_slantB a_yields a_bears a_seen a_wagons a_pile a_far a_waiting a_isWaiting : Nat) (c_thrown c_isLaid c_head c_hasRows c_hasPlan c_rows c_slants c_capacity c_weight c_unload c_source c_bunker : Int32) (c_isUsed c_plan c_rest c_turns : Ar) (r0 o_thrown o_hasPlan : Int32) (o_isUsed o_plan o_rest : Ar) (h : X10_best c_thrown c_hasRows c_hasPlan c_rows c_isUsed c_plan c_rest c_turns = some (r0, o_thrown, o_hasPlan, o_isUsed, o_plan, o_rest)) : CtI l g yX10_best cX10_best 1 .int 4 97 [.ref a_t] (w_X10_best g a_t a_isUsed a_plan a_rest a_turns a_cornerX a_cornerY a_corners a_what a_rowAt a_strip a_along a_rowSize a_endAt a_slantA a_slantB a_yields a_bears a_seen a_wagons a_pile a_far a_waiting a_isWaiting c_thrown c_isLaid c_head c_hasRows c_hasPlan c_rows c_slants c_capacity c_weight c_unload c_source c_bunker c_isUsed c_plan c_rest c_turns) r0 (w_X10_best g a_t a_isUsed a_plan a_rest a_turns a_cornerX a_cornerY a_corners a_what a_rowAt a_strip a_along a_rowSize a_endAt a_slantA a_slantB a_yields a_bears a_seen a_wagons a_pile a_far a_waiting a_isWaiting o_thrown c_isLaid c_head c_hasRows o_hasPlan c_rows c_slants c_capacity c_weight c_unload c_source c_bunker o_isUsed o_plan o_rest c_turns) := by
  refine startI (by decide) (Nat.le_of_ble_eq_true rfl) ?_
  intro p e s m below meth c A Q ls args M hW hl ret
  have hx := M.1
  have hb := M.2.1
  have hown := M.2.2.2.1
  have hu := M.2.2.2.2.1
  have hl : lv_has ls 1 [(0, .ref a_t)] := hl
  unfold X10_best at h
  obtain ⟨H, eH⟩ : ∃ z, z = s.heap := ⟨_, rfl⟩
  obtain ⟨locs, eL⟩ : ∃ z, z = ([] : List Loc) := ⟨_, rfl⟩
  rw [← eL] at hW ⊢
  suffices hS9 : WD g s A (w_X10_best g a_t a_isUsed a_plan a_rest a_turns a_cornerX a_cornerY a_corners a_what a_rowAt a_strip a_along a_rowSize a_endAt a_slantA a_slantB a_yields a_bears a_seen a_wagons a_pile a_far a_waiting a_isWaiting c_thrown c_isLaid c_head c_hasRows c_hasPlan c_rows c_slants c_capacity c_weight c_unload c_source c_bunker c_isUsed c_plan c_rest c_turns) H locs → W p l e (rm9 4 97) s m args below meth c H locs 0 0 Q (F0 m 0 ls []) by
    rw [← eH] at hW ⊢
    exact hS9 hW
  clear hW eH eL
  intro hW
  have J18 : ∀ (c_thrown c_hasPlan : Int32) (c_isUsed c_plan c_rest : Ar) (k1 : Int32) (H : Heap) (locs : List Loc) (ls : Array Slot), X10_best_b18 c_thrown c_hasPlan c_rows c_isUsed c_plan c_rest c_turns k1 = some (r0, o_thrown, o_hasPlan, o_isUsed, o_plan, o_rest) → WD g s A (w_X10_best g a_t a_isUsed a_plan a_rest a_turns a_cornerX a_cornerY a_corners a_what a_rowAt a_strip a_along a_rowSize a_endAt a_slantA a_slantB a_yields a_bears a_seen a_wagons a_pile a_far a_waiting a_isWaiting c_thrown c_isLaid c_head c_hasRows c_hasPlan c_rows c_slants c_capacity c_weight c_unload c_source c_bunker c_isUsed c_plan c_rest c_turns) H locs → lv_has ls 1 [(0, .ref a_t)] → W p l e (rm9 4 97) s m args below meth c H locs 0 0 Q (F0 m 18 ls [.int k1, .ref a_t]) := by
    intro c_thrown c_hasPlan c_isUsed c_plan c_rest k1 H locs ls h hW hl
    unfold X10_best_b18 at h
    refine lv_iconst (pc := 18) (v := 1) hx hb (dd dX10_best 10 rfl) (by decide) ?_
    obtain ⟨⟨r_19, c_thrown_19⟩, hr, h⟩ := bnd_ex h
    have h := un2_at h
    refine callVI (pc := 19) (na := 2) (As := [.int k1, .int 1]) (rest := []) (ws2 := (w_X10_best g a_t a_isUsed a_plan a_rest a_turns a_cornerX a_cornerY a_corners a_what a_rowAt a_strip a_along a_rowSize a_endAt a_slantA a_slantB a_yields a_bears a_seen a_wagons a_pile a_far a_waiting a_isWaiting c_thrown_19 c_isLaid c_head c_hasRows c_hasPlan c_rows c_slants c_capacity c_weight c_unload c_source c_bunker c_isUsed c_plan c_rest c_turns)) M hl.1 hW (t_X10_throwsIf l g a_t a_cornerX a_cornerY a_corners a_what a_rowAt a_strip a_along a_rowSize a_endAt a_turns a_plan a_slantA a_slantB a_yields a_bears a_seen a_wagons a_pile a_far a_waiting a_isWaiting a_rest a_isUsed c_thrown c_isLaid c_head c_hasRows c_hasPlan c_rows c_slants c_capacity c_weight c_unload c_source c_bunker k1 1 r_19 c_thrown_19 hr) rfl [0] [1, 2, 3, 4] [4, 0, 1, 2, 3] rfl rfl rfl rfl rfl rfl rfl 0 10 rfl rfl rfl (uw5 86 rfl rfl) (uw5 83 rfl rfl) (uw5 85 rfl rfl) (uwp 41 rfl rfl) (uw1 13 rfl rfl) ⟨by decide, by decide, by decide⟩ rfl ⟨by decide, by decide⟩ (Nat.le_of_ble_eq_true rfl) ⟨Nat.zero_le _, Nat.zero_le _⟩ (dd dX10_best 11 rfl) (fun H locs hW => ?_)
    refine lv_if_eq (pc := 22) (tgt := 29) hx hb (dd dX10_best 12 rfl) (by decide) (fun hc => ?_) (fun hc => ?_)
    · have h := it_t hc h
      refine lv_aload_n (pc := 29) hx hb (dd dX10_best 15 rfl) rfl (lv_at hl 0 rfl) ?_
      obtain ⟨⟨r_30, c_hasPlan_30, c_isUsed_30, c_plan_30, c_rest_30⟩, hr, h⟩ := bnd_ex h
      have h := un5_at h
      refine callVI (pc := 30) (na := 0) (As := []) (rest := []) (ws2 := (w_X10_best g a_t a_isUsed a_plan a_rest a_turns a_cornerX a_cornerY a_corners a_what a_rowAt a_strip a_along a_rowSize a_endAt a_slantA a_slantB a_yields a_bears a_seen a_wagons a_pile a_far a_waiting a_isWaiting c_thrown_19 c_isLaid c_head c_hasRows c_hasPlan_30 c_rows c_slants c_capacity c_weight c_unload c_source c_bunker c_isUsed_30 c_plan_30 c_rest_30 c_turns)) M hl.1 hW (t_X10_bestOf l g a_t a_isUsed a_plan a_rest a_turns a_cornerX a_cornerY a_corners a_what a_rowAt a_strip a_along a_rowSize a_endAt a_slantA a_slantB a_yields a_bears a_seen a_wagons a_pile a_far a_waiting a_isWaiting c_thrown_19 c_isLaid c_head c_hasRows c_hasPlan c_rows c_slants c_capacity c_weight c_unload c_source c_bunker c_isUsed c_plan c_rest c_turns r_30 c_hasPlan_30 c_isUsed_30 c_plan_30 c_rest_30 hr) rfl [0, 1, 2, 3, 4] [] [0, 1, 2, 3, 4] rfl rfl rfl rfl rfl rfl rfl 0 10 rfl rfl rfl (uw5 193 rfl rfl) (uw5 190 rfl rfl) (uw5 192 rfl rfl) (uwp 55 rfl rfl) (uw1 13 rfl rfl) ⟨by decide, by decide, by decide⟩ rfl ⟨by decide, by decide⟩ (Nat.le_of_ble_eq_true rfl) ⟨Nat.zero_le _, Nat.zero_le _⟩ (dd dX10_best 16 rfl) (fun H locs hW => ?_)
      have hW9 := hW
      cases h
      exact ret _ _ _ 33 hW9 rfl (dd dX10_best 17 rfl)
    · have h := it_f hc h
      refine lv_iconst (pc := 25) (v := 0) hx hb (dd dX10_best 13 rfl) (by decide) ?_
      refine lv_goto (pc := 26) (tgt := 33) hx hb (dd dX10_best 14 rfl) (by decide) ?_
      have hW9 := hW
      cases h
      exact ret _ _ _ 33 hW9 rfl (dd dX10_best 17 rfl)
  refine lv_aload_n (pc := 0) hx hb (dd dX10_best 0 rfl) rfl (lv_at hl 0 rfl) ?_
  refine lv_iconst (pc := 1) (v := 0) hx hb (dd dX10_best 1 rfl) (by decide) ?_
  refine rPut (pc := 2) M hW 0 0 tyX10 tyX10_ok nmX10 iU10 rfl rfl (by decide) (uw4 213 rfl rfl) rfl rfl rfl (Nat.le_of_ble_eq_true rfl) (dd dX10_best 2 rfl) (ws' := (w_X10_best g a_t a_isUsed a_plan a_rest a_turns a_cornerX a_cornerY a_corners a_what a_rowAt a_strip a_along a_rowSize a_endAt a_slantA a_slantB a_yields a_bears a_seen a_wagons a_pile a_far a_waiting a_isWaiting 0 c_isLaid c_head c_hasRows c_hasPlan c_rows c_slants c_capacity c_weight c_unload c_source c_bunker c_isUsed c_plan c_rest c_turns)) rfl (fun H locs hW => ?_)
  refine lv_aload_n (pc := 5) hx hb (dd dX10_best 3 rfl) rfl (lv_at hl 0 rfl) ?_
  refine lv_aload_n (pc := 6) hx hb (dd dX10_best 4 rfl) rfl (lv_at hl 0 rfl) ?_
  refine rGet (pc := 7) M hW 0 7 iU10 rfl rfl (by decide) (uw4 220 rfl rfl) rfl (dd dX10_best 5 rfl) ?_
  refine lv_if_ne (pc := 10) (tgt := 17) hx hb (dd dX10_best 6 rfl) (by decide) (fun hc => ?_) (fun hc => ?_)
  · have h := it_f hc h
    refine lv_iconst (pc := 17) (v := 0) hx hb (dd dX10_best 9 rfl) (by decide) ?_
    exact J18 _ _ _ _ _ _ _ _ _ h hW (lv_sub hl [0] rfl)
  · have h := it_t hc h
    refine lv_iconst (pc := 13) (v := 1) hx hb (dd dX10_best 7 rfl) (by decide) ?_
    refine lv_goto (pc := 14) (tgt := 18) hx hb (dd dX10_best 8 rfl) (by decide) ?_
    exact J18 _ _ _ _ _ _ _ _ _ h hW (lv_sub hl [0] rfl)
abbrev w_X10_bound (g : G9) (a_t a_turns a_cornerX a_cornerY a_corners a_what a_rowAt a_strip a_along a_rowSize a_endAt a_plan a_slantA a_slantB a_yields a_bears a_seen a_wagons a_pile a_far a_waiting a_isWaiting a_rest a_isUsed : Nat) (c_thrown c_isLaid c_head c_hasRows c_hasPlan c_rows c_slants c_capacity c_weight c_unload c_source c_bunker : Int32) (c_turns : Ar) : va_W := [ob a_t 10 [.int c_thrown, .ref a_cornerX, .ref a_cornerY, .ref a_corners, .ref a_what, .int c_isLaid, .int c_head, .int c_hasRows, .int c_hasPlan, .int c_rows, .ref a_rowAt, .ref a_strip, .ref a_along, .ref a_rowSize, .ref a_endAt, .ref a_turns, .ref a_plan, .ref a_slantA, .ref a_slantB, .int c_slants, .ref a_yields, .ref a_bears, .int c_capacity, .int c_weight, .int c_unload, .ref a_seen, .ref a_wagons, .ref a_pile, .ref a_far, .int c_source, .ref a_waiting, .ref a_isWaiting, .ref a_rest, .ref a_isUsed, .int c_bunker], ia g a_turns 14400 c_turns]
noncomputable def X10_bound_b71_116 (v1 v2 v3 v4 v5 v6 : Int32) : Option ((Int32 × Int32) ⊕ Int32) :=
  nm (v6 + 1) fun v6_116 => some (.inl (v4, v6_116))
noncomputable def X10_bound_L71 (c_rows : Int32) (c_turns : Ar) (v1 v2 v3 v5 v4 v6 : Int32) : Option ((Int32 × Int32) ⊕ Int32) :=
  if (2 * c_rows) ≤ v6 then (some (.inr v4)) else (if (v6 / 2) = v3 then (X10_bound_b71_116 v1 v2 v3 v4 v5 v6) else (bnd (X10_turnOf c_turns v5 v6) <| fun r_95 => if r_95 < 0 then (X10_bound_b71_116 v1 v2 v3 v4 v5 v6) else (bnd (X10_turnOf c_turns v5 v6) <| fun r_108 => nm ((mn v4 r_108)) fun v4_114 => X10_bound_b71_116 v1 v2 v3 v4_114 v5 v6)))
noncomputable def X10_bound_L58 (c_rows : Int32) (c_turns : Ar) (v1 v2 v3 v4 v5 : Int32) : Option ((Int32 × Int32) ⊕ Int32) :=
  if ((2 * v3) + 2) ≤ v5 then (some (.inr v4)) else (bnd (whileV (fun st => X10_bound_L71 c_rows c_turns v1 v2 v3 v5 st.1 st.2) (v4, 0)) <| (fun v4_122 => nm (v5 + 1) fun v5_122 => some (.inl (v4_122, v5_122))))
noncomputable def X10_bound_L41 (c_rows : Int32) (c_turns : Ar) (v1 v2 v3 : Int32) : Option ((Int32 × Int32 × Int32) ⊕ ((Int32 × Int32) ⊕ Unit)) :=
  if c_rows ≤ v3 then (some (.inr (.inl (v1, v2)))) else (nm ((2 * v3)) fun v5_56 => bnd (whileV (fun st => X10_bound_L58 c_rows c_turns v1 v2 v3 st.1 st.2) (100000000, v5_56)) <| (fun v4_128 => if v4_128 = 100000000 then (some (.inr (.inr (())))) else (nm ((v1 + v4_128)) fun v1_141 => nm ((mx v2 v4_128)) fun v2_148 => nm (v3 + 1) fun v3_149 => some (.inl (v1_141, v2_148, v3_149)))))
noncomputable def X10_bound_b18 (c_thrown c_rows : Int32) (c_turns : Ar) (k1 : Int32) : Option (Int32 × Int32) :=
  bnd (X10_throwsIf c_thrown k1 1) <| un2 fun r_19 c_thrown_19 => if r_19 = 0 then (if 2 ≤ c_rows then (bnd (whileV (fun st => X10_bound_L41 c_rows c_turns st.1 st.2.1 st.2.2) (0, 0, 0)) <| (Sum.elim (un2 fun v1_155 v2_155 => some ((v1_155 - v2_155), c_thrown_19)) (fun (_ : Unit) => some ((-1), c_thrown_19)))) else (some (0, c_thrown_19))) else (some (0, c_thrown_19))
noncomputable def X10_bound (c_thrown c_hasRows c_rows : Int32) (c_turns : Ar) : Option (Int32 × Int32) :=
  if c_hasRows = 0 then (X10_bound_b18 0 c_rows c_turns 1) else (X10_bound_b18 0 c_rows c_turns 0)
set_option maxHeartbeats 4000000 in
set_option maxRecDepth 100000 in
theorem t_X10_bound (l : Launch) (g : G9) (a_t a_turns a_cornerX a_cornerY a_corners a_what a_rowAt a_strip a_along a_rowSize a_endAt a_plan a_slantA a_slantB a_yields a_bears a_seen a_wagons a_pile a_far a_waiting a_isWaiting a_rest a_isUsed : Nat) (c_thrown c_isLaid c_head c_hasRows c_hasPlan c_rows c_slants c_capacity c_weight c_unload c_source c_bunker : Int32) (c_turns : Ar) (r0 o_thrown : Int32) (h : X10_bound c_thrown c_hasRows c_rows c_turns = some (r0, o_thrown)) : CtI l g yX10_bound cX10_bound 7 .int 1 22 [.ref a_t] (w_X10_bound g a_t a_turns a_cornerX a_cornerY a_corners a_what a_rowAt a_strip a_along a_rowSize a_endAt a_plan a_slantA a_slantB a_yields a_bears a_seen a_wagons a_pile a_far a_waiting a_isWaiting a_rest a_isUsed c_thrown c_isLaid c_head c_hasRows c_hasPlan c_rows c_slants c_capacity c_weight c_unload c_source c_bunker c_turns) r0 (w_X10_bound g a_t a_turns a_cornerX a_cornerY a_corners a_what a_rowAt a_strip a_along a_rowSize a_endAt a_plan a_slantA a_slantB a_yields a_bears a_seen a_wagons a_pile a_far a_waiting a_isWaiting a_rest a_isUsed o_thrown c_isLaid c_head c_hasRows c_hasPlan c_rows c_slants c_capacity c_weight c_unload c_source c_bunker c_turns) := by
  refine startI (by decide) (Nat.le_of_ble_eq_true rfl) ?_
  intro p e s m below meth c A Q ls args M hW hl ret
  have hx := M.1
  have hb := M.2.1
  have hown := M.2.2.2.1
  have hu := M.2.2.2.2.1
  have hl : lv_has ls 7 [(0, .ref a_t)] := hl
  unfold X10_bound at h
  obtain ⟨H, eH⟩ : ∃ z, z = s.heap := ⟨_, rfl⟩
  obtain ⟨locs, eL⟩ : ∃ z, z = ([] : List Loc) := ⟨_, rfl⟩
  rw [← eL] at hW ⊢
  suffices hS9 : WD g s A (w_X10_bound g a_t a_turns a_cornerX a_cornerY a_corners a_what a_rowAt a_strip a_along a_rowSize a_endAt a_plan a_slantA a_slantB a_yields a_bears a_seen a_wagons a_pile a_far a_waiting a_isWaiting a_rest a_isUsed c_thrown c_isLaid c_head c_hasRows c_hasPlan c_rows c_slants c_capacity c_weight c_unload c_source c_bunker c_turns) H locs → W p l e (rm9 1 22) s m args below meth c H locs 0 0 Q (F0 m 0 ls []) by
    rw [← eH] at hW ⊢
    exact hS9 hW
  clear hW eH eL
  intro hW
  have J18 : ∀ (c_thrown k1 : Int32) (H : Heap) (locs : List Loc) (ls : Array Slot), X10_bound_b18 c_thrown c_rows c_turns k1 = some (r0, o_thrown) → WD g s A (w_X10_bound g a_t a_turns a_cornerX a_cornerY a_corners a_what a_rowAt a_strip a_along a_rowSize a_endAt a_plan a_slantA a_slantB a_yields a_bears a_seen a_wagons a_pile a_far a_waiting a_isWaiting a_rest a_isUsed c_thrown c_isLaid c_head c_hasRows c_hasPlan c_rows c_slants c_capacity c_weight c_unload c_source c_bunker c_turns) H locs → lv_has ls 7 [(0, .ref a_t)] → W p l e (rm9 1 22) s m args below meth c H locs 0 0 Q (F0 m 18 ls [.int k1, .ref a_t]) := by
    intro c_thrown k1 H locs ls h hW hl
    unfold X10_bound_b18 at h
    refine lv_iconst (pc := 18) (v := 1) hx hb (dd dX10_bound_p0 10 rfl) (by decide) ?_
    obtain ⟨⟨r_19, c_thrown_19⟩, hr, h⟩ := bnd_ex h
    have h := un2_at h
    refine callVI (pc := 19) (na := 2) (As := [.int k1, .int 1]) (rest := []) (ws2 := (w_X10_bound g a_t a_turns a_cornerX a_cornerY a_corners a_what a_rowAt a_strip a_along a_rowSize a_endAt a_plan a_slantA a_slantB a_yields a_bears a_seen a_wagons a_pile a_far a_waiting a_isWaiting a_rest a_isUsed c_thrown_19 c_isLaid c_head c_hasRows c_hasPlan c_rows c_slants c_capacity c_weight c_unload c_source c_bunker c_turns)) M hl.1 hW (t_X10_throwsIf l g a_t a_cornerX a_cornerY a_corners a_what a_rowAt a_strip a_along a_rowSize a_endAt a_turns a_plan a_slantA a_slantB a_yields a_bears a_seen a_wagons a_pile a_far a_waiting a_isWaiting a_rest a_isUsed c_thrown c_isLaid c_head c_hasRows c_hasPlan c_rows c_slants c_capacity c_weight c_unload c_source c_bunker k1 1 r_19 c_thrown_19 hr) rfl [0] [1] [1, 0] rfl rfl rfl rfl rfl rfl rfl 0 10 rfl rfl rfl (uw5 86 rfl rfl) (uw5 83 rfl rfl) (uw5 85 rfl rfl) (uwp 41 rfl rfl) (uw1 13 rfl rfl) ⟨by decide, by decide, by decide⟩ rfl ⟨by decide, by decide⟩ (Nat.le_of_ble_eq_true rfl) ⟨Nat.zero_le _, Nat.zero_le _⟩ (dd dX10_bound_p0 11 rfl) (fun H locs hW => ?_)
    refine lv_if_ne (pc := 22) (tgt := 33) hx hb (dd dX10_bound_p0 12 rfl) (by decide) (fun hc => ?_) (fun hc => ?_)
    · have h := it_f hc h
      refine lv_iconst (pc := 33) (v := 0) hx hb (dd dX10_bound_p0 17 rfl) (by decide) ?_
      have hW9 := hW
      cases h
      exact ret _ _ _ 34 hW9 rfl (dd dX10_bound_p0 18 rfl)
    · have h := it_t hc h
      refine lv_aload_n (pc := 25) hx hb (dd dX10_bound_p0 13 rfl) rfl (lv_at hl 0 rfl) ?_
      refine rGet (pc := 26) M hW 0 9 iU10 rfl rfl (by decide) (uw4 222 rfl rfl) rfl (dd dX10_bound_p0 14 rfl) ?_
      refine lv_iconst (pc := 29) (v := 2) hx hb (dd dX10_bound_p0 15 rfl) (by decide) ?_
      refine lv_icmp_ge (pc := 30) (tgt := 35) hx hb (dd dX10_bound_p0 16 rfl) (by decide) (fun hc => ?_) (fun hc => ?_)
      · have h := it_t hc h
        refine lv_iconst (pc := 35) (v := 0) hx hb (dd dX10_bound_p0 19 rfl) (by decide) ?_
        refine lv_istore_n (pc := 36) (lv' := [(1, .int 0), (0, .ref a_t)]) hx hb (dd dX10_bound_p0 20 rfl) rfl hl (by decide) rfl (fun ls hl => ?_)
        refine lv_iconst (pc := 37) (v := 0) hx hb (dd dX10_bound_p0 21 rfl) (by decide) ?_
        refine lv_istore_n (pc := 38) (lv' := [(2, .int 0), (1, .int 0), (0, .ref a_t)]) hx hb (dd dX10_bound_p0 22 rfl) rfl hl (by decide) rfl (fun ls hl => ?_)
        refine lv_iconst (pc := 39) (v := 0) hx hb (dd dX10_bound_p0 23 rfl) (by decide) ?_
        refine lv_istore_n (pc := 40) (lv' := [(3, .int 0), (2, .int 0), (1, .int 0), (0, .ref a_t)]) hx hb (dd dX10_bound_p0 24 rfl) rfl hl (by decide) rfl (fun ls hl => ?_)
        obtain ⟨ex, hw, h⟩ := bnd_ex h
        refine loopW (fun st => ∀ (H : Heap) (locs : List Loc) (ls : Array Slot), WD g s A (w_X10_bound g a_t a_turns a_cornerX a_cornerY a_corners a_what a_rowAt a_strip a_along a_rowSize a_endAt a_plan a_slantA a_slantB a_yields a_bears a_seen a_wagons a_pile a_far a_waiting a_isWaiting a_rest a_isUsed c_thrown_19 c_isLaid c_head c_hasRows c_hasPlan c_rows c_slants c_capacity c_weight c_unload c_source c_bunker c_turns) H locs → lv_has ls 7 [(0, .ref a_t), (1, .int (st.1)), (2, .int (st.2.1)), (3, .int (st.2.2))] → W p l e (rm9 1 22) s m args below meth c H locs 0 0 Q (F0 m 41 ls [])) (Sum.elim (fun (ex : (Int32 × Int32)) => ∀ (H : Heap) (locs : List Loc) (ls : Array Slot), WD g s A (w_X10_bound g a_t a_turns a_cornerX a_cornerY a_corners a_what a_rowAt a_strip a_along a_rowSize a_endAt a_plan a_slantA a_slantB a_yields a_bears a_seen a_wagons a_pile a_far a_waiting a_isWaiting a_rest a_isUsed c_thrown_19 c_isLaid c_head c_hasRows c_hasPlan c_rows c_slants c_capacity c_weight c_unload c_source c_bunker c_turns) H locs → lv_has ls 7 [(1, .int (ex.1)), (2, .int (ex.2))] → W p l e (rm9 1 22) s m args below meth c H locs 0 0 Q (F0 m 155 ls [])) (fun (ex : Unit) => ∀ (H : Heap) (locs : List Loc) (ls : Array Slot), WD g s A (w_X10_bound g a_t a_turns a_cornerX a_cornerY a_corners a_what a_rowAt a_strip a_along a_rowSize a_endAt a_plan a_slantA a_slantB a_yields a_bears a_seen a_wagons a_pile a_far a_waiting a_isWaiting a_rest a_isUsed c_thrown_19 c_isLaid c_head c_hasRows c_hasPlan c_rows c_slants c_capacity c_weight c_unload c_source c_bunker c_turns) H locs → lv_has ls 7 [] → W p l e (rm9 1 22) s m args below meth c H locs 0 0 Q (F0 m 135 ls []))) ?_ hw ?_ H locs ls hW (lv_sub hl [3, 2, 1, 0] rfl)
        · rintro ⟨v1, v2, v3⟩ o hb9 hk H locs ls hW hl
          have h : X10_bound_L41 c_rows c_turns v1 v2 v3 = some o := hb9
          clear hb9
          unfold X10_bound_L41 at h
          refine lv_iload_n (pc := 41) hx hb (dd dX10_bound_p0 25 rfl) rfl (lv_at hl 3 rfl) ?_
          refine lv_aload_n (pc := 42) hx hb (dd dX10_bound_p0 26 rfl) rfl (lv_at hl 0 rfl) ?_
          refine rGet (pc := 43) M hW 0 9 iU10 rfl rfl (by decide) (uw4 222 rfl rfl) rfl (dd dX10_bound_p0 27 rfl) ?_
          refine lv_icmp_ge (pc := 46) (tgt := 155) hx hb (dd dX10_bound_p0 28 rfl) (by decide) (fun hc => ?_) (fun hc => ?_)
          · have h := it_t hc h
            obtain rfl := Option.some.inj h
            exact hk _ _ _ hW (lv_sub hl [1, 2] rfl)
          · have h := it_f hc h
            refine lv_ldc (pc := 49) (v := 100000000) hx hb hown (hu _ (uw5 153 rfl rfl)) (dd dX10_bound_p0 29 rfl) ?_
            refine lv_istore (pc := 51) (lv' := [(4, .int 100000000), (0, .ref a_t), (1, .int v1), (2, .int v2), (3, .int v3)]) hx hb (dd dX10_bound_p0 30 rfl) hl (by decide) rfl (fun ls hl => ?_)
            refine lv_iconst (pc := 53) (v := 2) hx hb (dd dX10_bound_p0 31 rfl) (by decide) ?_
            refine lv_iload_n (pc := 54) hx hb (dd dX10_bound_p0 32 rfl) rfl (lv_at hl 4 rfl) ?_
            refine lv_imul (pc := 55) hx hb (dd dX10_bound_p0 33 rfl) ?_
            obtain ⟨v5_56, ev5_56, h⟩ := nm_ex h
            refine rTopi (pc := 56) ev5_56 ?_
            refine lv_istore (pc := 56) (lv' := [(5, .int v5_56), (4, .int 100000000), (0, .ref a_t), (1, .int v1), (2, .int v2), (3, .int v3)]) hx hb (dd dX10_bound_p0 34 rfl) hl (by decide) rfl (fun ls hl => ?_)
            obtain ⟨ex, hw, h⟩ := bnd_ex h
            refine loopW (fun st => ∀ (H : Heap) (locs : List Loc) (ls : Array Slot), WD g s A (w_X10_bound g a_t a_turns a_cornerX a_cornerY a_corners a_what a_rowAt a_strip a_along a_rowSize a_endAt a_plan a_slantA a_slantB a_yields a_bears a_seen a_wagons a_pile a_far a_waiting a_isWaiting a_rest a_isUsed c_thrown_19 c_isLaid c_head c_hasRows c_hasPlan c_rows c_slants c_capacity c_weight c_unload c_source c_bunker c_turns) H locs → lv_has ls 7 [(0, .ref a_t), (1, .int v1), (2, .int v2), (3, .int v3), (4, .int (st.1)), (5, .int (st.2))] → W p l e (rm9 1 22) s m args below meth c H locs 0 0 Q (F0 m 58 ls [])) (fun (ex : Int32) => ∀ (H : Heap) (locs : List Loc) (ls : Array Slot), WD g s A (w_X10_bound g a_t a_turns a_cornerX a_cornerY a_corners a_what a_rowAt a_strip a_along a_rowSize a_endAt a_plan a_slantA a_slantB a_yields a_bears a_seen a_wagons a_pile a_far a_waiting a_isWaiting a_rest a_isUsed c_thrown_19 c_isLaid c_head c_hasRows c_hasPlan c_rows c_slants c_capacity c_weight c_unload c_source c_bunker c_turns) H locs → lv_has ls 7 [(0, .ref a_t), (1, .int v1), (2, .int v2), (3, .int v3), (4, .int ex)] → W p l e (rm9 1 22) s m args below meth c H locs 0 0 Q (F0 m 128 ls [])) ?_ hw ?_ H locs ls hW (lv_sub hl [2, 3, 4, 5, 1, 0] rfl)
            · rintro ⟨v4, v5⟩ o hb9 hk H locs ls hW hl
              have h : X10_bound_L58 c_rows c_turns v1 v2 v3 v4 v5 = some o := hb9
              clear hb9
              unfold X10_bound_L58 at h
              refine lv_iload (pc := 58) hx hb (dd dX10_bound_p0 35 rfl) (lv_at hl 5 rfl) ?_
              refine lv_iconst (pc := 60) (v := 2) hx hb (dd dX10_bound_p0 36 rfl) (by decide) ?_
              refine lv_iload_n (pc := 61) hx hb (dd dX10_bound_p0 37 rfl) rfl (lv_at hl 3 rfl) ?_
              refine lv_imul (pc := 62) hx hb (dd dX10_bound_p0 38 rfl) ?_
              refine lv_iconst (pc := 63) (v := 2) hx hb (dd dX10_bound_p0 39 rfl) (by decide) ?_
              refine lv_iadd (pc := 64) hx hb (dd dX10_bound_p0 40 rfl) ?_
              refine lv_icmp_ge (pc := 65) (tgt := 128) hx hb (dd dX10_bound_p0 41 rfl) (by decide) (fun hc => ?_) (fun hc => ?_)
              · have h := it_t hc h
                obtain rfl := Option.some.inj h
                exact hk _ _ _ hW (lv_sub hl [0, 1, 2, 3, 4] rfl)
              · have h := it_f hc h
                refine lv_iconst (pc := 68) (v := 0) hx hb (dd dX10_bound_p0 42 rfl) (by decide) ?_
                refine lv_istore (pc := 69) (lv' := [(6, .int 0), (0, .ref a_t), (1, .int v1), (2, .int v2), (3, .int v3), (4, .int v4), (5, .int v5)]) hx hb (dd dX10_bound_p0 43 rfl) hl (by decide) rfl (fun ls hl => ?_)
                obtain ⟨ex, hw, h⟩ := bnd_ex h
                refine loopW (fun st => ∀ (H : Heap) (locs : List Loc) (ls : Array Slot), WD g s A (w_X10_bound g a_t a_turns a_cornerX a_cornerY a_corners a_what a_rowAt a_strip a_along a_rowSize a_endAt a_plan a_slantA a_slantB a_yields a_bears a_seen a_wagons a_pile a_far a_waiting a_isWaiting a_rest a_isUsed c_thrown_19 c_isLaid c_head c_hasRows c_hasPlan c_rows c_slants c_capacity c_weight c_unload c_source c_bunker c_turns) H locs → lv_has ls 7 [(0, .ref a_t), (1, .int v1), (2, .int v2), (3, .int v3), (4, .int (st.1)), (5, .int v5), (6, .int (st.2))] → W p l e (rm9 1 22) s m args below meth c H locs 0 0 Q (F0 m 71 ls [])) (fun (ex : Int32) => ∀ (H : Heap) (locs : List Loc) (ls : Array Slot), WD g s A (w_X10_bound g a_t a_turns a_cornerX a_cornerY a_corners a_what a_rowAt a_strip a_along a_rowSize a_endAt a_plan a_slantA a_slantB a_yields a_bears a_seen a_wagons a_pile a_far a_waiting a_isWaiting a_rest a_isUsed c_thrown_19 c_isLaid c_head c_hasRows c_hasPlan c_rows c_slants c_capacity c_weight c_unload c_source c_bunker c_turns) H locs → lv_has ls 7 [(0, .ref a_t), (1, .int v1), (2, .int v2), (3, .int v3), (4, .int ex), (5, .int v5)] → W p l e (rm9 1 22) s m args below meth c H locs 0 0 Q (F0 m 122 ls [])) ?_ hw ?_ H locs ls hW (lv_sub hl [1, 2, 3, 4, 5, 6, 0] rfl)
                · rintro ⟨v4, v6⟩ o hb9 hk H locs ls hW hl
                  have h : X10_bound_L71 c_rows c_turns v1 v2 v3 v5 v4 v6 = some o := hb9
                  clear hb9
                  unfold X10_bound_L71 at h
                  have J116 : ∀ (v4 v6 : Int32) (H : Heap) (locs : List Loc) (ls : Array Slot), X10_bound_b71_116 v1 v2 v3 v4 v5 v6 = some o → WD g s A (w_X10_bound g a_t a_turns a_cornerX a_cornerY a_corners a_what a_rowAt a_strip a_along a_rowSize a_endAt a_plan a_slantA a_slantB a_yields a_bears a_seen a_wagons a_pile a_far a_waiting a_isWaiting a_rest a_isUsed c_thrown_19 c_isLaid c_head c_hasRows c_hasPlan c_rows c_slants c_capacity c_weight c_unload c_source c_bunker c_turns) H locs → lv_has ls 7 [(0, .ref a_t), (1, .int v1), (2, .int v2), (3, .int v3), (4, .int v4), (5, .int v5), (6, .int v6)] → W p l e (rm9 1 22) s m args below meth c H locs 0 0 Q (F0 m 116 ls []) := by
                    intro v4 v6 H locs ls h hW hl
                    unfold X10_bound_b71_116 at h
                    obtain ⟨v6_116, ev6_116, h⟩ := nm_ex h
                    refine lv_iinc (pc := 116) (v := v6_116) (lv' := [(6, .int v6_116), (0, .ref a_t), (1, .int v1), (2, .int v2), (3, .int v3), (4, .int v4), (5, .int v5)]) hx hb (dd dX10_bound_p1 7 rfl) hl (k := 6) rfl (by rw [ev6_116]; rfl) (by decide) rfl (fun ls hl => ?_)
                    refine lv_goto (pc := 119) (tgt := 71) hx hb (dd dX10_bound_p1 8 rfl) (by decide) ?_
                    obtain rfl := Option.some.inj h
                    exact hk _ _ _ hW (lv_sub hl [1, 2, 3, 4, 5, 6, 0] rfl)
                  refine lv_iload (pc := 71) hx hb (dd dX10_bound_p0 44 rfl) (lv_at hl 6 rfl) ?_
                  refine lv_iconst (pc := 73) (v := 2) hx hb (dd dX10_bound_p0 45 rfl) (by decide) ?_
                  refine lv_aload_n (pc := 74) hx hb (dd dX10_bound_p0 46 rfl) rfl (lv_at hl 0 rfl) ?_
                  refine rGet (pc := 75) M hW 0 9 iU10 rfl rfl (by decide) (uw4 222 rfl rfl) rfl (dd dX10_bound_p0 47 rfl) ?_
                  refine lv_imul (pc := 78) hx hb (dd dX10_bound_p0 48 rfl) ?_
                  refine lv_icmp_ge (pc := 79) (tgt := 122) hx hb (dd dX10_bound_p0 49 rfl) (by decide) (fun hc => ?_) (fun hc => ?_)
                  · have h := it_t hc h
                    obtain rfl := Option.some.inj h
                    exact hk _ _ _ hW (lv_sub hl [0, 1, 2, 3, 4, 5] rfl)
                  · have h := it_f hc h
                    refine lv_iload (pc := 82) hx hb (dd dX10_bound_p0 50 rfl) (lv_at hl 6 rfl) ?_
                    refine lv_iconst (pc := 84) (v := 2) hx hb (dd dX10_bound_p0 51 rfl) (by decide) ?_
                    refine lv_idiv (pc := 85) hx hb (dd dX10_bound_p0 52 rfl) (by decide) ?_
                    refine lv_iload_n (pc := 86) hx hb (dd dX10_bound_p0 53 rfl) rfl (lv_at hl 3 rfl) ?_
                    refine lv_icmp_eq (pc := 87) (tgt := 116) hx hb (dd dX10_bound_p0 54 rfl) (by decide) (fun hc => ?_) (fun hc => ?_)
                    · have h := it_t hc h
                      exact J116 _ _ _ _ _ h hW (lv_sub hl [0, 1, 2, 3, 4, 5, 6] rfl)
                    · have h := it_f hc h
                      refine lv_aload_n (pc := 90) hx hb (dd dX10_bound_p0 55 rfl) rfl (lv_at hl 0 rfl) ?_
                      refine lv_iload (pc := 91) hx hb (dd dX10_bound_p0 56 rfl) (lv_at hl 5 rfl) ?_
                      refine lv_iload (pc := 93) hx hb (dd dX10_bound_p0 57 rfl) (lv_at hl 6 rfl) ?_
                      obtain ⟨r_95, hr, h⟩ := bnd_ex h
                      refine callVI (pc := 95) (na := 2) (As := [.int v5, .int v6]) (rest := []) (ws2 := (w_X10_bound g a_t a_turns a_cornerX a_cornerY a_corners a_what a_rowAt a_strip a_along a_rowSize a_endAt a_plan a_slantA a_slantB a_yields a_bears a_seen a_wagons a_pile a_far a_waiting a_isWaiting a_rest a_isUsed c_thrown_19 c_isLaid c_head c_hasRows c_hasPlan c_rows c_slants c_capacity c_weight c_unload c_source c_bunker c_turns)) M hl.1 hW (t_X10_turnOf l g a_t a_turns a_cornerX a_cornerY a_corners a_what a_rowAt a_strip a_along a_rowSize a_endAt a_plan a_slantA a_slantB a_yields a_bears a_seen a_wagons a_pile a_far a_waiting a_isWaiting a_rest a_isUsed c_thrown_19 c_isLaid c_head c_hasRows c_hasPlan c_rows c_slants c_capacity c_weight c_unload c_source c_bunker c_turns v5 v6 r_95 hr) rfl [0, 1] [] [0, 1] rfl rfl rfl rfl rfl rfl rfl 0 10 rfl rfl rfl (uw5 185 rfl rfl) (uw5 182 rfl rfl) (uw5 184 rfl rfl) (uwp 54 rfl rfl) (uw1 13 rfl rfl) ⟨by decide, by decide, by decide⟩ rfl ⟨by decide, by decide⟩ (Nat.le_of_ble_eq_true rfl) ⟨Nat.zero_le _, Nat.zero_le _⟩ (dd dX10_bound_p0 58 rfl) (fun H locs hW => ?_)
                      refine lv_if_lt (pc := 98) (tgt := 116) hx hb (dd dX10_bound_p0 59 rfl) (by decide) (fun hc => ?_) (fun hc => ?_)
                      · have h := it_t hc h
                        exact J116 _ _ _ _ _ h hW (lv_sub hl [0, 1, 2, 3, 4, 5, 6] rfl)
                      · have h := it_f hc h
                        refine lv_iload (pc := 101) hx hb (dd dX10_bound_p1 0 rfl) (lv_at hl 4 rfl) ?_
                        refine lv_aload_n (pc := 103) hx hb (dd dX10_bound_p1 1 rfl) rfl (lv_at hl 0 rfl) ?_
                        refine lv_iload (pc := 104) hx hb (dd dX10_bound_p1 2 rfl) (lv_at hl 5 rfl) ?_
                        refine lv_iload (pc := 106) hx hb (dd dX10_bound_p1 3 rfl) (lv_at hl 6 rfl) ?_
                        obtain ⟨r_108, hr, h⟩ := bnd_ex h
                        refine callVI (pc := 108) (na := 2) (As := [.int v5, .int v6]) (rest := [.int v4]) (ws2 := (w_X10_bound g a_t a_turns a_cornerX a_cornerY a_corners a_what a_rowAt a_strip a_along a_rowSize a_endAt a_plan a_slantA a_slantB a_yields a_bears a_seen a_wagons a_pile a_far a_waiting a_isWaiting a_rest a_isUsed c_thrown_19 c_isLaid c_head c_hasRows c_hasPlan c_rows c_slants c_capacity c_weight c_unload c_source c_bunker c_turns)) M hl.1 hW (t_X10_turnOf l g a_t a_turns a_cornerX a_cornerY a_corners a_what a_rowAt a_strip a_along a_rowSize a_endAt a_plan a_slantA a_slantB a_yields a_bears a_seen a_wagons a_pile a_far a_waiting a_isWaiting a_rest a_isUsed c_thrown_19 c_isLaid c_head c_hasRows c_hasPlan c_rows c_slants c_capacity c_weight c_unload c_source c_bunker c_turns v5 v6 r_108 hr) rfl [0, 1] [] [0, 1] rfl rfl rfl rfl rfl rfl rfl 0 10 rfl rfl rfl (uw5 185 rfl rfl) (uw5 182 rfl rfl) (uw5 184 rfl rfl) (uwp 54 rfl rfl) (uw1 13 rfl rfl) ⟨by decide, by decide, by decide⟩ rfl ⟨by decide, by decide⟩ (Nat.le_of_ble_eq_true rfl) ⟨Nat.zero_le _, Nat.zero_le _⟩ (dd dX10_bound_p1 4 rfl) (fun H locs hW => ?_)
                        refine rMin (pc := 111) M hl.1 (uw5 202 rfl rfl) (uw3 97 rfl rfl) (uw1 4 rfl rfl) (uw3 98 rfl rfl) ⟨by decide, by decide⟩ (Nat.le_of_ble_eq_true rfl) ⟨Nat.zero_le _, Nat.zero_le _⟩ (dd dX10_bound_p1 5 rfl) ?_
                        obtain ⟨v4_114, ev4_114, h⟩ := nm_ex h
                        refine rTopi (pc := 114) ev4_114 ?_
                        refine lv_istore (pc := 114) (lv' := [(4, .int v4_114), (0, .ref a_t), (1, .int v1), (2, .int v2), (3, .int v3), (5, .int v5), (6, .int v6)]) hx hb (dd dX10_bound_p1 6 rfl) hl (by decide) rfl (fun ls hl => ?_)
                        exact J116 _ _ _ _ _ h hW (lv_sub hl [1, 2, 3, 4, 0, 5, 6] rfl)
                · obtain ⟨v4_122, e9⟩ : ∃ z, z = ex := ⟨_, rfl⟩
                  subst e9
                  intro H locs ls hW hl
                  obtain ⟨v5_122, ev5_122, h⟩ := nm_ex h
                  refine lv_iinc (pc := 122) (v := v5_122) (lv' := [(5, .int v5_122), (0, .ref a_t), (1, .int v1), (2, .int v2), (3, .int v3), (4, .int v4_122)]) hx hb (dd dX10_bound_p1 9 rfl) hl (k := 5) rfl (by rw [ev5_122]; rfl) (by decide) rfl (fun ls hl => ?_)
                  refine lv_goto (pc := 125) (tgt := 58) hx hb (dd dX10_bound_p1 10 rfl) (by decide) ?_
                  obtain rfl := Option.some.inj h
                  exact hk _ _ _ hW (lv_sub hl [1, 2, 3, 4, 5, 0] rfl)
            · obtain ⟨v4_128, e9⟩ : ∃ z, z = ex := ⟨_, rfl⟩
              subst e9
              intro H locs ls hW hl
              refine lv_iload (pc := 128) hx hb (dd dX10_bound_p1 11 rfl) (lv_at hl 4 rfl) ?_
              refine lv_ldc (pc := 130) (v := 100000000) hx hb hown (hu _ (uw5 153 rfl rfl)) (dd dX10_bound_p1 12 rfl) ?_
              refine lv_icmp_ne (pc := 132) (tgt := 137) hx hb (dd dX10_bound_p1 13 rfl) (by decide) (fun hc => ?_) (fun hc => ?_)
              · have h := it_f hc h
                refine lv_iload_n (pc := 137) hx hb (dd dX10_bound_p1 16 rfl) rfl (lv_at hl 1 rfl) ?_
                refine lv_iload (pc := 138) hx hb (dd dX10_bound_p1 17 rfl) (lv_at hl 4 rfl) ?_
                refine lv_iadd (pc := 140) hx hb (dd dX10_bound_p1 18 rfl) ?_
                obtain ⟨v1_141, ev1_141, h⟩ := nm_ex h
                refine rTopi (pc := 141) ev1_141 ?_
                refine lv_istore_n (pc := 141) (lv' := [(1, .int v1_141), (0, .ref a_t), (2, .int v2), (3, .int v3), (4, .int v4_128)]) hx hb (dd dX10_bound_p1 19 rfl) rfl hl (by decide) rfl (fun ls hl => ?_)
                refine lv_iload_n (pc := 142) hx hb (dd dX10_bound_p1 20 rfl) rfl (lv_at hl 2 rfl) ?_
                refine lv_iload (pc := 143) hx hb (dd dX10_bound_p1 21 rfl) (lv_at hl 4 rfl) ?_
                refine rMax (pc := 145) M hl.1 (uw5 223 rfl rfl) (uw1 44 rfl rfl) (uw1 4 rfl rfl) (uw1 45 rfl rfl) ⟨by decide, by decide⟩ (Nat.le_of_ble_eq_true rfl) ⟨Nat.zero_le _, Nat.zero_le _⟩ (dd dX10_bound_p1 22 rfl) ?_
                obtain ⟨v2_148, ev2_148, h⟩ := nm_ex h
                refine rTopi (pc := 148) ev2_148 ?_
                refine lv_istore_n (pc := 148) (lv' := [(2, .int v2_148), (1, .int v1_141), (0, .ref a_t), (3, .int v3), (4, .int v4_128)]) hx hb (dd dX10_bound_p1 23 rfl) rfl hl (by decide) rfl (fun ls hl => ?_)
                obtain ⟨v3_149, ev3_149, h⟩ := nm_ex h
                refine lv_iinc (pc := 149) (v := v3_149) (lv' := [(3, .int v3_149), (2, .int v2_148), (1, .int v1_141), (0, .ref a_t), (4, .int v4_128)]) hx hb (dd dX10_bound_p1 24 rfl) hl (k := 3) rfl (by rw [ev3_149]; rfl) (by decide) rfl (fun ls hl => ?_)
                refine lv_goto (pc := 152) (tgt := 41) hx hb (dd dX10_bound_p1 25 rfl) (by decide) ?_
                obtain rfl := Option.some.inj h
                exact hk _ _ _ hW (lv_sub hl [3, 2, 1, 0] rfl)
              · have h := it_t hc h
                obtain rfl := Option.some.inj h
                exact hk _ _ _ hW (lv_sub hl [] rfl)
        · rcases ex with ⟨v1_155, v2_155⟩ | _
          · intro H locs ls hW hl
            have h := sE_l h
            have h := un2_at h
            refine lv_iload_n (pc := 155) hx hb (dd dX10_bound_p1 26 rfl) rfl (lv_at hl 0 rfl) ?_
            refine lv_iload_n (pc := 156) hx hb (dd dX10_bound_p1 27 rfl) rfl (lv_at hl 1 rfl) ?_
            refine lv_isub (pc := 157) hx hb (dd dX10_bound_p1 28 rfl) ?_
            have hW9 := hW
            cases h
            exact ret _ _ _ 158 hW9 rfl (dd dX10_bound_p1 29 rfl)
          · intro H locs ls hW hl
            have h := sE_r h
            refine lv_iconst (pc := 135) (v := (-1)) hx hb (dd dX10_bound_p1 14 rfl) (by decide) ?_
            have hW9 := hW
            cases h
            exact ret _ _ _ 136 hW9 rfl (dd dX10_bound_p1 15 rfl)
      · have h := it_f hc h
        refine lv_iconst (pc := 33) (v := 0) hx hb (dd dX10_bound_p0 17 rfl) (by decide) ?_
        have hW9 := hW
        cases h
        exact ret _ _ _ 34 hW9 rfl (dd dX10_bound_p0 18 rfl)
  refine lv_aload_n (pc := 0) hx hb (dd dX10_bound_p0 0 rfl) rfl (lv_at hl 0 rfl) ?_
  refine lv_iconst (pc := 1) (v := 0) hx hb (dd dX10_bound_p0 1 rfl) (by decide) ?_
  refine rPut (pc := 2) M hW 0 0 tyX10 tyX10_ok nmX10 iU10 rfl rfl (by decide) (uw4 213 rfl rfl) rfl rfl rfl (Nat.le_of_ble_eq_true rfl) (dd dX10_bound_p0 2 rfl) (ws' := (w_X10_bound g a_t a_turns a_cornerX a_cornerY a_corners a_what a_rowAt a_strip a_along a_rowSize a_endAt a_plan a_slantA a_slantB a_yields a_bears a_seen a_wagons a_pile a_far a_waiting a_isWaiting a_rest a_isUsed 0 c_isLaid c_head c_hasRows c_hasPlan c_rows c_slants c_capacity c_weight c_unload c_source c_bunker c_turns)) rfl (fun H locs hW => ?_)
  refine lv_aload_n (pc := 5) hx hb (dd dX10_bound_p0 3 rfl) rfl (lv_at hl 0 rfl) ?_
  refine lv_aload_n (pc := 6) hx hb (dd dX10_bound_p0 4 rfl) rfl (lv_at hl 0 rfl) ?_
  refine rGet (pc := 7) M hW 0 7 iU10 rfl rfl (by decide) (uw4 220 rfl rfl) rfl (dd dX10_bound_p0 5 rfl) ?_
  refine lv_if_ne (pc := 10) (tgt := 17) hx hb (dd dX10_bound_p0 6 rfl) (by decide) (fun hc => ?_) (fun hc => ?_)
  · have h := it_f hc h
    refine lv_iconst (pc := 17) (v := 0) hx hb (dd dX10_bound_p0 9 rfl) (by decide) ?_
    exact J18 _ _ _ _ _ h hW (lv_sub hl [0] rfl)
  · have h := it_t hc h
    refine lv_iconst (pc := 13) (v := 1) hx hb (dd dX10_bound_p0 7 rfl) (by decide) ?_
    refine lv_goto (pc := 14) (tgt := 18) hx hb (dd dX10_bound_p0 8 rfl) (by decide) ?_
    exact J18 _ _ _ _ _ h hW (lv_sub hl [0] rfl)
abbrev w_X10_plan (g : G9) (a_t a_plan a_cornerX a_cornerY a_corners a_what a_rowAt a_strip a_along a_rowSize a_endAt a_turns a_slantA a_slantB a_yields a_bears a_seen a_wagons a_pile a_far a_waiting a_isWaiting a_rest a_isUsed : Nat) (c_thrown c_isLaid c_head c_hasRows c_hasPlan c_rows c_slants c_capacity c_weight c_unload c_source c_bunker : Int32) (c_plan : Ar) : va_W := [ob a_t 10 [.int c_thrown, .ref a_cornerX, .ref a_cornerY, .ref a_corners, .ref a_what, .int c_isLaid, .int c_head, .int c_hasRows, .int c_hasPlan, .int c_rows, .ref a_rowAt, .ref a_strip, .ref a_along, .ref a_rowSize, .ref a_endAt, .ref a_turns, .ref a_plan, .ref a_slantA, .ref a_slantB, .int c_slants, .ref a_yields, .ref a_bears, .int c_capacity, .int c_weight, .int c_unload, .ref a_seen, .ref a_wagons, .ref a_pile, .ref a_far, .int c_source, .ref a_waiting, .ref a_isWaiting, .ref a_rest, .ref a_isUsed, .int c_bunker], ia g a_plan 60 c_plan]
noncomputable def X10_plan_b24 (c_thrown : Int32) : Option (Int32 × Int32) :=
  some ((-1), c_thrown)
noncomputable def X10_plan (c_thrown c_hasPlan c_rows : Int32) (c_plan : Ar) (v1 : Int32) : Option (Int32 × Int32) :=
  if c_hasPlan = 0 then (X10_plan_b24 0) else (if v1 < 0 then (X10_plan_b24 0) else (if v1 < c_rows then (ck (ix v1 60) <| some ((ag c_plan v1), 0)) else (X10_plan_b24 0)))
set_option maxHeartbeats 4000000 in
set_option maxRecDepth 100000 in
theorem t_X10_plan (l : Launch) (g : G9) (a_t a_plan a_cornerX a_cornerY a_corners a_what a_rowAt a_strip a_along a_rowSize a_endAt a_turns a_slantA a_slantB a_yields a_bears a_seen a_wagons a_pile a_far a_waiting a_isWaiting a_rest a_isUsed : Nat) (c_thrown c_isLaid c_head c_hasRows c_hasPlan c_rows c_slants c_capacity c_weight c_unload c_source c_bunker : Int32) (c_plan : Ar) (v1 r0 o_thrown : Int32) (h : X10_plan c_thrown c_hasPlan c_rows c_plan v1 = some (r0, o_thrown)) : CtI l g yX10_plan cX10_plan 2 .int 0 0 [.ref a_t, .int v1] (w_X10_plan g a_t a_plan a_cornerX a_cornerY a_corners a_what a_rowAt a_strip a_along a_rowSize a_endAt a_turns a_slantA a_slantB a_yields a_bears a_seen a_wagons a_pile a_far a_waiting a_isWaiting a_rest a_isUsed c_thrown c_isLaid c_head c_hasRows c_hasPlan c_rows c_slants c_capacity c_weight c_unload c_source c_bunker c_plan) r0 (w_X10_plan g a_t a_plan a_cornerX a_cornerY a_corners a_what a_rowAt a_strip a_along a_rowSize a_endAt a_turns a_slantA a_slantB a_yields a_bears a_seen a_wagons a_pile a_far a_waiting a_isWaiting a_rest a_isUsed o_thrown c_isLaid c_head c_hasRows c_hasPlan c_rows c_slants c_capacity c_weight c_unload c_source c_bunker c_plan) := by
  refine startI (by decide) (Nat.le_of_ble_eq_true rfl) ?_
  intro p e s m below meth c A Q ls args M hW hl ret
  have hx := M.1
  have hb := M.2.1
  have hown := M.2.2.2.1
  have hu := M.2.2.2.2.1
  have hl : lv_has ls 2 [(0, .ref a_t), (1, .int v1)] := hl
  unfold X10_plan at h
  obtain ⟨H, eH⟩ : ∃ z, z = s.heap := ⟨_, rfl⟩
  obtain ⟨locs, eL⟩ : ∃ z, z = ([] : List Loc) := ⟨_, rfl⟩
  rw [← eL] at hW ⊢
  suffices hS9 : WD g s A (w_X10_plan g a_t a_plan a_cornerX a_cornerY a_corners a_what a_rowAt a_strip a_along a_rowSize a_endAt a_turns a_slantA a_slantB a_yields a_bears a_seen a_wagons a_pile a_far a_waiting a_isWaiting a_rest a_isUsed c_thrown c_isLaid c_head c_hasRows c_hasPlan c_rows c_slants c_capacity c_weight c_unload c_source c_bunker c_plan) H locs → W p l e (rm9 0 0) s m args below meth c H locs 0 0 Q (F0 m 0 ls []) by
    rw [← eH] at hW ⊢
    exact hS9 hW
  clear hW eH eL
  intro hW
  have J24 : ∀ (c_thrown : Int32) (H : Heap) (locs : List Loc) (ls : Array Slot), X10_plan_b24 c_thrown = some (r0, o_thrown) → WD g s A (w_X10_plan g a_t a_plan a_cornerX a_cornerY a_corners a_what a_rowAt a_strip a_along a_rowSize a_endAt a_turns a_slantA a_slantB a_yields a_bears a_seen a_wagons a_pile a_far a_waiting a_isWaiting a_rest a_isUsed c_thrown c_isLaid c_head c_hasRows c_hasPlan c_rows c_slants c_capacity c_weight c_unload c_source c_bunker c_plan) H locs → lv_has ls 2 [] → W p l e (rm9 0 0) s m args below meth c H locs 0 0 Q (F0 m 24 ls []) := by
    intro c_thrown H locs ls h hW hl
    unfold X10_plan_b24 at h
    refine lv_iconst (pc := 24) (v := (-1)) hx hb (dd dX10_plan 12 rfl) (by decide) ?_
    refine lv_goto (pc := 25) (tgt := 34) hx hb (dd dX10_plan 13 rfl) (by decide) ?_
    have hW9 := hW
    cases h
    exact ret _ _ _ 34 hW9 rfl (dd dX10_plan 18 rfl)
  refine lv_aload_n (pc := 0) hx hb (dd dX10_plan 0 rfl) rfl (lv_at hl 0 rfl) ?_
  refine lv_iconst (pc := 1) (v := 0) hx hb (dd dX10_plan 1 rfl) (by decide) ?_
  refine rPut (pc := 2) M hW 0 0 tyX10 tyX10_ok nmX10 iU10 rfl rfl (by decide) (uw4 213 rfl rfl) rfl rfl rfl (Nat.le_of_ble_eq_true rfl) (dd dX10_plan 2 rfl) (ws' := (w_X10_plan g a_t a_plan a_cornerX a_cornerY a_corners a_what a_rowAt a_strip a_along a_rowSize a_endAt a_turns a_slantA a_slantB a_yields a_bears a_seen a_wagons a_pile a_far a_waiting a_isWaiting a_rest a_isUsed 0 c_isLaid c_head c_hasRows c_hasPlan c_rows c_slants c_capacity c_weight c_unload c_source c_bunker c_plan)) rfl (fun H locs hW => ?_)
  refine lv_aload_n (pc := 5) hx hb (dd dX10_plan 3 rfl) rfl (lv_at hl 0 rfl) ?_
  refine rGet (pc := 6) M hW 0 8 iU10 rfl rfl (by decide) (uw4 221 rfl rfl) rfl (dd dX10_plan 4 rfl) ?_
  refine lv_if_eq (pc := 9) (tgt := 24) hx hb (dd dX10_plan 5 rfl) (by decide) (fun hc => ?_) (fun hc => ?_)
  · have h := it_t hc h
    exact J24 _ _ _ _ h hW (lv_sub hl [] rfl)
  · have h := it_f hc h
    refine lv_iload_n (pc := 12) hx hb (dd dX10_plan 6 rfl) rfl (lv_at hl 1 rfl) ?_
    refine lv_if_lt (pc := 13) (tgt := 24) hx hb (dd dX10_plan 7 rfl) (by decide) (fun hc => ?_) (fun hc => ?_)
    · have h := it_t hc h
      exact J24 _ _ _ _ h hW (lv_sub hl [] rfl)
    · have h := it_f hc h
      refine lv_iload_n (pc := 16) hx hb (dd dX10_plan 8 rfl) rfl (lv_at hl 1 rfl) ?_
      refine lv_aload_n (pc := 17) hx hb (dd dX10_plan 9 rfl) rfl (lv_at hl 0 rfl) ?_
      refine rGet (pc := 18) M hW 0 9 iU10 rfl rfl (by decide) (uw4 222 rfl rfl) rfl (dd dX10_plan 10 rfl) ?_
      refine lv_icmp_lt (pc := 21) (tgt := 28) hx hb (dd dX10_plan 11 rfl) (by decide) (fun hc => ?_) (fun hc => ?_)
      · have h := it_t hc h
        refine lv_aload_n (pc := 28) hx hb (dd dX10_plan 14 rfl) rfl (lv_at hl 0 rfl) ?_
        refine rGet (pc := 29) M hW 0 16 iU10 rfl rfl (by decide) (uw4 229 rfl rfl) rfl (dd dX10_plan 15 rfl) ?_
        refine lv_iload_n (pc := 32) hx hb (dd dX10_plan 16 rfl) rfl (lv_at hl 1 rfl) ?_
        obtain ⟨hi, h⟩ := ck_ex h
        refine rIald (pc := 33) M hW 1 rfl hi (dd dX10_plan 17 rfl) ?_
        have hW9 := hW
        cases h
        exact ret _ _ _ 34 hW9 rfl (dd dX10_plan 18 rfl)
      · have h := it_f hc h
        exact J24 _ _ _ _ h hW (lv_sub hl [] rfl)
abbrev w_X10_swing (g : G9) (a_t a_plan a_turns a_cornerX a_cornerY a_corners a_what a_rowAt a_strip a_along a_rowSize a_endAt a_slantA a_slantB a_yields a_bears a_seen a_wagons a_pile a_far a_waiting a_isWaiting a_rest a_isUsed : Nat) (c_thrown c_isLaid c_head c_hasRows c_hasPlan c_rows c_slants c_capacity c_weight c_unload c_source c_bunker : Int32) (c_plan c_turns : Ar) : va_W := [ob a_t 10 [.int c_thrown, .ref a_cornerX, .ref a_cornerY, .ref a_corners, .ref a_what, .int c_isLaid, .int c_head, .int c_hasRows, .int c_hasPlan, .int c_rows, .ref a_rowAt, .ref a_strip, .ref a_along, .ref a_rowSize, .ref a_endAt, .ref a_turns, .ref a_plan, .ref a_slantA, .ref a_slantB, .int c_slants, .ref a_yields, .ref a_bears, .int c_capacity, .int c_weight, .int c_unload, .ref a_seen, .ref a_wagons, .ref a_pile, .ref a_far, .int c_source, .ref a_waiting, .ref a_isWaiting, .ref a_rest, .ref a_isUsed, .int c_bunker], ia g a_plan 60 c_plan, ia g a_turns 14400 c_turns]
noncomputable def X10_swing_b48 (c_thrown c_rows : Int32) (c_plan c_turns : Ar) (v1 v2 k1 : Int32) : Option (Int32 × Int32 × Ar) :=
  bnd (X10_throwsIf c_thrown k1 2) <| un2 fun r_49 c_thrown_49 => if r_49 = 0 then (bnd (X10_turnsRound c_plan v1 v2) <| fun c_plan_60 => bnd (X10_sumOf c_rows c_plan_60 c_turns) <| fun r_64 => some (r_64, c_thrown_49, c_plan_60)) else (some (0, c_thrown_49, c_plan))
noncomputable def X10_swing_b43 (c_thrown c_rows : Int32) (c_plan c_turns : Ar) (v1 v2 : Int32) : Option (Int32 × Int32 × Ar) :=
  X10_swing_b48 c_thrown c_rows c_plan c_turns v1 v2 1
noncomputable def X10_swing_b18 (c_thrown c_rows : Int32) (c_plan c_turns : Ar) (v1 v2 k1 : Int32) : Option (Int32 × Int32 × Ar) :=
  bnd (X10_throwsIf c_thrown k1 1) <| un2 fun r_19 c_thrown_19 => if r_19 = 0 then (if v1 < 0 then (X10_swing_b43 c_thrown_19 c_rows c_plan c_turns v1 v2) else (if v2 < v1 then (X10_swing_b43 c_thrown_19 c_rows c_plan c_turns v1 v2) else (if v2 < c_rows then (X10_swing_b48 c_thrown_19 c_rows c_plan c_turns v1 v2 0) else (X10_swing_b43 c_thrown_19 c_rows c_plan c_turns v1 v2)))) else (some (0, c_thrown_19, c_plan))
noncomputable def X10_swing (c_thrown c_hasPlan c_rows : Int32) (c_plan c_turns : Ar) (v1 v2 : Int32) : Option (Int32 × Int32 × Ar) :=
  if c_hasPlan = 0 then (X10_swing_b18 0 c_rows c_plan c_turns v1 v2 1) else (X10_swing_b18 0 c_rows c_plan c_turns v1 v2 0)
set_option maxHeartbeats 4000000 in
set_option maxRecDepth 100000 in
theorem t_X10_swing (l : Launch) (g : G9) (a_t a_plan a_turns a_cornerX a_cornerY a_corners a_what a_rowAt a_strip a_along a_rowSize a_endAt a_slantA a_slantB a_yields a_bears a_seen a_wagons a_pile a_far a_waiting a_isWaiting a_rest a_isUsed : Nat) (c_thrown c_isLaid c_head c_hasRows c_hasPlan c_rows c_slants c_capacity c_weight c_unload c_source c_bunker : Int32) (c_plan c_turns : Ar) (v1 v2 r0 o_thrown : Int32) (o_plan : Ar) (h : X10_swing c_thrown c_hasPlan c_rows c_plan c_turns v1 v2 = some (r0, o_thrown, o_plan)) : CtI l g yX10_swing cX10_swing 3 .int 2 45 [.ref a_t, .int v1, .int v2] (w_X10_swing g a_t a_plan a_turns a_cornerX a_cornerY a_corners a_what a_rowAt a_strip a_along a_rowSize a_endAt a_slantA a_slantB a_yields a_bears a_seen a_wagons a_pile a_far a_waiting a_isWaiting a_rest a_isUsed c_thrown c_isLaid c_head c_hasRows c_hasPlan c_rows c_slants c_capacity c_weight c_unload c_source c_bunker c_plan c_turns) r0 (w_X10_swing g a_t a_plan a_turns a_cornerX a_cornerY a_corners a_what a_rowAt a_strip a_along a_rowSize a_endAt a_slantA a_slantB a_yields a_bears a_seen a_wagons a_pile a_far a_waiting a_isWaiting a_rest a_isUsed o_thrown c_isLaid c_head c_hasRows c_hasPlan c_rows c_slants c_capacity c_weight c_unload c_source c_bunker o_plan c_turns) := by
  refine startI (by decide) (Nat.le_of_ble_eq_true rfl) ?_
  intro p e s m below meth c A Q ls args M hW hl ret
  have hx := M.1
  have hb := M.2.1
  have hown := M.2.2.2.1
  have hu := M.2.2.2.2.1
  have hl : lv_has ls 3 [(0, .ref a_t), (1, .int v1), (2, .int v2)] := hl
  unfold X10_swing at h
  obtain ⟨H, eH⟩ : ∃ z, z = s.heap := ⟨_, rfl⟩
  obtain ⟨locs, eL⟩ : ∃ z, z = ([] : List Loc) := ⟨_, rfl⟩
  rw [← eL] at hW ⊢
  suffices hS9 : WD g s A (w_X10_swing g a_t a_plan a_turns a_cornerX a_cornerY a_corners a_what a_rowAt a_strip a_along a_rowSize a_endAt a_slantA a_slantB a_yields a_bears a_seen a_wagons a_pile a_far a_waiting a_isWaiting a_rest a_isUsed c_thrown c_isLaid c_head c_hasRows c_hasPlan c_rows c_slants c_capacity c_weight c_unload c_source c_bunker c_plan c_turns) H locs → W p l e (rm9 2 45) s m args below meth c H locs 0 0 Q (F0 m 0 ls []) by
    rw [← eH] at hW ⊢
    exact hS9 hW
  clear hW eH eL
  intro hW
  have J48 : ∀ (c_thrown : Int32) (c_plan : Ar) (k1 : Int32) (H : Heap) (locs : List Loc) (ls : Array Slot), X10_swing_b48 c_thrown c_rows c_plan c_turns v1 v2 k1 = some (r0, o_thrown, o_plan) → WD g s A (w_X10_swing g a_t a_plan a_turns a_cornerX a_cornerY a_corners a_what a_rowAt a_strip a_along a_rowSize a_endAt a_slantA a_slantB a_yields a_bears a_seen a_wagons a_pile a_far a_waiting a_isWaiting a_rest a_isUsed c_thrown c_isLaid c_head c_hasRows c_hasPlan c_rows c_slants c_capacity c_weight c_unload c_source c_bunker c_plan c_turns) H locs → lv_has ls 3 [(0, .ref a_t), (1, .int v1), (2, .int v2)] → W p l e (rm9 2 45) s m args below meth c H locs 0 0 Q (F0 m 48 ls [.int k1, .ref a_t]) := by
    intro c_thrown c_plan k1 H locs ls h hW hl
    unfold X10_swing_b48 at h
    refine lv_iconst (pc := 48) (v := 2) hx hb (dd dX10_swing 26 rfl) (by decide) ?_
    obtain ⟨⟨r_49, c_thrown_49⟩, hr, h⟩ := bnd_ex h
    have h := un2_at h
    refine callVI (pc := 49) (na := 2) (As := [.int k1, .int 2]) (rest := []) (ws2 := (w_X10_swing g a_t a_plan a_turns a_cornerX a_cornerY a_corners a_what a_rowAt a_strip a_along a_rowSize a_endAt a_slantA a_slantB a_yields a_bears a_seen a_wagons a_pile a_far a_waiting a_isWaiting a_rest a_isUsed c_thrown_49 c_isLaid c_head c_hasRows c_hasPlan c_rows c_slants c_capacity c_weight c_unload c_source c_bunker c_plan c_turns)) M hl.1 hW (t_X10_throwsIf l g a_t a_cornerX a_cornerY a_corners a_what a_rowAt a_strip a_along a_rowSize a_endAt a_turns a_plan a_slantA a_slantB a_yields a_bears a_seen a_wagons a_pile a_far a_waiting a_isWaiting a_rest a_isUsed c_thrown c_isLaid c_head c_hasRows c_hasPlan c_rows c_slants c_capacity c_weight c_unload c_source c_bunker k1 2 r_49 c_thrown_49 hr) rfl [0] [1, 2] [2, 0, 1] rfl rfl rfl rfl rfl rfl rfl 0 10 rfl rfl rfl (uw5 86 rfl rfl) (uw5 83 rfl rfl) (uw5 85 rfl rfl) (uwp 41 rfl rfl) (uw1 13 rfl rfl) ⟨by decide, by decide, by decide⟩ rfl ⟨by decide, by decide⟩ (Nat.le_of_ble_eq_true rfl) ⟨Nat.zero_le _, Nat.zero_le _⟩ (dd dX10_swing 27 rfl) (fun H locs hW => ?_)
    refine lv_if_eq (pc := 52) (tgt := 57) hx hb (dd dX10_swing 28 rfl) (by decide) (fun hc => ?_) (fun hc => ?_)
    · have h := it_t hc h
      refine lv_aload_n (pc := 57) hx hb (dd dX10_swing 31 rfl) rfl (lv_at hl 0 rfl) ?_
      refine lv_iload_n (pc := 58) hx hb (dd dX10_swing 32 rfl) rfl (lv_at hl 1 rfl) ?_
      refine lv_iload_n (pc := 59) hx hb (dd dX10_swing 33 rfl) rfl (lv_at hl 2 rfl) ?_
      obtain ⟨c_plan_60, hr, h⟩ := bnd_ex h
      refine callVV (pc := 60) (na := 2) (As := [.int v1, .int v2]) (rest := []) (ws2 := (w_X10_swing g a_t a_plan a_turns a_cornerX a_cornerY a_corners a_what a_rowAt a_strip a_along a_rowSize a_endAt a_slantA a_slantB a_yields a_bears a_seen a_wagons a_pile a_far a_waiting a_isWaiting a_rest a_isUsed c_thrown_49 c_isLaid c_head c_hasRows c_hasPlan c_rows c_slants c_capacity c_weight c_unload c_source c_bunker c_plan_60 c_turns)) M hl.1 hW (t_X10_turnsRound l g a_t a_plan a_cornerX a_cornerY a_corners a_what a_rowAt a_strip a_along a_rowSize a_endAt a_turns a_slantA a_slantB a_yields a_bears a_seen a_wagons a_pile a_far a_waiting a_isWaiting a_rest a_isUsed c_thrown_49 c_isLaid c_head c_hasRows c_hasPlan c_rows c_slants c_capacity c_weight c_unload c_source c_bunker c_plan v1 v2 c_plan_60 hr) rfl [0, 1] [2] [1, 2, 0] rfl rfl rfl rfl rfl rfl rfl 0 10 rfl rfl rfl (uw5 218 rfl rfl) (uw5 215 rfl rfl) (uw5 217 rfl rfl) (uwp 61 rfl rfl) (uw1 13 rfl rfl) ⟨by decide, by decide, by decide⟩ rfl ⟨by decide, by decide⟩ (Nat.le_of_ble_eq_true rfl) ⟨Nat.zero_le _, Nat.zero_le _⟩ (dd dX10_swing 34 rfl) (fun H locs hW => ?_)
      refine lv_aload_n (pc := 63) hx hb (dd dX10_swing 35 rfl) rfl (lv_at hl 0 rfl) ?_
      obtain ⟨r_64, hr, h⟩ := bnd_ex h
      refine callVI (pc := 64) (na := 0) (As := []) (rest := []) (ws2 := (w_X10_swing g a_t a_plan a_turns a_cornerX a_cornerY a_corners a_what a_rowAt a_strip a_along a_rowSize a_endAt a_slantA a_slantB a_yields a_bears a_seen a_wagons a_pile a_far a_waiting a_isWaiting a_rest a_isUsed c_thrown_49 c_isLaid c_head c_hasRows c_hasPlan c_rows c_slants c_capacity c_weight c_unload c_source c_bunker c_plan_60 c_turns)) M hl.1 hW (t_X10_sumOf l g a_t a_plan a_turns a_cornerX a_cornerY a_corners a_what a_rowAt a_strip a_along a_rowSize a_endAt a_slantA a_slantB a_yields a_bears a_seen a_wagons a_pile a_far a_waiting a_isWaiting a_rest a_isUsed c_thrown_49 c_isLaid c_head c_hasRows c_hasPlan c_rows c_slants c_capacity c_weight c_unload c_source c_bunker c_plan_60 c_turns r_64 hr) rfl [0, 1, 2] [] [0, 1, 2] rfl rfl rfl rfl rfl rfl rfl 0 10 rfl rfl rfl (uw5 210 rfl rfl) (uw5 207 rfl rfl) (uw5 209 rfl rfl) (uwp 59 rfl rfl) (uw1 13 rfl rfl) ⟨by decide, by decide, by decide⟩ rfl ⟨by decide, by decide⟩ (Nat.le_of_ble_eq_true rfl) ⟨Nat.zero_le _, Nat.zero_le _⟩ (dd dX10_swing 36 rfl) (fun H locs hW => ?_)
      have hW9 := hW
      cases h
      exact ret _ _ _ 67 hW9 rfl (dd dX10_swing 37 rfl)
    · have h := it_f hc h
      refine lv_iconst (pc := 55) (v := 0) hx hb (dd dX10_swing 29 rfl) (by decide) ?_
      have hW9 := hW
      cases h
      exact ret _ _ _ 56 hW9 rfl (dd dX10_swing 30 rfl)
  have J43 : ∀ (c_thrown : Int32) (c_plan : Ar) (H : Heap) (locs : List Loc) (ls : Array Slot), X10_swing_b43 c_thrown c_rows c_plan c_turns v1 v2 = some (r0, o_thrown, o_plan) → WD g s A (w_X10_swing g a_t a_plan a_turns a_cornerX a_cornerY a_corners a_what a_rowAt a_strip a_along a_rowSize a_endAt a_slantA a_slantB a_yields a_bears a_seen a_wagons a_pile a_far a_waiting a_isWaiting a_rest a_isUsed c_thrown c_isLaid c_head c_hasRows c_hasPlan c_rows c_slants c_capacity c_weight c_unload c_source c_bunker c_plan c_turns) H locs → lv_has ls 3 [(0, .ref a_t), (1, .int v1), (2, .int v2)] → W p l e (rm9 2 45) s m args below meth c H locs 0 0 Q (F0 m 43 ls [.ref a_t]) := by
    intro c_thrown c_plan H locs ls h hW hl
    unfold X10_swing_b43 at h
    refine lv_iconst (pc := 43) (v := 1) hx hb (dd dX10_swing 23 rfl) (by decide) ?_
    refine lv_goto (pc := 44) (tgt := 48) hx hb (dd dX10_swing 24 rfl) (by decide) ?_
    exact J48 _ _ _ _ _ _ h hW (lv_sub hl [0, 1, 2] rfl)
  have J18 : ∀ (c_thrown : Int32) (c_plan : Ar) (k1 : Int32) (H : Heap) (locs : List Loc) (ls : Array Slot), X10_swing_b18 c_thrown c_rows c_plan c_turns v1 v2 k1 = some (r0, o_thrown, o_plan) → WD g s A (w_X10_swing g a_t a_plan a_turns a_cornerX a_cornerY a_corners a_what a_rowAt a_strip a_along a_rowSize a_endAt a_slantA a_slantB a_yields a_bears a_seen a_wagons a_pile a_far a_waiting a_isWaiting a_rest a_isUsed c_thrown c_isLaid c_head c_hasRows c_hasPlan c_rows c_slants c_capacity c_weight c_unload c_source c_bunker c_plan c_turns) H locs → lv_has ls 3 [(0, .ref a_t), (1, .int v1), (2, .int v2)] → W p l e (rm9 2 45) s m args below meth c H locs 0 0 Q (F0 m 18 ls [.int k1, .ref a_t]) := by
    intro c_thrown c_plan k1 H locs ls h hW hl
    unfold X10_swing_b18 at h
    refine lv_iconst (pc := 18) (v := 1) hx hb (dd dX10_swing 10 rfl) (by decide) ?_
    obtain ⟨⟨r_19, c_thrown_19⟩, hr, h⟩ := bnd_ex h
    have h := un2_at h
    refine callVI (pc := 19) (na := 2) (As := [.int k1, .int 1]) (rest := []) (ws2 := (w_X10_swing g a_t a_plan a_turns a_cornerX a_cornerY a_corners a_what a_rowAt a_strip a_along a_rowSize a_endAt a_slantA a_slantB a_yields a_bears a_seen a_wagons a_pile a_far a_waiting a_isWaiting a_rest a_isUsed c_thrown_19 c_isLaid c_head c_hasRows c_hasPlan c_rows c_slants c_capacity c_weight c_unload c_source c_bunker c_plan c_turns)) M hl.1 hW (t_X10_throwsIf l g a_t a_cornerX a_cornerY a_corners a_what a_rowAt a_strip a_along a_rowSize a_endAt a_turns a_plan a_slantA a_slantB a_yields a_bears a_seen a_wagons a_pile a_far a_waiting a_isWaiting a_rest a_isUsed c_thrown c_isLaid c_head c_hasRows c_hasPlan c_rows c_slants c_capacity c_weight c_unload c_source c_bunker k1 1 r_19 c_thrown_19 hr) rfl [0] [1, 2] [2, 0, 1] rfl rfl rfl rfl rfl rfl rfl 0 10 rfl rfl rfl (uw5 86 rfl rfl) (uw5 83 rfl rfl) (uw5 85 rfl rfl) (uwp 41 rfl rfl) (uw1 13 rfl rfl) ⟨by decide, by decide, by decide⟩ rfl ⟨by decide, by decide⟩ (Nat.le_of_ble_eq_true rfl) ⟨Nat.zero_le _, Nat.zero_le _⟩ (dd dX10_swing 11 rfl) (fun H locs hW => ?_)
    refine lv_if_ne (pc := 22) (tgt := 55) hx hb (dd dX10_swing 12 rfl) (by decide) (fun hc => ?_) (fun hc => ?_)
    · have h := it_f hc h
      refine lv_iconst (pc := 55) (v := 0) hx hb (dd dX10_swing 29 rfl) (by decide) ?_
      have hW9 := hW
      cases h
      exact ret _ _ _ 56 hW9 rfl (dd dX10_swing 30 rfl)
    · have h := it_t hc h
      refine lv_aload_n (pc := 25) hx hb (dd dX10_swing 13 rfl) rfl (lv_at hl 0 rfl) ?_
      refine lv_iload_n (pc := 26) hx hb (dd dX10_swing 14 rfl) rfl (lv_at hl 1 rfl) ?_
      refine lv_if_lt (pc := 27) (tgt := 43) hx hb (dd dX10_swing 15 rfl) (by decide) (fun hc => ?_) (fun hc => ?_)
      · have h := it_t hc h
        exact J43 _ _ _ _ _ h hW (lv_sub hl [0, 1, 2] rfl)
      · have h := it_f hc h
        refine lv_iload_n (pc := 30) hx hb (dd dX10_swing 16 rfl) rfl (lv_at hl 2 rfl) ?_
        refine lv_iload_n (pc := 31) hx hb (dd dX10_swing 17 rfl) rfl (lv_at hl 1 rfl) ?_
        refine lv_icmp_lt (pc := 32) (tgt := 43) hx hb (dd dX10_swing 18 rfl) (by decide) (fun hc => ?_) (fun hc => ?_)
        · have h := it_t hc h
          exact J43 _ _ _ _ _ h hW (lv_sub hl [0, 1, 2] rfl)
        · have h := it_f hc h
          refine lv_iload_n (pc := 35) hx hb (dd dX10_swing 19 rfl) rfl (lv_at hl 2 rfl) ?_
          refine lv_aload_n (pc := 36) hx hb (dd dX10_swing 20 rfl) rfl (lv_at hl 0 rfl) ?_
          refine rGet (pc := 37) M hW 0 9 iU10 rfl rfl (by decide) (uw4 222 rfl rfl) rfl (dd dX10_swing 21 rfl) ?_
          refine lv_icmp_lt (pc := 40) (tgt := 47) hx hb (dd dX10_swing 22 rfl) (by decide) (fun hc => ?_) (fun hc => ?_)
          · have h := it_t hc h
            refine lv_iconst (pc := 47) (v := 0) hx hb (dd dX10_swing 25 rfl) (by decide) ?_
            exact J48 _ _ _ _ _ _ h hW (lv_sub hl [0, 1, 2] rfl)
          · have h := it_f hc h
            exact J43 _ _ _ _ _ h hW (lv_sub hl [0, 1, 2] rfl)
  refine lv_aload_n (pc := 0) hx hb (dd dX10_swing 0 rfl) rfl (lv_at hl 0 rfl) ?_
  refine lv_iconst (pc := 1) (v := 0) hx hb (dd dX10_swing 1 rfl) (by decide) ?_
  refine rPut (pc := 2) M hW 0 0 tyX10 tyX10_ok nmX10 iU10 rfl rfl (by decide) (uw4 213 rfl rfl) rfl rfl rfl (Nat.le_of_ble_eq_true rfl) (dd dX10_swing 2 rfl) (ws' := (w_X10_swing g a_t a_plan a_turns a_cornerX a_cornerY a_corners a_what a_rowAt a_strip a_along a_rowSize a_endAt a_slantA a_slantB a_yields a_bears a_seen a_wagons a_pile a_far a_waiting a_isWaiting a_rest a_isUsed 0 c_isLaid c_head c_hasRows c_hasPlan c_rows c_slants c_capacity c_weight c_unload c_source c_bunker c_plan c_turns)) rfl (fun H locs hW => ?_)
  refine lv_aload_n (pc := 5) hx hb (dd dX10_swing 3 rfl) rfl (lv_at hl 0 rfl) ?_
  refine lv_aload_n (pc := 6) hx hb (dd dX10_swing 4 rfl) rfl (lv_at hl 0 rfl) ?_
  refine rGet (pc := 7) M hW 0 8 iU10 rfl rfl (by decide) (uw4 221 rfl rfl) rfl (dd dX10_swing 5 rfl) ?_
  refine lv_if_ne (pc := 10) (tgt := 17) hx hb (dd dX10_swing 6 rfl) (by decide) (fun hc => ?_) (fun hc => ?_)
  · have h := it_f hc h
    refine lv_iconst (pc := 17) (v := 0) hx hb (dd dX10_swing 9 rfl) (by decide) ?_
    exact J18 _ _ _ _ _ _ h hW (lv_sub hl [0, 1, 2] rfl)
  · have h := it_t hc h
    refine lv_iconst (pc := 13) (v := 1) hx hb (dd dX10_swing 7 rfl) (by decide) ?_
    refine lv_goto (pc := 14) (tgt := 18) hx hb (dd dX10_swing 8 rfl) (by decide) ?_
    exact J18 _ _ _ _ _ _ h hW (lv_sub hl [0, 1, 2] rfl)
abbrev w_X10_choose (g : G9) (a_t a_along a_endAt a_far a_isUsed a_isWaiting a_pile a_plan a_rest a_rowAt a_rowSize a_slantA a_slantB a_strip a_turns a_waiting a_what a_cornerX a_cornerY a_corners a_yields a_bears a_seen a_wagons : Nat) (c_thrown c_isLaid c_head c_hasRows c_hasPlan c_rows c_slants c_capacity c_weight c_unload c_source c_bunker : Int32) (c_along c_endAt c_far c_isUsed c_isWaiting c_pile c_plan c_rest c_rowAt c_rowSize c_slantA c_slantB c_strip c_turns c_waiting c_what : Ar) : va_W := [ob a_t 10 [.int c_thrown, .ref a_cornerX, .ref a_cornerY, .ref a_corners, .ref a_what, .int c_isLaid, .int c_head, .int c_hasRows, .int c_hasPlan, .int c_rows, .ref a_rowAt, .ref a_strip, .ref a_along, .ref a_rowSize, .ref a_endAt, .ref a_turns, .ref a_plan, .ref a_slantA, .ref a_slantB, .int c_slants, .ref a_yields, .ref a_bears, .int c_capacity, .int c_weight, .int c_unload, .ref a_seen, .ref a_wagons, .ref a_pile, .ref a_far, .int c_source, .ref a_waiting, .ref a_isWaiting, .ref a_rest, .ref a_isUsed, .int c_bunker], ia g a_along 1200 c_along, ia g a_endAt 122 c_endAt, ia g a_far 1200 c_far, za g a_isUsed 60 c_isUsed, za g a_isWaiting 1200 c_isWaiting, ia g a_pile 1200 c_pile, ia g a_plan 60 c_plan, ia g a_rest 9216 c_rest, ia g a_rowAt 1200 c_rowAt, ia g a_rowSize 61 c_rowSize, ia g a_slantA 5 c_slantA, ia g a_slantB 5 c_slantB, ia g a_strip 1200 c_strip, ia g a_turns 14400 c_turns, ia g a_waiting 1200 c_waiting, ia g a_what 1200 c_what]
noncomputable def X10_choose_b54_119 (c_hasRows c_hasPlan c_rows c_source : Int32) (c_along c_endAt c_far c_isUsed c_isWaiting c_pile c_plan c_rest c_rowAt c_rowSize c_strip c_turns c_waiting : Ar) (v1 v2 v3 v4 : Int32) : Option ((Int32 × Int32 × Int32 × Int32 × Ar × Ar × Ar × Ar × Ar × Ar × Ar × Ar × Ar × Ar × Ar × Ar × Ar × Int32 × Int32 × Int32) ⊕ (Int32 × Int32 × Int32 × Int32 × Ar × Ar × Ar × Ar × Ar × Ar × Ar × Ar × Ar × Ar × Ar × Ar × Ar × Int32)) :=
  nm (v4 + 1) fun v4_119 => some (.inl (c_hasRows, c_hasPlan, c_rows, c_source, c_along, c_endAt, c_far, c_isUsed, c_isWaiting, c_pile, c_plan, c_rest, c_rowAt, c_rowSize, c_strip, c_turns, c_waiting, v2, v3, v4_119))
noncomputable def X10_choose_b54_113 (c_hasRows c_hasPlan c_rows c_source : Int32) (c_along c_endAt c_far c_isUsed c_isWaiting c_pile c_plan c_rest c_rowAt c_rowSize c_strip c_turns c_waiting : Ar) (v1 v4 v5 : Int32) : Option ((Int32 × Int32 × Int32 × Int32 × Ar × Ar × Ar × Ar × Ar × Ar × Ar × Ar × Ar × Ar × Ar × Ar × Ar × Int32 × Int32 × Int32) ⊕ (Int32 × Int32 × Int32 × Int32 × Ar × Ar × Ar × Ar × Ar × Ar × Ar × Ar × Ar × Ar × Ar × Ar × Ar × Int32)) :=
  X10_choose_b54_119 c_hasRows c_hasPlan c_rows c_source c_along c_endAt c_far c_isUsed c_isWaiting c_pile c_plan c_rest c_rowAt c_rowSize c_strip c_turns c_waiting v1 v4 v5 v4
noncomputable def X10_choose_b54_93 (c_hasRows c_hasPlan c_rows c_source : Int32) (c_along c_endAt c_far c_isUsed c_isWaiting c_pile c_plan c_rest c_rowAt c_rowSize c_strip c_turns c_waiting : Ar) (v1 v2 v3 v4 k0 : Int32) : Option ((Int32 × Int32 × Int32 × Int32 × Ar × Ar × Ar × Ar × Ar × Ar × Ar × Ar × Ar × Ar × Ar × Ar × Ar × Int32 × Int32 × Int32) ⊕ (Int32 × Int32 × Int32 × Int32 × Ar × Ar × Ar × Ar × Ar × Ar × Ar × Ar × Ar × Ar × Ar × Ar × Ar × Int32)) :=
  if k0 < 0 then (X10_choose_b54_119 c_hasRows c_hasPlan c_rows c_source c_along c_endAt c_far c_isUsed c_isWaiting c_pile c_plan c_rest c_rowAt c_rowSize c_strip c_turns c_waiting v1 v2 v3 v4) else (if v2 < 0 then (X10_choose_b54_113 c_hasRows c_hasPlan c_rows c_source c_along c_endAt c_far c_isUsed c_isWaiting c_pile c_plan c_rest c_rowAt c_rowSize c_strip c_turns c_waiting v1 v4 k0) else (if k0 < v3 then (X10_choose_b54_113 c_hasRows c_hasPlan c_rows c_source c_along c_endAt c_far c_isUsed c_isWaiting c_pile c_plan c_rest c_rowAt c_rowSize c_strip c_turns c_waiting v1 v4 k0) else (X10_choose_b54_119 c_hasRows c_hasPlan c_rows c_source c_along c_endAt c_far c_isUsed c_isWaiting c_pile c_plan c_rest c_rowAt c_rowSize c_strip c_turns c_waiting v1 v2 v3 v4)))
noncomputable def X10_choose_L54 (c_slants : Int32) (c_slantA c_slantB c_what : Ar) (v1 c_hasRows c_hasPlan c_rows c_source : Int32) (c_along c_endAt c_far c_isUsed c_isWaiting c_pile c_plan c_rest c_rowAt c_rowSize c_strip c_turns c_waiting : Ar) (v2 v3 v4 : Int32) : Option ((Int32 × Int32 × Int32 × Int32 × Ar × Ar × Ar × Ar × Ar × Ar × Ar × Ar × Ar × Ar × Ar × Ar × Ar × Int32 × Int32 × Int32) ⊕ (Int32 × Int32 × Int32 × Int32 × Ar × Ar × Ar × Ar × Ar × Ar × Ar × Ar × Ar × Ar × Ar × Ar × Ar × Int32)) :=
  if c_slants ≤ v4 then (some (.inr (c_hasRows, c_hasPlan, c_rows, c_source, c_along, c_endAt, c_far, c_isUsed, c_isWaiting, c_pile, c_plan, c_rest, c_rowAt, c_rowSize, c_strip, c_turns, c_waiting, v2))) else (ck (ix v4 5) <| ck (ix v4 5) <| bnd (X10_makes c_hasRows c_hasPlan c_rows c_source c_along c_endAt c_far c_isWaiting c_pile c_rowAt c_rowSize c_strip c_turns c_waiting c_what (ag c_slantA v4) (ag c_slantB v4) v1) <| un15 fun r_79 c_hasRows_79 c_hasPlan_79 c_rows_79 c_source_79 c_along_79 c_endAt_79 c_far_79 c_isWaiting_79 c_pile_79 c_rowAt_79 c_rowSize_79 c_strip_79 c_turns_79 c_waiting_79 => if r_79 = 0 then (X10_choose_b54_93 c_hasRows_79 c_hasPlan_79 c_rows_79 c_source_79 c_along_79 c_endAt_79 c_far_79 c_isUsed c_isWaiting_79 c_pile_79 c_plan c_rest c_rowAt_79 c_rowSize_79 c_strip_79 c_turns_79 c_waiting_79 v1 v2 v3 v4 (-1)) else (bnd (X10_bestOf c_hasPlan_79 c_rows_79 c_isUsed c_plan c_rest c_turns_79) <| un5 fun r_86 c_hasPlan_86 c_isUsed_86 c_plan_86 c_rest_86 => X10_choose_b54_93 c_hasRows_79 c_hasPlan_86 c_rows_79 c_source_79 c_along_79 c_endAt_79 c_far_79 c_isUsed_86 c_isWaiting_79 c_pile_79 c_plan_86 c_rest_86 c_rowAt_79 c_rowSize_79 c_strip_79 c_turns_79 c_waiting_79 v1 v2 v3 v4 r_86))
noncomputable def X10_choose_b38 (c_thrown c_hasRows c_hasPlan c_rows c_slants c_source : Int32) (c_along c_endAt c_far c_isUsed c_isWaiting c_pile c_plan c_rest c_rowAt c_rowSize c_slantA c_slantB c_strip c_turns c_waiting c_what : Ar) (v1 k1 : Int32) : Option (Int32 × Int32 × Int32 × Int32 × Int32 × Int32 × Ar × Ar × Ar × Ar × Ar × Ar × Ar × Ar × Ar × Ar × Ar × Ar × Ar) :=
  bnd (X10_throwsIf c_thrown k1 2) <| un2 fun r_39 c_thrown_39 => if r_39 = 0 then (bnd (whileV (fun st => X10_choose_L54 c_slants c_slantA c_slantB c_what v1 st.1 st.2.1 st.2.2.1 st.2.2.2.1 st.2.2.2.2.1 st.2.2.2.2.2.1 st.2.2.2.2.2.2.1 st.2.2.2.2.2.2.2.1 st.2.2.2.2.2.2.2.2.1 st.2.2.2.2.2.2.2.2.2.1 st.2.2.2.2.2.2.2.2.2.2.1 st.2.2.2.2.2.2.2.2.2.2.2.1 st.2.2.2.2.2.2.2.2.2.2.2.2.1 st.2.2.2.2.2.2.2.2.2.2.2.2.2.1 st.2.2.2.2.2.2.2.2.2.2.2.2.2.2.1 st.2.2.2.2.2.2.2.2.2.2.2.2.2.2.2.1 st.2.2.2.2.2.2.2.2.2.2.2.2.2.2.2.2.1 st.2.2.2.2.2.2.2.2.2.2.2.2.2.2.2.2.2.1 st.2.2.2.2.2.2.2.2.2.2.2.2.2.2.2.2.2.2.1 st.2.2.2.2.2.2.2.2.2.2.2.2.2.2.2.2.2.2.2) (c_hasRows, c_hasPlan, c_rows, c_source, c_along, c_endAt, c_far, c_isUsed, c_isWaiting, c_pile, c_plan, c_rest, c_rowAt, c_rowSize, c_strip, c_turns, c_waiting, (-1), 0, 0)) <| (un18 fun c_hasRows_125 c_hasPlan_125 c_rows_125 c_source_125 c_along_125 c_endAt_125 c_far_125 c_isUsed_125 c_isWaiting_125 c_pile_125 c_plan_125 c_rest_125 c_rowAt_125 c_rowSize_125 c_strip_125 c_turns_125 c_waiting_125 v2_125 => if v2_125 < 0 then (some (v2_125, c_thrown_39, 0, 0, c_rows_125, c_source_125, c_along_125, c_endAt_125, c_far_125, c_isUsed_125, c_isWaiting_125, c_pile_125, c_plan_125, c_rest_125, c_rowAt_125, c_rowSize_125, c_strip_125, c_turns_125, c_waiting_125)) else (ck (ix v2_125 5) <| ck (ix v2_125 5) <| bnd (X10_makes 0 0 c_rows_125 c_source_125 c_along_125 c_endAt_125 c_far_125 c_isWaiting_125 c_pile_125 c_rowAt_125 c_rowSize_125 c_strip_125 c_turns_125 c_waiting_125 c_what (ag c_slantA v2_125) (ag c_slantB v2_125) v1) <| un15 fun r_153 c_hasRows_153 c_hasPlan_153 c_rows_153 c_source_153 c_along_153 c_endAt_153 c_far_153 c_isWaiting_153 c_pile_153 c_rowAt_153 c_rowSize_153 c_strip_153 c_turns_153 c_waiting_153 => if r_153 = 0 then (some (v2_125, c_thrown_39, c_hasRows_153, c_hasPlan_153, c_rows_153, c_source_153, c_along_153, c_endAt_153, c_far_153, c_isUsed_125, c_isWaiting_153, c_pile_153, c_plan_125, c_rest_125, c_rowAt_153, c_rowSize_153, c_strip_153, c_turns_153, c_waiting_153)) else (bnd (X10_bestOf c_hasPlan_153 c_rows_153 c_isUsed_125 c_plan_125 c_rest_125 c_turns_153) <| un5 fun r_160 c_hasPlan_160 c_isUsed_160 c_plan_160 c_rest_160 => some (v2_125, c_thrown_39, c_hasRows_153, c_hasPlan_160, c_rows_153, c_source_153, c_along_153, c_endAt_153, c_far_153, c_isUsed_160, c_isWaiting_153, c_pile_153, c_plan_160, c_rest_160, c_rowAt_153, c_rowSize_153, c_strip_153, c_turns_153, c_waiting_153))))) else (some (0, c_thrown_39, c_hasRows, c_hasPlan, c_rows, c_source, c_along, c_endAt, c_far, c_isUsed, c_isWaiting, c_pile, c_plan, c_rest, c_rowAt, c_rowSize, c_strip, c_turns, c_waiting))
noncomputable def X10_choose_b18 (c_thrown c_hasRows c_hasPlan c_rows c_slants c_source : Int32) (c_along c_endAt c_far c_isUsed c_isWaiting c_pile c_plan c_rest c_rowAt c_rowSize c_slantA c_slantB c_strip c_turns c_waiting c_what : Ar) (v1 k1 : Int32) : Option (Int32 × Int32 × Int32 × Int32 × Int32 × Int32 × Ar × Ar × Ar × Ar × Ar × Ar × Ar × Ar × Ar × Ar × Ar × Ar × Ar) :=
  bnd (X10_throwsIf c_thrown k1 1) <| un2 fun r_19 c_thrown_19 => if r_19 = 0 then (bnd (X10_isWidth v1) <| fun r_27 => if r_27 = 0 then (X10_choose_b38 c_thrown_19 c_hasRows c_hasPlan c_rows c_slants c_source c_along c_endAt c_far c_isUsed c_isWaiting c_pile c_plan c_rest c_rowAt c_rowSize c_slantA c_slantB c_strip c_turns c_waiting c_what v1 1) else (X10_choose_b38 c_thrown_19 c_hasRows c_hasPlan c_rows c_slants c_source c_along c_endAt c_far c_isUsed c_isWaiting c_pile c_plan c_rest c_rowAt c_rowSize c_slantA c_slantB c_strip c_turns c_waiting c_what v1 0)) else (some (0, c_thrown_19, c_hasRows, c_hasPlan, c_rows, c_source, c_along, c_endAt, c_far, c_isUsed, c_isWaiting, c_pile, c_plan, c_rest, c_rowAt, c_rowSize, c_strip, c_turns, c_waiting))
noncomputable def X10_choose (c_thrown c_isLaid c_hasRows c_hasPlan c_rows c_slants c_source : Int32) (c_along c_endAt c_far c_isUsed c_isWaiting c_pile c_plan c_rest c_rowAt c_rowSize c_slantA c_slantB c_strip c_turns c_waiting c_what : Ar) (v1 : Int32) : Option (Int32 × Int32 × Int32 × Int32 × Int32 × Int32 × Ar × Ar × Ar × Ar × Ar × Ar × Ar × Ar × Ar × Ar × Ar × Ar × Ar) :=
  if c_isLaid = 0 then (X10_choose_b18 0 c_hasRows c_hasPlan c_rows c_slants c_source c_along c_endAt c_far c_isUsed c_isWaiting c_pile c_plan c_rest c_rowAt c_rowSize c_slantA c_slantB c_strip c_turns c_waiting c_what v1 1) else (X10_choose_b18 0 c_hasRows c_hasPlan c_rows c_slants c_source c_along c_endAt c_far c_isUsed c_isWaiting c_pile c_plan c_rest c_rowAt c_rowSize c_slantA c_slantB c_strip c_turns c_waiting c_what v1 0)
set_option maxHeartbeats 4000000 in
set_option maxRecDepth 100000 in
theorem t_X10_choose (l : Launch) (g : G9) (a_t a_along a_endAt a_far a_isUsed a_isWaiting a_pile a_plan a_rest a_rowAt a_rowSize a_slantA a_slantB a_strip a_turns a_waiting a_what a_cornerX a_cornerY a_corners a_yields a_bears a_seen a_wagons : Nat) (c_thrown c_isLaid c_head c_hasRows c_hasPlan c_rows c_slants c_capacity c_weight c_unload c_source c_bunker : Int32) (c_along c_endAt c_far c_isUsed c_isWaiting c_pile c_plan c_rest c_rowAt c_rowSize c_slantA c_slantB c_strip c_turns c_waiting c_what : Ar) (v1 r0 o_thrown o_hasRows o_hasPlan o_rows o_source : Int32) (o_along o_endAt o_far o_isUsed o_isWaiting o_pile o_plan o_rest o_rowAt o_rowSize o_strip o_turns o_waiting : Ar) (h : X10_choose c_thrown c_isLaid c_hasRows c_hasPlan c_rows c_slants c_source c_along c_endAt c_far c_isUsed c_isWaiting c_pile c_plan c_rest c_rowAt c_rowSize c_slantA c_slantB c_strip c_turns c_waiting c_what v1 = some (r0, o_thrown, o_hasRows, o_hasPlan, o_rows, o_source, o_along, o_endAt, o_far, o_isUsed, o_isWaiting, o_pile, o_plan, o_rest, o_rowAt, o_rowSize, o_strip, o_turns, o_waiting)) : CtI l g yX10_choose cX10_choose 6 .int 4 97 [.ref a_t, .int v1] (w_X10_choose g a_t a_along a_endAt a_far a_isUsed a_isWaiting a_pile a_plan a_rest a_rowAt a_rowSize a_slantA a_slantB a_strip a_turns a_waiting a_what a_cornerX a_cornerY a_corners a_yields a_bears a_seen a_wagons c_thrown c_isLaid c_head c_hasRows c_hasPlan c_rows c_slants c_capacity c_weight c_unload c_source c_bunker c_along c_endAt c_far c_isUsed c_isWaiting c_pile c_plan c_rest c_rowAt c_rowSize c_slantA c_slantB c_strip c_turns c_waiting c_what) r0 (w_X10_choose g a_t a_along a_endAt a_far a_isUsed a_isWaiting a_pile a_plan a_rest a_rowAt a_rowSize a_slantA a_slantB a_strip a_turns a_waiting a_what a_cornerX a_cornerY a_corners a_yields a_bears a_seen a_wagons o_thrown c_isLaid c_head o_hasRows o_hasPlan o_rows c_slants c_capacity c_weight c_unload o_source c_bunker o_along o_endAt o_far o_isUsed o_isWaiting o_pile o_plan o_rest o_rowAt o_rowSize c_slantA c_slantB o_strip o_turns o_waiting c_what) := by
  refine startI (by decide) (Nat.le_of_ble_eq_true rfl) ?_
  intro p e s m below meth c A Q ls args M hW hl ret
  have hx := M.1
  have hb := M.2.1
  have hown := M.2.2.2.1
  have hu := M.2.2.2.2.1
  have hl : lv_has ls 6 [(0, .ref a_t), (1, .int v1)] := hl
  unfold X10_choose at h
  obtain ⟨H, eH⟩ : ∃ z, z = s.heap := ⟨_, rfl⟩
  obtain ⟨locs, eL⟩ : ∃ z, z = ([] : List Loc) := ⟨_, rfl⟩
  rw [← eL] at hW ⊢
  suffices hS9 : WD g s A (w_X10_choose g a_t a_along a_endAt a_far a_isUsed a_isWaiting a_pile a_plan a_rest a_rowAt a_rowSize a_slantA a_slantB a_strip a_turns a_waiting a_what a_cornerX a_cornerY a_corners a_yields a_bears a_seen a_wagons c_thrown c_isLaid c_head c_hasRows c_hasPlan c_rows c_slants c_capacity c_weight c_unload c_source c_bunker c_along c_endAt c_far c_isUsed c_isWaiting c_pile c_plan c_rest c_rowAt c_rowSize c_slantA c_slantB c_strip c_turns c_waiting c_what) H locs → W p l e (rm9 4 97) s m args below meth c H locs 0 0 Q (F0 m 0 ls []) by
    rw [← eH] at hW ⊢
    exact hS9 hW
  clear hW eH eL
  intro hW
  have J38 : ∀ (c_thrown c_hasRows c_hasPlan c_rows c_source : Int32) (c_along c_endAt c_far c_isUsed c_isWaiting c_pile c_plan c_rest c_rowAt c_rowSize c_strip c_turns c_waiting : Ar) (k1 : Int32) (H : Heap) (locs : List Loc) (ls : Array Slot), X10_choose_b38 c_thrown c_hasRows c_hasPlan c_rows c_slants c_source c_along c_endAt c_far c_isUsed c_isWaiting c_pile c_plan c_rest c_rowAt c_rowSize c_slantA c_slantB c_strip c_turns c_waiting c_what v1 k1 = some (r0, o_thrown, o_hasRows, o_hasPlan, o_rows, o_source, o_along, o_endAt, o_far, o_isUsed, o_isWaiting, o_pile, o_plan, o_rest, o_rowAt, o_rowSize, o_strip, o_turns, o_waiting) → WD g s A (w_X10_choose g a_t a_along a_endAt a_far a_isUsed a_isWaiting a_pile a_plan a_rest a_rowAt a_rowSize a_slantA a_slantB a_strip a_turns a_waiting a_what a_cornerX a_cornerY a_corners a_yields a_bears a_seen a_wagons c_thrown c_isLaid c_head c_hasRows c_hasPlan c_rows c_slants c_capacity c_weight c_unload c_source c_bunker c_along c_endAt c_far c_isUsed c_isWaiting c_pile c_plan c_rest c_rowAt c_rowSize c_slantA c_slantB c_strip c_turns c_waiting c_what) H locs → lv_has ls 6 [(0, .ref a_t), (1, .int v1)] → W p l e (rm9 4 97) s m args below meth c H locs 0 0 Q (F0 m 38 ls [.int k1, .ref a_t]) := by
    intro c_thrown c_hasRows c_hasPlan c_rows c_source c_along c_endAt c_far c_isUsed c_isWaiting c_pile c_plan c_rest c_rowAt c_rowSize c_strip c_turns c_waiting k1 H locs ls h hW hl
    unfold X10_choose_b38 at h
    refine lv_iconst (pc := 38) (v := 2) hx hb (dd dX10_choose_p0 20 rfl) (by decide) ?_
    obtain ⟨⟨r_39, c_thrown_39⟩, hr, h⟩ := bnd_ex h
    have h := un2_at h
    refine callVI (pc := 39) (na := 2) (As := [.int k1, .int 2]) (rest := []) (ws2 := (w_X10_choose g a_t a_along a_endAt a_far a_isUsed a_isWaiting a_pile a_plan a_rest a_rowAt a_rowSize a_slantA a_slantB a_strip a_turns a_waiting a_what a_cornerX a_cornerY a_corners a_yields a_bears a_seen a_wagons c_thrown_39 c_isLaid c_head c_hasRows c_hasPlan c_rows c_slants c_capacity c_weight c_unload c_source c_bunker c_along c_endAt c_far c_isUsed c_isWaiting c_pile c_plan c_rest c_rowAt c_rowSize c_slantA c_slantB c_strip c_turns c_waiting c_what)) M hl.1 hW (t_X10_throwsIf l g a_t a_cornerX a_cornerY a_corners a_what a_rowAt a_strip a_along a_rowSize a_endAt a_turns a_plan a_slantA a_slantB a_yields a_bears a_seen a_wagons a_pile a_far a_waiting a_isWaiting a_rest a_isUsed c_thrown c_isLaid c_head c_hasRows c_hasPlan c_rows c_slants c_capacity c_weight c_unload c_source c_bunker k1 2 r_39 c_thrown_39 hr) rfl [0] [1, 2, 3, 4, 5, 6, 7, 8, 9, 10, 11, 12, 13, 14, 15, 16] [16, 0, 1, 2, 3, 4, 5, 6, 7, 8, 9, 10, 11, 12, 13, 14, 15] rfl rfl rfl rfl rfl rfl rfl 0 10 rfl rfl rfl (uw5 86 rfl rfl) (uw5 83 rfl rfl) (uw5 85 rfl rfl) (uwp 41 rfl rfl) (uw1 13 rfl rfl) ⟨by decide, by decide, by decide⟩ rfl ⟨by decide, by decide⟩ (Nat.le_of_ble_eq_true rfl) ⟨Nat.zero_le _, Nat.zero_le _⟩ (dd dX10_choose_p0 21 rfl) (fun H locs hW => ?_)
    refine lv_if_eq (pc := 42) (tgt := 47) hx hb (dd dX10_choose_p0 22 rfl) (by decide) (fun hc => ?_) (fun hc => ?_)
    · have h := it_t hc h
      refine lv_iconst (pc := 47) (v := (-1)) hx hb (dd dX10_choose_p0 25 rfl) (by decide) ?_
      refine lv_istore_n (pc := 48) (lv' := [(2, .int (-1)), (0, .ref a_t), (1, .int v1)]) hx hb (dd dX10_choose_p0 26 rfl) rfl hl (by decide) rfl (fun ls hl => ?_)
      refine lv_iconst (pc := 49) (v := 0) hx hb (dd dX10_choose_p0 27 rfl) (by decide) ?_
      refine lv_istore_n (pc := 50) (lv' := [(3, .int 0), (2, .int (-1)), (0, .ref a_t), (1, .int v1)]) hx hb (dd dX10_choose_p0 28 rfl) rfl hl (by decide) rfl (fun ls hl => ?_)
      refine lv_iconst (pc := 51) (v := 0) hx hb (dd dX10_choose_p0 29 rfl) (by decide) ?_
      refine lv_istore (pc := 52) (lv' := [(4, .int 0), (3, .int 0), (2, .int (-1)), (0, .ref a_t), (1, .int v1)]) hx hb (dd dX10_choose_p0 30 rfl) hl (by decide) rfl (fun ls hl => ?_)
      obtain ⟨ex, hw, h⟩ := bnd_ex h
      refine loopW (fun st => ∀ (H : Heap) (locs : List Loc) (ls : Array Slot), WD g s A (w_X10_choose g a_t a_along a_endAt a_far a_isUsed a_isWaiting a_pile a_plan a_rest a_rowAt a_rowSize a_slantA a_slantB a_strip a_turns a_waiting a_what a_cornerX a_cornerY a_corners a_yields a_bears a_seen a_wagons c_thrown_39 c_isLaid c_head (st.1) (st.2.1) (st.2.2.1) c_slants c_capacity c_weight c_unload (st.2.2.2.1) c_bunker (st.2.2.2.2.1) (st.2.2.2.2.2.1) (st.2.2.2.2.2.2.1) (st.2.2.2.2.2.2.2.1) (st.2.2.2.2.2.2.2.2.1) (st.2.2.2.2.2.2.2.2.2.1) (st.2.2.2.2.2.2.2.2.2.2.1) (st.2.2.2.2.2.2.2.2.2.2.2.1) (st.2.2.2.2.2.2.2.2.2.2.2.2.1) (st.2.2.2.2.2.2.2.2.2.2.2.2.2.1) c_slantA c_slantB (st.2.2.2.2.2.2.2.2.2.2.2.2.2.2.1) (st.2.2.2.2.2.2.2.2.2.2.2.2.2.2.2.1) (st.2.2.2.2.2.2.2.2.2.2.2.2.2.2.2.2.1) c_what) H locs → lv_has ls 6 [(0, .ref a_t), (1, .int v1), (2, .int (st.2.2.2.2.2.2.2.2.2.2.2.2.2.2.2.2.2.1)), (3, .int (st.2.2.2.2.2.2.2.2.2.2.2.2.2.2.2.2.2.2.1)), (4, .int (st.2.2.2.2.2.2.2.2.2.2.2.2.2.2.2.2.2.2.2))] → W p l e (rm9 4 97) s m args below meth c H locs 0 0 Q (F0 m 54 ls [])) (fun (ex : (Int32 × Int32 × Int32 × Int32 × Ar × Ar × Ar × Ar × Ar × Ar × Ar × Ar × Ar × Ar × Ar × Ar × Ar × Int32)) => ∀ (H : Heap) (locs : List Loc) (ls : Array Slot), WD g s A (w_X10_choose g a_t a_along a_endAt a_far a_isUsed a_isWaiting a_pile a_plan a_rest a_rowAt a_rowSize a_slantA a_slantB a_strip a_turns a_waiting a_what a_cornerX a_cornerY a_corners a_yields a_bears a_seen a_wagons c_thrown_39 c_isLaid c_head (ex.1) (ex.2.1) (ex.2.2.1) c_slants c_capacity c_weight c_unload (ex.2.2.2.1) c_bunker (ex.2.2.2.2.1) (ex.2.2.2.2.2.1) (ex.2.2.2.2.2.2.1) (ex.2.2.2.2.2.2.2.1) (ex.2.2.2.2.2.2.2.2.1) (ex.2.2.2.2.2.2.2.2.2.1) (ex.2.2.2.2.2.2.2.2.2.2.1) (ex.2.2.2.2.2.2.2.2.2.2.2.1) (ex.2.2.2.2.2.2.2.2.2.2.2.2.1) (ex.2.2.2.2.2.2.2.2.2.2.2.2.2.1) c_slantA c_slantB (ex.2.2.2.2.2.2.2.2.2.2.2.2.2.2.1) (ex.2.2.2.2.2.2.2.2.2.2.2.2.2.2.2.1) (ex.2.2.2.2.2.2.2.2.2.2.2.2.2.2.2.2.1) c_what) H locs → lv_has ls 6 [(0, .ref a_t), (1, .int v1), (2, .int (ex.2.2.2.2.2.2.2.2.2.2.2.2.2.2.2.2.2))] → W p l e (rm9 4 97) s m args below meth c H locs 0 0 Q (F0 m 125 ls [])) ?_ hw ?_ H locs ls hW (lv_sub hl [3, 4, 2, 1, 0] rfl)
      · rintro ⟨c_hasRows, c_hasPlan, c_rows, c_source, c_along, c_endAt, c_far, c_isUsed, c_isWaiting, c_pile, c_plan, c_rest, c_rowAt, c_rowSize, c_strip, c_turns, c_waiting, v2, v3, v4⟩ o hb9 hk H locs ls hW hl
        have h : X10_choose_L54 c_slants c_slantA c_slantB c_what v1 c_hasRows c_hasPlan c_rows c_source c_along c_endAt c_far c_isUsed c_isWaiting c_pile c_plan c_rest c_rowAt c_rowSize c_strip c_turns c_waiting v2 v3 v4 = some o := hb9
        clear hb9
        unfold X10_choose_L54 at h
        have J119 : ∀ (c_hasRows c_hasPlan c_rows c_source : Int32) (c_along c_endAt c_far c_isUsed c_isWaiting c_pile c_plan c_rest c_rowAt c_rowSize c_strip c_turns c_waiting : Ar) (v2 v3 v4 : Int32) (H : Heap) (locs : List Loc) (ls : Array Slot), X10_choose_b54_119 c_hasRows c_hasPlan c_rows c_source c_along c_endAt c_far c_isUsed c_isWaiting c_pile c_plan c_rest c_rowAt c_rowSize c_strip c_turns c_waiting v1 v2 v3 v4 = some o → WD g s A (w_X10_choose g a_t a_along a_endAt a_far a_isUsed a_isWaiting a_pile a_plan a_rest a_rowAt a_rowSize a_slantA a_slantB a_strip a_turns a_waiting a_what a_cornerX a_cornerY a_corners a_yields a_bears a_seen a_wagons c_thrown_39 c_isLaid c_head c_hasRows c_hasPlan c_rows c_slants c_capacity c_weight c_unload c_source c_bunker c_along c_endAt c_far c_isUsed c_isWaiting c_pile c_plan c_rest c_rowAt c_rowSize c_slantA c_slantB c_strip c_turns c_waiting c_what) H locs → lv_has ls 6 [(0, .ref a_t), (1, .int v1), (2, .int v2), (3, .int v3), (4, .int v4)] → W p l e (rm9 4 97) s m args below meth c H locs 0 0 Q (F0 m 119 ls []) := by
          intro c_hasRows c_hasPlan c_rows c_source c_along c_endAt c_far c_isUsed c_isWaiting c_pile c_plan c_rest c_rowAt c_rowSize c_strip c_turns c_waiting v2 v3 v4 H locs ls h hW hl
          unfold X10_choose_b54_119 at h
          obtain ⟨v4_119, ev4_119, h⟩ := nm_ex h
          refine lv_iinc (pc := 119) (v := v4_119) (lv' := [(4, .int v4_119), (0, .ref a_t), (1, .int v1), (2, .int v2), (3, .int v3)]) hx hb (dd dX10_choose_p1 4 rfl) hl (k := 4) rfl (by rw [ev4_119]; rfl) (by decide) rfl (fun ls hl => ?_)
          refine lv_goto (pc := 122) (tgt := 54) hx hb (dd dX10_choose_p1 5 rfl) (by decide) ?_
          obtain rfl := Option.some.inj h
          exact hk _ _ _ hW (lv_sub hl [1, 2, 3, 4, 0] rfl)
        have J113 : ∀ (c_hasRows c_hasPlan c_rows c_source : Int32) (c_along c_endAt c_far c_isUsed c_isWaiting c_pile c_plan c_rest c_rowAt c_rowSize c_strip c_turns c_waiting : Ar) (v4 v5 : Int32) (H : Heap) (locs : List Loc) (ls : Array Slot), X10_choose_b54_113 c_hasRows c_hasPlan c_rows c_source c_along c_endAt c_far c_isUsed c_isWaiting c_pile c_plan c_rest c_rowAt c_rowSize c_strip c_turns c_waiting v1 v4 v5 = some o → WD g s A (w_X10_choose g a_t a_along a_endAt a_far a_isUsed a_isWaiting a_pile a_plan a_rest a_rowAt a_rowSize a_slantA a_slantB a_strip a_turns a_waiting a_what a_cornerX a_cornerY a_corners a_yields a_bears a_seen a_wagons c_thrown_39 c_isLaid c_head c_hasRows c_hasPlan c_rows c_slants c_capacity c_weight c_unload c_source c_bunker c_along c_endAt c_far c_isUsed c_isWaiting c_pile c_plan c_rest c_rowAt c_rowSize c_slantA c_slantB c_strip c_turns c_waiting c_what) H locs → lv_has ls 6 [(0, .ref a_t), (1, .int v1), (4, .int v4), (5, .int v5)] → W p l e (rm9 4 97) s m args below meth c H locs 0 0 Q (F0 m 113 ls []) := by
          intro c_hasRows c_hasPlan c_rows c_source c_along c_endAt c_far c_isUsed c_isWaiting c_pile c_plan c_rest c_rowAt c_rowSize c_strip c_turns c_waiting v4 v5 H locs ls h hW hl
          unfold X10_choose_b54_113 at h
          refine lv_iload (pc := 113) hx hb (dd dX10_choose_p1 0 rfl) (lv_at hl 2 rfl) ?_
          refine lv_istore_n (pc := 115) (lv' := [(2, .int v4), (0, .ref a_t), (1, .int v1), (4, .int v4), (5, .int v5)]) hx hb (dd dX10_choose_p1 1 rfl) rfl hl (by decide) rfl (fun ls hl => ?_)
          refine lv_iload (pc := 116) hx hb (dd dX10_choose_p1 2 rfl) (lv_at hl 4 rfl) ?_
          refine lv_istore_n (pc := 118) (lv' := [(3, .int v5), (2, .int v4), (0, .ref a_t), (1, .int v1), (4, .int v4), (5, .int v5)]) hx hb (dd dX10_choose_p1 3 rfl) rfl hl (by decide) rfl (fun ls hl => ?_)
          exact J119 _ _ _ _ _ _ _ _ _ _ _ _ _ _ _ _ _ _ _ _ _ _ _ h hW (lv_sub hl [2, 3, 1, 0, 4] rfl)
        have J93 : ∀ (c_hasRows c_hasPlan c_rows c_source : Int32) (c_along c_endAt c_far c_isUsed c_isWaiting c_pile c_plan c_rest c_rowAt c_rowSize c_strip c_turns c_waiting : Ar) (v2 v3 v4 k0 : Int32) (H : Heap) (locs : List Loc) (ls : Array Slot), X10_choose_b54_93 c_hasRows c_hasPlan c_rows c_source c_along c_endAt c_far c_isUsed c_isWaiting c_pile c_plan c_rest c_rowAt c_rowSize c_strip c_turns c_waiting v1 v2 v3 v4 k0 = some o → WD g s A (w_X10_choose g a_t a_along a_endAt a_far a_isUsed a_isWaiting a_pile a_plan a_rest a_rowAt a_rowSize a_slantA a_slantB a_strip a_turns a_waiting a_what a_cornerX a_cornerY a_corners a_yields a_bears a_seen a_wagons c_thrown_39 c_isLaid c_head c_hasRows c_hasPlan c_rows c_slants c_capacity c_weight c_unload c_source c_bunker c_along c_endAt c_far c_isUsed c_isWaiting c_pile c_plan c_rest c_rowAt c_rowSize c_slantA c_slantB c_strip c_turns c_waiting c_what) H locs → lv_has ls 6 [(0, .ref a_t), (1, .int v1), (2, .int v2), (3, .int v3), (4, .int v4)] → W p l e (rm9 4 97) s m args below meth c H locs 0 0 Q (F0 m 93 ls [.int k0]) := by
          intro c_hasRows c_hasPlan c_rows c_source c_along c_endAt c_far c_isUsed c_isWaiting c_pile c_plan c_rest c_rowAt c_rowSize c_strip c_turns c_waiting v2 v3 v4 k0 H locs ls h hW hl
          unfold X10_choose_b54_93 at h
          refine lv_istore (pc := 93) (lv' := [(5, .int k0), (0, .ref a_t), (1, .int v1), (2, .int v2), (3, .int v3), (4, .int v4)]) hx hb (dd dX10_choose_p0 51 rfl) hl (by decide) rfl (fun ls hl => ?_)
          refine lv_iload (pc := 95) hx hb (dd dX10_choose_p0 52 rfl) (lv_at hl 0 rfl) ?_
          refine lv_if_lt (pc := 97) (tgt := 119) hx hb (dd dX10_choose_p0 53 rfl) (by decide) (fun hc => ?_) (fun hc => ?_)
          · have h := it_t hc h
            exact J119 _ _ _ _ _ _ _ _ _ _ _ _ _ _ _ _ _ _ _ _ _ _ _ h hW (lv_sub hl [1, 2, 3, 4, 5] rfl)
          · have h := it_f hc h
            refine lv_iload_n (pc := 100) hx hb (dd dX10_choose_p0 54 rfl) rfl (lv_at hl 3 rfl) ?_
            refine lv_if_lt (pc := 101) (tgt := 113) hx hb (dd dX10_choose_p0 55 rfl) (by decide) (fun hc => ?_) (fun hc => ?_)
            · have h := it_t hc h
              exact J113 _ _ _ _ _ _ _ _ _ _ _ _ _ _ _ _ _ _ _ _ _ _ h hW (lv_sub hl [1, 2, 5, 0] rfl)
            · have h := it_f hc h
              refine lv_iload (pc := 104) hx hb (dd dX10_choose_p0 56 rfl) (lv_at hl 0 rfl) ?_
              refine lv_iload_n (pc := 106) hx hb (dd dX10_choose_p0 57 rfl) rfl (lv_at hl 4 rfl) ?_
              refine lv_icmp_lt (pc := 107) (tgt := 113) hx hb (dd dX10_choose_p0 58 rfl) (by decide) (fun hc => ?_) (fun hc => ?_)
              · have h := it_t hc h
                exact J113 _ _ _ _ _ _ _ _ _ _ _ _ _ _ _ _ _ _ _ _ _ _ h hW (lv_sub hl [1, 2, 5, 0] rfl)
              · have h := it_f hc h
                refine lv_goto (pc := 110) (tgt := 119) hx hb (dd dX10_choose_p0 59 rfl) (by decide) ?_
                exact J119 _ _ _ _ _ _ _ _ _ _ _ _ _ _ _ _ _ _ _ _ _ _ _ h hW (lv_sub hl [1, 2, 3, 4, 5] rfl)
        refine lv_iload (pc := 54) hx hb (dd dX10_choose_p0 31 rfl) (lv_at hl 4 rfl) ?_
        refine lv_aload_n (pc := 56) hx hb (dd dX10_choose_p0 32 rfl) rfl (lv_at hl 0 rfl) ?_
        refine rGet (pc := 57) M hW 0 19 iU10 rfl rfl (by decide) (uw4 232 rfl rfl) rfl (dd dX10_choose_p0 33 rfl) ?_
        refine lv_icmp_ge (pc := 60) (tgt := 125) hx hb (dd dX10_choose_p0 34 rfl) (by decide) (fun hc => ?_) (fun hc => ?_)
        · have h := it_t hc h
          obtain rfl := Option.some.inj h
          exact hk _ _ _ hW (lv_sub hl [0, 1, 2] rfl)
        · have h := it_f hc h
          refine lv_aload_n (pc := 63) hx hb (dd dX10_choose_p0 35 rfl) rfl (lv_at hl 0 rfl) ?_
          refine lv_aload_n (pc := 64) hx hb (dd dX10_choose_p0 36 rfl) rfl (lv_at hl 0 rfl) ?_
          refine rGet (pc := 65) M hW 0 17 iU10 rfl rfl (by decide) (uw4 230 rfl rfl) rfl (dd dX10_choose_p0 37 rfl) ?_
          refine lv_iload (pc := 68) hx hb (dd dX10_choose_p0 38 rfl) (lv_at hl 4 rfl) ?_
          obtain ⟨hi, h⟩ := ck_ex h
          refine rIald (pc := 70) M hW 11 rfl hi (dd dX10_choose_p0 39 rfl) ?_
          refine lv_aload_n (pc := 71) hx hb (dd dX10_choose_p0 40 rfl) rfl (lv_at hl 0 rfl) ?_
          refine rGet (pc := 72) M hW 0 18 iU10 rfl rfl (by decide) (uw4 231 rfl rfl) rfl (dd dX10_choose_p0 41 rfl) ?_
          refine lv_iload (pc := 75) hx hb (dd dX10_choose_p0 42 rfl) (lv_at hl 4 rfl) ?_
          obtain ⟨hi, h⟩ := ck_ex h
          refine rIald (pc := 77) M hW 12 rfl hi (dd dX10_choose_p0 43 rfl) ?_
          refine lv_iload_n (pc := 78) hx hb (dd dX10_choose_p0 44 rfl) rfl (lv_at hl 1 rfl) ?_
          obtain ⟨⟨r_79, c_hasRows_79, c_hasPlan_79, c_rows_79, c_source_79, c_along_79, c_endAt_79, c_far_79, c_isWaiting_79, c_pile_79, c_rowAt_79, c_rowSize_79, c_strip_79, c_turns_79, c_waiting_79⟩, hr, h⟩ := bnd_ex h
          have h := un15_at h
          refine callVI (pc := 79) (na := 3) (As := [.int (ag c_slantA v4), .int (ag c_slantB v4), .int v1]) (rest := []) (ws2 := (w_X10_choose g a_t a_along a_endAt a_far a_isUsed a_isWaiting a_pile a_plan a_rest a_rowAt a_rowSize a_slantA a_slantB a_strip a_turns a_waiting a_what a_cornerX a_cornerY a_corners a_yields a_bears a_seen a_wagons c_thrown_39 c_isLaid c_head c_hasRows_79 c_hasPlan_79 c_rows_79 c_slants c_capacity c_weight c_unload c_source_79 c_bunker c_along_79 c_endAt_79 c_far_79 c_isUsed c_isWaiting_79 c_pile_79 c_plan c_rest c_rowAt_79 c_rowSize_79 c_slantA c_slantB c_strip_79 c_turns_79 c_waiting_79 c_what)) M hl.1 hW (t_X10_makes l g a_t a_along a_endAt a_far a_isWaiting a_pile a_rowAt a_rowSize a_strip a_turns a_waiting a_what a_cornerX a_cornerY a_corners a_plan a_slantA a_slantB a_yields a_bears a_seen a_wagons a_rest a_isUsed c_thrown_39 c_isLaid c_head c_hasRows c_hasPlan c_rows c_slants c_capacity c_weight c_unload c_source c_bunker c_along c_endAt c_far c_isWaiting c_pile c_rowAt c_rowSize c_strip c_turns c_waiting c_what (ag c_slantA v4) (ag c_slantB v4) v1 r_79 c_hasRows_79 c_hasPlan_79 c_rows_79 c_source_79 c_along_79 c_endAt_79 c_far_79 c_isWaiting_79 c_pile_79 c_rowAt_79 c_rowSize_79 c_strip_79 c_turns_79 c_waiting_79 hr) rfl [0, 1, 2, 3, 5, 6, 9, 10, 13, 14, 15, 16] [4, 7, 8, 11, 12] [5, 6, 7, 8, 0, 9, 10, 1, 2, 11, 12, 3, 4, 13, 14, 15, 16] rfl rfl rfl rfl rfl rfl rfl 0 10 rfl rfl rfl (uw5 135 rfl rfl) (uw5 132 rfl rfl) (uw5 134 rfl rfl) (uwp 46 rfl rfl) (uw1 13 rfl rfl) ⟨by decide, by decide, by decide⟩ rfl ⟨by decide, by decide⟩ (Nat.le_of_ble_eq_true rfl) ⟨Nat.zero_le _, Nat.zero_le _⟩ (dd dX10_choose_p0 45 rfl) (fun H locs hW => ?_)
          refine lv_if_eq (pc := 82) (tgt := 92) hx hb (dd dX10_choose_p0 46 rfl) (by decide) (fun hc => ?_) (fun hc => ?_)
          · have h := it_t hc h
            refine lv_iconst (pc := 92) (v := (-1)) hx hb (dd dX10_choose_p0 50 rfl) (by decide) ?_
            exact J93 _ _ _ _ _ _ _ _ _ _ _ _ _ _ _ _ _ _ _ _ _ _ _ _ h hW (lv_sub hl [0, 1, 2, 3, 4] rfl)
          · have h := it_f hc h
            refine lv_aload_n (pc := 85) hx hb (dd dX10_choose_p0 47 rfl) rfl (lv_at hl 0 rfl) ?_
            obtain ⟨⟨r_86, c_hasPlan_86, c_isUsed_86, c_plan_86, c_rest_86⟩, hr, h⟩ := bnd_ex h
            have h := un5_at h
            refine callVI (pc := 86) (na := 0) (As := []) (rest := []) (ws2 := (w_X10_choose g a_t a_along a_endAt a_far a_isUsed a_isWaiting a_pile a_plan a_rest a_rowAt a_rowSize a_slantA a_slantB a_strip a_turns a_waiting a_what a_cornerX a_cornerY a_corners a_yields a_bears a_seen a_wagons c_thrown_39 c_isLaid c_head c_hasRows_79 c_hasPlan_86 c_rows_79 c_slants c_capacity c_weight c_unload c_source_79 c_bunker c_along_79 c_endAt_79 c_far_79 c_isUsed_86 c_isWaiting_79 c_pile_79 c_plan_86 c_rest_86 c_rowAt_79 c_rowSize_79 c_slantA c_slantB c_strip_79 c_turns_79 c_waiting_79 c_what)) M hl.1 hW (t_X10_bestOf l g a_t a_isUsed a_plan a_rest a_turns a_cornerX a_cornerY a_corners a_what a_rowAt a_strip a_along a_rowSize a_endAt a_slantA a_slantB a_yields a_bears a_seen a_wagons a_pile a_far a_waiting a_isWaiting c_thrown_39 c_isLaid c_head c_hasRows_79 c_hasPlan_79 c_rows_79 c_slants c_capacity c_weight c_unload c_source_79 c_bunker c_isUsed c_plan c_rest c_turns_79 r_86 c_hasPlan_86 c_isUsed_86 c_plan_86 c_rest_86 hr) rfl [0, 4, 7, 8, 14] [1, 2, 3, 5, 6, 9, 10, 11, 12, 13, 15, 16] [12, 0, 1, 2, 13, 3, 4, 14, 15, 5, 6, 7, 8, 9, 16, 10, 11] rfl rfl rfl rfl rfl rfl rfl 0 10 rfl rfl rfl (uw5 193 rfl rfl) (uw5 190 rfl rfl) (uw5 192 rfl rfl) (uwp 55 rfl rfl) (uw1 13 rfl rfl) ⟨by decide, by decide, by decide⟩ rfl ⟨by decide, by decide⟩ (Nat.le_of_ble_eq_true rfl) ⟨Nat.zero_le _, Nat.zero_le _⟩ (dd dX10_choose_p0 48 rfl) (fun H locs hW => ?_)
            refine lv_goto (pc := 89) (tgt := 93) hx hb (dd dX10_choose_p0 49 rfl) (by decide) ?_
            exact J93 _ _ _ _ _ _ _ _ _ _ _ _ _ _ _ _ _ _ _ _ _ _ _ _ h hW (lv_sub hl [0, 1, 2, 3, 4] rfl)
      · obtain ⟨c_hasRows_125, c_hasPlan_125, c_rows_125, c_source_125, c_along_125, c_endAt_125, c_far_125, c_isUsed_125, c_isWaiting_125, c_pile_125, c_plan_125, c_rest_125, c_rowAt_125, c_rowSize_125, c_strip_125, c_turns_125, c_waiting_125, v2_125⟩ := ex
        have h := un18_at h
        intro H locs ls hW hl
        refine lv_aload_n (pc := 125) hx hb (dd dX10_choose_p1 6 rfl) rfl (lv_at hl 0 rfl) ?_
        refine lv_iconst (pc := 126) (v := 0) hx hb (dd dX10_choose_p1 7 rfl) (by decide) ?_
        refine rPut (pc := 127) M hW 0 7 tyX10 tyX10_ok nmX10 iU10 rfl rfl (by decide) (uw4 220 rfl rfl) rfl rfl rfl (Nat.le_of_ble_eq_true rfl) (dd dX10_choose_p1 8 rfl) (ws' := (w_X10_choose g a_t a_along a_endAt a_far a_isUsed a_isWaiting a_pile a_plan a_rest a_rowAt a_rowSize a_slantA a_slantB a_strip a_turns a_waiting a_what a_cornerX a_cornerY a_corners a_yields a_bears a_seen a_wagons c_thrown_39 c_isLaid c_head 0 c_hasPlan_125 c_rows_125 c_slants c_capacity c_weight c_unload c_source_125 c_bunker c_along_125 c_endAt_125 c_far_125 c_isUsed_125 c_isWaiting_125 c_pile_125 c_plan_125 c_rest_125 c_rowAt_125 c_rowSize_125 c_slantA c_slantB c_strip_125 c_turns_125 c_waiting_125 c_what)) rfl (fun H locs hW => ?_)
        refine lv_aload_n (pc := 130) hx hb (dd dX10_choose_p1 9 rfl) rfl (lv_at hl 0 rfl) ?_
        refine lv_iconst (pc := 131) (v := 0) hx hb (dd dX10_choose_p1 10 rfl) (by decide) ?_
        refine rPut (pc := 132) M hW 0 8 tyX10 tyX10_ok nmX10 iU10 rfl rfl (by decide) (uw4 221 rfl rfl) rfl rfl rfl (Nat.le_of_ble_eq_true rfl) (dd dX10_choose_p1 11 rfl) (ws' := (w_X10_choose g a_t a_along a_endAt a_far a_isUsed a_isWaiting a_pile a_plan a_rest a_rowAt a_rowSize a_slantA a_slantB a_strip a_turns a_waiting a_what a_cornerX a_cornerY a_corners a_yields a_bears a_seen a_wagons c_thrown_39 c_isLaid c_head 0 0 c_rows_125 c_slants c_capacity c_weight c_unload c_source_125 c_bunker c_along_125 c_endAt_125 c_far_125 c_isUsed_125 c_isWaiting_125 c_pile_125 c_plan_125 c_rest_125 c_rowAt_125 c_rowSize_125 c_slantA c_slantB c_strip_125 c_turns_125 c_waiting_125 c_what)) rfl (fun H locs hW => ?_)
        refine lv_iload_n (pc := 135) hx hb (dd dX10_choose_p1 12 rfl) rfl (lv_at hl 2 rfl) ?_
        refine lv_if_lt (pc := 136) (tgt := 164) hx hb (dd dX10_choose_p1 13 rfl) (by decide) (fun hc => ?_) (fun hc => ?_)
        · have h := it_t hc h
          refine lv_iload_n (pc := 164) hx hb (dd dX10_choose_p1 29 rfl) rfl (lv_at hl 2 rfl) ?_
          have hW9 := hW
          cases h
          exact ret _ _ _ 165 hW9 rfl (dd dX10_choose_p1 30 rfl)
        · have h := it_f hc h
          refine lv_aload_n (pc := 139) hx hb (dd dX10_choose_p1 14 rfl) rfl (lv_at hl 0 rfl) ?_
          refine lv_aload_n (pc := 140) hx hb (dd dX10_choose_p1 15 rfl) rfl (lv_at hl 0 rfl) ?_
          refine rGet (pc := 141) M hW 0 17 iU10 rfl rfl (by decide) (uw4 230 rfl rfl) rfl (dd dX10_choose_p1 16 rfl) ?_
          refine lv_iload_n (pc := 144) hx hb (dd dX10_choose_p1 17 rfl) rfl (lv_at hl 2 rfl) ?_
          obtain ⟨hi, h⟩ := ck_ex h
          refine rIald (pc := 145) M hW 11 rfl hi (dd dX10_choose_p1 18 rfl) ?_
          refine lv_aload_n (pc := 146) hx hb (dd dX10_choose_p1 19 rfl) rfl (lv_at hl 0 rfl) ?_
          refine rGet (pc := 147) M hW 0 18 iU10 rfl rfl (by decide) (uw4 231 rfl rfl) rfl (dd dX10_choose_p1 20 rfl) ?_
          refine lv_iload_n (pc := 150) hx hb (dd dX10_choose_p1 21 rfl) rfl (lv_at hl 2 rfl) ?_
          obtain ⟨hi, h⟩ := ck_ex h
          refine rIald (pc := 151) M hW 12 rfl hi (dd dX10_choose_p1 22 rfl) ?_
          refine lv_iload_n (pc := 152) hx hb (dd dX10_choose_p1 23 rfl) rfl (lv_at hl 1 rfl) ?_
          obtain ⟨⟨r_153, c_hasRows_153, c_hasPlan_153, c_rows_153, c_source_153, c_along_153, c_endAt_153, c_far_153, c_isWaiting_153, c_pile_153, c_rowAt_153, c_rowSize_153, c_strip_153, c_turns_153, c_waiting_153⟩, hr, h⟩ := bnd_ex h
          have h := un15_at h
          refine callVI (pc := 153) (na := 3) (As := [.int (ag c_slantA v2_125), .int (ag c_slantB v2_125), .int v1]) (rest := []) (ws2 := (w_X10_choose g a_t a_along a_endAt a_far a_isUsed a_isWaiting a_pile a_plan a_rest a_rowAt a_rowSize a_slantA a_slantB a_strip a_turns a_waiting a_what a_cornerX a_cornerY a_corners a_yields a_bears a_seen a_wagons c_thrown_39 c_isLaid c_head c_hasRows_153 c_hasPlan_153 c_rows_153 c_slants c_capacity c_weight c_unload c_source_153 c_bunker c_along_153 c_endAt_153 c_far_153 c_isUsed_125 c_isWaiting_153 c_pile_153 c_plan_125 c_rest_125 c_rowAt_153 c_rowSize_153 c_slantA c_slantB c_strip_153 c_turns_153 c_waiting_153 c_what)) M hl.1 hW (t_X10_makes l g a_t a_along a_endAt a_far a_isWaiting a_pile a_rowAt a_rowSize a_strip a_turns a_waiting a_what a_cornerX a_cornerY a_corners a_plan a_slantA a_slantB a_yields a_bears a_seen a_wagons a_rest a_isUsed c_thrown_39 c_isLaid c_head 0 0 c_rows_125 c_slants c_capacity c_weight c_unload c_source_125 c_bunker c_along_125 c_endAt_125 c_far_125 c_isWaiting_125 c_pile_125 c_rowAt_125 c_rowSize_125 c_strip_125 c_turns_125 c_waiting_125 c_what (ag c_slantA v2_125) (ag c_slantB v2_125) v1 r_153 c_hasRows_153 c_hasPlan_153 c_rows_153 c_source_153 c_along_153 c_endAt_153 c_far_153 c_isWaiting_153 c_pile_153 c_rowAt_153 c_rowSize_153 c_strip_153 c_turns_153 c_waiting_153 hr) rfl [0, 1, 2, 3, 5, 6, 9, 10, 13, 14, 15, 16] [4, 7, 8, 11, 12] [5, 6, 7, 8, 0, 9, 10, 1, 2, 11, 12, 3, 4, 13, 14, 15, 16] rfl rfl rfl rfl rfl rfl rfl 0 10 rfl rfl rfl (uw5 135 rfl rfl) (uw5 132 rfl rfl) (uw5 134 rfl rfl) (uwp 46 rfl rfl) (uw1 13 rfl rfl) ⟨by decide, by decide, by decide⟩ rfl ⟨by decide, by decide⟩ (Nat.le_of_ble_eq_true rfl) ⟨Nat.zero_le _, Nat.zero_le _⟩ (dd dX10_choose_p1 24 rfl) (fun H locs hW => ?_)
          refine lv_if_eq (pc := 156) (tgt := 164) hx hb (dd dX10_choose_p1 25 rfl) (by decide) (fun hc => ?_) (fun hc => ?_)
          · have h := it_t hc h
            refine lv_iload_n (pc := 164) hx hb (dd dX10_choose_p1 29 rfl) rfl (lv_at hl 2 rfl) ?_
            have hW9 := hW
            cases h
            exact ret _ _ _ 165 hW9 rfl (dd dX10_choose_p1 30 rfl)
          · have h := it_f hc h
            refine lv_aload_n (pc := 159) hx hb (dd dX10_choose_p1 26 rfl) rfl (lv_at hl 0 rfl) ?_
            obtain ⟨⟨r_160, c_hasPlan_160, c_isUsed_160, c_plan_160, c_rest_160⟩, hr, h⟩ := bnd_ex h
            have h := un5_at h
            refine callVI (pc := 160) (na := 0) (As := []) (rest := []) (ws2 := (w_X10_choose g a_t a_along a_endAt a_far a_isUsed a_isWaiting a_pile a_plan a_rest a_rowAt a_rowSize a_slantA a_slantB a_strip a_turns a_waiting a_what a_cornerX a_cornerY a_corners a_yields a_bears a_seen a_wagons c_thrown_39 c_isLaid c_head c_hasRows_153 c_hasPlan_160 c_rows_153 c_slants c_capacity c_weight c_unload c_source_153 c_bunker c_along_153 c_endAt_153 c_far_153 c_isUsed_160 c_isWaiting_153 c_pile_153 c_plan_160 c_rest_160 c_rowAt_153 c_rowSize_153 c_slantA c_slantB c_strip_153 c_turns_153 c_waiting_153 c_what)) M hl.1 hW (t_X10_bestOf l g a_t a_isUsed a_plan a_rest a_turns a_cornerX a_cornerY a_corners a_what a_rowAt a_strip a_along a_rowSize a_endAt a_slantA a_slantB a_yields a_bears a_seen a_wagons a_pile a_far a_waiting a_isWaiting c_thrown_39 c_isLaid c_head c_hasRows_153 c_hasPlan_153 c_rows_153 c_slants c_capacity c_weight c_unload c_source_153 c_bunker c_isUsed_125 c_plan_125 c_rest_125 c_turns_153 r_160 c_hasPlan_160 c_isUsed_160 c_plan_160 c_rest_160 hr) rfl [0, 4, 7, 8, 14] [1, 2, 3, 5, 6, 9, 10, 11, 12, 13, 15, 16] [12, 0, 1, 2, 13, 3, 4, 14, 15, 5, 6, 7, 8, 9, 16, 10, 11] rfl rfl rfl rfl rfl rfl rfl 0 10 rfl rfl rfl (uw5 193 rfl rfl) (uw5 190 rfl rfl) (uw5 192 rfl rfl) (uwp 55 rfl rfl) (uw1 13 rfl rfl) ⟨by decide, by decide, by decide⟩ rfl ⟨by decide, by decide⟩ (Nat.le_of_ble_eq_true rfl) ⟨Nat.zero_le _, Nat.zero_le _⟩ (dd dX10_choose_p1 27 rfl) (fun H locs hW => ?_)
            refine lv_istore_n (pc := 163) (lv' := [(3, .int r_160), (0, .ref a_t), (1, .int v1), (2, .int v2_125)]) hx hb (dd dX10_choose_p1 28 rfl) rfl hl (by decide) rfl (fun ls hl => ?_)
            refine lv_iload_n (pc := 164) hx hb (dd dX10_choose_p1 29 rfl) rfl (lv_at hl 3 rfl) ?_
            have hW9 := hW
            cases h
            exact ret _ _ _ 165 hW9 rfl (dd dX10_choose_p1 30 rfl)
    · have h := it_f hc h
      refine lv_iconst (pc := 45) (v := 0) hx hb (dd dX10_choose_p0 23 rfl) (by decide) ?_
      have hW9 := hW
      cases h
      exact ret _ _ _ 46 hW9 rfl (dd dX10_choose_p0 24 rfl)
  have J18 : ∀ (c_thrown c_hasRows c_hasPlan c_rows c_source : Int32) (c_along c_endAt c_far c_isUsed c_isWaiting c_pile c_plan c_rest c_rowAt c_rowSize c_strip c_turns c_waiting : Ar) (k1 : Int32) (H : Heap) (locs : List Loc) (ls : Array Slot), X10_choose_b18 c_thrown c_hasRows c_hasPlan c_rows c_slants c_source c_along c_endAt c_far c_isUsed c_isWaiting c_pile c_plan c_rest c_rowAt c_rowSize c_slantA c_slantB c_strip c_turns c_waiting c_what v1 k1 = some (r0, o_thrown, o_hasRows, o_hasPlan, o_rows, o_source, o_along, o_endAt, o_far, o_isUsed, o_isWaiting, o_pile, o_plan, o_rest, o_rowAt, o_rowSize, o_strip, o_turns, o_waiting) → WD g s A (w_X10_choose g a_t a_along a_endAt a_far a_isUsed a_isWaiting a_pile a_plan a_rest a_rowAt a_rowSize a_slantA a_slantB a_strip a_turns a_waiting a_what a_cornerX a_cornerY a_corners a_yields a_bears a_seen a_wagons c_thrown c_isLaid c_head c_hasRows c_hasPlan c_rows c_slants c_capacity c_weight c_unload c_source c_bunker c_along c_endAt c_far c_isUsed c_isWaiting c_pile c_plan c_rest c_rowAt c_rowSize c_slantA c_slantB c_strip c_turns c_waiting c_what) H locs → lv_has ls 6 [(0, .ref a_t), (1, .int v1)] → W p l e (rm9 4 97) s m args below meth c H locs 0 0 Q (F0 m 18 ls [.int k1, .ref a_t]) := by
    intro c_thrown c_hasRows c_hasPlan c_rows c_source c_along c_endAt c_far c_isUsed c_isWaiting c_pile c_plan c_rest c_rowAt c_rowSize c_strip c_turns c_waiting k1 H locs ls h hW hl
    unfold X10_choose_b18 at h
    refine lv_iconst (pc := 18) (v := 1) hx hb (dd dX10_choose_p0 10 rfl) (by decide) ?_
    obtain ⟨⟨r_19, c_thrown_19⟩, hr, h⟩ := bnd_ex h
    have h := un2_at h
    refine callVI (pc := 19) (na := 2) (As := [.int k1, .int 1]) (rest := []) (ws2 := (w_X10_choose g a_t a_along a_endAt a_far a_isUsed a_isWaiting a_pile a_plan a_rest a_rowAt a_rowSize a_slantA a_slantB a_strip a_turns a_waiting a_what a_cornerX a_cornerY a_corners a_yields a_bears a_seen a_wagons c_thrown_19 c_isLaid c_head c_hasRows c_hasPlan c_rows c_slants c_capacity c_weight c_unload c_source c_bunker c_along c_endAt c_far c_isUsed c_isWaiting c_pile c_plan c_rest c_rowAt c_rowSize c_slantA c_slantB c_strip c_turns c_waiting c_what)) M hl.1 hW (t_X10_throwsIf l g a_t a_cornerX a_cornerY a_corners a_what a_rowAt a_strip a_along a_rowSize a_endAt a_turns a_plan a_slantA a_slantB a_yields a_bears a_seen a_wagons a_pile a_far a_waiting a_isWaiting a_rest a_isUsed c_thrown c_isLaid c_head c_hasRows c_hasPlan c_rows c_slants c_capacity c_weight c_unload c_source c_bunker k1 1 r_19 c_thrown_19 hr) rfl [0] [1, 2, 3, 4, 5, 6, 7, 8, 9, 10, 11, 12, 13, 14, 15, 16] [16, 0, 1, 2, 3, 4, 5, 6, 7, 8, 9, 10, 11, 12, 13, 14, 15] rfl rfl rfl rfl rfl rfl rfl 0 10 rfl rfl rfl (uw5 86 rfl rfl) (uw5 83 rfl rfl) (uw5 85 rfl rfl) (uwp 41 rfl rfl) (uw1 13 rfl rfl) ⟨by decide, by decide, by decide⟩ rfl ⟨by decide, by decide⟩ (Nat.le_of_ble_eq_true rfl) ⟨Nat.zero_le _, Nat.zero_le _⟩ (dd dX10_choose_p0 11 rfl) (fun H locs hW => ?_)
    refine lv_if_ne (pc := 22) (tgt := 45) hx hb (dd dX10_choose_p0 12 rfl) (by decide) (fun hc => ?_) (fun hc => ?_)
    · have h := it_f hc h
      refine lv_iconst (pc := 45) (v := 0) hx hb (dd dX10_choose_p0 23 rfl) (by decide) ?_
      have hW9 := hW
      cases h
      exact ret _ _ _ 46 hW9 rfl (dd dX10_choose_p0 24 rfl)
    · have h := it_t hc h
      refine lv_aload_n (pc := 25) hx hb (dd dX10_choose_p0 13 rfl) rfl (lv_at hl 0 rfl) ?_
      refine lv_iload_n (pc := 26) hx hb (dd dX10_choose_p0 14 rfl) rfl (lv_at hl 1 rfl) ?_
      obtain ⟨r_27, hr, h⟩ := bnd_ex h
      refine callSI (pc := 27) (na := 1) (As := [.int v1]) (rest := [.ref a_t]) (ws2 := (w_X10_choose g a_t a_along a_endAt a_far a_isUsed a_isWaiting a_pile a_plan a_rest a_rowAt a_rowSize a_slantA a_slantB a_strip a_turns a_waiting a_what a_cornerX a_cornerY a_corners a_yields a_bears a_seen a_wagons c_thrown_19 c_isLaid c_head c_hasRows c_hasPlan c_rows c_slants c_capacity c_weight c_unload c_source c_bunker c_along c_endAt c_far c_isUsed c_isWaiting c_pile c_plan c_rest c_rowAt c_rowSize c_slantA c_slantB c_strip c_turns c_waiting c_what)) M hl.1 hW (t_X10_isWidth l g v1 r_27 hr) [] [0, 1, 2, 3, 4, 5, 6, 7, 8, 9, 10, 11, 12, 13, 14, 15, 16] [0, 1, 2, 3, 4, 5, 6, 7, 8, 9, 10, 11, 12, 13, 14, 15, 16] rfl rfl rfl rfl rfl rfl rfl (uw5 131 rfl rfl) (uw5 129 rfl rfl) (uw5 130 rfl rfl) (uw1 13 rfl rfl) ⟨by decide, by decide, by decide⟩ rfl ⟨by decide, by decide⟩ (Nat.le_of_ble_eq_true rfl) ⟨Nat.zero_le _, Nat.zero_le _⟩ (dd dX10_choose_p0 15 rfl) (fun H locs hW => ?_)
      refine lv_if_ne (pc := 30) (tgt := 37) hx hb (dd dX10_choose_p0 16 rfl) (by decide) (fun hc => ?_) (fun hc => ?_)
      · have h := it_f hc h
        refine lv_iconst (pc := 37) (v := 0) hx hb (dd dX10_choose_p0 19 rfl) (by decide) ?_
        exact J38 _ _ _ _ _ _ _ _ _ _ _ _ _ _ _ _ _ _ _ _ _ _ h hW (lv_sub hl [0, 1] rfl)
      · have h := it_t hc h
        refine lv_iconst (pc := 33) (v := 1) hx hb (dd dX10_choose_p0 17 rfl) (by decide) ?_
        refine lv_goto (pc := 34) (tgt := 38) hx hb (dd dX10_choose_p0 18 rfl) (by decide) ?_
        exact J38 _ _ _ _ _ _ _ _ _ _ _ _ _ _ _ _ _ _ _ _ _ _ h hW (lv_sub hl [0, 1] rfl)
  refine lv_aload_n (pc := 0) hx hb (dd dX10_choose_p0 0 rfl) rfl (lv_at hl 0 rfl) ?_
  refine lv_iconst (pc := 1) (v := 0) hx hb (dd dX10_choose_p0 1 rfl) (by decide) ?_
  refine rPut (pc := 2) M hW 0 0 tyX10 tyX10_ok nmX10 iU10 rfl rfl (by decide) (uw4 213 rfl rfl) rfl rfl rfl (Nat.le_of_ble_eq_true rfl) (dd dX10_choose_p0 2 rfl) (ws' := (w_X10_choose g a_t a_along a_endAt a_far a_isUsed a_isWaiting a_pile a_plan a_rest a_rowAt a_rowSize a_slantA a_slantB a_strip a_turns a_waiting a_what a_cornerX a_cornerY a_corners a_yields a_bears a_seen a_wagons 0 c_isLaid c_head c_hasRows c_hasPlan c_rows c_slants c_capacity c_weight c_unload c_source c_bunker c_along c_endAt c_far c_isUsed c_isWaiting c_pile c_plan c_rest c_rowAt c_rowSize c_slantA c_slantB c_strip c_turns c_waiting c_what)) rfl (fun H locs hW => ?_)
  refine lv_aload_n (pc := 5) hx hb (dd dX10_choose_p0 3 rfl) rfl (lv_at hl 0 rfl) ?_
  refine lv_aload_n (pc := 6) hx hb (dd dX10_choose_p0 4 rfl) rfl (lv_at hl 0 rfl) ?_
  refine rGet (pc := 7) M hW 0 5 iU10 rfl rfl (by decide) (uw4 218 rfl rfl) rfl (dd dX10_choose_p0 5 rfl) ?_
  refine lv_if_ne (pc := 10) (tgt := 17) hx hb (dd dX10_choose_p0 6 rfl) (by decide) (fun hc => ?_) (fun hc => ?_)
  · have h := it_f hc h
    refine lv_iconst (pc := 17) (v := 0) hx hb (dd dX10_choose_p0 9 rfl) (by decide) ?_
    exact J18 _ _ _ _ _ _ _ _ _ _ _ _ _ _ _ _ _ _ _ _ _ _ h hW (lv_sub hl [0, 1] rfl)
  · have h := it_t hc h
    refine lv_iconst (pc := 13) (v := 1) hx hb (dd dX10_choose_p0 7 rfl) (by decide) ?_
    refine lv_goto (pc := 14) (tgt := 18) hx hb (dd dX10_choose_p0 8 rfl) (by decide) ?_
    exact J18 _ _ _ _ _ _ _ _ _ _ _ _ _ _ _ _ _ _ _ _ _ _ h hW (lv_sub hl [0, 1] rfl)
abbrev w_X10_nextOf (g : G9) (a_t a_along a_rowAt a_cornerX a_cornerY a_corners a_what a_strip a_rowSize a_endAt a_turns a_plan a_slantA a_slantB a_yields a_bears a_seen a_wagons a_pile a_far a_waiting a_isWaiting a_rest a_isUsed : Nat) (c_thrown c_isLaid c_head c_hasRows c_hasPlan c_rows c_slants c_capacity c_weight c_unload c_source c_bunker : Int32) (c_along c_rowAt : Ar) : va_W := [ob a_t 10 [.int c_thrown, .ref a_cornerX, .ref a_cornerY, .ref a_corners, .ref a_what, .int c_isLaid, .int c_head, .int c_hasRows, .int c_hasPlan, .int c_rows, .ref a_rowAt, .ref a_strip, .ref a_along, .ref a_rowSize, .ref a_endAt, .ref a_turns, .ref a_plan, .ref a_slantA, .ref a_slantB, .int c_slants, .ref a_yields, .ref a_bears, .int c_capacity, .int c_weight, .int c_unload, .ref a_seen, .ref a_wagons, .ref a_pile, .ref a_far, .int c_source, .ref a_waiting, .ref a_isWaiting, .ref a_rest, .ref a_isUsed, .int c_bunker], ia g a_along 1200 c_along, ia g a_rowAt 1200 c_rowAt]
noncomputable def X10_nextOf_b6_97 (v1 v2 v3 v4 v5 : Int32) : Option ((Int32 × Int32) ⊕ Int32) :=
  nm (v5 + 1) fun v5_97 => some (.inl (v4, v5_97))
noncomputable def X10_nextOf_b6_93 (v1 v2 v3 v5 : Int32) : Option ((Int32 × Int32) ⊕ Int32) :=
  X10_nextOf_b6_97 v1 v2 v3 v5 v5
noncomputable def X10_nextOf_b6_59 (c_along : Ar) (v1 v2 v3 v4 v5 : Int32) : Option ((Int32 × Int32) ⊕ Int32) :=
  if v4 < 0 then (X10_nextOf_b6_93 v1 v2 v3 v5) else (if v3 = 0 then (bnd (X10_isAhead c_along v4 v5) <| fun r_87 => if r_87 = 0 then (X10_nextOf_b6_97 v1 v2 v3 v4 v5) else (X10_nextOf_b6_93 v1 v2 v3 v5)) else (bnd (X10_isAhead c_along v5 v4) <| fun r_73 => if r_73 = 0 then (X10_nextOf_b6_97 v1 v2 v3 v4 v5) else (X10_nextOf_b6_93 v1 v2 v3 v5)))
noncomputable def X10_nextOf_L6 (c_along c_rowAt : Ar) (v1 v2 v3 v4 v5 : Int32) : Option ((Int32 × Int32) ⊕ Int32) :=
  if 1200 ≤ v5 then (some (.inr v4)) else (ck (ix v5 1200) <| if (ag c_rowAt v5) = v1 then (if v2 < 0 then (X10_nextOf_b6_59 c_along v1 v2 v3 v4 v5) else (if v3 = 0 then (bnd (X10_isAhead c_along v5 v2) <| fun r_50 => if r_50 = 0 then (X10_nextOf_b6_97 v1 v2 v3 v4 v5) else (X10_nextOf_b6_59 c_along v1 v2 v3 v4 v5)) else (bnd (X10_isAhead c_along v2 v5) <| fun r_37 => if r_37 = 0 then (X10_nextOf_b6_97 v1 v2 v3 v4 v5) else (X10_nextOf_b6_59 c_along v1 v2 v3 v4 v5)))) else (X10_nextOf_b6_97 v1 v2 v3 v4 v5))
noncomputable def X10_nextOf (c_along c_rowAt : Ar) (v1 v2 v3 : Int32) : Option Int32 :=
  bnd (whileV (fun st => X10_nextOf_L6 c_along c_rowAt v1 v2 v3 st.1 st.2) ((-1), 0)) <| (fun v4_103 => some v4_103)
set_option maxHeartbeats 4000000 in
set_option maxRecDepth 100000 in
theorem t_X10_nextOf (l : Launch) (g : G9) (a_t a_along a_rowAt a_cornerX a_cornerY a_corners a_what a_strip a_rowSize a_endAt a_turns a_plan a_slantA a_slantB a_yields a_bears a_seen a_wagons a_pile a_far a_waiting a_isWaiting a_rest a_isUsed : Nat) (c_thrown c_isLaid c_head c_hasRows c_hasPlan c_rows c_slants c_capacity c_weight c_unload c_source c_bunker : Int32) (c_along c_rowAt : Ar) (v1 v2 v3 r0 : Int32) (h : X10_nextOf c_along c_rowAt v1 v2 v3 = some r0) : CtI l g yX10_nextOf cX10_nextOf 6 .int 1 22 [.ref a_t, .int v1, .int v2, .int v3] (w_X10_nextOf g a_t a_along a_rowAt a_cornerX a_cornerY a_corners a_what a_strip a_rowSize a_endAt a_turns a_plan a_slantA a_slantB a_yields a_bears a_seen a_wagons a_pile a_far a_waiting a_isWaiting a_rest a_isUsed c_thrown c_isLaid c_head c_hasRows c_hasPlan c_rows c_slants c_capacity c_weight c_unload c_source c_bunker c_along c_rowAt) r0 (w_X10_nextOf g a_t a_along a_rowAt a_cornerX a_cornerY a_corners a_what a_strip a_rowSize a_endAt a_turns a_plan a_slantA a_slantB a_yields a_bears a_seen a_wagons a_pile a_far a_waiting a_isWaiting a_rest a_isUsed c_thrown c_isLaid c_head c_hasRows c_hasPlan c_rows c_slants c_capacity c_weight c_unload c_source c_bunker c_along c_rowAt) := by
  refine startI (by decide) (Nat.le_of_ble_eq_true rfl) ?_
  intro p e s m below meth c A Q ls args M hW hl ret
  have hx := M.1
  have hb := M.2.1
  have hown := M.2.2.2.1
  have hu := M.2.2.2.2.1
  have hl : lv_has ls 6 [(0, .ref a_t), (1, .int v1), (2, .int v2), (3, .int v3)] := hl
  unfold X10_nextOf at h
  obtain ⟨H, eH⟩ : ∃ z, z = s.heap := ⟨_, rfl⟩
  obtain ⟨locs, eL⟩ : ∃ z, z = ([] : List Loc) := ⟨_, rfl⟩
  rw [← eL] at hW ⊢
  suffices hS9 : WD g s A (w_X10_nextOf g a_t a_along a_rowAt a_cornerX a_cornerY a_corners a_what a_strip a_rowSize a_endAt a_turns a_plan a_slantA a_slantB a_yields a_bears a_seen a_wagons a_pile a_far a_waiting a_isWaiting a_rest a_isUsed c_thrown c_isLaid c_head c_hasRows c_hasPlan c_rows c_slants c_capacity c_weight c_unload c_source c_bunker c_along c_rowAt) H locs → W p l e (rm9 1 22) s m args below meth c H locs 0 0 Q (F0 m 0 ls []) by
    rw [← eH] at hW ⊢
    exact hS9 hW
  clear hW eH eL
  intro hW
  refine lv_iconst (pc := 0) (v := (-1)) hx hb (dd dX10_nextOf 0 rfl) (by decide) ?_
  refine lv_istore (pc := 1) (lv' := [(4, .int (-1)), (0, .ref a_t), (1, .int v1), (2, .int v2), (3, .int v3)]) hx hb (dd dX10_nextOf 1 rfl) hl (by decide) rfl (fun ls hl => ?_)
  refine lv_iconst (pc := 3) (v := 0) hx hb (dd dX10_nextOf 2 rfl) (by decide) ?_
  refine lv_istore (pc := 4) (lv' := [(5, .int 0), (4, .int (-1)), (0, .ref a_t), (1, .int v1), (2, .int v2), (3, .int v3)]) hx hb (dd dX10_nextOf 3 rfl) hl (by decide) rfl (fun ls hl => ?_)
  obtain ⟨ex, hw, h⟩ := bnd_ex h
  refine loopW (fun st => ∀ (H : Heap) (locs : List Loc) (ls : Array Slot), WD g s A (w_X10_nextOf g a_t a_along a_rowAt a_cornerX a_cornerY a_corners a_what a_strip a_rowSize a_endAt a_turns a_plan a_slantA a_slantB a_yields a_bears a_seen a_wagons a_pile a_far a_waiting a_isWaiting a_rest a_isUsed c_thrown c_isLaid c_head c_hasRows c_hasPlan c_rows c_slants c_capacity c_weight c_unload c_source c_bunker c_along c_rowAt) H locs → lv_has ls 6 [(0, .ref a_t), (1, .int v1), (2, .int v2), (3, .int v3), (4, .int (st.1)), (5, .int (st.2))] → W p l e (rm9 1 22) s m args below meth c H locs 0 0 Q (F0 m 6 ls [])) (fun (ex : Int32) => ∀ (H : Heap) (locs : List Loc) (ls : Array Slot), WD g s A (w_X10_nextOf g a_t a_along a_rowAt a_cornerX a_cornerY a_corners a_what a_strip a_rowSize a_endAt a_turns a_plan a_slantA a_slantB a_yields a_bears a_seen a_wagons a_pile a_far a_waiting a_isWaiting a_rest a_isUsed c_thrown c_isLaid c_head c_hasRows c_hasPlan c_rows c_slants c_capacity c_weight c_unload c_source c_bunker c_along c_rowAt) H locs → lv_has ls 6 [(4, .int ex)] → W p l e (rm9 1 22) s m args below meth c H locs 0 0 Q (F0 m 103 ls [])) ?_ hw ?_ H locs ls hW (lv_sub hl [2, 3, 4, 5, 1, 0] rfl)
  · rintro ⟨v4, v5⟩ o hb9 hk H locs ls hW hl
    have h : X10_nextOf_L6 c_along c_rowAt v1 v2 v3 v4 v5 = some o := hb9
    clear hb9
    unfold X10_nextOf_L6 at h
    have J97 : ∀ (v4 v5 : Int32) (H : Heap) (locs : List Loc) (ls : Array Slot), X10_nextOf_b6_97 v1 v2 v3 v4 v5 = some o → WD g s A (w_X10_nextOf g a_t a_along a_rowAt a_cornerX a_cornerY a_corners a_what a_strip a_rowSize a_endAt a_turns a_plan a_slantA a_slantB a_yields a_bears a_seen a_wagons a_pile a_far a_waiting a_isWaiting a_rest a_isUsed c_thrown c_isLaid c_head c_hasRows c_hasPlan c_rows c_slants c_capacity c_weight c_unload c_source c_bunker c_along c_rowAt) H locs → lv_has ls 6 [(0, .ref a_t), (1, .int v1), (2, .int v2), (3, .int v3), (4, .int v4), (5, .int v5)] → W p l e (rm9 1 22) s m args below meth c H locs 0 0 Q (F0 m 97 ls []) := by
      intro v4 v5 H locs ls h hW hl
      unfold X10_nextOf_b6_97 at h
      obtain ⟨v5_97, ev5_97, h⟩ := nm_ex h
      refine lv_iinc (pc := 97) (v := v5_97) (lv' := [(5, .int v5_97), (0, .ref a_t), (1, .int v1), (2, .int v2), (3, .int v3), (4, .int v4)]) hx hb (dd dX10_nextOf 46 rfl) hl (k := 5) rfl (by rw [ev5_97]; rfl) (by decide) rfl (fun ls hl => ?_)
      refine lv_goto (pc := 100) (tgt := 6) hx hb (dd dX10_nextOf 47 rfl) (by decide) ?_
      obtain rfl := Option.some.inj h
      exact hk _ _ _ hW (lv_sub hl [1, 2, 3, 4, 5, 0] rfl)
    have J93 : ∀ (v5 : Int32) (H : Heap) (locs : List Loc) (ls : Array Slot), X10_nextOf_b6_93 v1 v2 v3 v5 = some o → WD g s A (w_X10_nextOf g a_t a_along a_rowAt a_cornerX a_cornerY a_corners a_what a_strip a_rowSize a_endAt a_turns a_plan a_slantA a_slantB a_yields a_bears a_seen a_wagons a_pile a_far a_waiting a_isWaiting a_rest a_isUsed c_thrown c_isLaid c_head c_hasRows c_hasPlan c_rows c_slants c_capacity c_weight c_unload c_source c_bunker c_along c_rowAt) H locs → lv_has ls 6 [(0, .ref a_t), (1, .int v1), (2, .int v2), (3, .int v3), (5, .int v5)] → W p l e (rm9 1 22) s m args below meth c H locs 0 0 Q (F0 m 93 ls []) := by
      intro v5 H locs ls h hW hl
      unfold X10_nextOf_b6_93 at h
      refine lv_iload (pc := 93) hx hb (dd dX10_nextOf 44 rfl) (lv_at hl 4 rfl) ?_
      refine lv_istore (pc := 95) (lv' := [(4, .int v5), (0, .ref a_t), (1, .int v1), (2, .int v2), (3, .int v3), (5, .int v5)]) hx hb (dd dX10_nextOf 45 rfl) hl (by decide) rfl (fun ls hl => ?_)
      exact J97 _ _ _ _ _ h hW (lv_sub hl [1, 2, 3, 4, 0, 5] rfl)
    have J59 : ∀ (v4 v5 : Int32) (H : Heap) (locs : List Loc) (ls : Array Slot), X10_nextOf_b6_59 c_along v1 v2 v3 v4 v5 = some o → WD g s A (w_X10_nextOf g a_t a_along a_rowAt a_cornerX a_cornerY a_corners a_what a_strip a_rowSize a_endAt a_turns a_plan a_slantA a_slantB a_yields a_bears a_seen a_wagons a_pile a_far a_waiting a_isWaiting a_rest a_isUsed c_thrown c_isLaid c_head c_hasRows c_hasPlan c_rows c_slants c_capacity c_weight c_unload c_source c_bunker c_along c_rowAt) H locs → lv_has ls 6 [(0, .ref a_t), (1, .int v1), (2, .int v2), (3, .int v3), (4, .int v4), (5, .int v5)] → W p l e (rm9 1 22) s m args below meth c H locs 0 0 Q (F0 m 59 ls []) := by
      intro v4 v5 H locs ls h hW hl
      unfold X10_nextOf_b6_59 at h
      refine lv_iload (pc := 59) hx hb (dd dX10_nextOf 29 rfl) (lv_at hl 4 rfl) ?_
      refine lv_if_lt (pc := 61) (tgt := 93) hx hb (dd dX10_nextOf 30 rfl) (by decide) (fun hc => ?_) (fun hc => ?_)
      · have h := it_t hc h
        exact J93 _ _ _ _ h hW (lv_sub hl [0, 1, 2, 3, 5] rfl)
      · have h := it_f hc h
        refine lv_iload_n (pc := 64) hx hb (dd dX10_nextOf 31 rfl) rfl (lv_at hl 3 rfl) ?_
        refine lv_if_eq (pc := 65) (tgt := 82) hx hb (dd dX10_nextOf 32 rfl) (by decide) (fun hc => ?_) (fun hc => ?_)
        · have h := it_t hc h
          refine lv_aload_n (pc := 82) hx hb (dd dX10_nextOf 39 rfl) rfl (lv_at hl 0 rfl) ?_
          refine lv_iload (pc := 83) hx hb (dd dX10_nextOf 40 rfl) (lv_at hl 4 rfl) ?_
          refine lv_iload (pc := 85) hx hb (dd dX10_nextOf 41 rfl) (lv_at hl 5 rfl) ?_
          obtain ⟨r_87, hr, h⟩ := bnd_ex h
          refine callVI (pc := 87) (na := 2) (As := [.int v4, .int v5]) (rest := []) (ws2 := (w_X10_nextOf g a_t a_along a_rowAt a_cornerX a_cornerY a_corners a_what a_strip a_rowSize a_endAt a_turns a_plan a_slantA a_slantB a_yields a_bears a_seen a_wagons a_pile a_far a_waiting a_isWaiting a_rest a_isUsed c_thrown c_isLaid c_head c_hasRows c_hasPlan c_rows c_slants c_capacity c_weight c_unload c_source c_bunker c_along c_rowAt)) M hl.1 hW (t_X10_isAhead l g a_t a_along a_cornerX a_cornerY a_corners a_what a_rowAt a_strip a_rowSize a_endAt a_turns a_plan a_slantA a_slantB a_yields a_bears a_seen a_wagons a_pile a_far a_waiting a_isWaiting a_rest a_isUsed c_thrown c_isLaid c_head c_hasRows c_hasPlan c_rows c_slants c_capacity c_weight c_unload c_source c_bunker c_along v4 v5 r_87 hr) rfl [0, 1] [2] [1, 2, 0] rfl rfl rfl rfl rfl rfl rfl 0 10 rfl rfl rfl (uw5 144 rfl rfl) (uw5 141 rfl rfl) (uw5 143 rfl rfl) (uwp 48 rfl rfl) (uw1 13 rfl rfl) ⟨by decide, by decide, by decide⟩ rfl ⟨by decide, by decide⟩ (Nat.le_of_ble_eq_true rfl) ⟨Nat.zero_le _, Nat.zero_le _⟩ (dd dX10_nextOf 42 rfl) (fun H locs hW => ?_)
          refine lv_if_eq (pc := 90) (tgt := 97) hx hb (dd dX10_nextOf 43 rfl) (by decide) (fun hc => ?_) (fun hc => ?_)
          · have h := it_t hc h
            exact J97 _ _ _ _ _ h hW (lv_sub hl [0, 1, 2, 3, 4, 5] rfl)
          · have h := it_f hc h
            exact J93 _ _ _ _ h hW (lv_sub hl [0, 1, 2, 3, 5] rfl)
        · have h := it_f hc h
          refine lv_aload_n (pc := 68) hx hb (dd dX10_nextOf 33 rfl) rfl (lv_at hl 0 rfl) ?_
          refine lv_iload (pc := 69) hx hb (dd dX10_nextOf 34 rfl) (lv_at hl 5 rfl) ?_
          refine lv_iload (pc := 71) hx hb (dd dX10_nextOf 35 rfl) (lv_at hl 4 rfl) ?_
          obtain ⟨r_73, hr, h⟩ := bnd_ex h
          refine callVI (pc := 73) (na := 2) (As := [.int v5, .int v4]) (rest := []) (ws2 := (w_X10_nextOf g a_t a_along a_rowAt a_cornerX a_cornerY a_corners a_what a_strip a_rowSize a_endAt a_turns a_plan a_slantA a_slantB a_yields a_bears a_seen a_wagons a_pile a_far a_waiting a_isWaiting a_rest a_isUsed c_thrown c_isLaid c_head c_hasRows c_hasPlan c_rows c_slants c_capacity c_weight c_unload c_source c_bunker c_along c_rowAt)) M hl.1 hW (t_X10_isAhead l g a_t a_along a_cornerX a_cornerY a_corners a_what a_rowAt a_strip a_rowSize a_endAt a_turns a_plan a_slantA a_slantB a_yields a_bears a_seen a_wagons a_pile a_far a_waiting a_isWaiting a_rest a_isUsed c_thrown c_isLaid c_head c_hasRows c_hasPlan c_rows c_slants c_capacity c_weight c_unload c_source c_bunker c_along v5 v4 r_73 hr) rfl [0, 1] [2] [1, 2, 0] rfl rfl rfl rfl rfl rfl rfl 0 10 rfl rfl rfl (uw5 144 rfl rfl) (uw5 141 rfl rfl) (uw5 143 rfl rfl) (uwp 48 rfl rfl) (uw1 13 rfl rfl) ⟨by decide, by decide, by decide⟩ rfl ⟨by decide, by decide⟩ (Nat.le_of_ble_eq_true rfl) ⟨Nat.zero_le _, Nat.zero_le _⟩ (dd dX10_nextOf 36 rfl) (fun H locs hW => ?_)
          refine lv_if_eq (pc := 76) (tgt := 97) hx hb (dd dX10_nextOf 37 rfl) (by decide) (fun hc => ?_) (fun hc => ?_)
          · have h := it_t hc h
            exact J97 _ _ _ _ _ h hW (lv_sub hl [0, 1, 2, 3, 4, 5] rfl)
          · have h := it_f hc h
            refine lv_goto (pc := 79) (tgt := 93) hx hb (dd dX10_nextOf 38 rfl) (by decide) ?_
            exact J93 _ _ _ _ h hW (lv_sub hl [0, 1, 2, 3, 5] rfl)
    refine lv_iload (pc := 6) hx hb (dd dX10_nextOf 4 rfl) (lv_at hl 5 rfl) ?_
    refine lv_sipush (pc := 8) (v := 1200) hx hb (dd dX10_nextOf 5 rfl) (by decide) ?_
    refine lv_icmp_ge (pc := 11) (tgt := 103) hx hb (dd dX10_nextOf 6 rfl) (by decide) (fun hc => ?_) (fun hc => ?_)
    · have h := it_t hc h
      obtain rfl := Option.some.inj h
      exact hk _ _ _ hW (lv_sub hl [4] rfl)
    · have h := it_f hc h
      refine lv_aload_n (pc := 14) hx hb (dd dX10_nextOf 7 rfl) rfl (lv_at hl 0 rfl) ?_
      refine rGet (pc := 15) M hW 0 10 iU10 rfl rfl (by decide) (uw4 223 rfl rfl) rfl (dd dX10_nextOf 8 rfl) ?_
      refine lv_iload (pc := 18) hx hb (dd dX10_nextOf 9 rfl) (lv_at hl 5 rfl) ?_
      obtain ⟨hi, h⟩ := ck_ex h
      refine rIald (pc := 20) M hW 2 rfl hi (dd dX10_nextOf 10 rfl) ?_
      refine lv_iload_n (pc := 21) hx hb (dd dX10_nextOf 11 rfl) rfl (lv_at hl 1 rfl) ?_
      refine lv_icmp_ne (pc := 22) (tgt := 97) hx hb (dd dX10_nextOf 12 rfl) (by decide) (fun hc => ?_) (fun hc => ?_)
      · have h := it_f hc h
        exact J97 _ _ _ _ _ h hW (lv_sub hl [0, 1, 2, 3, 4, 5] rfl)
      · have h := it_t hc h
        refine lv_iload_n (pc := 25) hx hb (dd dX10_nextOf 13 rfl) rfl (lv_at hl 2 rfl) ?_
        refine lv_if_lt (pc := 26) (tgt := 59) hx hb (dd dX10_nextOf 14 rfl) (by decide) (fun hc => ?_) (fun hc => ?_)
        · have h := it_t hc h
          exact J59 _ _ _ _ _ h hW (lv_sub hl [0, 1, 2, 3, 4, 5] rfl)
        · have h := it_f hc h
          refine lv_iload_n (pc := 29) hx hb (dd dX10_nextOf 15 rfl) rfl (lv_at hl 3 rfl) ?_
          refine lv_if_eq (pc := 30) (tgt := 46) hx hb (dd dX10_nextOf 16 rfl) (by decide) (fun hc => ?_) (fun hc => ?_)
          · have h := it_t hc h
            refine lv_aload_n (pc := 46) hx hb (dd dX10_nextOf 23 rfl) rfl (lv_at hl 0 rfl) ?_
            refine lv_iload (pc := 47) hx hb (dd dX10_nextOf 24 rfl) (lv_at hl 5 rfl) ?_
            refine lv_iload_n (pc := 49) hx hb (dd dX10_nextOf 25 rfl) rfl (lv_at hl 2 rfl) ?_
            obtain ⟨r_50, hr, h⟩ := bnd_ex h
            refine callVI (pc := 50) (na := 2) (As := [.int v5, .int v2]) (rest := []) (ws2 := (w_X10_nextOf g a_t a_along a_rowAt a_cornerX a_cornerY a_corners a_what a_strip a_rowSize a_endAt a_turns a_plan a_slantA a_slantB a_yields a_bears a_seen a_wagons a_pile a_far a_waiting a_isWaiting a_rest a_isUsed c_thrown c_isLaid c_head c_hasRows c_hasPlan c_rows c_slants c_capacity c_weight c_unload c_source c_bunker c_along c_rowAt)) M hl.1 hW (t_X10_isAhead l g a_t a_along a_cornerX a_cornerY a_corners a_what a_rowAt a_strip a_rowSize a_endAt a_turns a_plan a_slantA a_slantB a_yields a_bears a_seen a_wagons a_pile a_far a_waiting a_isWaiting a_rest a_isUsed c_thrown c_isLaid c_head c_hasRows c_hasPlan c_rows c_slants c_capacity c_weight c_unload c_source c_bunker c_along v5 v2 r_50 hr) rfl [0, 1] [2] [1, 2, 0] rfl rfl rfl rfl rfl rfl rfl 0 10 rfl rfl rfl (uw5 144 rfl rfl) (uw5 141 rfl rfl) (uw5 143 rfl rfl) (uwp 48 rfl rfl) (uw1 13 rfl rfl) ⟨by decide, by decide, by decide⟩ rfl ⟨by decide, by decide⟩ (Nat.le_of_ble_eq_true rfl) ⟨Nat.zero_le _, Nat.zero_le _⟩ (dd dX10_nextOf 26 rfl) (fun H locs hW => ?_)
            refine lv_if_ne (pc := 53) (tgt := 59) hx hb (dd dX10_nextOf 27 rfl) (by decide) (fun hc => ?_) (fun hc => ?_)
            · have h := it_f hc h
              exact J59 _ _ _ _ _ h hW (lv_sub hl [0, 1, 2, 3, 4, 5] rfl)
            · have h := it_t hc h
              refine lv_goto (pc := 56) (tgt := 97) hx hb (dd dX10_nextOf 28 rfl) (by decide) ?_
              exact J97 _ _ _ _ _ h hW (lv_sub hl [0, 1, 2, 3, 4, 5] rfl)
          · have h := it_f hc h
            refine lv_aload_n (pc := 33) hx hb (dd dX10_nextOf 17 rfl) rfl (lv_at hl 0 rfl) ?_
            refine lv_iload_n (pc := 34) hx hb (dd dX10_nextOf 18 rfl) rfl (lv_at hl 2 rfl) ?_
            refine lv_iload (pc := 35) hx hb (dd dX10_nextOf 19 rfl) (lv_at hl 5 rfl) ?_
            obtain ⟨r_37, hr, h⟩ := bnd_ex h
            refine callVI (pc := 37) (na := 2) (As := [.int v2, .int v5]) (rest := []) (ws2 := (w_X10_nextOf g a_t a_along a_rowAt a_cornerX a_cornerY a_corners a_what a_strip a_rowSize a_endAt a_turns a_plan a_slantA a_slantB a_yields a_bears a_seen a_wagons a_pile a_far a_waiting a_isWaiting a_rest a_isUsed c_thrown c_isLaid c_head c_hasRows c_hasPlan c_rows c_slants c_capacity c_weight c_unload c_source c_bunker c_along c_rowAt)) M hl.1 hW (t_X10_isAhead l g a_t a_along a_cornerX a_cornerY a_corners a_what a_rowAt a_strip a_rowSize a_endAt a_turns a_plan a_slantA a_slantB a_yields a_bears a_seen a_wagons a_pile a_far a_waiting a_isWaiting a_rest a_isUsed c_thrown c_isLaid c_head c_hasRows c_hasPlan c_rows c_slants c_capacity c_weight c_unload c_source c_bunker c_along v2 v5 r_37 hr) rfl [0, 1] [2] [1, 2, 0] rfl rfl rfl rfl rfl rfl rfl 0 10 rfl rfl rfl (uw5 144 rfl rfl) (uw5 141 rfl rfl) (uw5 143 rfl rfl) (uwp 48 rfl rfl) (uw1 13 rfl rfl) ⟨by decide, by decide, by decide⟩ rfl ⟨by decide, by decide⟩ (Nat.le_of_ble_eq_true rfl) ⟨Nat.zero_le _, Nat.zero_le _⟩ (dd dX10_nextOf 20 rfl) (fun H locs hW => ?_)
            refine lv_if_ne (pc := 40) (tgt := 59) hx hb (dd dX10_nextOf 21 rfl) (by decide) (fun hc => ?_) (fun hc => ?_)
            · have h := it_f hc h
              exact J59 _ _ _ _ _ h hW (lv_sub hl [0, 1, 2, 3, 4, 5] rfl)
            · have h := it_t hc h
              refine lv_goto (pc := 43) (tgt := 97) hx hb (dd dX10_nextOf 22 rfl) (by decide) ?_
              exact J97 _ _ _ _ _ h hW (lv_sub hl [0, 1, 2, 3, 4, 5] rfl)
  · obtain ⟨v4_103, e9⟩ : ∃ z, z = ex := ⟨_, rfl⟩
    subst e9
    intro H locs ls hW hl
    refine lv_iload (pc := 103) hx hb (dd dX10_nextOf 48 rfl) (lv_at hl 0 rfl) ?_
    have hW9 := hW
    cases h
    exact ret _ _ _ 105 hW9 rfl (dd dX10_nextOf 49 rfl)
abbrev w_X10_works (g : G9) (a_t a_bears a_seen a_wagons a_yields a_cornerX a_cornerY a_corners a_what a_rowAt a_strip a_along a_rowSize a_endAt a_turns a_plan a_slantA a_slantB a_pile a_far a_waiting a_isWaiting a_rest a_isUsed : Nat) (c_thrown c_isLaid c_head c_hasRows c_hasPlan c_rows c_slants c_capacity c_weight c_unload c_source c_bunker : Int32) (c_bears c_seen c_wagons c_yields : Ar) : va_W := [ob a_t 10 [.int c_thrown, .ref a_cornerX, .ref a_cornerY, .ref a_corners, .ref a_what, .int c_isLaid, .int c_head, .int c_hasRows, .int c_hasPlan, .int c_rows, .ref a_rowAt, .ref a_strip, .ref a_along, .ref a_rowSize, .ref a_endAt, .ref a_turns, .ref a_plan, .ref a_slantA, .ref a_slantB, .int c_slants, .ref a_yields, .ref a_bears, .int c_capacity, .int c_weight, .int c_unload, .ref a_seen, .ref a_wagons, .ref a_pile, .ref a_far, .int c_source, .ref a_waiting, .ref a_isWaiting, .ref a_rest, .ref a_isUsed, .int c_bunker], ia g a_bears 1200 c_bears, ia g a_seen 8 c_seen, ia g a_wagons 1200 c_wagons, ia g a_yields 1200 c_yields]
noncomputable def X10_works_b188 (c_bunker : Int32) (c_seen c_wagons : Ar) (k1 k2 : Int32) : Option (Int32 × Ar × Ar) :=
  ck (ix k1 8) <| nm (au c_seen k1 k2) fun c_seen_188 => some (c_bunker, c_seen_188, c_wagons)
noncomputable def X10_works_b152 (c_bunker : Int32) (c_seen c_wagons : Ar) (k1 k2 k3 : Int32) : Option (Int32 × Ar × Ar) :=
  ck (ix k1 8) <| nm (au c_seen k1 (k2 + k3)) fun c_seen_153 => ck (ix 7 8) <| if c_bunker ≤ (ag c_seen_153 7) then (ck (ix 7 8) <| X10_works_b188 c_bunker c_seen_153 c_wagons 7 (ag c_seen_153 7)) else (X10_works_b188 c_bunker c_seen_153 c_wagons 7 c_bunker)
noncomputable def X10_works_b106 (c_weight c_bunker : Int32) (c_bears c_seen c_wagons c_yields : Ar) (v1 : Int32) : Option (Int32 × Ar × Ar) :=
  ck (ix v1 1200) <| nm ((c_bunker + (ag c_yields v1))) fun c_bunker_118 => ck (ix 6 8) <| ck (ix v1 1200) <| if (c_weight + c_bunker_118) ≤ (ag c_bears v1) then (X10_works_b152 c_bunker_118 c_seen c_wagons 6 (ag c_seen 6) 0) else (X10_works_b152 c_bunker_118 c_seen c_wagons 6 (ag c_seen 6) 1)
noncomputable def X10_works (c_capacity c_weight c_unload c_bunker : Int32) (c_bears c_seen c_wagons c_yields : Ar) (v1 : Int32) : Option (Int32 × Ar × Ar) :=
  ck (ix 0 8) <| ck (ix 0 8) <| nm (au c_seen 0 ((ag c_seen 0) + 1)) fun c_seen_9 => ck (ix 1 8) <| ck (ix 1 8) <| nm (au c_seen_9 1 ((ag c_seen_9 1) + 1)) fun c_seen_19 => ck (ix 2 8) <| ck (ix v1 1200) <| ck (ix 2 8) <| nm (au c_seen_19 2 ((ag c_seen_19 2) + (ag c_yields v1))) fun c_seen_34 => ck (ix v1 1200) <| if (c_bunker + (ag c_yields v1)) ≤ c_capacity then (X10_works_b106 c_weight c_bunker c_bears c_seen_34 c_wagons c_yields v1) else (ck (ix 4 8) <| ck (ix (ag c_seen_34 4) 1200) <| nm (au c_wagons (ag c_seen_34 4) v1) fun c_wagons_64 => ck (ix 4 8) <| ck (ix 4 8) <| nm (au c_seen_34 4 ((ag c_seen_34 4) + 1)) fun c_seen_74 => ck (ix 5 8) <| ck (ix 5 8) <| nm (au c_seen_74 5 ((ag c_seen_74 5) + c_bunker)) fun c_seen_87 => ck (ix 0 8) <| ck (ix 0 8) <| nm (au c_seen_87 0 ((ag c_seen_87 0) + c_unload)) fun c_seen_100 => X10_works_b106 c_weight 0 c_bears c_seen_100 c_wagons_64 c_yields v1)
set_option maxHeartbeats 4000000 in
set_option maxRecDepth 100000 in
theorem t_X10_works (l : Launch) (g : G9) (a_t a_bears a_seen a_wagons a_yields a_cornerX a_cornerY a_corners a_what a_rowAt a_strip a_along a_rowSize a_endAt a_turns a_plan a_slantA a_slantB a_pile a_far a_waiting a_isWaiting a_rest a_isUsed : Nat) (c_thrown c_isLaid c_head c_hasRows c_hasPlan c_rows c_slants c_capacity c_weight c_unload c_source c_bunker : Int32) (c_bears c_seen c_wagons c_yields : Ar) (v1 o_bunker : Int32) (o_seen o_wagons : Ar) (h : X10_works c_capacity c_weight c_unload c_bunker c_bears c_seen c_wagons c_yields v1 = some (o_bunker, o_seen, o_wagons)) : CtV l g yX10_works cX10_works 2 0 0 [.ref a_t, .int v1] (w_X10_works g a_t a_bears a_seen a_wagons a_yields a_cornerX a_cornerY a_corners a_what a_rowAt a_strip a_along a_rowSize a_endAt a_turns a_plan a_slantA a_slantB a_pile a_far a_waiting a_isWaiting a_rest a_isUsed c_thrown c_isLaid c_head c_hasRows c_hasPlan c_rows c_slants c_capacity c_weight c_unload c_source c_bunker c_bears c_seen c_wagons c_yields) (w_X10_works g a_t a_bears a_seen a_wagons a_yields a_cornerX a_cornerY a_corners a_what a_rowAt a_strip a_along a_rowSize a_endAt a_turns a_plan a_slantA a_slantB a_pile a_far a_waiting a_isWaiting a_rest a_isUsed c_thrown c_isLaid c_head c_hasRows c_hasPlan c_rows c_slants c_capacity c_weight c_unload c_source o_bunker c_bears o_seen o_wagons c_yields) := by
  refine startV (by decide) (Nat.le_of_ble_eq_true rfl) ?_
  intro p e s m below meth c A Q ls args M hW hl ret
  have hx := M.1
  have hb := M.2.1
  have hown := M.2.2.2.1
  have hu := M.2.2.2.2.1
  have hl : lv_has ls 2 [(0, .ref a_t), (1, .int v1)] := hl
  unfold X10_works at h
  obtain ⟨H, eH⟩ : ∃ z, z = s.heap := ⟨_, rfl⟩
  obtain ⟨locs, eL⟩ : ∃ z, z = ([] : List Loc) := ⟨_, rfl⟩
  rw [← eL] at hW ⊢
  suffices hS9 : WD g s A (w_X10_works g a_t a_bears a_seen a_wagons a_yields a_cornerX a_cornerY a_corners a_what a_rowAt a_strip a_along a_rowSize a_endAt a_turns a_plan a_slantA a_slantB a_pile a_far a_waiting a_isWaiting a_rest a_isUsed c_thrown c_isLaid c_head c_hasRows c_hasPlan c_rows c_slants c_capacity c_weight c_unload c_source c_bunker c_bears c_seen c_wagons c_yields) H locs → W p l e (rm9 0 0) s m args below meth c H locs 0 0 Q (F0 m 0 ls []) by
    rw [← eH] at hW ⊢
    exact hS9 hW
  clear hW eH eL
  intro hW
  have J188 : ∀ (c_bunker : Int32) (c_seen c_wagons : Ar) (k1 k2 : Int32) (H : Heap) (locs : List Loc) (ls : Array Slot), X10_works_b188 c_bunker c_seen c_wagons k1 k2 = some (o_bunker, o_seen, o_wagons) → WD g s A (w_X10_works g a_t a_bears a_seen a_wagons a_yields a_cornerX a_cornerY a_corners a_what a_rowAt a_strip a_along a_rowSize a_endAt a_turns a_plan a_slantA a_slantB a_pile a_far a_waiting a_isWaiting a_rest a_isUsed c_thrown c_isLaid c_head c_hasRows c_hasPlan c_rows c_slants c_capacity c_weight c_unload c_source c_bunker c_bears c_seen c_wagons c_yields) H locs → lv_has ls 2 [] → W p l e (rm9 0 0) s m args below meth c H locs 0 0 Q (F0 m 188 ls [.int k2, .int k1, .ref a_seen]) := by
    intro c_bunker c_seen c_wagons k1 k2 H locs ls h hW hl
    unfold X10_works_b188 at h
    obtain ⟨hi, h⟩ := ck_ex h
    obtain ⟨c_seen_188, ec_seen_188, h⟩ := nm_ex h
    refine rIast (pc := 188) M hW 2 rfl hi ec_seen_188 (ws' := (w_X10_works g a_t a_bears a_seen a_wagons a_yields a_cornerX a_cornerY a_corners a_what a_rowAt a_strip a_along a_rowSize a_endAt a_turns a_plan a_slantA a_slantB a_pile a_far a_waiting a_isWaiting a_rest a_isUsed c_thrown c_isLaid c_head c_hasRows c_hasPlan c_rows c_slants c_capacity c_weight c_unload c_source c_bunker c_bears c_seen_188 c_wagons c_yields)) rfl (dd dX10_works_p2 0 rfl) (fun H locs hW => ?_)
    have hW9 := hW
    cases h
    exact ret _ _ _ 189 hW9 (dd dX10_works_p2 1 rfl)
  have J152 : ∀ (c_bunker : Int32) (c_seen c_wagons : Ar) (k1 k2 k3 : Int32) (H : Heap) (locs : List Loc) (ls : Array Slot), X10_works_b152 c_bunker c_seen c_wagons k1 k2 k3 = some (o_bunker, o_seen, o_wagons) → WD g s A (w_X10_works g a_t a_bears a_seen a_wagons a_yields a_cornerX a_cornerY a_corners a_what a_rowAt a_strip a_along a_rowSize a_endAt a_turns a_plan a_slantA a_slantB a_pile a_far a_waiting a_isWaiting a_rest a_isUsed c_thrown c_isLaid c_head c_hasRows c_hasPlan c_rows c_slants c_capacity c_weight c_unload c_source c_bunker c_bears c_seen c_wagons c_yields) H locs → lv_has ls 2 [(0, .ref a_t)] → W p l e (rm9 0 0) s m args below meth c H locs 0 0 Q (F0 m 152 ls [.int k3, .int k2, .int k1, .ref a_seen]) := by
    intro c_bunker c_seen c_wagons k1 k2 k3 H locs ls h hW hl
    unfold X10_works_b152 at h
    refine lv_iadd (pc := 152) hx hb (dd dX10_works_p1 41 rfl) ?_
    obtain ⟨hi, h⟩ := ck_ex h
    obtain ⟨c_seen_153, ec_seen_153, h⟩ := nm_ex h
    refine rIast (pc := 153) M hW 2 rfl hi ec_seen_153 (ws' := (w_X10_works g a_t a_bears a_seen a_wagons a_yields a_cornerX a_cornerY a_corners a_what a_rowAt a_strip a_along a_rowSize a_endAt a_turns a_plan a_slantA a_slantB a_pile a_far a_waiting a_isWaiting a_rest a_isUsed c_thrown c_isLaid c_head c_hasRows c_hasPlan c_rows c_slants c_capacity c_weight c_unload c_source c_bunker c_bears c_seen_153 c_wagons c_yields)) rfl (dd dX10_works_p1 42 rfl) (fun H locs hW => ?_)
    refine lv_aload_n (pc := 154) hx hb (dd dX10_works_p1 43 rfl) rfl (lv_at hl 0 rfl) ?_
    refine rGet (pc := 155) M hW 0 25 iU10 rfl rfl (by decide) (uw4 238 rfl rfl) rfl (dd dX10_works_p1 44 rfl) ?_
    refine lv_bipush (pc := 158) (v := 7) hx hb (dd dX10_works_p1 45 rfl) (by decide) ?_
    refine lv_aload_n (pc := 160) hx hb (dd dX10_works_p1 46 rfl) rfl (lv_at hl 0 rfl) ?_
    refine rGet (pc := 161) M hW 0 34 iU10 rfl rfl (by decide) (uw5 7 rfl rfl) rfl (dd dX10_works_p1 47 rfl) ?_
    refine lv_aload_n (pc := 164) hx hb (dd dX10_works_p1 48 rfl) rfl (lv_at hl 0 rfl) ?_
    refine rGet (pc := 165) M hW 0 25 iU10 rfl rfl (by decide) (uw4 238 rfl rfl) rfl (dd dX10_works_p1 49 rfl) ?_
    refine lv_bipush (pc := 168) (v := 7) hx hb (dd dX10_works_p1 50 rfl) (by decide) ?_
    obtain ⟨hi, h⟩ := ck_ex h
    refine rIald (pc := 170) M hW 2 rfl hi (dd dX10_works_p1 51 rfl) ?_
    refine lv_icmp_le (pc := 171) (tgt := 181) hx hb (dd dX10_works_p1 52 rfl) (by decide) (fun hc => ?_) (fun hc => ?_)
    · have h := it_t hc h
      refine lv_aload_n (pc := 181) hx hb (dd dX10_works_p1 56 rfl) rfl (lv_at hl 0 rfl) ?_
      refine rGet (pc := 182) M hW 0 25 iU10 rfl rfl (by decide) (uw4 238 rfl rfl) rfl (dd dX10_works_p1 57 rfl) ?_
      refine lv_bipush (pc := 185) (v := 7) hx hb (dd dX10_works_p1 58 rfl) (by decide) ?_
      obtain ⟨hi, h⟩ := ck_ex h
      refine rIald (pc := 187) M hW 2 rfl hi (dd dX10_works_p1 59 rfl) ?_
      exact J188 _ _ _ _ _ _ _ _ h hW (lv_sub hl [] rfl)
    · have h := it_f hc h
      refine lv_aload_n (pc := 174) hx hb (dd dX10_works_p1 53 rfl) rfl (lv_at hl 0 rfl) ?_
      refine rGet (pc := 175) M hW 0 34 iU10 rfl rfl (by decide) (uw5 7 rfl rfl) rfl (dd dX10_works_p1 54 rfl) ?_
      refine lv_goto (pc := 178) (tgt := 188) hx hb (dd dX10_works_p1 55 rfl) (by decide) ?_
      exact J188 _ _ _ _ _ _ _ _ h hW (lv_sub hl [] rfl)
  have J106 : ∀ (c_bunker : Int32) (c_seen c_wagons : Ar) (H : Heap) (locs : List Loc) (ls : Array Slot), X10_works_b106 c_weight c_bunker c_bears c_seen c_wagons c_yields v1 = some (o_bunker, o_seen, o_wagons) → WD g s A (w_X10_works g a_t a_bears a_seen a_wagons a_yields a_cornerX a_cornerY a_corners a_what a_rowAt a_strip a_along a_rowSize a_endAt a_turns a_plan a_slantA a_slantB a_pile a_far a_waiting a_isWaiting a_rest a_isUsed c_thrown c_isLaid c_head c_hasRows c_hasPlan c_rows c_slants c_capacity c_weight c_unload c_source c_bunker c_bears c_seen c_wagons c_yields) H locs → lv_has ls 2 [(0, .ref a_t), (1, .int v1)] → W p l e (rm9 0 0) s m args below meth c H locs 0 0 Q (F0 m 106 ls []) := by
    intro c_bunker c_seen c_wagons H locs ls h hW hl
    unfold X10_works_b106 at h
    refine lv_aload_n (pc := 106) hx hb (dd dX10_works_p1 14 rfl) rfl (lv_at hl 0 rfl) ?_
    refine lv_dup (pc := 107) hx hb (dd dX10_works_p1 15 rfl) rfl ?_
    refine rGet (pc := 108) M hW 0 34 iU10 rfl rfl (by decide) (uw5 7 rfl rfl) rfl (dd dX10_works_p1 16 rfl) ?_
    refine lv_aload_n (pc := 111) hx hb (dd dX10_works_p1 17 rfl) rfl (lv_at hl 0 rfl) ?_
    refine rGet (pc := 112) M hW 0 20 iU10 rfl rfl (by decide) (uw4 233 rfl rfl) rfl (dd dX10_works_p1 18 rfl) ?_
    refine lv_iload_n (pc := 115) hx hb (dd dX10_works_p1 19 rfl) rfl (lv_at hl 1 rfl) ?_
    obtain ⟨hi, h⟩ := ck_ex h
    refine rIald (pc := 116) M hW 4 rfl hi (dd dX10_works_p1 20 rfl) ?_
    refine lv_iadd (pc := 117) hx hb (dd dX10_works_p1 21 rfl) ?_
    obtain ⟨c_bunker_118, ec_bunker_118, h⟩ := nm_ex h
    refine rTopi (pc := 118) ec_bunker_118 ?_
    refine rPut (pc := 118) M hW 0 34 tyX10 tyX10_ok nmX10 iU10 rfl rfl (by decide) (uw5 7 rfl rfl) rfl rfl rfl (Nat.le_of_ble_eq_true rfl) (dd dX10_works_p1 22 rfl) (ws' := (w_X10_works g a_t a_bears a_seen a_wagons a_yields a_cornerX a_cornerY a_corners a_what a_rowAt a_strip a_along a_rowSize a_endAt a_turns a_plan a_slantA a_slantB a_pile a_far a_waiting a_isWaiting a_rest a_isUsed c_thrown c_isLaid c_head c_hasRows c_hasPlan c_rows c_slants c_capacity c_weight c_unload c_source c_bunker_118 c_bears c_seen c_wagons c_yields)) rfl (fun H locs hW => ?_)
    refine lv_aload_n (pc := 121) hx hb (dd dX10_works_p1 23 rfl) rfl (lv_at hl 0 rfl) ?_
    refine rGet (pc := 122) M hW 0 25 iU10 rfl rfl (by decide) (uw4 238 rfl rfl) rfl (dd dX10_works_p1 24 rfl) ?_
    refine lv_bipush (pc := 125) (v := 6) hx hb (dd dX10_works_p1 25 rfl) (by decide) ?_
    refine lv_dup2_11 (pc := 127) hx hb (dd dX10_works_p1 26 rfl) rfl rfl ?_
    obtain ⟨hi, h⟩ := ck_ex h
    refine rIald (pc := 128) M hW 2 rfl hi (dd dX10_works_p1 27 rfl) ?_
    refine lv_aload_n (pc := 129) hx hb (dd dX10_works_p1 28 rfl) rfl (lv_at hl 0 rfl) ?_
    refine rGet (pc := 130) M hW 0 23 iU10 rfl rfl (by decide) (uw4 236 rfl rfl) rfl (dd dX10_works_p1 29 rfl) ?_
    refine lv_aload_n (pc := 133) hx hb (dd dX10_works_p1 30 rfl) rfl (lv_at hl 0 rfl) ?_
    refine rGet (pc := 134) M hW 0 34 iU10 rfl rfl (by decide) (uw5 7 rfl rfl) rfl (dd dX10_works_p1 31 rfl) ?_
    refine lv_iadd (pc := 137) hx hb (dd dX10_works_p1 32 rfl) ?_
    refine lv_aload_n (pc := 138) hx hb (dd dX10_works_p1 33 rfl) rfl (lv_at hl 0 rfl) ?_
    refine rGet (pc := 139) M hW 0 21 iU10 rfl rfl (by decide) (uw4 234 rfl rfl) rfl (dd dX10_works_p1 34 rfl) ?_
    refine lv_iload_n (pc := 142) hx hb (dd dX10_works_p1 35 rfl) rfl (lv_at hl 1 rfl) ?_
    obtain ⟨hi, h⟩ := ck_ex h
    refine rIald (pc := 143) M hW 1 rfl hi (dd dX10_works_p1 36 rfl) ?_
    refine lv_icmp_le (pc := 144) (tgt := 151) hx hb (dd dX10_works_p1 37 rfl) (by decide) (fun hc => ?_) (fun hc => ?_)
    · have h := it_t hc h
      refine lv_iconst (pc := 151) (v := 0) hx hb (dd dX10_works_p1 40 rfl) (by decide) ?_
      exact J152 _ _ _ _ _ _ _ _ _ h hW (lv_sub hl [0] rfl)
    · have h := it_f hc h
      refine lv_iconst (pc := 147) (v := 1) hx hb (dd dX10_works_p1 38 rfl) (by decide) ?_
      refine lv_goto (pc := 148) (tgt := 152) hx hb (dd dX10_works_p1 39 rfl) (by decide) ?_
      exact J152 _ _ _ _ _ _ _ _ _ h hW (lv_sub hl [0] rfl)
  refine lv_aload_n (pc := 0) hx hb (dd dX10_works_p0 0 rfl) rfl (lv_at hl 0 rfl) ?_
  refine rGet (pc := 1) M hW 0 25 iU10 rfl rfl (by decide) (uw4 238 rfl rfl) rfl (dd dX10_works_p0 1 rfl) ?_
  refine lv_iconst (pc := 4) (v := 0) hx hb (dd dX10_works_p0 2 rfl) (by decide) ?_
  refine lv_dup2_11 (pc := 5) hx hb (dd dX10_works_p0 3 rfl) rfl rfl ?_
  obtain ⟨hi, h⟩ := ck_ex h
  refine rIald (pc := 6) M hW 2 rfl hi (dd dX10_works_p0 4 rfl) ?_
  refine lv_iconst (pc := 7) (v := 1) hx hb (dd dX10_works_p0 5 rfl) (by decide) ?_
  refine lv_iadd (pc := 8) hx hb (dd dX10_works_p0 6 rfl) ?_
  obtain ⟨hi, h⟩ := ck_ex h
  obtain ⟨c_seen_9, ec_seen_9, h⟩ := nm_ex h
  refine rIast (pc := 9) M hW 2 rfl hi ec_seen_9 (ws' := (w_X10_works g a_t a_bears a_seen a_wagons a_yields a_cornerX a_cornerY a_corners a_what a_rowAt a_strip a_along a_rowSize a_endAt a_turns a_plan a_slantA a_slantB a_pile a_far a_waiting a_isWaiting a_rest a_isUsed c_thrown c_isLaid c_head c_hasRows c_hasPlan c_rows c_slants c_capacity c_weight c_unload c_source c_bunker c_bears c_seen_9 c_wagons c_yields)) rfl (dd dX10_works_p0 7 rfl) (fun H locs hW => ?_)
  refine lv_aload_n (pc := 10) hx hb (dd dX10_works_p0 8 rfl) rfl (lv_at hl 0 rfl) ?_
  refine rGet (pc := 11) M hW 0 25 iU10 rfl rfl (by decide) (uw4 238 rfl rfl) rfl (dd dX10_works_p0 9 rfl) ?_
  refine lv_iconst (pc := 14) (v := 1) hx hb (dd dX10_works_p0 10 rfl) (by decide) ?_
  refine lv_dup2_11 (pc := 15) hx hb (dd dX10_works_p0 11 rfl) rfl rfl ?_
  obtain ⟨hi, h⟩ := ck_ex h
  refine rIald (pc := 16) M hW 2 rfl hi (dd dX10_works_p0 12 rfl) ?_
  refine lv_iconst (pc := 17) (v := 1) hx hb (dd dX10_works_p0 13 rfl) (by decide) ?_
  refine lv_iadd (pc := 18) hx hb (dd dX10_works_p0 14 rfl) ?_
  obtain ⟨hi, h⟩ := ck_ex h
  obtain ⟨c_seen_19, ec_seen_19, h⟩ := nm_ex h
  refine rIast (pc := 19) M hW 2 rfl hi ec_seen_19 (ws' := (w_X10_works g a_t a_bears a_seen a_wagons a_yields a_cornerX a_cornerY a_corners a_what a_rowAt a_strip a_along a_rowSize a_endAt a_turns a_plan a_slantA a_slantB a_pile a_far a_waiting a_isWaiting a_rest a_isUsed c_thrown c_isLaid c_head c_hasRows c_hasPlan c_rows c_slants c_capacity c_weight c_unload c_source c_bunker c_bears c_seen_19 c_wagons c_yields)) rfl (dd dX10_works_p0 15 rfl) (fun H locs hW => ?_)
  refine lv_aload_n (pc := 20) hx hb (dd dX10_works_p0 16 rfl) rfl (lv_at hl 0 rfl) ?_
  refine rGet (pc := 21) M hW 0 25 iU10 rfl rfl (by decide) (uw4 238 rfl rfl) rfl (dd dX10_works_p0 17 rfl) ?_
  refine lv_iconst (pc := 24) (v := 2) hx hb (dd dX10_works_p0 18 rfl) (by decide) ?_
  refine lv_dup2_11 (pc := 25) hx hb (dd dX10_works_p0 19 rfl) rfl rfl ?_
  obtain ⟨hi, h⟩ := ck_ex h
  refine rIald (pc := 26) M hW 2 rfl hi (dd dX10_works_p0 20 rfl) ?_
  refine lv_aload_n (pc := 27) hx hb (dd dX10_works_p0 21 rfl) rfl (lv_at hl 0 rfl) ?_
  refine rGet (pc := 28) M hW 0 20 iU10 rfl rfl (by decide) (uw4 233 rfl rfl) rfl (dd dX10_works_p0 22 rfl) ?_
  refine lv_iload_n (pc := 31) hx hb (dd dX10_works_p0 23 rfl) rfl (lv_at hl 1 rfl) ?_
  obtain ⟨hi, h⟩ := ck_ex h
  refine rIald (pc := 32) M hW 4 rfl hi (dd dX10_works_p0 24 rfl) ?_
  refine lv_iadd (pc := 33) hx hb (dd dX10_works_p0 25 rfl) ?_
  obtain ⟨hi, h⟩ := ck_ex h
  obtain ⟨c_seen_34, ec_seen_34, h⟩ := nm_ex h
  refine rIast (pc := 34) M hW 2 rfl hi ec_seen_34 (ws' := (w_X10_works g a_t a_bears a_seen a_wagons a_yields a_cornerX a_cornerY a_corners a_what a_rowAt a_strip a_along a_rowSize a_endAt a_turns a_plan a_slantA a_slantB a_pile a_far a_waiting a_isWaiting a_rest a_isUsed c_thrown c_isLaid c_head c_hasRows c_hasPlan c_rows c_slants c_capacity c_weight c_unload c_source c_bunker c_bears c_seen_34 c_wagons c_yields)) rfl (dd dX10_works_p0 26 rfl) (fun H locs hW => ?_)
  refine lv_aload_n (pc := 35) hx hb (dd dX10_works_p0 27 rfl) rfl (lv_at hl 0 rfl) ?_
  refine rGet (pc := 36) M hW 0 34 iU10 rfl rfl (by decide) (uw5 7 rfl rfl) rfl (dd dX10_works_p0 28 rfl) ?_
  refine lv_aload_n (pc := 39) hx hb (dd dX10_works_p0 29 rfl) rfl (lv_at hl 0 rfl) ?_
  refine rGet (pc := 40) M hW 0 20 iU10 rfl rfl (by decide) (uw4 233 rfl rfl) rfl (dd dX10_works_p0 30 rfl) ?_
  refine lv_iload_n (pc := 43) hx hb (dd dX10_works_p0 31 rfl) rfl (lv_at hl 1 rfl) ?_
  obtain ⟨hi, h⟩ := ck_ex h
  refine rIald (pc := 44) M hW 4 rfl hi (dd dX10_works_p0 32 rfl) ?_
  refine lv_iadd (pc := 45) hx hb (dd dX10_works_p0 33 rfl) ?_
  refine lv_aload_n (pc := 46) hx hb (dd dX10_works_p0 34 rfl) rfl (lv_at hl 0 rfl) ?_
  refine rGet (pc := 47) M hW 0 22 iU10 rfl rfl (by decide) (uw4 235 rfl rfl) rfl (dd dX10_works_p0 35 rfl) ?_
  refine lv_icmp_le (pc := 50) (tgt := 106) hx hb (dd dX10_works_p0 36 rfl) (by decide) (fun hc => ?_) (fun hc => ?_)
  · have h := it_t hc h
    exact J106 _ _ _ _ _ _ h hW (lv_sub hl [0, 1] rfl)
  · have h := it_f hc h
    refine lv_aload_n (pc := 53) hx hb (dd dX10_works_p0 37 rfl) rfl (lv_at hl 0 rfl) ?_
    refine rGet (pc := 54) M hW 0 26 iU10 rfl rfl (by decide) (uw4 239 rfl rfl) rfl (dd dX10_works_p0 38 rfl) ?_
    refine lv_aload_n (pc := 57) hx hb (dd dX10_works_p0 39 rfl) rfl (lv_at hl 0 rfl) ?_
    refine rGet (pc := 58) M hW 0 25 iU10 rfl rfl (by decide) (uw4 238 rfl rfl) rfl (dd dX10_works_p0 40 rfl) ?_
    refine lv_iconst (pc := 61) (v := 4) hx hb (dd dX10_works_p0 41 rfl) (by decide) ?_
    obtain ⟨hi, h⟩ := ck_ex h
    refine rIald (pc := 62) M hW 2 rfl hi (dd dX10_works_p0 42 rfl) ?_
    refine lv_iload_n (pc := 63) hx hb (dd dX10_works_p0 43 rfl) rfl (lv_at hl 1 rfl) ?_
    obtain ⟨hi, h⟩ := ck_ex h
    obtain ⟨c_wagons_64, ec_wagons_64, h⟩ := nm_ex h
    refine rIast (pc := 64) M hW 3 rfl hi ec_wagons_64 (ws' := (w_X10_works g a_t a_bears a_seen a_wagons a_yields a_cornerX a_cornerY a_corners a_what a_rowAt a_strip a_along a_rowSize a_endAt a_turns a_plan a_slantA a_slantB a_pile a_far a_waiting a_isWaiting a_rest a_isUsed c_thrown c_isLaid c_head c_hasRows c_hasPlan c_rows c_slants c_capacity c_weight c_unload c_source c_bunker c_bears c_seen_34 c_wagons_64 c_yields)) rfl (dd dX10_works_p0 44 rfl) (fun H locs hW => ?_)
    refine lv_aload_n (pc := 65) hx hb (dd dX10_works_p0 45 rfl) rfl (lv_at hl 0 rfl) ?_
    refine rGet (pc := 66) M hW 0 25 iU10 rfl rfl (by decide) (uw4 238 rfl rfl) rfl (dd dX10_works_p0 46 rfl) ?_
    refine lv_iconst (pc := 69) (v := 4) hx hb (dd dX10_works_p0 47 rfl) (by decide) ?_
    refine lv_dup2_11 (pc := 70) hx hb (dd dX10_works_p0 48 rfl) rfl rfl ?_
    obtain ⟨hi, h⟩ := ck_ex h
    refine rIald (pc := 71) M hW 2 rfl hi (dd dX10_works_p0 49 rfl) ?_
    refine lv_iconst (pc := 72) (v := 1) hx hb (dd dX10_works_p0 50 rfl) (by decide) ?_
    refine lv_iadd (pc := 73) hx hb (dd dX10_works_p0 51 rfl) ?_
    obtain ⟨hi, h⟩ := ck_ex h
    obtain ⟨c_seen_74, ec_seen_74, h⟩ := nm_ex h
    refine rIast (pc := 74) M hW 2 rfl hi ec_seen_74 (ws' := (w_X10_works g a_t a_bears a_seen a_wagons a_yields a_cornerX a_cornerY a_corners a_what a_rowAt a_strip a_along a_rowSize a_endAt a_turns a_plan a_slantA a_slantB a_pile a_far a_waiting a_isWaiting a_rest a_isUsed c_thrown c_isLaid c_head c_hasRows c_hasPlan c_rows c_slants c_capacity c_weight c_unload c_source c_bunker c_bears c_seen_74 c_wagons_64 c_yields)) rfl (dd dX10_works_p0 52 rfl) (fun H locs hW => ?_)
    refine lv_aload_n (pc := 75) hx hb (dd dX10_works_p0 53 rfl) rfl (lv_at hl 0 rfl) ?_
    refine rGet (pc := 76) M hW 0 25 iU10 rfl rfl (by decide) (uw4 238 rfl rfl) rfl (dd dX10_works_p0 54 rfl) ?_
    refine lv_iconst (pc := 79) (v := 5) hx hb (dd dX10_works_p0 55 rfl) (by decide) ?_
    refine lv_dup2_11 (pc := 80) hx hb (dd dX10_works_p0 56 rfl) rfl rfl ?_
    obtain ⟨hi, h⟩ := ck_ex h
    refine rIald (pc := 81) M hW 2 rfl hi (dd dX10_works_p0 57 rfl) ?_
    refine lv_aload_n (pc := 82) hx hb (dd dX10_works_p0 58 rfl) rfl (lv_at hl 0 rfl) ?_
    refine rGet (pc := 83) M hW 0 34 iU10 rfl rfl (by decide) (uw5 7 rfl rfl) rfl (dd dX10_works_p0 59 rfl) ?_
    refine lv_iadd (pc := 86) hx hb (dd dX10_works_p1 0 rfl) ?_
    obtain ⟨hi, h⟩ := ck_ex h
    obtain ⟨c_seen_87, ec_seen_87, h⟩ := nm_ex h
    refine rIast (pc := 87) M hW 2 rfl hi ec_seen_87 (ws' := (w_X10_works g a_t a_bears a_seen a_wagons a_yields a_cornerX a_cornerY a_corners a_what a_rowAt a_strip a_along a_rowSize a_endAt a_turns a_plan a_slantA a_slantB a_pile a_far a_waiting a_isWaiting a_rest a_isUsed c_thrown c_isLaid c_head c_hasRows c_hasPlan c_rows c_slants c_capacity c_weight c_unload c_source c_bunker c_bears c_seen_87 c_wagons_64 c_yields)) rfl (dd dX10_works_p1 1 rfl) (fun H locs hW => ?_)
    refine lv_aload_n (pc := 88) hx hb (dd dX10_works_p1 2 rfl) rfl (lv_at hl 0 rfl) ?_
    refine rGet (pc := 89) M hW 0 25 iU10 rfl rfl (by decide) (uw4 238 rfl rfl) rfl (dd dX10_works_p1 3 rfl) ?_
    refine lv_iconst (pc := 92) (v := 0) hx hb (dd dX10_works_p1 4 rfl) (by decide) ?_
    refine lv_dup2_11 (pc := 93) hx hb (dd dX10_works_p1 5 rfl) rfl rfl ?_
    obtain ⟨hi, h⟩ := ck_ex h
    refine rIald (pc := 94) M hW 2 rfl hi (dd dX10_works_p1 6 rfl) ?_
    refine lv_aload_n (pc := 95) hx hb (dd dX10_works_p1 7 rfl) rfl (lv_at hl 0 rfl) ?_
    refine rGet (pc := 96) M hW 0 24 iU10 rfl rfl (by decide) (uw4 237 rfl rfl) rfl (dd dX10_works_p1 8 rfl) ?_
    refine lv_iadd (pc := 99) hx hb (dd dX10_works_p1 9 rfl) ?_
    obtain ⟨hi, h⟩ := ck_ex h
    obtain ⟨c_seen_100, ec_seen_100, h⟩ := nm_ex h
    refine rIast (pc := 100) M hW 2 rfl hi ec_seen_100 (ws' := (w_X10_works g a_t a_bears a_seen a_wagons a_yields a_cornerX a_cornerY a_corners a_what a_rowAt a_strip a_along a_rowSize a_endAt a_turns a_plan a_slantA a_slantB a_pile a_far a_waiting a_isWaiting a_rest a_isUsed c_thrown c_isLaid c_head c_hasRows c_hasPlan c_rows c_slants c_capacity c_weight c_unload c_source c_bunker c_bears c_seen_100 c_wagons_64 c_yields)) rfl (dd dX10_works_p1 10 rfl) (fun H locs hW => ?_)
    refine lv_aload_n (pc := 101) hx hb (dd dX10_works_p1 11 rfl) rfl (lv_at hl 0 rfl) ?_
    refine lv_iconst (pc := 102) (v := 0) hx hb (dd dX10_works_p1 12 rfl) (by decide) ?_
    refine rPut (pc := 103) M hW 0 34 tyX10 tyX10_ok nmX10 iU10 rfl rfl (by decide) (uw5 7 rfl rfl) rfl rfl rfl (Nat.le_of_ble_eq_true rfl) (dd dX10_works_p1 13 rfl) (ws' := (w_X10_works g a_t a_bears a_seen a_wagons a_yields a_cornerX a_cornerY a_corners a_what a_rowAt a_strip a_along a_rowSize a_endAt a_turns a_plan a_slantA a_slantB a_pile a_far a_waiting a_isWaiting a_rest a_isUsed c_thrown c_isLaid c_head c_hasRows c_hasPlan c_rows c_slants c_capacity c_weight c_unload c_source 0 c_bears c_seen_100 c_wagons_64 c_yields)) rfl (fun H locs hW => ?_)
    exact J106 _ _ _ _ _ _ h hW (lv_sub hl [0, 1] rfl)
abbrev w_X10_run (g : G9) (a_t a_along a_bears a_plan a_rowAt a_seen a_turns a_wagons a_yields a_cornerX a_cornerY a_corners a_what a_strip a_rowSize a_endAt a_slantA a_slantB a_pile a_far a_waiting a_isWaiting a_rest a_isUsed : Nat) (c_thrown c_isLaid c_head c_hasRows c_hasPlan c_rows c_slants c_capacity c_weight c_unload c_source c_bunker : Int32) (c_along c_bears c_plan c_rowAt c_seen c_turns c_wagons c_yields : Ar) : va_W := [ob a_t 10 [.int c_thrown, .ref a_cornerX, .ref a_cornerY, .ref a_corners, .ref a_what, .int c_isLaid, .int c_head, .int c_hasRows, .int c_hasPlan, .int c_rows, .ref a_rowAt, .ref a_strip, .ref a_along, .ref a_rowSize, .ref a_endAt, .ref a_turns, .ref a_plan, .ref a_slantA, .ref a_slantB, .int c_slants, .ref a_yields, .ref a_bears, .int c_capacity, .int c_weight, .int c_unload, .ref a_seen, .ref a_wagons, .ref a_pile, .ref a_far, .int c_source, .ref a_waiting, .ref a_isWaiting, .ref a_rest, .ref a_isUsed, .int c_bunker], ia g a_along 1200 c_along, ia g a_bears 1200 c_bears, ia g a_plan 60 c_plan, ia g a_rowAt 1200 c_rowAt, ia g a_seen 8 c_seen, ia g a_turns 14400 c_turns, ia g a_wagons 1200 c_wagons, ia g a_yields 1200 c_yields]
noncomputable def X10_run_L36 (c_seen : Ar) (v1 : Int32) : Option ((Ar × Int32) ⊕ Ar) :=
  if 8 ≤ v1 then (some (.inr c_seen)) else (ck (ix v1 8) <| nm (au c_seen v1 0) fun c_seen_48 => nm (v1 + 1) fun v1_49 => some (.inl (c_seen_48, v1_49)))
noncomputable def X10_run_L102 (c_capacity c_weight c_unload : Int32) (c_along c_bears c_plan c_rowAt c_yields : Ar) (v1 v2 c_bunker : Int32) (c_seen c_wagons : Ar) (v3 : Int32) : Option ((Int32 × Ar × Ar × Int32) ⊕ (Int32 × Ar × Ar)) :=
  if v3 < 0 then (some (.inr (c_bunker, c_seen, c_wagons))) else (bnd (X10_works c_capacity c_weight c_unload c_bunker c_bears c_seen c_wagons c_yields v3) <| un3 fun c_bunker_108 c_seen_108 c_wagons_108 => ck (ix v1 60) <| bnd (X10_nextOf c_along c_rowAt ((ag c_plan v1) / 2) v3 v2) <| fun r_122 => some (.inl (c_bunker_108, c_seen_108, c_wagons_108, r_122)))
noncomputable def X10_run_b62_86 (c_capacity c_weight c_unload c_bunker : Int32) (c_along c_bears c_plan c_rowAt c_seen c_wagons c_yields : Ar) (v1 k0 : Int32) : Option ((Int32 × Ar × Ar × Int32) ⊕ (Int32 × Ar × Ar)) :=
  ck (ix v1 60) <| bnd (X10_nextOf c_along c_rowAt ((ag c_plan v1) / 2) (-1) k0) <| fun r_98 => bnd (whileV (fun st => X10_run_L102 c_capacity c_weight c_unload c_along c_bears c_plan c_rowAt c_yields v1 k0 st.1 st.2.1 st.2.2.1 st.2.2.2) (c_bunker, c_seen, c_wagons, r_98)) <| (un3 fun c_bunker_129 c_seen_129 c_wagons_129 => nm (v1 + 1) fun v1_129 => some (.inl (c_bunker_129, c_seen_129, c_wagons_129, v1_129)))
noncomputable def X10_run_L62 (c_rows c_capacity c_weight c_unload : Int32) (c_along c_bears c_plan c_rowAt c_yields : Ar) (c_bunker : Int32) (c_seen c_wagons : Ar) (v1 : Int32) : Option ((Int32 × Ar × Ar × Int32) ⊕ (Int32 × Ar × Ar)) :=
  if c_rows ≤ v1 then (some (.inr (c_bunker, c_seen, c_wagons))) else (ck (ix v1 60) <| if ((ag c_plan v1) - (ag c_plan v1) / 2 * 2) = 0 then (X10_run_b62_86 c_capacity c_weight c_unload c_bunker c_along c_bears c_plan c_rowAt c_seen c_wagons c_yields v1 1) else (X10_run_b62_86 c_capacity c_weight c_unload c_bunker c_along c_bears c_plan c_rowAt c_seen c_wagons c_yields v1 0))
noncomputable def X10_run_b25 (c_thrown c_rows c_capacity c_weight c_unload c_bunker : Int32) (c_along c_bears c_plan c_rowAt c_seen c_turns c_wagons c_yields : Ar) (k1 : Int32) : Option (Int32 × Int32 × Int32 × Ar × Ar) :=
  bnd (X10_throwsIf c_thrown k1 1) <| un2 fun r_26 c_thrown_26 => if r_26 = 0 then (bnd (whileV (fun st => X10_run_L36  st.1 st.2) (c_seen, 0)) <| (fun c_seen_55 => bnd (whileV (fun st => X10_run_L62 c_rows c_capacity c_weight c_unload c_along c_bears c_plan c_rowAt c_yields st.1 st.2.1 st.2.2.1 st.2.2.2) (0, c_seen_55, c_wagons, 0)) <| (un3 fun c_bunker_135 c_seen_135 c_wagons_135 => ck (ix 0 8) <| bnd (X10_sumOf c_rows c_plan c_turns) <| fun r_143 => ck (ix 0 8) <| nm (au c_seen_135 0 ((ag c_seen_135 0) + r_143)) fun c_seen_147 => ck (ix 3 8) <| nm (au c_seen_147 3 c_bunker_135) fun c_seen_157 => ck (ix 0 8) <| some ((ag c_seen_157 0), c_thrown_26, c_bunker_135, c_seen_157, c_wagons_135)))) else (some (0, c_thrown_26, c_bunker, c_seen, c_wagons))
noncomputable def X10_run_b20 (c_thrown c_rows c_capacity c_weight c_unload c_bunker : Int32) (c_along c_bears c_plan c_rowAt c_seen c_turns c_wagons c_yields : Ar) : Option (Int32 × Int32 × Int32 × Ar × Ar) :=
  X10_run_b25 c_thrown c_rows c_capacity c_weight c_unload c_bunker c_along c_bears c_plan c_rowAt c_seen c_turns c_wagons c_yields 1
noncomputable def X10_run (c_thrown c_hasPlan c_rows c_capacity c_weight c_unload c_bunker : Int32) (c_along c_bears c_plan c_rowAt c_seen c_turns c_wagons c_yields : Ar) : Option (Int32 × Int32 × Int32 × Ar × Ar) :=
  if c_hasPlan = 0 then (X10_run_b20 0 c_rows c_capacity c_weight c_unload c_bunker c_along c_bears c_plan c_rowAt c_seen c_turns c_wagons c_yields) else (bnd (X10_sumOf c_rows c_plan c_turns) <| fun r_14 => if 0 ≤ r_14 then (X10_run_b25 0 c_rows c_capacity c_weight c_unload c_bunker c_along c_bears c_plan c_rowAt c_seen c_turns c_wagons c_yields 0) else (X10_run_b20 0 c_rows c_capacity c_weight c_unload c_bunker c_along c_bears c_plan c_rowAt c_seen c_turns c_wagons c_yields))
set_option maxHeartbeats 4000000 in
set_option maxRecDepth 100000 in
theorem t_X10_run (l : Launch) (g : G9) (a_t a_along a_bears a_plan a_rowAt a_seen a_turns a_wagons a_yields a_cornerX a_cornerY a_corners a_what a_strip a_rowSize a_endAt a_slantA a_slantB a_pile a_far a_waiting a_isWaiting a_rest a_isUsed : Nat) (c_thrown c_isLaid c_head c_hasRows c_hasPlan c_rows c_slants c_capacity c_weight c_unload c_source c_bunker : Int32) (c_along c_bears c_plan c_rowAt c_seen c_turns c_wagons c_yields : Ar) (r0 o_thrown o_bunker : Int32) (o_seen o_wagons : Ar) (h : X10_run c_thrown c_hasPlan c_rows c_capacity c_weight c_unload c_bunker c_along c_bears c_plan c_rowAt c_seen c_turns c_wagons c_yields = some (r0, o_thrown, o_bunker, o_seen, o_wagons)) : CtI l g yX10_run cX10_run 4 .int 2 47 [.ref a_t] (w_X10_run g a_t a_along a_bears a_plan a_rowAt a_seen a_turns a_wagons a_yields a_cornerX a_cornerY a_corners a_what a_strip a_rowSize a_endAt a_slantA a_slantB a_pile a_far a_waiting a_isWaiting a_rest a_isUsed c_thrown c_isLaid c_head c_hasRows c_hasPlan c_rows c_slants c_capacity c_weight c_unload c_source c_bunker c_along c_bears c_plan c_rowAt c_seen c_turns c_wagons c_yields) r0 (w_X10_run g a_t a_along a_bears a_plan a_rowAt a_seen a_turns a_wagons a_yields a_cornerX a_cornerY a_corners a_what a_strip a_rowSize a_endAt a_slantA a_slantB a_pile a_far a_waiting a_isWaiting a_rest a_isUsed o_thrown c_isLaid c_head c_hasRows c_hasPlan c_rows c_slants c_capacity c_weight c_unload c_source o_bunker c_along c_bears c_plan c_rowAt o_seen c_turns o_wagons c_yields) := by
  refine startI (by decide) (Nat.le_of_ble_eq_true rfl) ?_
  intro p e s m below meth c A Q ls args M hW hl ret
  have hx := M.1
  have hb := M.2.1
  have hown := M.2.2.2.1
  have hu := M.2.2.2.2.1
  have hl : lv_has ls 4 [(0, .ref a_t)] := hl
  unfold X10_run at h
  obtain ⟨H, eH⟩ : ∃ z, z = s.heap := ⟨_, rfl⟩
  obtain ⟨locs, eL⟩ : ∃ z, z = ([] : List Loc) := ⟨_, rfl⟩
  rw [← eL] at hW ⊢
  suffices hS9 : WD g s A (w_X10_run g a_t a_along a_bears a_plan a_rowAt a_seen a_turns a_wagons a_yields a_cornerX a_cornerY a_corners a_what a_strip a_rowSize a_endAt a_slantA a_slantB a_pile a_far a_waiting a_isWaiting a_rest a_isUsed c_thrown c_isLaid c_head c_hasRows c_hasPlan c_rows c_slants c_capacity c_weight c_unload c_source c_bunker c_along c_bears c_plan c_rowAt c_seen c_turns c_wagons c_yields) H locs → W p l e (rm9 2 47) s m args below meth c H locs 0 0 Q (F0 m 0 ls []) by
    rw [← eH] at hW ⊢
    exact hS9 hW
  clear hW eH eL
  intro hW
  have J25 : ∀ (c_thrown c_bunker : Int32) (c_seen c_wagons : Ar) (k1 : Int32) (H : Heap) (locs : List Loc) (ls : Array Slot), X10_run_b25 c_thrown c_rows c_capacity c_weight c_unload c_bunker c_along c_bears c_plan c_rowAt c_seen c_turns c_wagons c_yields k1 = some (r0, o_thrown, o_bunker, o_seen, o_wagons) → WD g s A (w_X10_run g a_t a_along a_bears a_plan a_rowAt a_seen a_turns a_wagons a_yields a_cornerX a_cornerY a_corners a_what a_strip a_rowSize a_endAt a_slantA a_slantB a_pile a_far a_waiting a_isWaiting a_rest a_isUsed c_thrown c_isLaid c_head c_hasRows c_hasPlan c_rows c_slants c_capacity c_weight c_unload c_source c_bunker c_along c_bears c_plan c_rowAt c_seen c_turns c_wagons c_yields) H locs → lv_has ls 4 [(0, .ref a_t)] → W p l e (rm9 2 47) s m args below meth c H locs 0 0 Q (F0 m 25 ls [.int k1, .ref a_t]) := by
    intro c_thrown c_bunker c_seen c_wagons k1 H locs ls h hW hl
    unfold X10_run_b25 at h
    refine lv_iconst (pc := 25) (v := 1) hx hb (dd dX10_run_p0 13 rfl) (by decide) ?_
    obtain ⟨⟨r_26, c_thrown_26⟩, hr, h⟩ := bnd_ex h
    have h := un2_at h
    refine callVI (pc := 26) (na := 2) (As := [.int k1, .int 1]) (rest := []) (ws2 := (w_X10_run g a_t a_along a_bears a_plan a_rowAt a_seen a_turns a_wagons a_yields a_cornerX a_cornerY a_corners a_what a_strip a_rowSize a_endAt a_slantA a_slantB a_pile a_far a_waiting a_isWaiting a_rest a_isUsed c_thrown_26 c_isLaid c_head c_hasRows c_hasPlan c_rows c_slants c_capacity c_weight c_unload c_source c_bunker c_along c_bears c_plan c_rowAt c_seen c_turns c_wagons c_yields)) M hl.1 hW (t_X10_throwsIf l g a_t a_cornerX a_cornerY a_corners a_what a_rowAt a_strip a_along a_rowSize a_endAt a_turns a_plan a_slantA a_slantB a_yields a_bears a_seen a_wagons a_pile a_far a_waiting a_isWaiting a_rest a_isUsed c_thrown c_isLaid c_head c_hasRows c_hasPlan c_rows c_slants c_capacity c_weight c_unload c_source c_bunker k1 1 r_26 c_thrown_26 hr) rfl [0] [1, 2, 3, 4, 5, 6, 7, 8] [8, 0, 1, 2, 3, 4, 5, 6, 7] rfl rfl rfl rfl rfl rfl rfl 0 10 rfl rfl rfl (uw5 86 rfl rfl) (uw5 83 rfl rfl) (uw5 85 rfl rfl) (uwp 41 rfl rfl) (uw1 13 rfl rfl) ⟨by decide, by decide, by decide⟩ rfl ⟨by decide, by decide⟩ (Nat.le_of_ble_eq_true rfl) ⟨Nat.zero_le _, Nat.zero_le _⟩ (dd dX10_run_p0 14 rfl) (fun H locs hW => ?_)
    refine lv_if_eq (pc := 29) (tgt := 34) hx hb (dd dX10_run_p0 15 rfl) (by decide) (fun hc => ?_) (fun hc => ?_)
    · have h := it_t hc h
      refine lv_iconst (pc := 34) (v := 0) hx hb (dd dX10_run_p0 18 rfl) (by decide) ?_
      refine lv_istore_n (pc := 35) (lv' := [(1, .int 0), (0, .ref a_t)]) hx hb (dd dX10_run_p0 19 rfl) rfl hl (by decide) rfl (fun ls hl => ?_)
      obtain ⟨ex, hw, h⟩ := bnd_ex h
      refine loopW (fun st => ∀ (H : Heap) (locs : List Loc) (ls : Array Slot), WD g s A (w_X10_run g a_t a_along a_bears a_plan a_rowAt a_seen a_turns a_wagons a_yields a_cornerX a_cornerY a_corners a_what a_strip a_rowSize a_endAt a_slantA a_slantB a_pile a_far a_waiting a_isWaiting a_rest a_isUsed c_thrown_26 c_isLaid c_head c_hasRows c_hasPlan c_rows c_slants c_capacity c_weight c_unload c_source c_bunker c_along c_bears c_plan c_rowAt (st.1) c_turns c_wagons c_yields) H locs → lv_has ls 4 [(0, .ref a_t), (1, .int (st.2))] → W p l e (rm9 2 47) s m args below meth c H locs 0 0 Q (F0 m 36 ls [])) (fun (ex : Ar) => ∀ (H : Heap) (locs : List Loc) (ls : Array Slot), WD g s A (w_X10_run g a_t a_along a_bears a_plan a_rowAt a_seen a_turns a_wagons a_yields a_cornerX a_cornerY a_corners a_what a_strip a_rowSize a_endAt a_slantA a_slantB a_pile a_far a_waiting a_isWaiting a_rest a_isUsed c_thrown_26 c_isLaid c_head c_hasRows c_hasPlan c_rows c_slants c_capacity c_weight c_unload c_source c_bunker c_along c_bears c_plan c_rowAt ex c_turns c_wagons c_yields) H locs → lv_has ls 4 [(0, .ref a_t)] → W p l e (rm9 2 47) s m args below meth c H locs 0 0 Q (F0 m 55 ls [])) ?_ hw ?_ H locs ls hW (lv_sub hl [1, 0] rfl)
      · rintro ⟨c_seen, v1⟩ o hb9 hk H locs ls hW hl
        have h : X10_run_L36  c_seen v1 = some o := hb9
        clear hb9
        unfold X10_run_L36 at h
        refine lv_iload_n (pc := 36) hx hb (dd dX10_run_p0 20 rfl) rfl (lv_at hl 1 rfl) ?_
        refine lv_bipush (pc := 37) (v := 8) hx hb (dd dX10_run_p0 21 rfl) (by decide) ?_
        refine lv_icmp_ge (pc := 39) (tgt := 55) hx hb (dd dX10_run_p0 22 rfl) (by decide) (fun hc => ?_) (fun hc => ?_)
        · have h := it_t hc h
          obtain rfl := Option.some.inj h
          exact hk _ _ _ hW (lv_sub hl [0] rfl)
        · have h := it_f hc h
          refine lv_aload_n (pc := 42) hx hb (dd dX10_run_p0 23 rfl) rfl (lv_at hl 0 rfl) ?_
          refine rGet (pc := 43) M hW 0 25 iU10 rfl rfl (by decide) (uw4 238 rfl rfl) rfl (dd dX10_run_p0 24 rfl) ?_
          refine lv_iload_n (pc := 46) hx hb (dd dX10_run_p0 25 rfl) rfl (lv_at hl 1 rfl) ?_
          refine lv_iconst (pc := 47) (v := 0) hx hb (dd dX10_run_p0 26 rfl) (by decide) ?_
          obtain ⟨hi, h⟩ := ck_ex h
          obtain ⟨c_seen_48, ec_seen_48, h⟩ := nm_ex h
          refine rIast (pc := 48) M hW 5 rfl hi ec_seen_48 (ws' := (w_X10_run g a_t a_along a_bears a_plan a_rowAt a_seen a_turns a_wagons a_yields a_cornerX a_cornerY a_corners a_what a_strip a_rowSize a_endAt a_slantA a_slantB a_pile a_far a_waiting a_isWaiting a_rest a_isUsed c_thrown_26 c_isLaid c_head c_hasRows c_hasPlan c_rows c_slants c_capacity c_weight c_unload c_source c_bunker c_along c_bears c_plan c_rowAt c_seen_48 c_turns c_wagons c_yields)) rfl (dd dX10_run_p0 27 rfl) (fun H locs hW => ?_)
          obtain ⟨v1_49, ev1_49, h⟩ := nm_ex h
          refine lv_iinc (pc := 49) (v := v1_49) (lv' := [(1, .int v1_49), (0, .ref a_t)]) hx hb (dd dX10_run_p0 28 rfl) hl (k := 1) rfl (by rw [ev1_49]; rfl) (by decide) rfl (fun ls hl => ?_)
          refine lv_goto (pc := 52) (tgt := 36) hx hb (dd dX10_run_p0 29 rfl) (by decide) ?_
          obtain rfl := Option.some.inj h
          exact hk _ _ _ hW (lv_sub hl [1, 0] rfl)
      · obtain ⟨c_seen_55, e9⟩ : ∃ z, z = ex := ⟨_, rfl⟩
        subst e9
        intro H locs ls hW hl
        refine lv_aload_n (pc := 55) hx hb (dd dX10_run_p0 30 rfl) rfl (lv_at hl 0 rfl) ?_
        refine lv_iconst (pc := 56) (v := 0) hx hb (dd dX10_run_p0 31 rfl) (by decide) ?_
        refine rPut (pc := 57) M hW 0 34 tyX10 tyX10_ok nmX10 iU10 rfl rfl (by decide) (uw5 7 rfl rfl) rfl rfl rfl (Nat.le_of_ble_eq_true rfl) (dd dX10_run_p0 32 rfl) (ws' := (w_X10_run g a_t a_along a_bears a_plan a_rowAt a_seen a_turns a_wagons a_yields a_cornerX a_cornerY a_corners a_what a_strip a_rowSize a_endAt a_slantA a_slantB a_pile a_far a_waiting a_isWaiting a_rest a_isUsed c_thrown_26 c_isLaid c_head c_hasRows c_hasPlan c_rows c_slants c_capacity c_weight c_unload c_source 0 c_along c_bears c_plan c_rowAt c_seen_55 c_turns c_wagons c_yields)) rfl (fun H locs hW => ?_)
        refine lv_iconst (pc := 60) (v := 0) hx hb (dd dX10_run_p0 33 rfl) (by decide) ?_
        refine lv_istore_n (pc := 61) (lv' := [(1, .int 0), (0, .ref a_t)]) hx hb (dd dX10_run_p0 34 rfl) rfl hl (by decide) rfl (fun ls hl => ?_)
        obtain ⟨ex, hw, h⟩ := bnd_ex h
        refine loopW (fun st => ∀ (H : Heap) (locs : List Loc) (ls : Array Slot), WD g s A (w_X10_run g a_t a_along a_bears a_plan a_rowAt a_seen a_turns a_wagons a_yields a_cornerX a_cornerY a_corners a_what a_strip a_rowSize a_endAt a_slantA a_slantB a_pile a_far a_waiting a_isWaiting a_rest a_isUsed c_thrown_26 c_isLaid c_head c_hasRows c_hasPlan c_rows c_slants c_capacity c_weight c_unload c_source (st.1) c_along c_bears c_plan c_rowAt (st.2.1) c_turns (st.2.2.1) c_yields) H locs → lv_has ls 4 [(0, .ref a_t), (1, .int (st.2.2.2))] → W p l e (rm9 2 47) s m args below meth c H locs 0 0 Q (F0 m 62 ls [])) (fun (ex : (Int32 × Ar × Ar)) => ∀ (H : Heap) (locs : List Loc) (ls : Array Slot), WD g s A (w_X10_run g a_t a_along a_bears a_plan a_rowAt a_seen a_turns a_wagons a_yields a_cornerX a_cornerY a_corners a_what a_strip a_rowSize a_endAt a_slantA a_slantB a_pile a_far a_waiting a_isWaiting a_rest a_isUsed c_thrown_26 c_isLaid c_head c_hasRows c_hasPlan c_rows c_slants c_capacity c_weight c_unload c_source (ex.1) c_along c_bears c_plan c_rowAt (ex.2.1) c_turns (ex.2.2) c_yields) H locs → lv_has ls 4 [(0, .ref a_t)] → W p l e (rm9 2 47) s m args below meth c H locs 0 0 Q (F0 m 135 ls [])) ?_ hw ?_ H locs ls hW (lv_sub hl [1, 0] rfl)
        · rintro ⟨c_bunker, c_seen, c_wagons, v1⟩ o hb9 hk H locs ls hW hl
          have h : X10_run_L62 c_rows c_capacity c_weight c_unload c_along c_bears c_plan c_rowAt c_yields c_bunker c_seen c_wagons v1 = some o := hb9
          clear hb9
          unfold X10_run_L62 at h
          have J86 : ∀ (c_bunker : Int32) (c_seen c_wagons : Ar) (v1 k0 : Int32) (H : Heap) (locs : List Loc) (ls : Array Slot), X10_run_b62_86 c_capacity c_weight c_unload c_bunker c_along c_bears c_plan c_rowAt c_seen c_wagons c_yields v1 k0 = some o → WD g s A (w_X10_run g a_t a_along a_bears a_plan a_rowAt a_seen a_turns a_wagons a_yields a_cornerX a_cornerY a_corners a_what a_strip a_rowSize a_endAt a_slantA a_slantB a_pile a_far a_waiting a_isWaiting a_rest a_isUsed c_thrown_26 c_isLaid c_head c_hasRows c_hasPlan c_rows c_slants c_capacity c_weight c_unload c_source c_bunker c_along c_bears c_plan c_rowAt c_seen c_turns c_wagons c_yields) H locs → lv_has ls 4 [(0, .ref a_t), (1, .int v1)] → W p l e (rm9 2 47) s m args below meth c H locs 0 0 Q (F0 m 86 ls [.int k0]) := by
            intro c_bunker c_seen c_wagons v1 k0 H locs ls h hW hl
            unfold X10_run_b62_86 at h
            refine lv_istore_n (pc := 86) (lv' := [(2, .int k0), (0, .ref a_t), (1, .int v1)]) hx hb (dd dX10_run_p0 49 rfl) rfl hl (by decide) rfl (fun ls hl => ?_)
            refine lv_aload_n (pc := 87) hx hb (dd dX10_run_p0 50 rfl) rfl (lv_at hl 1 rfl) ?_
            refine lv_aload_n (pc := 88) hx hb (dd dX10_run_p0 51 rfl) rfl (lv_at hl 1 rfl) ?_
            refine rGet (pc := 89) M hW 0 16 iU10 rfl rfl (by decide) (uw4 229 rfl rfl) rfl (dd dX10_run_p0 52 rfl) ?_
            refine lv_iload_n (pc := 92) hx hb (dd dX10_run_p0 53 rfl) rfl (lv_at hl 2 rfl) ?_
            obtain ⟨hi, h⟩ := ck_ex h
            refine rIald (pc := 93) M hW 3 rfl hi (dd dX10_run_p0 54 rfl) ?_
            refine lv_iconst (pc := 94) (v := 2) hx hb (dd dX10_run_p0 55 rfl) (by decide) ?_
            refine lv_idiv (pc := 95) hx hb (dd dX10_run_p0 56 rfl) (by decide) ?_
            refine lv_iconst (pc := 96) (v := (-1)) hx hb (dd dX10_run_p0 57 rfl) (by decide) ?_
            refine lv_iload_n (pc := 97) hx hb (dd dX10_run_p0 58 rfl) rfl (lv_at hl 0 rfl) ?_
            obtain ⟨r_98, hr, h⟩ := bnd_ex h
            refine callVI (pc := 98) (na := 3) (As := [.int ((ag c_plan v1) / 2), .int (-1), .int k0]) (rest := []) (ws2 := (w_X10_run g a_t a_along a_bears a_plan a_rowAt a_seen a_turns a_wagons a_yields a_cornerX a_cornerY a_corners a_what a_strip a_rowSize a_endAt a_slantA a_slantB a_pile a_far a_waiting a_isWaiting a_rest a_isUsed c_thrown_26 c_isLaid c_head c_hasRows c_hasPlan c_rows c_slants c_capacity c_weight c_unload c_source c_bunker c_along c_bears c_plan c_rowAt c_seen c_turns c_wagons c_yields)) M hl.1 hW (t_X10_nextOf l g a_t a_along a_rowAt a_cornerX a_cornerY a_corners a_what a_strip a_rowSize a_endAt a_turns a_plan a_slantA a_slantB a_yields a_bears a_seen a_wagons a_pile a_far a_waiting a_isWaiting a_rest a_isUsed c_thrown_26 c_isLaid c_head c_hasRows c_hasPlan c_rows c_slants c_capacity c_weight c_unload c_source c_bunker c_along c_rowAt ((ag c_plan v1) / 2) (-1) k0 r_98 hr) rfl [0, 1, 4] [2, 3, 5, 6, 7, 8] [6, 7, 0, 1, 8, 2, 3, 4, 5] rfl rfl rfl rfl rfl rfl rfl 0 10 rfl rfl rfl (uw6 24 rfl rfl) (uw6 21 rfl rfl) (uw6 23 rfl rfl) (uwp 62 rfl rfl) (uw1 13 rfl rfl) ⟨by decide, by decide, by decide⟩ rfl ⟨by decide, by decide⟩ (Nat.le_of_ble_eq_true rfl) ⟨Nat.zero_le _, Nat.zero_le _⟩ (dd dX10_run_p0 59 rfl) (fun H locs hW => ?_)
            refine lv_istore_n (pc := 101) (lv' := [(3, .int r_98), (2, .int k0), (0, .ref a_t), (1, .int v1)]) hx hb (dd dX10_run_p1 0 rfl) rfl hl (by decide) rfl (fun ls hl => ?_)
            obtain ⟨ex, hw, h⟩ := bnd_ex h
            refine loopW (fun st => ∀ (H : Heap) (locs : List Loc) (ls : Array Slot), WD g s A (w_X10_run g a_t a_along a_bears a_plan a_rowAt a_seen a_turns a_wagons a_yields a_cornerX a_cornerY a_corners a_what a_strip a_rowSize a_endAt a_slantA a_slantB a_pile a_far a_waiting a_isWaiting a_rest a_isUsed c_thrown_26 c_isLaid c_head c_hasRows c_hasPlan c_rows c_slants c_capacity c_weight c_unload c_source (st.1) c_along c_bears c_plan c_rowAt (st.2.1) c_turns (st.2.2.1) c_yields) H locs → lv_has ls 4 [(0, .ref a_t), (1, .int v1), (2, .int k0), (3, .int (st.2.2.2))] → W p l e (rm9 2 47) s m args below meth c H locs 0 0 Q (F0 m 102 ls [])) (fun (ex : (Int32 × Ar × Ar)) => ∀ (H : Heap) (locs : List Loc) (ls : Array Slot), WD g s A (w_X10_run g a_t a_along a_bears a_plan a_rowAt a_seen a_turns a_wagons a_yields a_cornerX a_cornerY a_corners a_what a_strip a_rowSize a_endAt a_slantA a_slantB a_pile a_far a_waiting a_isWaiting a_rest a_isUsed c_thrown_26 c_isLaid c_head c_hasRows c_hasPlan c_rows c_slants c_capacity c_weight c_unload c_source (ex.1) c_along c_bears c_plan c_rowAt (ex.2.1) c_turns (ex.2.2) c_yields) H locs → lv_has ls 4 [(0, .ref a_t), (1, .int v1)] → W p l e (rm9 2 47) s m args below meth c H locs 0 0 Q (F0 m 129 ls [])) ?_ hw ?_ H locs ls hW (lv_sub hl [2, 3, 1, 0] rfl)
            · rintro ⟨c_bunker, c_seen, c_wagons, v3⟩ o hb9 hk H locs ls hW hl
              have h : X10_run_L102 c_capacity c_weight c_unload c_along c_bears c_plan c_rowAt c_yields v1 k0 c_bunker c_seen c_wagons v3 = some o := hb9
              clear hb9
              unfold X10_run_L102 at h
              refine lv_iload_n (pc := 102) hx hb (dd dX10_run_p1 1 rfl) rfl (lv_at hl 3 rfl) ?_
              refine lv_if_lt (pc := 103) (tgt := 129) hx hb (dd dX10_run_p1 2 rfl) (by decide) (fun hc => ?_) (fun hc => ?_)
              · have h := it_t hc h
                obtain rfl := Option.some.inj h
                exact hk _ _ _ hW (lv_sub hl [0, 1] rfl)
              · have h := it_f hc h
                refine lv_aload_n (pc := 106) hx hb (dd dX10_run_p1 3 rfl) rfl (lv_at hl 0 rfl) ?_
                refine lv_iload_n (pc := 107) hx hb (dd dX10_run_p1 4 rfl) rfl (lv_at hl 3 rfl) ?_
                obtain ⟨⟨c_bunker_108, c_seen_108, c_wagons_108⟩, hr, h⟩ := bnd_ex h
                have h := un3_at h
                refine callVV (pc := 108) (na := 1) (As := [.int v3]) (rest := []) (ws2 := (w_X10_run g a_t a_along a_bears a_plan a_rowAt a_seen a_turns a_wagons a_yields a_cornerX a_cornerY a_corners a_what a_strip a_rowSize a_endAt a_slantA a_slantB a_pile a_far a_waiting a_isWaiting a_rest a_isUsed c_thrown_26 c_isLaid c_head c_hasRows c_hasPlan c_rows c_slants c_capacity c_weight c_unload c_source c_bunker_108 c_along c_bears c_plan c_rowAt c_seen_108 c_turns c_wagons_108 c_yields)) M hl.1 hW (t_X10_works l g a_t a_bears a_seen a_wagons a_yields a_cornerX a_cornerY a_corners a_what a_rowAt a_strip a_along a_rowSize a_endAt a_turns a_plan a_slantA a_slantB a_pile a_far a_waiting a_isWaiting a_rest a_isUsed c_thrown_26 c_isLaid c_head c_hasRows c_hasPlan c_rows c_slants c_capacity c_weight c_unload c_source c_bunker c_bears c_seen c_wagons c_yields v3 c_bunker_108 c_seen_108 c_wagons_108 hr) rfl [0, 2, 5, 7, 8] [1, 3, 4, 6] [4, 0, 5, 1, 2, 6, 3, 7, 8] rfl rfl rfl rfl rfl rfl rfl 0 10 rfl rfl rfl (uw6 28 rfl rfl) (uw6 25 rfl rfl) (uw6 27 rfl rfl) (uwp 63 rfl rfl) (uw1 13 rfl rfl) ⟨by decide, by decide, by decide⟩ rfl ⟨by decide, by decide⟩ (Nat.le_of_ble_eq_true rfl) ⟨Nat.zero_le _, Nat.zero_le _⟩ (dd dX10_run_p1 5 rfl) (fun H locs hW => ?_)
                refine lv_aload_n (pc := 111) hx hb (dd dX10_run_p1 6 rfl) rfl (lv_at hl 0 rfl) ?_
                refine lv_aload_n (pc := 112) hx hb (dd dX10_run_p1 7 rfl) rfl (lv_at hl 0 rfl) ?_
                refine rGet (pc := 113) M hW 0 16 iU10 rfl rfl (by decide) (uw4 229 rfl rfl) rfl (dd dX10_run_p1 8 rfl) ?_
                refine lv_iload_n (pc := 116) hx hb (dd dX10_run_p1 9 rfl) rfl (lv_at hl 1 rfl) ?_
                obtain ⟨hi, h⟩ := ck_ex h
                refine rIald (pc := 117) M hW 3 rfl hi (dd dX10_run_p1 10 rfl) ?_
                refine lv_iconst (pc := 118) (v := 2) hx hb (dd dX10_run_p1 11 rfl) (by decide) ?_
                refine lv_idiv (pc := 119) hx hb (dd dX10_run_p1 12 rfl) (by decide) ?_
                refine lv_iload_n (pc := 120) hx hb (dd dX10_run_p1 13 rfl) rfl (lv_at hl 3 rfl) ?_
                refine lv_iload_n (pc := 121) hx hb (dd dX10_run_p1 14 rfl) rfl (lv_at hl 2 rfl) ?_
                obtain ⟨r_122, hr, h⟩ := bnd_ex h
                refine callVI (pc := 122) (na := 3) (As := [.int ((ag c_plan v1) / 2), .int v3, .int k0]) (rest := []) (ws2 := (w_X10_run g a_t a_along a_bears a_plan a_rowAt a_seen a_turns a_wagons a_yields a_cornerX a_cornerY a_corners a_what a_strip a_rowSize a_endAt a_slantA a_slantB a_pile a_far a_waiting a_isWaiting a_rest a_isUsed c_thrown_26 c_isLaid c_head c_hasRows c_hasPlan c_rows c_slants c_capacity c_weight c_unload c_source c_bunker_108 c_along c_bears c_plan c_rowAt c_seen_108 c_turns c_wagons_108 c_yields)) M hl.1 hW (t_X10_nextOf l g a_t a_along a_rowAt a_cornerX a_cornerY a_corners a_what a_strip a_rowSize a_endAt a_turns a_plan a_slantA a_slantB a_yields a_bears a_seen a_wagons a_pile a_far a_waiting a_isWaiting a_rest a_isUsed c_thrown_26 c_isLaid c_head c_hasRows c_hasPlan c_rows c_slants c_capacity c_weight c_unload c_source c_bunker_108 c_along c_rowAt ((ag c_plan v1) / 2) v3 k0 r_122 hr) rfl [0, 1, 4] [2, 3, 5, 6, 7, 8] [6, 7, 0, 1, 8, 2, 3, 4, 5] rfl rfl rfl rfl rfl rfl rfl 0 10 rfl rfl rfl (uw6 24 rfl rfl) (uw6 21 rfl rfl) (uw6 23 rfl rfl) (uwp 62 rfl rfl) (uw1 13 rfl rfl) ⟨by decide, by decide, by decide⟩ rfl ⟨by decide, by decide⟩ (Nat.le_of_ble_eq_true rfl) ⟨Nat.zero_le _, Nat.zero_le _⟩ (dd dX10_run_p1 15 rfl) (fun H locs hW => ?_)
                refine lv_istore_n (pc := 125) (lv' := [(3, .int r_122), (0, .ref a_t), (1, .int v1), (2, .int k0)]) hx hb (dd dX10_run_p1 16 rfl) rfl hl (by decide) rfl (fun ls hl => ?_)
                refine lv_goto (pc := 126) (tgt := 102) hx hb (dd dX10_run_p1 17 rfl) (by decide) ?_
                obtain rfl := Option.some.inj h
                exact hk _ _ _ hW (lv_sub hl [1, 2, 3, 0] rfl)
            · obtain ⟨c_bunker_129, c_seen_129, c_wagons_129⟩ := ex
              have h := un3_at h
              intro H locs ls hW hl
              obtain ⟨v1_129, ev1_129, h⟩ := nm_ex h
              refine lv_iinc (pc := 129) (v := v1_129) (lv' := [(1, .int v1_129), (0, .ref a_t)]) hx hb (dd dX10_run_p1 18 rfl) hl (k := 1) rfl (by rw [ev1_129]; rfl) (by decide) rfl (fun ls hl => ?_)
              refine lv_goto (pc := 132) (tgt := 62) hx hb (dd dX10_run_p1 19 rfl) (by decide) ?_
              obtain rfl := Option.some.inj h
              exact hk _ _ _ hW (lv_sub hl [1, 0] rfl)
          refine lv_iload_n (pc := 62) hx hb (dd dX10_run_p0 35 rfl) rfl (lv_at hl 1 rfl) ?_
          refine lv_aload_n (pc := 63) hx hb (dd dX10_run_p0 36 rfl) rfl (lv_at hl 0 rfl) ?_
          refine rGet (pc := 64) M hW 0 9 iU10 rfl rfl (by decide) (uw4 222 rfl rfl) rfl (dd dX10_run_p0 37 rfl) ?_
          refine lv_icmp_ge (pc := 67) (tgt := 135) hx hb (dd dX10_run_p0 38 rfl) (by decide) (fun hc => ?_) (fun hc => ?_)
          · have h := it_t hc h
            obtain rfl := Option.some.inj h
            exact hk _ _ _ hW (lv_sub hl [0] rfl)
          · have h := it_f hc h
            refine lv_aload_n (pc := 70) hx hb (dd dX10_run_p0 39 rfl) rfl (lv_at hl 0 rfl) ?_
            refine rGet (pc := 71) M hW 0 16 iU10 rfl rfl (by decide) (uw4 229 rfl rfl) rfl (dd dX10_run_p0 40 rfl) ?_
            refine lv_iload_n (pc := 74) hx hb (dd dX10_run_p0 41 rfl) rfl (lv_at hl 1 rfl) ?_
            obtain ⟨hi, h⟩ := ck_ex h
            refine rIald (pc := 75) M hW 3 rfl hi (dd dX10_run_p0 42 rfl) ?_
            refine lv_iconst (pc := 76) (v := 2) hx hb (dd dX10_run_p0 43 rfl) (by decide) ?_
            refine lv_irem (pc := 77) hx hb (dd dX10_run_p0 44 rfl) (by decide) ?_
            refine lv_if_ne (pc := 78) (tgt := 85) hx hb (dd dX10_run_p0 45 rfl) (by decide) (fun hc => ?_) (fun hc => ?_)
            · have h := it_f hc h
              refine lv_iconst (pc := 85) (v := 0) hx hb (dd dX10_run_p0 48 rfl) (by decide) ?_
              exact J86 _ _ _ _ _ _ _ _ h hW (lv_sub hl [0, 1] rfl)
            · have h := it_t hc h
              refine lv_iconst (pc := 81) (v := 1) hx hb (dd dX10_run_p0 46 rfl) (by decide) ?_
              refine lv_goto (pc := 82) (tgt := 86) hx hb (dd dX10_run_p0 47 rfl) (by decide) ?_
              exact J86 _ _ _ _ _ _ _ _ h hW (lv_sub hl [0, 1] rfl)
        · obtain ⟨c_bunker_135, c_seen_135, c_wagons_135⟩ := ex
          have h := un3_at h
          intro H locs ls hW hl
          refine lv_aload_n (pc := 135) hx hb (dd dX10_run_p1 20 rfl) rfl (lv_at hl 0 rfl) ?_
          refine rGet (pc := 136) M hW 0 25 iU10 rfl rfl (by decide) (uw4 238 rfl rfl) rfl (dd dX10_run_p1 21 rfl) ?_
          refine lv_iconst (pc := 139) (v := 0) hx hb (dd dX10_run_p1 22 rfl) (by decide) ?_
          refine lv_dup2_11 (pc := 140) hx hb (dd dX10_run_p1 23 rfl) rfl rfl ?_
          obtain ⟨hi, h⟩ := ck_ex h
          refine rIald (pc := 141) M hW 5 rfl hi (dd dX10_run_p1 24 rfl) ?_
          refine lv_aload_n (pc := 142) hx hb (dd dX10_run_p1 25 rfl) rfl (lv_at hl 0 rfl) ?_
          obtain ⟨r_143, hr, h⟩ := bnd_ex h
          refine callVI (pc := 143) (na := 0) (As := []) (rest := [.int (ag c_seen_135 0), .int 0, .ref a_seen]) (ws2 := (w_X10_run g a_t a_along a_bears a_plan a_rowAt a_seen a_turns a_wagons a_yields a_cornerX a_cornerY a_corners a_what a_strip a_rowSize a_endAt a_slantA a_slantB a_pile a_far a_waiting a_isWaiting a_rest a_isUsed c_thrown_26 c_isLaid c_head c_hasRows c_hasPlan c_rows c_slants c_capacity c_weight c_unload c_source c_bunker_135 c_along c_bears c_plan c_rowAt c_seen_135 c_turns c_wagons_135 c_yields)) M hl.1 hW (t_X10_sumOf l g a_t a_plan a_turns a_cornerX a_cornerY a_corners a_what a_rowAt a_strip a_along a_rowSize a_endAt a_slantA a_slantB a_yields a_bears a_seen a_wagons a_pile a_far a_waiting a_isWaiting a_rest a_isUsed c_thrown_26 c_isLaid c_head c_hasRows c_hasPlan c_rows c_slants c_capacity c_weight c_unload c_source c_bunker_135 c_plan c_turns r_143 hr) rfl [0, 3, 6] [1, 2, 4, 5, 7, 8] [6, 0, 1, 7, 2, 3, 8, 4, 5] rfl rfl rfl rfl rfl rfl rfl 0 10 rfl rfl rfl (uw5 210 rfl rfl) (uw5 207 rfl rfl) (uw5 209 rfl rfl) (uwp 59 rfl rfl) (uw1 13 rfl rfl) ⟨by decide, by decide, by decide⟩ rfl ⟨by decide, by decide⟩ (Nat.le_of_ble_eq_true rfl) ⟨Nat.zero_le _, Nat.zero_le _⟩ (dd dX10_run_p1 26 rfl) (fun H locs hW => ?_)
          refine lv_iadd (pc := 146) hx hb (dd dX10_run_p1 27 rfl) ?_
          obtain ⟨hi, h⟩ := ck_ex h
          obtain ⟨c_seen_147, ec_seen_147, h⟩ := nm_ex h
          refine rIast (pc := 147) M hW 5 rfl hi ec_seen_147 (ws' := (w_X10_run g a_t a_along a_bears a_plan a_rowAt a_seen a_turns a_wagons a_yields a_cornerX a_cornerY a_corners a_what a_strip a_rowSize a_endAt a_slantA a_slantB a_pile a_far a_waiting a_isWaiting a_rest a_isUsed c_thrown_26 c_isLaid c_head c_hasRows c_hasPlan c_rows c_slants c_capacity c_weight c_unload c_source c_bunker_135 c_along c_bears c_plan c_rowAt c_seen_147 c_turns c_wagons_135 c_yields)) rfl (dd dX10_run_p1 28 rfl) (fun H locs hW => ?_)
          refine lv_aload_n (pc := 148) hx hb (dd dX10_run_p1 29 rfl) rfl (lv_at hl 0 rfl) ?_
          refine rGet (pc := 149) M hW 0 25 iU10 rfl rfl (by decide) (uw4 238 rfl rfl) rfl (dd dX10_run_p1 30 rfl) ?_
          refine lv_iconst (pc := 152) (v := 3) hx hb (dd dX10_run_p1 31 rfl) (by decide) ?_
          refine lv_aload_n (pc := 153) hx hb (dd dX10_run_p1 32 rfl) rfl (lv_at hl 0 rfl) ?_
          refine rGet (pc := 154) M hW 0 34 iU10 rfl rfl (by decide) (uw5 7 rfl rfl) rfl (dd dX10_run_p1 33 rfl) ?_
          obtain ⟨hi, h⟩ := ck_ex h
          obtain ⟨c_seen_157, ec_seen_157, h⟩ := nm_ex h
          refine rIast (pc := 157) M hW 5 rfl hi ec_seen_157 (ws' := (w_X10_run g a_t a_along a_bears a_plan a_rowAt a_seen a_turns a_wagons a_yields a_cornerX a_cornerY a_corners a_what a_strip a_rowSize a_endAt a_slantA a_slantB a_pile a_far a_waiting a_isWaiting a_rest a_isUsed c_thrown_26 c_isLaid c_head c_hasRows c_hasPlan c_rows c_slants c_capacity c_weight c_unload c_source c_bunker_135 c_along c_bears c_plan c_rowAt c_seen_157 c_turns c_wagons_135 c_yields)) rfl (dd dX10_run_p1 34 rfl) (fun H locs hW => ?_)
          refine lv_aload_n (pc := 158) hx hb (dd dX10_run_p1 35 rfl) rfl (lv_at hl 0 rfl) ?_
          refine rGet (pc := 159) M hW 0 25 iU10 rfl rfl (by decide) (uw4 238 rfl rfl) rfl (dd dX10_run_p1 36 rfl) ?_
          refine lv_iconst (pc := 162) (v := 0) hx hb (dd dX10_run_p1 37 rfl) (by decide) ?_
          obtain ⟨hi, h⟩ := ck_ex h
          refine rIald (pc := 163) M hW 5 rfl hi (dd dX10_run_p1 38 rfl) ?_
          have hW9 := hW
          cases h
          exact ret _ _ _ 164 hW9 rfl (dd dX10_run_p1 39 rfl)
    · have h := it_f hc h
      refine lv_iconst (pc := 32) (v := 0) hx hb (dd dX10_run_p0 16 rfl) (by decide) ?_
      have hW9 := hW
      cases h
      exact ret _ _ _ 33 hW9 rfl (dd dX10_run_p0 17 rfl)
  have J20 : ∀ (c_thrown c_bunker : Int32) (c_seen c_wagons : Ar) (H : Heap) (locs : List Loc) (ls : Array Slot), X10_run_b20 c_thrown c_rows c_capacity c_weight c_unload c_bunker c_along c_bears c_plan c_rowAt c_seen c_turns c_wagons c_yields = some (r0, o_thrown, o_bunker, o_seen, o_wagons) → WD g s A (w_X10_run g a_t a_along a_bears a_plan a_rowAt a_seen a_turns a_wagons a_yields a_cornerX a_cornerY a_corners a_what a_strip a_rowSize a_endAt a_slantA a_slantB a_pile a_far a_waiting a_isWaiting a_rest a_isUsed c_thrown c_isLaid c_head c_hasRows c_hasPlan c_rows c_slants c_capacity c_weight c_unload c_source c_bunker c_along c_bears c_plan c_rowAt c_seen c_turns c_wagons c_yields) H locs → lv_has ls 4 [(0, .ref a_t)] → W p l e (rm9 2 47) s m args below meth c H locs 0 0 Q (F0 m 20 ls [.ref a_t]) := by
    intro c_thrown c_bunker c_seen c_wagons H locs ls h hW hl
    unfold X10_run_b20 at h
    refine lv_iconst (pc := 20) (v := 1) hx hb (dd dX10_run_p0 10 rfl) (by decide) ?_
    refine lv_goto (pc := 21) (tgt := 25) hx hb (dd dX10_run_p0 11 rfl) (by decide) ?_
    exact J25 _ _ _ _ _ _ _ _ h hW (lv_sub hl [0] rfl)
  refine lv_aload_n (pc := 0) hx hb (dd dX10_run_p0 0 rfl) rfl (lv_at hl 0 rfl) ?_
  refine lv_iconst (pc := 1) (v := 0) hx hb (dd dX10_run_p0 1 rfl) (by decide) ?_
  refine rPut (pc := 2) M hW 0 0 tyX10 tyX10_ok nmX10 iU10 rfl rfl (by decide) (uw4 213 rfl rfl) rfl rfl rfl (Nat.le_of_ble_eq_true rfl) (dd dX10_run_p0 2 rfl) (ws' := (w_X10_run g a_t a_along a_bears a_plan a_rowAt a_seen a_turns a_wagons a_yields a_cornerX a_cornerY a_corners a_what a_strip a_rowSize a_endAt a_slantA a_slantB a_pile a_far a_waiting a_isWaiting a_rest a_isUsed 0 c_isLaid c_head c_hasRows c_hasPlan c_rows c_slants c_capacity c_weight c_unload c_source c_bunker c_along c_bears c_plan c_rowAt c_seen c_turns c_wagons c_yields)) rfl (fun H locs hW => ?_)
  refine lv_aload_n (pc := 5) hx hb (dd dX10_run_p0 3 rfl) rfl (lv_at hl 0 rfl) ?_
  refine lv_aload_n (pc := 6) hx hb (dd dX10_run_p0 4 rfl) rfl (lv_at hl 0 rfl) ?_
  refine rGet (pc := 7) M hW 0 8 iU10 rfl rfl (by decide) (uw4 221 rfl rfl) rfl (dd dX10_run_p0 5 rfl) ?_
  refine lv_if_eq (pc := 10) (tgt := 20) hx hb (dd dX10_run_p0 6 rfl) (by decide) (fun hc => ?_) (fun hc => ?_)
  · have h := it_t hc h
    exact J20 _ _ _ _ _ _ _ h hW (lv_sub hl [0] rfl)
  · have h := it_f hc h
    refine lv_aload_n (pc := 13) hx hb (dd dX10_run_p0 7 rfl) rfl (lv_at hl 0 rfl) ?_
    obtain ⟨r_14, hr, h⟩ := bnd_ex h
    refine callVI (pc := 14) (na := 0) (As := []) (rest := [.ref a_t]) (ws2 := (w_X10_run g a_t a_along a_bears a_plan a_rowAt a_seen a_turns a_wagons a_yields a_cornerX a_cornerY a_corners a_what a_strip a_rowSize a_endAt a_slantA a_slantB a_pile a_far a_waiting a_isWaiting a_rest a_isUsed 0 c_isLaid c_head c_hasRows c_hasPlan c_rows c_slants c_capacity c_weight c_unload c_source c_bunker c_along c_bears c_plan c_rowAt c_seen c_turns c_wagons c_yields)) M hl.1 hW (t_X10_sumOf l g a_t a_plan a_turns a_cornerX a_cornerY a_corners a_what a_rowAt a_strip a_along a_rowSize a_endAt a_slantA a_slantB a_yields a_bears a_seen a_wagons a_pile a_far a_waiting a_isWaiting a_rest a_isUsed 0 c_isLaid c_head c_hasRows c_hasPlan c_rows c_slants c_capacity c_weight c_unload c_source c_bunker c_plan c_turns r_14 hr) rfl [0, 3, 6] [1, 2, 4, 5, 7, 8] [6, 0, 1, 7, 2, 3, 8, 4, 5] rfl rfl rfl rfl rfl rfl rfl 0 10 rfl rfl rfl (uw5 210 rfl rfl) (uw5 207 rfl rfl) (uw5 209 rfl rfl) (uwp 59 rfl rfl) (uw1 13 rfl rfl) ⟨by decide, by decide, by decide⟩ rfl ⟨by decide, by decide⟩ (Nat.le_of_ble_eq_true rfl) ⟨Nat.zero_le _, Nat.zero_le _⟩ (dd dX10_run_p0 8 rfl) (fun H locs hW => ?_)
    refine lv_if_ge (pc := 17) (tgt := 24) hx hb (dd dX10_run_p0 9 rfl) (by decide) (fun hc => ?_) (fun hc => ?_)
    · have h := it_t hc h
      refine lv_iconst (pc := 24) (v := 0) hx hb (dd dX10_run_p0 12 rfl) (by decide) ?_
      exact J25 _ _ _ _ _ _ _ _ h hW (lv_sub hl [0] rfl)
    · have h := it_f hc h
      exact J20 _ _ _ _ _ _ _ h hW (lv_sub hl [0] rfl)
