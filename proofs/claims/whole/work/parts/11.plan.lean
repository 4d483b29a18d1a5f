abbrev w_X6_gather (g : G9) (a_t a_alongs a_land a_numbers a_sorted a_strips a_land_kinds a_spare a_tally a_squares a_starts a_ends a_land_nears a_land_depths : Nat) (c_there c_size : Int32) (c_alongs : Ar) (c_land_laid c_land_head c_land_fieldCount c_land_innerCount : Int32) (c_numbers c_sorted c_strips c_land_kinds : Ar) : va_W := [ob a_t 6 [.ref a_land, .ref a_strips, .ref a_alongs, .ref a_numbers, .ref a_sorted, .ref a_spare, .ref a_tally, .ref a_squares, .ref a_starts, .ref a_ends, .int c_there, .int c_size], ia g a_alongs 1200 c_alongs, ob a_land 0 [.ref a_land_kinds, .ref a_land_nears, .ref a_land_depths, .int c_land_laid, .int c_land_head, .int c_land_fieldCount, .int c_land_innerCount], ia g a_numbers 1200 c_numbers, ia g a_sorted 1200 c_sorted, ia g a_strips 1200 c_strips, ia g a_land_kinds 1200 c_land_kinds]
noncomputable def X6_gather_b6_110 (c_alongs c_numbers c_sorted c_strips : Ar) (v1 v2 v3 v4 v5 : Int32) : Option ((Ar × Ar × Ar × Ar × Int32 × Int32) ⊕ (Ar × Ar × Ar × Ar)) :=
  nm (v5 + 1) fun v5_110 => some (.inl (c_alongs, c_numbers, c_sorted, c_strips, v4, v5_110))
noncomputable def X6_gather_L6 (c_land_kinds : Ar) (v1 v2 v3 : Int32) (c_alongs c_numbers c_sorted c_strips : Ar) (v4 v5 : Int32) : Option ((Ar × Ar × Ar × Ar × Int32 × Int32) ⊕ (Ar × Ar × Ar × Ar)) :=
  if 1200 ≤ v5 then (some (.inr (c_alongs, c_numbers, c_sorted, c_strips))) else (ck (ix v5 1200) <| nm (au c_numbers v5 (-1)) fun c_numbers_21 => ck (ix v5 1200) <| if (ag c_land_kinds v5) = 2 then (nm (((2 * (v5 - v5 / 40 * 40)) + 1)) fun v6_45 => nm (((2 * (v5 / 40)) + 1)) fun v7_56 => ck (nz (mx v3 1)) <| ck (ix v5 1200) <| nm (au c_strips v5 (flo ((v1 * v7_56) - (v2 * v6_45)) (mx v3 1))) fun c_strips_81 => ck (ix v5 1200) <| nm (au c_alongs v5 ((v1 * v6_45) + (v2 * v7_56))) fun c_alongs_97 => ck (ix v4 1200) <| nm (au c_sorted v4 v5) fun c_sorted_106 => nm (v4 + 1) fun v4_107 => X6_gather_b6_110 c_alongs_97 c_numbers_21 c_sorted_106 c_strips_81 v1 v2 v3 v4_107 v5) else (X6_gather_b6_110 c_alongs c_numbers_21 c_sorted c_strips v1 v2 v3 v4 v5))
noncomputable def X6_gather (c_alongs c_numbers c_sorted c_strips c_land_kinds : Ar) (v1 v2 v3 : Int32) : Option (Ar × Ar × Ar × Ar) :=
  bnd (whileV (fun st => X6_gather_L6 c_land_kinds v1 v2 v3 st.1 st.2.1 st.2.2.1 st.2.2.2.1 st.2.2.2.2.1 st.2.2.2.2.2) (c_alongs, c_numbers, c_sorted, c_strips, 0, 0)) <| (un4 fun c_alongs_116 c_numbers_116 c_sorted_116 c_strips_116 => some (c_alongs_116, c_numbers_116, c_sorted_116, c_strips_116))
set_option maxHeartbeats 4000000 in
set_option maxRecDepth 100000 in
theorem t_X6_gather (l : Launch) (g : G9) (a_t a_alongs a_land a_numbers a_sorted a_strips a_land_kinds a_spare a_tally a_squares a_starts a_ends a_land_nears a_land_depths : Nat) (c_there c_size : Int32) (c_alongs : Ar) (c_land_laid c_land_head c_land_fieldCount c_land_innerCount : Int32) (c_numbers c_sorted c_strips c_land_kinds : Ar) (v1 v2 v3 : Int32) (o_alongs o_numbers o_sorted o_strips : Ar) (h : X6_gather c_alongs c_numbers c_sorted c_strips c_land_kinds v1 v2 v3 = some (o_alongs, o_numbers, o_sorted, o_strips)) : CtV l g yX6_gather cX6_gather 8 1 22 [.ref a_t, .int v1, .int v2, .int v3] (w_X6_gather g a_t a_alongs a_land a_numbers a_sorted a_strips a_land_kinds a_spare a_tally a_squares a_starts a_ends a_land_nears a_land_depths c_there c_size c_alongs c_land_laid c_land_head c_land_fieldCount c_land_innerCount c_numbers c_sorted c_strips c_land_kinds) (w_X6_gather g a_t a_alongs a_land a_numbers a_sorted a_strips a_land_kinds a_spare a_tally a_squares a_starts a_ends a_land_nears a_land_depths c_there c_size o_alongs c_land_laid c_land_head c_land_fieldCount c_land_innerCount o_numbers o_sorted o_strips c_land_kinds) := by
  refine startV (by decide) (Nat.le_of_ble_eq_true rfl) ?_
  intro p e s m below meth c A Q ls args M hW hl ret
  have hx := M.1
  have hb := M.2.1
  have hown := M.2.2.2.1
  have hu := M.2.2.2.2.1
  have hl : lv_has ls 8 [(0, .ref a_t), (1, .int v1), (2, .int v2), (3, .int v3)] := hl
  unfold X6_gather at h
  obtain ⟨H, eH⟩ : ∃ z, z = s.heap := ⟨_, rfl⟩
  obtain ⟨locs, eL⟩ : ∃ z, z = ([] : List Loc) := ⟨_, rfl⟩
  rw [← eL] at hW ⊢
  suffices hS9 : WD g s A (w_X6_gather g a_t a_alongs a_land a_numbers a_sorted a_strips a_land_kinds a_spare a_tally a_squares a_starts a_ends a_land_nears a_land_depths c_there c_size c_alongs c_land_laid c_land_head c_land_fieldCount c_land_innerCount c_numbers c_sorted c_strips c_land_kinds) H locs → W p l e (rm9 1 22) s m args below meth c H locs 0 0 Q (F0 m 0 ls []) by
    rw [← eH] at hW ⊢
    exact hS9 hW
  clear hW eH eL
  intro hW
  refine lv_iconst (pc := 0) (v := 0) hx hb (dd dX6_gather_p0 0 rfl) (by decide) ?_
  refine lv_istore (pc := 1) (lv' := [(4, .int 0), (0, .ref a_t), (1, .int v1), (2, .int v2), (3, .int v3)]) hx hb (dd dX6_gather_p0 1 rfl) hl (by decide) rfl (fun ls hl => ?_)
  refine lv_iconst (pc := 3) (v := 0) hx hb (dd dX6_gather_p0 2 rfl) (by decide) ?_
  refine lv_istore (pc := 4) (lv' := [(5, .int 0), (4, .int 0), (0, .ref a_t), (1, .int v1), (2, .int v2), (3, .int v3)]) hx hb (dd dX6_gather_p0 3 rfl) hl (by decide) rfl (fun ls hl => ?_)
  obtain ⟨ex, hw, h⟩ := bnd_ex h
  refine loopW (fun st => ∀ (H : Heap) (locs : List Loc) (ls : Array Slot), WD g s A (w_X6_gather g a_t a_alongs a_land a_numbers a_sorted a_strips a_land_kinds a_spare a_tally a_squares a_starts a_ends a_land_nears a_land_depths c_there c_size (st.1) c_land_laid c_land_head c_land_fieldCount c_land_innerCount (st.2.1) (st.2.2.1) (st.2.2.2.1) c_land_kinds) H locs → lv_has ls 8 [(0, .ref a_t), (1, .int v1), (2, .int v2), (3, .int v3), (4, .int (st.2.2.2.2.1)), (5, .int (st.2.2.2.2.2))] → W p l e (rm9 1 22) s m args below meth c H locs 0 0 Q (F0 m 6 ls [])) (fun (ex : (Ar × Ar × Ar × Ar)) => ∀ (H : Heap) (locs : List Loc) (ls : Array Slot), WD g s A (w_X6_gather g a_t a_alongs a_land a_numbers a_sorted a_strips a_land_kinds a_spare a_tally a_squares a_starts a_ends a_land_nears a_land_depths c_there c_size (ex.1) c_land_laid c_land_head c_land_fieldCount c_land_innerCount (ex.2.1) (ex.2.2.1) (ex.2.2.2) c_land_kinds) H locs → lv_has ls 8 [] → W p l e (rm9 1 22) s m args below meth c H locs 0 0 Q (F0 m 116 ls [])) ?_ hw ?_ H locs ls hW (lv_sub hl [2, 3, 4, 5, 1, 0] rfl)
  · rintro ⟨c_alongs, c_numbers, c_sorted, c_strips, v4, v5⟩ o hb9 hk H locs ls hW hl
    have h : X6_gather_L6 c_land_kinds v1 v2 v3 c_alongs c_numbers c_sorted c_strips v4 v5 = some o := hb9
    clear hb9
    unfold X6_gather_L6 at h
    have J110 : ∀ (c_alongs c_numbers c_sorted c_strips : Ar) (v4 v5 : Int32) (H : Heap) (locs : List Loc) (ls : Array Slot), X6_gather_b6_110 c_alongs c_numbers c_sorted c_strips v1 v2 v3 v4 v5 = some o → WD g s A (w_X6_gather g a_t a_alongs a_land a_numbers a_sorted a_strips a_land_kinds a_spare a_tally a_squares a_starts a_ends a_land_nears a_land_depths c_there c_size c_alongs c_land_laid c_land_head c_land_fieldCount c_land_innerCount c_numbers c_sorted c_strips c_land_kinds) H locs → lv_has ls 8 [(0, .ref a_t), (1, .int v1), (2, .int v2), (3, .int v3), (4, .int v4), (5, .int v5)] → W p l e (rm9 1 22) s m args below meth c H locs 0 0 Q (F0 m 110 ls []) := by
      intro c_alongs c_numbers c_sorted c_strips v4 v5 H locs ls h hW hl
      unfold X6_gather_b6_110 at h
      obtain ⟨v5_110, ev5_110, h⟩ := nm_ex h
      refine lv_iinc (pc := 110) (v := v5_110) (lv' := [(5, .int v5_110), (0, .ref a_t), (1, .int v1), (2, .int v2), (3, .int v3), (4, .int v4)]) hx hb (dd dX6_gather_p1 7 rfl) hl (k := 5) rfl (by rw [ev5_110]; rfl) (by decide) rfl (fun ls hl => ?_)
      refine lv_goto (pc := 113) (tgt := 6) hx hb (dd dX6_gather_p1 8 rfl) (by decide) ?_
      obtain rfl := Option.some.inj h
      exact hk _ _ _ hW (lv_sub hl [1, 2, 3, 4, 5, 0] rfl)
    refine lv_iload (pc := 6) hx hb (dd dX6_gather_p0 4 rfl) (lv_at hl 5 rfl) ?_
    refine lv_sipush (pc := 8) (v := 1200) hx hb (dd dX6_gather_p0 5 rfl) (by decide) ?_
    refine lv_icmp_ge (pc := 11) (tgt := 116) hx hb (dd dX6_gather_p0 6 rfl) (by decide) (fun hc => ?_) (fun hc => ?_)
    · have h := it_t hc h
      obtain rfl := Option.some.inj h
      exact hk _ _ _ hW (lv_sub hl [] rfl)
    · have h := it_f hc h
      refine lv_aload_n (pc := 14) hx hb (dd dX6_gather_p0 7 rfl) rfl (lv_at hl 0 rfl) ?_
      refine rGet (pc := 15) M hW 0 3 iU6 rfl rfl (by decide) (uw1 143 rfl rfl) rfl (dd dX6_gather_p0 8 rfl) ?_
      refine lv_iload (pc := 18) hx hb (dd dX6_gather_p0 9 rfl) (lv_at hl 5 rfl) ?_
      refine lv_iconst (pc := 20) (v := (-1)) hx hb (dd dX6_gather_p0 10 rfl) (by decide) ?_
      obtain ⟨hi, h⟩ := ck_ex h
      obtain ⟨c_numbers_21, ec_numbers_21, h⟩ := nm_ex h
      refine rIast (pc := 21) M hW 3 rfl hi ec_numbers_21 (ws' := (w_X6_gather g a_t a_alongs a_land a_numbers a_sorted a_strips a_land_kinds a_spare a_tally a_squares a_starts a_ends a_land_nears a_land_depths c_there c_size c_alongs c_land_laid c_land_head c_land_fieldCount c_land_innerCount c_numbers_21 c_sorted c_strips c_land_kinds)) rfl (dd dX6_gather_p0 11 rfl) (fun H locs hW => ?_)
      refine lv_aload_n (pc := 22) hx hb (dd dX6_gather_p0 12 rfl) rfl (lv_at hl 0 rfl) ?_
      refine rGet (pc := 23) M hW 0 0 iU6 rfl rfl (by decide) (uw1 139 rfl rfl) rfl (dd dX6_gather_p0 13 rfl) ?_
      refine rGet (pc := 26) M hW 2 0 iU0 rfl rfl (by decide) (uw1 76 rfl rfl) rfl (dd dX6_gather_p0 14 rfl) ?_
      refine lv_iload (pc := 29) hx hb (dd dX6_gather_p0 15 rfl) (lv_at hl 5 rfl) ?_
      obtain ⟨hi, h⟩ := ck_ex h
      refine rIald (pc := 31) M hW 6 rfl hi (dd dX6_gather_p0 16 rfl) ?_
      refine lv_iconst (pc := 32) (v := 2) hx hb (dd dX6_gather_p0 17 rfl) (by decide) ?_
      refine lv_icmp_ne (pc := 33) (tgt := 110) hx hb (dd dX6_gather_p0 18 rfl) (by decide) (fun hc => ?_) (fun hc => ?_)
      · have h := it_f hc h
        exact J110 _ _ _ _ _ _ _ _ _ h hW (lv_sub hl [0, 1, 2, 3, 4, 5] rfl)
      · have h := it_t hc h
        refine lv_iconst (pc := 36) (v := 2) hx hb (dd dX6_gather_p0 19 rfl) (by decide) ?_
        refine lv_iload (pc := 37) hx hb (dd dX6_gather_p0 20 rfl) (lv_at hl 5 rfl) ?_
        refine lv_bipush (pc := 39) (v := 40) hx hb (dd dX6_gather_p0 21 rfl) (by decide) ?_
        refine lv_irem (pc := 41) hx hb (dd dX6_gather_p0 22 rfl) (by decide) ?_
        refine lv_imul (pc := 42) hx hb (dd dX6_gather_p0 23 rfl) ?_
        refine lv_iconst (pc := 43) (v := 1) hx hb (dd dX6_gather_p0 24 rfl) (by decide) ?_
        refine lv_iadd (pc := 44) hx hb (dd dX6_gather_p0 25 rfl) ?_
        obtain ⟨v6_45, ev6_45, h⟩ := nm_ex h
        refine rTopi (pc := 45) ev6_45 ?_
        refine lv_istore (pc := 45) (lv' := [(6, .int v6_45), (0, .ref a_t), (1, .int v1), (2, .int v2), (3, .int v3), (4, .int v4), (5, .int v5)]) hx hb (dd dX6_gather_p0 26 rfl) hl (by decide) rfl (fun ls hl => ?_)
        refine lv_iconst (pc := 47) (v := 2) hx hb (dd dX6_gather_p0 27 rfl) (by decide) ?_
        refine lv_iload (pc := 48) hx hb (dd dX6_gather_p0 28 rfl) (lv_at hl 6 rfl) ?_
        refine lv_bipush (pc := 50) (v := 40) hx hb (dd dX6_gather_p0 29 rfl) (by decide) ?_
        refine lv_idiv (pc := 52) hx hb (dd dX6_gather_p0 30 rfl) (by decide) ?_
        refine lv_imul (pc := 53) hx hb (dd dX6_gather_p0 31 rfl) ?_
        refine lv_iconst (pc := 54) (v := 1) hx hb (dd dX6_gather_p0 32 rfl) (by decide) ?_
        refine lv_iadd (pc := 55) hx hb (dd dX6_gather_p0 33 rfl) ?_
        obtain ⟨v7_56, ev7_56, h⟩ := nm_ex h
        refine rTopi (pc := 56) ev7_56 ?_
        refine lv_istore (pc := 56) (lv' := [(7, .int v7_56), (6, .int v6_45), (0, .ref a_t), (1, .int v1), (2, .int v2), (3, .int v3), (4, .int v4), (5, .int v5)]) hx hb (dd dX6_gather_p0 34 rfl) hl (by decide) rfl (fun ls hl => ?_)
        refine lv_aload_n (pc := 58) hx hb (dd dX6_gather_p0 35 rfl) rfl (lv_at hl 2 rfl) ?_
        refine rGet (pc := 59) M hW 0 1 iU6 rfl rfl (by decide) (uw1 140 rfl rfl) rfl (dd dX6_gather_p0 36 rfl) ?_
        refine lv_iload (pc := 62) hx hb (dd dX6_gather_p0 37 rfl) (lv_at hl 7 rfl) ?_
        refine lv_iload_n (pc := 64) hx hb (dd dX6_gather_p0 38 rfl) rfl (lv_at hl 3 rfl) ?_
        refine lv_iload (pc := 65) hx hb (dd dX6_gather_p0 39 rfl) (lv_at hl 0 rfl) ?_
        refine lv_imul (pc := 67) hx hb (dd dX6_gather_p0 40 rfl) ?_
        refine lv_iload_n (pc := 68) hx hb (dd dX6_gather_p0 41 rfl) rfl (lv_at hl 4 rfl) ?_
        refine lv_iload (pc := 69) hx hb (dd dX6_gather_p0 42 rfl) (lv_at hl 1 rfl) ?_
        refine lv_imul (pc := 71) hx hb (dd dX6_gather_p0 43 rfl) ?_
        refine lv_isub (pc := 72) hx hb (dd dX6_gather_p0 44 rfl) ?_
        refine lv_iload_n (pc := 73) hx hb (dd dX6_gather_p0 45 rfl) rfl (lv_at hl 5 rfl) ?_
        refine lv_iconst (pc := 74) (v := 1) hx hb (dd dX6_gather_p0 46 rfl) (by decide) ?_
        refine rMax (pc := 75) M hl.1 (uw3 154 rfl rfl) (uw1 44 rfl rfl) (uw1 4 rfl rfl) (uw1 45 rfl rfl) ⟨by decide, by decide⟩ (Nat.le_of_ble_eq_true rfl) ⟨Nat.zero_le _, Nat.zero_le _⟩ (dd dX6_gather_p0 47 rfl) ?_
        obtain ⟨hi, h⟩ := ck_ex h
        refine rFloor (pc := 78) M hl.1 hW (uw3 155 rfl rfl) (uw3 156 rfl rfl) (uw1 4 rfl rfl) (uw3 157 rfl rfl) ⟨by decide, by decide⟩ (Nat.le_of_ble_eq_true rfl) ⟨Nat.zero_le _, Nat.zero_le _⟩ (nz_ne hi) (dd dX6_gather_p0 48 rfl) (fun H locs hW => ?_)
        obtain ⟨hi, h⟩ := ck_ex h
        obtain ⟨c_strips_81, ec_strips_81, h⟩ := nm_ex h
        refine rIast (pc := 81) M hW 5 rfl hi ec_strips_81 (ws' := (w_X6_gather g a_t a_alongs a_land a_numbers a_sorted a_strips a_land_kinds a_spare a_tally a_squares a_starts a_ends a_land_nears a_land_depths c_there c_size c_alongs c_land_laid c_land_head c_land_fieldCount c_land_innerCount c_numbers_21 c_sorted c_strips_81 c_land_kinds)) rfl (dd dX6_gather_p0 49 rfl) (fun H locs hW => ?_)
        refine lv_aload_n (pc := 82) hx hb (dd dX6_gather_p0 50 rfl) rfl (lv_at hl 2 rfl) ?_
        refine rGet (pc := 83) M hW 0 2 iU6 rfl rfl (by decide) (uw1 142 rfl rfl) rfl (dd dX6_gather_p0 51 rfl) ?_
        refine lv_iload (pc := 86) hx hb (dd dX6_gather_p0 52 rfl) (lv_at hl 7 rfl) ?_
        refine lv_iload_n (pc := 88) hx hb (dd dX6_gather_p0 53 rfl) rfl (lv_at hl 3 rfl) ?_
        refine lv_iload (pc := 89) hx hb (dd dX6_gather_p0 54 rfl) (lv_at hl 1 rfl) ?_
        refine lv_imul (pc := 91) hx hb (dd dX6_gather_p0 55 rfl) ?_
        refine lv_iload_n (pc := 92) hx hb (dd dX6_gather_p0 56 rfl) rfl (lv_at hl 4 rfl) ?_
        refine lv_iload (pc := 93) hx hb (dd dX6_gather_p0 57 rfl) (lv_at hl 0 rfl) ?_
        refine lv_imul (pc := 95) hx hb (dd dX6_gather_p0 58 rfl) ?_
        refine lv_iadd (pc := 96) hx hb (dd dX6_gather_p0 59 rfl) ?_
        obtain ⟨hi, h⟩ := ck_ex h
        obtain ⟨c_alongs_97, ec_alongs_97, h⟩ := nm_ex h
        refine rIast (pc := 97) M hW 1 rfl hi ec_alongs_97 (ws' := (w_X6_gather g a_t a_alongs a_land a_numbers a_sorted a_strips a_land_kinds a_spare a_tally a_squares a_starts a_ends a_land_nears a_land_depths c_there c_size c_alongs_97 c_land_laid c_land_head c_land_fieldCount c_land_innerCount c_numbers_21 c_sorted c_strips_81 c_land_kinds)) rfl (dd dX6_gather_p1 0 rfl) (fun H locs hW => ?_)
        refine lv_aload_n (pc := 98) hx hb (dd dX6_gather_p1 1 rfl) rfl (lv_at hl 2 rfl) ?_
        refine rGet (pc := 99) M hW 0 4 iU6 rfl rfl (by decide) (uw1 145 rfl rfl) rfl (dd dX6_gather_p1 2 rfl) ?_
        refine lv_iload (pc := 102) hx hb (dd dX6_gather_p1 3 rfl) (lv_at hl 6 rfl) ?_
        refine lv_iload (pc := 104) hx hb (dd dX6_gather_p1 4 rfl) (lv_at hl 7 rfl) ?_
        obtain ⟨hi, h⟩ := ck_ex h
        obtain ⟨c_sorted_106, ec_sorted_106, h⟩ := nm_ex h
        refine rIast (pc := 106) M hW 4 rfl hi ec_sorted_106 (ws' := (w_X6_gather g a_t a_alongs a_land a_numbers a_sorted a_strips a_land_kinds a_spare a_tally a_squares a_starts a_ends a_land_nears a_land_depths c_there c_size c_alongs_97 c_land_laid c_land_head c_land_fieldCount c_land_innerCount c_numbers_21 c_sorted_106 c_strips_81 c_land_kinds)) rfl (dd dX6_gather_p1 5 rfl) (fun H locs hW => ?_)
        obtain ⟨v4_107, ev4_107, h⟩ := nm_ex h
        refine lv_iinc (pc := 107) (v := v4_107) (lv' := [(4, .int v4_107), (7, .int v7_56), (6, .int v6_45), (0, .ref a_t), (1, .int v1), (2, .int v2), (3, .int v3), (5, .int v5)]) hx hb (dd dX6_gather_p1 6 rfl) hl (k := 6) rfl (by rw [ev4_107]; rfl) (by decide) rfl (fun ls hl => ?_)
        exact J110 _ _ _ _ _ _ _ _ _ h hW (lv_sub hl [3, 4, 5, 6, 0, 7] rfl)
  · obtain ⟨c_alongs_116, c_numbers_116, c_sorted_116, c_strips_116⟩ := ex
    have h := un4_at h
    intro H locs ls hW hl
    have hW9 := hW
    cases h
    exact ret _ _ _ 116 hW9 (dd dX6_gather_p1 9 rfl)
abbrev w_X6_sortBy (g : G9) (a_p1 a_p2 a_p3 a_t a_land a_tally a_strips a_alongs a_numbers a_sorted a_spare a_squares a_starts a_ends a_land_kinds a_land_nears a_land_depths : Nat) (c_p1 c_p2 c_p3 : Ar) (c_there c_size c_land_laid c_land_head c_land_fieldCount c_land_innerCount : Int32) (c_tally : Ar) : va_W := [ia g a_p1 1200 c_p1, ia g a_p2 1200 c_p2, ia g a_p3 1200 c_p3, ob a_t 6 [.ref a_land, .ref a_strips, .ref a_alongs, .ref a_numbers, .ref a_sorted, .ref a_spare, .ref a_tally, .ref a_squares, .ref a_starts, .ref a_ends, .int c_there, .int c_size], ob a_land 0 [.ref a_land_kinds, .ref a_land_nears, .ref a_land_depths, .int c_land_laid, .int c_land_head, .int c_land_fieldCount, .int c_land_innerCount], ia g a_tally 2486 c_tally]
noncomputable def X6_sortBy_L11 (c_p1 c_p2 : Ar) (c_land_innerCount : Int32) (c_tally : Ar) (v4 : Int32) : Option ((Ar × Int32) ⊕ Ar) :=
  if c_land_innerCount ≤ v4 then (some (.inr c_tally)) else (ck (ix v4 1200) <| ck (ix (ag c_p2 v4) 1200) <| ck (ix (((ag c_p1 (ag c_p2 v4)) + 1242) + 1) 2486) <| ck (ix (((ag c_p1 (ag c_p2 v4)) + 1242) + 1) 2486) <| nm (au c_tally (((ag c_p1 (ag c_p2 v4)) + 1242) + 1) ((ag c_tally (((ag c_p1 (ag c_p2 v4)) + 1242) + 1)) + 1)) fun c_tally_43 => nm (v4 + 1) fun v4_44 => some (.inl (c_tally_43, v4_44)))
noncomputable def X6_sortBy_L53 (c_tally : Ar) (v4 : Int32) : Option ((Ar × Int32) ⊕ Ar) :=
  if (nI 2486) ≤ v4 then (some (.inr c_tally)) else (ck (ix v4 2486) <| ck (ix (v4 - 1) 2486) <| ck (ix v4 2486) <| nm (au c_tally v4 ((ag c_tally v4) + (ag c_tally (v4 - 1)))) fun c_tally_81 => nm (v4 + 1) fun v4_82 => some (.inl (c_tally_81, v4_82)))
noncomputable def X6_sortBy_L91 (c_p1 c_p2 : Ar) (c_land_innerCount : Int32) (c_p3 c_tally : Ar) (v4 : Int32) : Option ((Ar × Ar × Int32) ⊕ (Ar × Ar)) :=
  if c_land_innerCount ≤ v4 then (some (.inr (c_p3, c_tally))) else (ck (ix v4 1200) <| ck (ix (ag c_p2 v4) 1200) <| nm (((ag c_p1 (ag c_p2 v4)) + 1242)) fun v5_113 => ck (ix v5_113 2486) <| ck (ix v4 1200) <| ck (ix (ag c_tally v5_113) 1200) <| nm (au c_p3 (ag c_tally v5_113) (ag c_p2 v4)) fun c_p3_127 => ck (ix v5_113 2486) <| ck (ix v5_113 2486) <| nm (au c_tally v5_113 ((ag c_tally v5_113) + 1)) fun c_tally_138 => nm (v4 + 1) fun v4_139 => some (.inl (c_p3_127, c_tally_138, v4_139)))
noncomputable def X6_sortBy (c_p1 c_p2 c_p3 : Ar) (c_land_innerCount : Int32) (c_tally : Ar) : Option (Ar × Ar) :=
  bnd (J7_fill_53178 2486 c_tally 0) <| fun c_tally_5 => bnd (whileV (fun st => X6_sortBy_L11 c_p1 c_p2 c_land_innerCount st.1 st.2) (c_tally_5, 0)) <| (fun c_tally_50 => bnd (whileV (fun st => X6_sortBy_L53  st.1 st.2) (c_tally_50, 1)) <| (fun c_tally_88 => bnd (whileV (fun st => X6_sortBy_L91 c_p1 c_p2 c_land_innerCount st.1 st.2.1 st.2.2) (c_p3, c_tally_88, 0)) <| (un2 fun c_p3_145 c_tally_145 => some (c_p3_145, c_tally_145))))
set_option maxHeartbeats 4000000 in
set_option maxRecDepth 100000 in
theorem t_X6_sortBy (l : Launch) (g : G9) (a_p1 a_p2 a_p3 a_t a_land a_tally a_strips a_alongs a_numbers a_sorted a_spare a_squares a_starts a_ends a_land_kinds a_land_nears a_land_depths : Nat) (c_p1 c_p2 c_p3 : Ar) (c_there c_size c_land_laid c_land_head c_land_fieldCount c_land_innerCount : Int32) (c_tally o_p3 o_tally : Ar) (h : X6_sortBy c_p1 c_p2 c_p3 c_land_innerCount c_tally = some (o_p3, o_tally)) : CtV l g yX6_sortBy cX6_sortBy 6 1 23 [.ref a_t, .ref a_p1, .ref a_p2, .ref a_p3] (w_X6_sortBy g a_p1 a_p2 a_p3 a_t a_land a_tally a_strips a_alongs a_numbers a_sorted a_spare a_squares a_starts a_ends a_land_kinds a_land_nears a_land_depths c_p1 c_p2 c_p3 c_there c_size c_land_laid c_land_head c_land_fieldCount c_land_innerCount c_tally) (w_X6_sortBy g a_p1 a_p2 a_p3 a_t a_land a_tally a_strips a_alongs a_numbers a_sorted a_spare a_squares a_starts a_ends a_land_kinds a_land_nears a_land_depths c_p1 c_p2 o_p3 c_there c_size c_land_laid c_land_head c_land_fieldCount c_land_innerCount o_tally) := by
  refine startV (by decide) (Nat.le_of_ble_eq_true rfl) ?_
  intro p e s m below meth c A Q ls args M hW hl ret
  have hx := M.1
  have hb := M.2.1
  have hown := M.2.2.2.1
  have hu := M.2.2.2.2.1
  have hl : lv_has ls 6 [(0, .ref a_t), (1, .ref a_p1), (2, .ref a_p2), (3, .ref a_p3)] := hl
  unfold X6_sortBy at h
  obtain ⟨H, eH⟩ : ∃ z, z = s.heap := ⟨_, rfl⟩
  obtain ⟨locs, eL⟩ : ∃ z, z = ([] : List Loc) := ⟨_, rfl⟩
  rw [← eL] at hW ⊢
  suffices hS9 : WD g s A (w_X6_sortBy g a_p1 a_p2 a_p3 a_t a_land a_tally a_strips a_alongs a_numbers a_sorted a_spare a_squares a_starts a_ends a_land_kinds a_land_nears a_land_depths c_p1 c_p2 c_p3 c_there c_size c_land_laid c_land_head c_land_fieldCount c_land_innerCount c_tally) H locs → W p l e (rm9 1 23) s m args below meth c H locs 0 0 Q (F0 m 0 ls []) by
    rw [← eH] at hW ⊢
    exact hS9 hW
  clear hW eH eL
  intro hW
  refine lv_aload_n (pc := 0) hx hb (dd dX6_sortBy_p0 0 rfl) rfl (lv_at hl 0 rfl) ?_
  refine rGet (pc := 1) M hW 3 6 iU6 rfl rfl (by decide) (uw1 147 rfl rfl) rfl (dd dX6_sortBy_p0 1 rfl) ?_
  refine lv_iconst (pc := 4) (v := 0) hx hb (dd dX6_sortBy_p0 2 rfl) (by decide) ?_
  obtain ⟨c_tally_5, hr, h⟩ := bnd_ex h
  refine callSV (pc := 5) (na := 2) (As := [.ref a_tally, .int 0]) (rest := []) (ws2 := (w_X6_sortBy g a_p1 a_p2 a_p3 a_t a_land a_tally a_strips a_alongs a_numbers a_sorted a_spare a_squares a_starts a_ends a_land_kinds a_land_nears a_land_depths c_p1 c_p2 c_p3 c_there c_size c_land_laid c_land_head c_land_fieldCount c_land_innerCount c_tally_5)) M hl.1 hW (t_J7_fill_53178 l g a_tally 2486 c_tally 0 c_tally_5 hr) [5] [0, 1, 2, 3, 4] [0, 1, 2, 3, 4, 5] rfl rfl rfl rfl rfl rfl rfl (uw2 20 rfl rfl) (uw3 162 rfl rfl) (uw2 19 rfl rfl) (uw1 12 rfl rfl) ⟨by decide, by decide, by decide⟩ rfl ⟨by decide, by decide⟩ (Nat.le_of_ble_eq_true rfl) ⟨Nat.zero_le _, Nat.zero_le _⟩ (dd dX6_sortBy_p0 3 rfl) (fun H locs hW => ?_)
  refine lv_iconst (pc := 8) (v := 0) hx hb (dd dX6_sortBy_p0 4 rfl) (by decide) ?_
  refine lv_istore (pc := 9) (lv' := [(4, .int 0), (0, .ref a_t), (1, .ref a_p1), (2, .ref a_p2), (3, .ref a_p3)]) hx hb (dd dX6_sortBy_p0 5 rfl) hl (by decide) rfl (fun ls hl => ?_)
  obtain ⟨ex, hw, h⟩ := bnd_ex h
  refine loopW (fun st => ∀ (H : Heap) (locs : List Loc) (ls : Array Slot), WD g s A (w_X6_sortBy g a_p1 a_p2 a_p3 a_t a_land a_tally a_strips a_alongs a_numbers a_sorted a_spare a_squares a_starts a_ends a_land_kinds a_land_nears a_land_depths c_p1 c_p2 c_p3 c_there c_size c_land_laid c_land_head c_land_fieldCount c_land_innerCount (st.1)) H locs → lv_has ls 6 [(0, .ref a_t), (1, .ref a_p1), (2, .ref a_p2), (3, .ref a_p3), (4, .int (st.2))] → W p l e (rm9 1 23) s m args below meth c H locs 0 0 Q (F0 m 11 ls [])) (fun (ex : Ar) => ∀ (H : Heap) (locs : List Loc) (ls : Array Slot), WD g s A (w_X6_sortBy g a_p1 a_p2 a_p3 a_t a_land a_tally a_strips a_alongs a_numbers a_sorted a_spare a_squares a_starts a_ends a_land_kinds a_land_nears a_land_depths c_p1 c_p2 c_p3 c_there c_size c_land_laid c_land_head c_land_fieldCount c_land_innerCount ex) H locs → lv_has ls 6 [(0, .ref a_t), (1, .ref a_p1), (2, .ref a_p2), (3, .ref a_p3)] → W p l e (rm9 1 23) s m args below meth c H locs 0 0 Q (F0 m 50 ls [])) ?_ hw ?_ H locs ls hW (lv_sub hl [1, 2, 3, 4, 0] rfl)
  · rintro ⟨c_tally, v4⟩ o hb9 hk H locs ls hW hl
    have h : X6_sortBy_L11 c_p1 c_p2 c_land_innerCount c_tally v4 = some o := hb9
    clear hb9
    unfold X6_sortBy_L11 at h
    refine lv_iload (pc := 11) hx hb (dd dX6_sortBy_p0 6 rfl) (lv_at hl 4 rfl) ?_
    refine lv_aload_n (pc := 13) hx hb (dd dX6_sortBy_p0 7 rfl) rfl (lv_at hl 0 rfl) ?_
    refine rGet (pc := 14) M hW 3 0 iU6 rfl rfl (by decide) (uw1 139 rfl rfl) rfl (dd dX6_sortBy_p0 8 rfl) ?_
    refine rGet (pc := 17) M hW 4 6 iU0 rfl rfl (by decide) (uw1 89 rfl rfl) rfl (dd dX6_sortBy_p0 9 rfl) ?_
    refine lv_icmp_ge (pc := 20) (tgt := 50) hx hb (dd dX6_sortBy_p0 10 rfl) (by decide) (fun hc => ?_) (fun hc => ?_)
    · have h := it_t hc h
      obtain rfl := Option.some.inj h
      exact hk _ _ _ hW (lv_sub hl [0, 1, 2, 3] rfl)
    · have h := it_f hc h
      refine lv_aload_n (pc := 23) hx hb (dd dX6_sortBy_p0 11 rfl) rfl (lv_at hl 0 rfl) ?_
      refine rGet (pc := 24) M hW 3 6 iU6 rfl rfl (by decide) (uw1 147 rfl rfl) rfl (dd dX6_sortBy_p0 12 rfl) ?_
      refine lv_aload_n (pc := 27) hx hb (dd dX6_sortBy_p0 13 rfl) rfl (lv_at hl 1 rfl) ?_
      refine lv_aload_n (pc := 28) hx hb (dd dX6_sortBy_p0 14 rfl) rfl (lv_at hl 2 rfl) ?_
      refine lv_iload (pc := 29) hx hb (dd dX6_sortBy_p0 15 rfl) (lv_at hl 4 rfl) ?_
      obtain ⟨hi, h⟩ := ck_ex h
      refine rIald (pc := 31) M hW 1 rfl hi (dd dX6_sortBy_p0 16 rfl) ?_
      obtain ⟨hi, h⟩ := ck_ex h
      refine rIald (pc := 32) M hW 0 rfl hi (dd dX6_sortBy_p0 17 rfl) ?_
      refine lv_sipush (pc := 33) (v := 1242) hx hb (dd dX6_sortBy_p0 18 rfl) (by decide) ?_
      refine lv_iadd (pc := 36) hx hb (dd dX6_sortBy_p0 19 rfl) ?_
      refine lv_iconst (pc := 37) (v := 1) hx hb (dd dX6_sortBy_p0 20 rfl) (by decide) ?_
      refine lv_iadd (pc := 38) hx hb (dd dX6_sortBy_p0 21 rfl) ?_
      refine lv_dup2_11 (pc := 39) hx hb (dd dX6_sortBy_p0 22 rfl) rfl rfl ?_
      obtain ⟨hi, h⟩ := ck_ex h
      refine rIald (pc := 40) M hW 5 rfl hi (dd dX6_sortBy_p0 23 rfl) ?_
      refine lv_iconst (pc := 41) (v := 1) hx hb (dd dX6_sortBy_p0 24 rfl) (by decide) ?_
      refine lv_iadd (pc := 42) hx hb (dd dX6_sortBy_p0 25 rfl) ?_
      obtain ⟨hi, h⟩ := ck_ex h
      obtain ⟨c_tally_43, ec_tally_43, h⟩ := nm_ex h
      refine rIast (pc := 43) M hW 5 rfl hi ec_tally_43 (ws' := (w_X6_sortBy g a_p1 a_p2 a_p3 a_t a_land a_tally a_strips a_alongs a_numbers a_sorted a_spare a_squares a_starts a_ends a_land_kinds a_land_nears a_land_depths c_p1 c_p2 c_p3 c_there c_size c_land_laid c_land_head c_land_fieldCount c_land_innerCount c_tally_43)) rfl (dd dX6_sortBy_p0 26 rfl) (fun H locs hW => ?_)
      obtain ⟨v4_44, ev4_44, h⟩ := nm_ex h
      refine lv_iinc (pc := 44) (v := v4_44) (lv' := [(4, .int v4_44), (0, .ref a_t), (1, .ref a_p1), (2, .ref a_p2), (3, .ref a_p3)]) hx hb (dd dX6_sortBy_p0 27 rfl) hl (k := 4) rfl (by rw [ev4_44]; rfl) (by decide) rfl (fun ls hl => ?_)
      refine lv_goto (pc := 47) (tgt := 11) hx hb (dd dX6_sortBy_p0 28 rfl) (by decide) ?_
      obtain rfl := Option.some.inj h
      exact hk _ _ _ hW (lv_sub hl [1, 2, 3, 4, 0] rfl)
  · obtain ⟨c_tally_50, e9⟩ : ∃ z, z = ex := ⟨_, rfl⟩
    subst e9
    intro H locs ls hW hl
    refine lv_iconst (pc := 50) (v := 1) hx hb (dd dX6_sortBy_p0 29 rfl) (by decide) ?_
    refine lv_istore (pc := 51) (lv' := [(4, .int 1), (0, .ref a_t), (1, .ref a_p1), (2, .ref a_p2), (3, .ref a_p3)]) hx hb (dd dX6_sortBy_p0 30 rfl) hl (by decide) rfl (fun ls hl => ?_)
    obtain ⟨ex, hw, h⟩ := bnd_ex h
    refine loopW (fun st => ∀ (H : Heap) (locs : List Loc) (ls : Array Slot), WD g s A (w_X6_sortBy g a_p1 a_p2 a_p3 a_t a_land a_tally a_strips a_alongs a_numbers a_sorted a_spare a_squares a_starts a_ends a_land_kinds a_land_nears a_land_depths c_p1 c_p2 c_p3 c_there c_size c_land_laid c_land_head c_land_fieldCount c_land_innerCount (st.1)) H locs → lv_has ls 6 [(0, .ref a_t), (1, .ref a_p1), (2, .ref a_p2), (3, .ref a_p3), (4, .int (st.2))] → W p l e (rm9 1 23) s m args below meth c H locs 0 0 Q (F0 m 53 ls [])) (fun (ex : Ar) => ∀ (H : Heap) (locs : List Loc) (ls : Array Slot), WD g s A (w_X6_sortBy g a_p1 a_p2 a_p3 a_t a_land a_tally a_strips a_alongs a_numbers a_sorted a_spare a_squares a_starts a_ends a_land_kinds a_land_nears a_land_depths c_p1 c_p2 c_p3 c_there c_size c_land_laid c_land_head c_land_fieldCount c_land_innerCount ex) H locs → lv_has ls 6 [(0, .ref a_t), (1, .ref a_p1), (2, .ref a_p2), (3, .ref a_p3)] → W p l e (rm9 1 23) s m args below meth c H locs 0 0 Q (F0 m 88 ls [])) ?_ hw ?_ H locs ls hW (lv_sub hl [1, 2, 3, 4, 0] rfl)
    · rintro ⟨c_tally, v4⟩ o hb9 hk H locs ls hW hl
      have h : X6_sortBy_L53  c_tally v4 = some o := hb9
      clear hb9
      unfold X6_sortBy_L53 at h
      refine lv_iload (pc := 53) hx hb (dd dX6_sortBy_p0 31 rfl) (lv_at hl 4 rfl) ?_
      refine lv_aload_n (pc := 55) hx hb (dd dX6_sortBy_p0 32 rfl) rfl (lv_at hl 0 rfl) ?_
      refine rGet (pc := 56) M hW 3 6 iU6 rfl rfl (by decide) (uw1 147 rfl rfl) rfl (dd dX6_sortBy_p0 33 rfl) ?_
      refine rAlenI (pc := 59) M hW 5 rfl (dd dX6_sortBy_p0 34 rfl) ?_
      refine lv_icmp_ge (pc := 60) (tgt := 88) hx hb (dd dX6_sortBy_p0 35 rfl) (by decide) (fun hc => ?_) (fun hc => ?_)
      · have h := it_t hc h
        obtain rfl := Option.some.inj h
        exact hk _ _ _ hW (lv_sub hl [0, 1, 2, 3] rfl)
      · have h := it_f hc h
        refine lv_aload_n (pc := 63) hx hb (dd dX6_sortBy_p0 36 rfl) rfl (lv_at hl 0 rfl) ?_
        refine rGet (pc := 64) M hW 3 6 iU6 rfl rfl (by decide) (uw1 147 rfl rfl) rfl (dd dX6_sortBy_p0 37 rfl) ?_
        refine lv_iload (pc := 67) hx hb (dd dX6_sortBy_p0 38 rfl) (lv_at hl 4 rfl) ?_
        refine lv_dup2_11 (pc := 69) hx hb (dd dX6_sortBy_p0 39 rfl) rfl rfl ?_
        obtain ⟨hi, h⟩ := ck_ex h
        refine rIald (pc := 70) M hW 5 rfl hi (dd dX6_sortBy_p0 40 rfl) ?_
        refine lv_aload_n (pc := 71) hx hb (dd dX6_sortBy_p0 41 rfl) rfl (lv_at hl 0 rfl) ?_
        refine rGet (pc := 72) M hW 3 6 iU6 rfl rfl (by decide) (uw1 147 rfl rfl) rfl (dd dX6_sortBy_p0 42 rfl) ?_
        refine lv_iload (pc := 75) hx hb (dd dX6_sortBy_p0 43 rfl) (lv_at hl 4 rfl) ?_
        refine lv_iconst (pc := 77) (v := 1) hx hb (dd dX6_sortBy_p0 44 rfl) (by decide) ?_
        refine lv_isub (pc := 78) hx hb (dd dX6_sortBy_p0 45 rfl) ?_
        obtain ⟨hi, h⟩ := ck_ex h
        refine rIald (pc := 79) M hW 5 rfl hi (dd dX6_sortBy_p0 46 rfl) ?_
        refine lv_iadd (pc := 80) hx hb (dd dX6_sortBy_p0 47 rfl) ?_
        obtain ⟨hi, h⟩ := ck_ex h
        obtain ⟨c_tally_81, ec_tally_81, h⟩ := nm_ex h
        refine rIast (pc := 81) M hW 5 rfl hi ec_tally_81 (ws' := (w_X6_sortBy g a_p1 a_p2 a_p3 a_t a_land a_tally a_strips a_alongs a_numbers a_sorted a_spare a_squares a_starts a_ends a_land_kinds a_land_nears a_land_depths c_p1 c_p2 c_p3 c_there c_size c_land_laid c_land_head c_land_fieldCount c_land_innerCount c_tally_81)) rfl (dd dX6_sortBy_p0 48 rfl) (fun H locs hW => ?_)
        obtain ⟨v4_82, ev4_82, h⟩ := nm_ex h
        refine lv_iinc (pc := 82) (v := v4_82) (lv' := [(4, .int v4_82), (0, .ref a_t), (1, .ref a_p1), (2, .ref a_p2), (3, .ref a_p3)]) hx hb (dd dX6_sortBy_p0 49 rfl) hl (k := 4) rfl (by rw [ev4_82]; rfl) (by decide) rfl (fun ls hl => ?_)
        refine lv_goto (pc := 85) (tgt := 53) hx hb (dd dX6_sortBy_p0 50 rfl) (by decide) ?_
        obtain rfl := Option.some.inj h
        exact hk _ _ _ hW (lv_sub hl [1, 2, 3, 4, 0] rfl)
    · obtain ⟨c_tally_88, e9⟩ : ∃ z, z = ex := ⟨_, rfl⟩
      subst e9
      intro H locs ls hW hl
      refine lv_iconst (pc := 88) (v := 0) hx hb (dd dX6_sortBy_p0 51 rfl) (by decide) ?_
      refine lv_istore (pc := 89) (lv' := [(4, .int 0), (0, .ref a_t), (1, .ref a_p1), (2, .ref a_p2), (3, .ref a_p3)]) hx hb (dd dX6_sortBy_p0 52 rfl) hl (by decide) rfl (fun ls hl => ?_)
      obtain ⟨ex, hw, h⟩ := bnd_ex h
      refine loopW (fun st => ∀ (H : Heap) (locs : List Loc) (ls : Array Slot), WD g s A (w_X6_sortBy g a_p1 a_p2 a_p3 a_t a_land a_tally a_strips a_alongs a_numbers a_sorted a_spare a_squares a_starts a_ends a_land_kinds a_land_nears a_land_depths c_p1 c_p2 (st.1) c_there c_size c_land_laid c_land_head c_land_fieldCount c_land_innerCount (st.2.1)) H locs → lv_has ls 6 [(0, .ref a_t), (1, .ref a_p1), (2, .ref a_p2), (3, .ref a_p3), (4, .int (st.2.2))] → W p l e (rm9 1 23) s m args below meth c H locs 0 0 Q (F0 m 91 ls [])) (fun (ex : (Ar × Ar)) => ∀ (H : Heap) (locs : List Loc) (ls : Array Slot), WD g s A (w_X6_sortBy g a_p1 a_p2 a_p3 a_t a_land a_tally a_strips a_alongs a_numbers a_sorted a_spare a_squares a_starts a_ends a_land_kinds a_land_nears a_land_depths c_p1 c_p2 (ex.1) c_there c_size c_land_laid c_land_head c_land_fieldCount c_land_innerCount (ex.2)) H locs → lv_has ls 6 [] → W p l e (rm9 1 23) s m args below meth c H locs 0 0 Q (F0 m 145 ls [])) ?_ hw ?_ H locs ls hW (lv_sub hl [1, 2, 3, 4, 0] rfl)
      · rintro ⟨c_p3, c_tally, v4⟩ o hb9 hk H locs ls hW hl
        have h : X6_sortBy_L91 c_p1 c_p2 c_land_innerCount c_p3 c_tally v4 = some o := hb9
        clear hb9
        unfold X6_sortBy_L91 at h
        refine lv_iload (pc := 91) hx hb (dd dX6_sortBy_p0 53 rfl) (lv_at hl 4 rfl) ?_
        refine lv_aload_n (pc := 93) hx hb (dd dX6_sortBy_p0 54 rfl) rfl (lv_at hl 0 rfl) ?_
        refine rGet (pc := 94) M hW 3 0 iU6 rfl rfl (by decide) (uw1 139 rfl rfl) rfl (dd dX6_sortBy_p0 55 rfl) ?_
        refine rGet (pc := 97) M hW 4 6 iU0 rfl rfl (by decide) (uw1 89 rfl rfl) rfl (dd dX6_sortBy_p0 56 rfl) ?_
        refine lv_icmp_ge (pc := 100) (tgt := 145) hx hb (dd dX6_sortBy_p0 57 rfl) (by decide) (fun hc => ?_) (fun hc => ?_)
        · have h := it_t hc h
          obtain rfl := Option.some.inj h
          exact hk _ _ _ hW (lv_sub hl [] rfl)
        · have h := it_f hc h
          refine lv_aload_n (pc := 103) hx hb (dd dX6_sortBy_p0 58 rfl) rfl (lv_at hl 1 rfl) ?_
          refine lv_aload_n (pc := 104) hx hb (dd dX6_sortBy_p0 59 rfl) rfl (lv_at hl 2 rfl) ?_
          refine lv_iload (pc := 105) hx hb (dd dX6_sortBy_p1 0 rfl) (lv_at hl 4 rfl) ?_
          obtain ⟨hi, h⟩ := ck_ex h
          refine rIald (pc := 107) M hW 1 rfl hi (dd dX6_sortBy_p1 1 rfl) ?_
          obtain ⟨hi, h⟩ := ck_ex h
          refine rIald (pc := 108) M hW 0 rfl hi (dd dX6_sortBy_p1 2 rfl) ?_
          refine lv_sipush (pc := 109) (v := 1242) hx hb (dd dX6_sortBy_p1 3 rfl) (by decide) ?_
          refine lv_iadd (pc := 112) hx hb (dd dX6_sortBy_p1 4 rfl) ?_
          obtain ⟨v5_113, ev5_113, h⟩ := nm_ex h
          refine rTopi (pc := 113) ev5_113 ?_
          refine lv_istore (pc := 113) (lv' := [(5, .int v5_113), (0, .ref a_t), (1, .ref a_p1), (2, .ref a_p2), (3, .ref a_p3), (4, .int v4)]) hx hb (dd dX6_sortBy_p1 5 rfl) hl (by decide) rfl (fun ls hl => ?_)
          refine lv_aload_n (pc := 115) hx hb (dd dX6_sortBy_p1 6 rfl) rfl (lv_at hl 4 rfl) ?_
          refine lv_aload_n (pc := 116) hx hb (dd dX6_sortBy_p1 7 rfl) rfl (lv_at hl 1 rfl) ?_
          refine rGet (pc := 117) M hW 3 6 iU6 rfl rfl (by decide) (uw1 147 rfl rfl) rfl (dd dX6_sortBy_p1 8 rfl) ?_
          refine lv_iload (pc := 120) hx hb (dd dX6_sortBy_p1 9 rfl) (lv_at hl 0 rfl) ?_
          obtain ⟨hi, h⟩ := ck_ex h
          refine rIald (pc := 122) M hW 5 rfl hi (dd dX6_sortBy_p1 10 rfl) ?_
          refine lv_aload_n (pc := 123) hx hb (dd dX6_sortBy_p1 11 rfl) rfl (lv_at hl 3 rfl) ?_
          refine lv_iload (pc := 124) hx hb (dd dX6_sortBy_p1 12 rfl) (lv_at hl 5 rfl) ?_
          obtain ⟨hi, h⟩ := ck_ex h
          refine rIald (pc := 126) M hW 1 rfl hi (dd dX6_sortBy_p1 13 rfl) ?_
          obtain ⟨hi, h⟩ := ck_ex h
          obtain ⟨c_p3_127, ec_p3_127, h⟩ := nm_ex h
          refine rIast (pc := 127) M hW 2 rfl hi ec_p3_127 (ws' := (w_X6_sortBy g a_p1 a_p2 a_p3 a_t a_land a_tally a_strips a_alongs a_numbers a_sorted a_spare a_squares a_starts a_ends a_land_kinds a_land_nears a_land_depths c_p1 c_p2 c_p3_127 c_there c_size c_land_laid c_land_head c_land_fieldCount c_land_innerCount c_tally)) rfl (dd dX6_sortBy_p1 14 rfl) (fun H locs hW => ?_)
          refine lv_aload_n (pc := 128) hx hb (dd dX6_sortBy_p1 15 rfl) rfl (lv_at hl 1 rfl) ?_
          refine rGet (pc := 129) M hW 3 6 iU6 rfl rfl (by decide) (uw1 147 rfl rfl) rfl (dd dX6_sortBy_p1 16 rfl) ?_
          refine lv_iload (pc := 132) hx hb (dd dX6_sortBy_p1 17 rfl) (lv_at hl 0 rfl) ?_
          refine lv_dup2_11 (pc := 134) hx hb (dd dX6_sortBy_p1 18 rfl) rfl rfl ?_
          obtain ⟨hi, h⟩ := ck_ex h
          refine rIald (pc := 135) M hW 5 rfl hi (dd dX6_sortBy_p1 19 rfl) ?_
          refine lv_iconst (pc := 136) (v := 1) hx hb (dd dX6_sortBy_p1 20 rfl) (by decide) ?_
          refine lv_iadd (pc := 137) hx hb (dd dX6_sortBy_p1 21 rfl) ?_
          obtain ⟨hi, h⟩ := ck_ex h
          obtain ⟨c_tally_138, ec_tally_138, h⟩ := nm_ex h
          refine rIast (pc := 138) M hW 5 rfl hi ec_tally_138 (ws' := (w_X6_sortBy g a_p1 a_p2 a_p3 a_t a_land a_tally a_strips a_alongs a_numbers a_sorted a_spare a_squares a_starts a_ends a_land_kinds a_land_nears a_land_depths c_p1 c_p2 c_p3_127 c_there c_size c_land_laid c_land_head c_land_fieldCount c_land_innerCount c_tally_138)) rfl (dd dX6_sortBy_p1 22 rfl) (fun H locs hW => ?_)
          obtain ⟨v4_139, ev4_139, h⟩ := nm_ex h
          refine lv_iinc (pc := 139) (v := v4_139) (lv' := [(4, .int v4_139), (5, .int v5_113), (0, .ref a_t), (1, .ref a_p1), (2, .ref a_p2), (3, .ref a_p3)]) hx hb (dd dX6_sortBy_p1 23 rfl) hl (k := 5) rfl (by rw [ev4_139]; rfl) (by decide) rfl (fun ls hl => ?_)
          refine lv_goto (pc := 142) (tgt := 91) hx hb (dd dX6_sortBy_p1 24 rfl) (by decide) ?_
          obtain rfl := Option.some.inj h
          exact hk _ _ _ hW (lv_sub hl [2, 3, 4, 5, 0] rfl)
      · obtain ⟨c_p3_145, c_tally_145⟩ := ex
        have h := un2_at h
        intro H locs ls hW hl
        have hW9 := hW
        cases h
        exact ret _ _ _ 145 hW9 (dd dX6_sortBy_p1 25 rfl)
abbrev w_X6_floodFrom (g : G9) (a_t a_land a_numbers a_spare a_strips a_land_kinds a_land_nears a_alongs a_sorted a_tally a_squares a_starts a_ends a_land_depths : Nat) (c_there c_size c_land_laid c_land_head c_land_fieldCount c_land_innerCount : Int32) (c_numbers c_spare c_strips c_land_kinds c_land_nears : Ar) : va_W := [ob a_t 6 [.ref a_land, .ref a_strips, .ref a_alongs, .ref a_numbers, .ref a_sorted, .ref a_spare, .ref a_tally, .ref a_squares, .ref a_starts, .ref a_ends, .int c_there, .int c_size], ob a_land 0 [.ref a_land_kinds, .ref a_land_nears, .ref a_land_depths, .int c_land_laid, .int c_land_head, .int c_land_fieldCount, .int c_land_innerCount], ia g a_numbers 1200 c_numbers, ia g a_spare 1200 c_spare, ia g a_strips 1200 c_strips, ia g a_land_kinds 1200 c_land_kinds, ia g a_land_nears 1200 c_land_nears]
noncomputable def X6_floodFrom_b5_109 (c_numbers c_spare : Ar) (v1 v3 v4 : Int32) : Option ((Ar × Ar × Int32 × Int32) ⊕ (Ar × Ar × Int32)) :=
  nm (v4 + 1) fun v4_109 => some (.inl (c_numbers, c_spare, v3, v4_109))
noncomputable def X6_floodFrom_L5 (c_size : Int32) (c_strips c_land_kinds c_land_nears : Ar) (v1 : Int32) (c_numbers c_spare : Ar) (v3 v4 : Int32) : Option ((Ar × Ar × Int32 × Int32) ⊕ (Ar × Ar × Int32)) :=
  if 8 ≤ v4 then (some (.inr (c_numbers, c_spare, v3))) else (ck (ix v1 1200) <| if (((ag c_land_nears v1) >>> (v4 &&& 31)) &&& 1) = 0 then (X6_floodFrom_b5_109 c_numbers c_spare v1 v3 v4) else (if 1200 ≤ v3 then (X6_floodFrom_b5_109 c_numbers c_spare v1 v3 v4) else (ck (ix v4 8) <| nm ((v1 + (ag stepA v4))) fun v5_44 => ck (ix v5_44 1200) <| if (ag c_land_kinds v5_44) = 2 then (ck (ix v5_44 1200) <| if (ag c_numbers v5_44) = (-1) then (ck (ix v5_44 1200) <| ck (ix v1 1200) <| if (ag c_strips v5_44) = (ag c_strips v1) then (ck (ix v5_44 1200) <| nm (au c_numbers v5_44 c_size) fun c_numbers_97 => ck (ix v3 1200) <| nm (au c_spare v3 v5_44) fun c_spare_105 => nm (v3 + 1) fun v3_106 => X6_floodFrom_b5_109 c_numbers_97 c_spare_105 v1 v3_106 v4) else (X6_floodFrom_b5_109 c_numbers c_spare v1 v3 v4)) else (X6_floodFrom_b5_109 c_numbers c_spare v1 v3 v4)) else (X6_floodFrom_b5_109 c_numbers c_spare v1 v3 v4))))
noncomputable def X6_floodFrom (c_size : Int32) (c_numbers c_spare c_strips c_land_kinds c_land_nears : Ar) (v1 v2 : Int32) : Option (Int32 × Ar × Ar) :=
  bnd (whileV (fun st => X6_floodFrom_L5 c_size c_strips c_land_kinds c_land_nears v1 st.1 st.2.1 st.2.2.1 st.2.2.2) (c_numbers, c_spare, v2, 0)) <| (un3 fun c_numbers_115 c_spare_115 v3_115 => some (v3_115, c_numbers_115, c_spare_115))
set_option maxHeartbeats 4000000 in
set_option maxRecDepth 100000 in
theorem t_X6_floodFrom (l : Launch) (g : G9) (a_t a_land a_numbers a_spare a_strips a_land_kinds a_land_nears a_alongs a_sorted a_tally a_squares a_starts a_ends a_land_depths : Nat) (c_there c_size c_land_laid c_land_head c_land_fieldCount c_land_innerCount : Int32) (c_numbers c_spare c_strips c_land_kinds c_land_nears : Ar) (v1 v2 r0 : Int32) (o_numbers o_spare : Ar) (h : X6_floodFrom c_size c_numbers c_spare c_strips c_land_kinds c_land_nears v1 v2 = some (r0, o_numbers, o_spare)) : CtI l g yX6_floodFrom cX6_floodFrom 6 .int 0 0 [.ref a_t, .int v1, .int v2] (w_X6_floodFrom g a_t a_land a_numbers a_spare a_strips a_land_kinds a_land_nears a_alongs a_sorted a_tally a_squares a_starts a_ends a_land_depths c_there c_size c_land_laid c_land_head c_land_fieldCount c_land_innerCount c_numbers c_spare c_strips c_land_kinds c_land_nears) r0 (w_X6_floodFrom g a_t a_land a_numbers a_spare a_strips a_land_kinds a_land_nears a_alongs a_sorted a_tally a_squares a_starts a_ends a_land_depths c_there c_size c_land_laid c_land_head c_land_fieldCount c_land_innerCount o_numbers o_spare c_strips c_land_kinds c_land_nears) := by
  refine startI (by decide) (Nat.le_of_ble_eq_true rfl) ?_
  intro p e s m below meth c A Q ls args M hW hl ret
  have hx := M.1
  have hb := M.2.1
  have hown := M.2.2.2.1
  have hu := M.2.2.2.2.1
  have hl : lv_has ls 6 [(0, .ref a_t), (1, .int v1), (2, .int v2)] := hl
  unfold X6_floodFrom at h
  obtain ⟨H, eH⟩ : ∃ z, z = s.heap := ⟨_, rfl⟩
  obtain ⟨locs, eL⟩ : ∃ z, z = ([] : List Loc) := ⟨_, rfl⟩
  rw [← eL] at hW ⊢
  suffices hS9 : WD g s A (w_X6_floodFrom g a_t a_land a_numbers a_spare a_strips a_land_kinds a_land_nears a_alongs a_sorted a_tally a_squares a_starts a_ends a_land_depths c_there c_size c_land_laid c_land_head c_land_fieldCount c_land_innerCount c_numbers c_spare c_strips c_land_kinds c_land_nears) H locs → W p l e (rm9 0 0) s m args below meth c H locs 0 0 Q (F0 m 0 ls []) by
    rw [← eH] at hW ⊢
    exact hS9 hW
  clear hW eH eL
  intro hW
  refine lv_iload_n (pc := 0) hx hb (dd dX6_floodFrom_p0 0 rfl) rfl (lv_at hl 2 rfl) ?_
  refine lv_istore_n (pc := 1) (lv' := [(3, .int v2), (0, .ref a_t), (1, .int v1), (2, .int v2)]) hx hb (dd dX6_floodFrom_p0 1 rfl) rfl hl (by decide) rfl (fun ls hl => ?_)
  refine lv_iconst (pc := 2) (v := 0) hx hb (dd dX6_floodFrom_p0 2 rfl) (by decide) ?_
  refine lv_istore (pc := 3) (lv' := [(4, .int 0), (3, .int v2), (0, .ref a_t), (1, .int v1), (2, .int v2)]) hx hb (dd dX6_floodFrom_p0 3 rfl) hl (by decide) rfl (fun ls hl => ?_)
  obtain ⟨ex, hw, h⟩ := bnd_ex h
  refine loopW (fun st => ∀ (H : Heap) (locs : List Loc) (ls : Array Slot), WD g s A (w_X6_floodFrom g a_t a_land a_numbers a_spare a_strips a_land_kinds a_land_nears a_alongs a_sorted a_tally a_squares a_starts a_ends a_land_depths c_there c_size c_land_laid c_land_head c_land_fieldCount c_land_innerCount (st.1) (st.2.1) c_strips c_land_kinds c_land_nears) H locs → lv_has ls 6 [(0, .ref a_t), (1, .int v1), (3, .int (st.2.2.1)), (4, .int (st.2.2.2))] → W p l e (rm9 0 0) s m args below meth c H locs 0 0 Q (F0 m 5 ls [])) (fun (ex : (Ar × Ar × Int32)) => ∀ (H : Heap) (locs : List Loc) (ls : Array Slot), WD g s A (w_X6_floodFrom g a_t a_land a_numbers a_spare a_strips a_land_kinds a_land_nears a_alongs a_sorted a_tally a_squares a_starts a_ends a_land_depths c_there c_size c_land_laid c_land_head c_land_fieldCount c_land_innerCount (ex.1) (ex.2.1) c_strips c_land_kinds c_land_nears) H locs → lv_has ls 6 [(3, .int (ex.2.2))] → W p l e (rm9 0 0) s m args below meth c H locs 0 0 Q (F0 m 115 ls [])) ?_ hw ?_ H locs ls hW (lv_sub hl [2, 3, 1, 0] rfl)
  · rintro ⟨c_numbers, c_spare, v3, v4⟩ o hb9 hk H locs ls hW hl
    have h : X6_floodFrom_L5 c_size c_strips c_land_kinds c_land_nears v1 c_numbers c_spare v3 v4 = some o := hb9
    clear hb9
    unfold X6_floodFrom_L5 at h
    have J109 : ∀ (c_numbers c_spare : Ar) (v3 v4 : Int32) (H : Heap) (locs : List Loc) (ls : Array Slot), X6_floodFrom_b5_109 c_numbers c_spare v1 v3 v4 = some o → WD g s A (w_X6_floodFrom g a_t a_land a_numbers a_spare a_strips a_land_kinds a_land_nears a_alongs a_sorted a_tally a_squares a_starts a_ends a_land_depths c_there c_size c_land_laid c_land_head c_land_fieldCount c_land_innerCount c_numbers c_spare c_strips c_land_kinds c_land_nears) H locs → lv_has ls 6 [(0, .ref a_t), (1, .int v1), (3, .int v3), (4, .int v4)] → W p l e (rm9 0 0) s m args below meth c H locs 0 0 Q (F0 m 109 ls []) := by
      intro c_numbers c_spare v3 v4 H locs ls h hW hl
      unfold X6_floodFrom_b5_109 at h
      obtain ⟨v4_109, ev4_109, h⟩ := nm_ex h
      refine lv_iinc (pc := 109) (v := v4_109) (lv' := [(4, .int v4_109), (0, .ref a_t), (1, .int v1), (3, .int v3)]) hx hb (dd dX6_floodFrom_p1 0 rfl) hl (k := 3) rfl (by rw [ev4_109]; rfl) (by decide) rfl (fun ls hl => ?_)
      refine lv_goto (pc := 112) (tgt := 5) hx hb (dd dX6_floodFrom_p1 1 rfl) (by decide) ?_
      obtain rfl := Option.some.inj h
      exact hk _ _ _ hW (lv_sub hl [1, 2, 3, 0] rfl)
    refine lv_iload (pc := 5) hx hb (dd dX6_floodFrom_p0 4 rfl) (lv_at hl 3 rfl) ?_
    refine lv_bipush (pc := 7) (v := 8) hx hb (dd dX6_floodFrom_p0 5 rfl) (by decide) ?_
    refine lv_icmp_ge (pc := 9) (tgt := 115) hx hb (dd dX6_floodFrom_p0 6 rfl) (by decide) (fun hc => ?_) (fun hc => ?_)
    · have h := it_t hc h
      obtain rfl := Option.some.inj h
      exact hk _ _ _ hW (lv_sub hl [2] rfl)
    · have h := it_f hc h
      refine lv_aload_n (pc := 12) hx hb (dd dX6_floodFrom_p0 7 rfl) rfl (lv_at hl 0 rfl) ?_
      refine rGet (pc := 13) M hW 0 0 iU6 rfl rfl (by decide) (uw1 139 rfl rfl) rfl (dd dX6_floodFrom_p0 8 rfl) ?_
      refine rGet (pc := 16) M hW 1 1 iU0 rfl rfl (by decide) (uw1 80 rfl rfl) rfl (dd dX6_floodFrom_p0 9 rfl) ?_
      refine lv_iload_n (pc := 19) hx hb (dd dX6_floodFrom_p0 10 rfl) rfl (lv_at hl 1 rfl) ?_
      obtain ⟨hi, h⟩ := ck_ex h
      refine rIald (pc := 20) M hW 6 rfl hi (dd dX6_floodFrom_p0 11 rfl) ?_
      refine lv_iload (pc := 21) hx hb (dd dX6_floodFrom_p0 12 rfl) (lv_at hl 3 rfl) ?_
      refine lv_ishr (pc := 23) hx hb (dd dX6_floodFrom_p0 13 rfl) ?_
      refine lv_iconst (pc := 24) (v := 1) hx hb (dd dX6_floodFrom_p0 14 rfl) (by decide) ?_
      refine lv_iand (pc := 25) hx hb (dd dX6_floodFrom_p0 15 rfl) ?_
      refine lv_if_eq (pc := 26) (tgt := 109) hx hb (dd dX6_floodFrom_p0 16 rfl) (by decide) (fun hc => ?_) (fun hc => ?_)
      · have h := it_t hc h
        exact J109 _ _ _ _ _ _ _ h hW (lv_sub hl [0, 1, 2, 3] rfl)
      · have h := it_f hc h
        refine lv_iload_n (pc := 29) hx hb (dd dX6_floodFrom_p0 17 rfl) rfl (lv_at hl 2 rfl) ?_
        refine lv_sipush (pc := 30) (v := 1200) hx hb (dd dX6_floodFrom_p0 18 rfl) (by decide) ?_
        refine lv_icmp_ge (pc := 33) (tgt := 109) hx hb (dd dX6_floodFrom_p0 19 rfl) (by decide) (fun hc => ?_) (fun hc => ?_)
        · have h := it_t hc h
          exact J109 _ _ _ _ _ _ _ h hW (lv_sub hl [0, 1, 2, 3] rfl)
        · have h := it_f hc h
          refine lv_iload_n (pc := 36) hx hb (dd dX6_floodFrom_p0 20 rfl) rfl (lv_at hl 1 rfl) ?_
          refine rStepsN (pc := 37) M hW M.2.2.2.2.2.2.2.1.2.2.2.2.2.1 (dd dX6_floodFrom_p0 21 rfl) ?_
          refine lv_iload (pc := 40) hx hb (dd dX6_floodFrom_p0 22 rfl) (lv_at hl 3 rfl) ?_
          obtain ⟨hi, h⟩ := ck_ex h
          refine rStep (pc := 42) M hW hi (dd dX6_floodFrom_p0 23 rfl) ?_
          refine lv_iadd (pc := 43) hx hb (dd dX6_floodFrom_p0 24 rfl) ?_
          obtain ⟨v5_44, ev5_44, h⟩ := nm_ex h
          refine rTopi (pc := 44) ev5_44 ?_
          refine lv_istore (pc := 44) (lv' := [(5, .int v5_44), (0, .ref a_t), (1, .int v1), (3, .int v3), (4, .int v4)]) hx hb (dd dX6_floodFrom_p0 25 rfl) hl (by decide) rfl (fun ls hl => ?_)
          refine lv_aload_n (pc := 46) hx hb (dd dX6_floodFrom_p0 26 rfl) rfl (lv_at hl 1 rfl) ?_
          refine rGet (pc := 47) M hW 0 0 iU6 rfl rfl (by decide) (uw1 139 rfl rfl) rfl (dd dX6_floodFrom_p0 27 rfl) ?_
          refine rGet (pc := 50) M hW 1 0 iU0 rfl rfl (by decide) (uw1 76 rfl rfl) rfl (dd dX6_floodFrom_p0 28 rfl) ?_
          refine lv_iload (pc := 53) hx hb (dd dX6_floodFrom_p0 29 rfl) (lv_at hl 0 rfl) ?_
          obtain ⟨hi, h⟩ := ck_ex h
          refine rIald (pc := 55) M hW 5 rfl hi (dd dX6_floodFrom_p0 30 rfl) ?_
          refine lv_iconst (pc := 56) (v := 2) hx hb (dd dX6_floodFrom_p0 31 rfl) (by decide) ?_
          refine lv_icmp_ne (pc := 57) (tgt := 109) hx hb (dd dX6_floodFrom_p0 32 rfl) (by decide) (fun hc => ?_) (fun hc => ?_)
          · have h := it_f hc h
            exact J109 _ _ _ _ _ _ _ h hW (lv_sub hl [1, 2, 3, 4] rfl)
          · have h := it_t hc h
            refine lv_aload_n (pc := 60) hx hb (dd dX6_floodFrom_p0 33 rfl) rfl (lv_at hl 1 rfl) ?_
            refine rGet (pc := 61) M hW 0 3 iU6 rfl rfl (by decide) (uw1 143 rfl rfl) rfl (dd dX6_floodFrom_p0 34 rfl) ?_
            refine lv_iload (pc := 64) hx hb (dd dX6_floodFrom_p0 35 rfl) (lv_at hl 0 rfl) ?_
            obtain ⟨hi, h⟩ := ck_ex h
            refine rIald (pc := 66) M hW 2 rfl hi (dd dX6_floodFrom_p0 36 rfl) ?_
            refine lv_iconst (pc := 67) (v := (-1)) hx hb (dd dX6_floodFrom_p0 37 rfl) (by decide) ?_
            refine lv_icmp_ne (pc := 68) (tgt := 109) hx hb (dd dX6_floodFrom_p0 38 rfl) (by decide) (fun hc => ?_) (fun hc => ?_)
            · have h := it_f hc h
              exact J109 _ _ _ _ _ _ _ h hW (lv_sub hl [1, 2, 3, 4] rfl)
            · have h := it_t hc h
              refine lv_aload_n (pc := 71) hx hb (dd dX6_floodFrom_p0 39 rfl) rfl (lv_at hl 1 rfl) ?_
              refine rGet (pc := 72) M hW 0 1 iU6 rfl rfl (by decide) (uw1 140 rfl rfl) rfl (dd dX6_floodFrom_p0 40 rfl) ?_
              refine lv_iload (pc := 75) hx hb (dd dX6_floodFrom_p0 41 rfl) (lv_at hl 0 rfl) ?_
              obtain ⟨hi, h⟩ := ck_ex h
              refine rIald (pc := 77) M hW 4 rfl hi (dd dX6_floodFrom_p0 42 rfl) ?_
              refine lv_aload_n (pc := 78) hx hb (dd dX6_floodFrom_p0 43 rfl) rfl (lv_at hl 1 rfl) ?_
              refine rGet (pc := 79) M hW 0 1 iU6 rfl rfl (by decide) (uw1 140 rfl rfl) rfl (dd dX6_floodFrom_p0 44 rfl) ?_
              refine lv_iload_n (pc := 82) hx hb (dd dX6_floodFrom_p0 45 rfl) rfl (lv_at hl 2 rfl) ?_
              obtain ⟨hi, h⟩ := ck_ex h
              refine rIald (pc := 83) M hW 4 rfl hi (dd dX6_floodFrom_p0 46 rfl) ?_
              refine lv_icmp_ne (pc := 84) (tgt := 109) hx hb (dd dX6_floodFrom_p0 47 rfl) (by decide) (fun hc => ?_) (fun hc => ?_)
              · have h := it_f hc h
                exact J109 _ _ _ _ _ _ _ h hW (lv_sub hl [1, 2, 3, 4] rfl)
              · have h := it_t hc h
                refine lv_aload_n (pc := 87) hx hb (dd dX6_floodFrom_p0 48 rfl) rfl (lv_at hl 1 rfl) ?_
                refine rGet (pc := 88) M hW 0 3 iU6 rfl rfl (by decide) (uw1 143 rfl rfl) rfl (dd dX6_floodFrom_p0 49 rfl) ?_
                refine lv_iload (pc := 91) hx hb (dd dX6_floodFrom_p0 50 rfl) (lv_at hl 0 rfl) ?_
                refine lv_aload_n (pc := 93) hx hb (dd dX6_floodFrom_p0 51 rfl) rfl (lv_at hl 1 rfl) ?_
                refine rGet (pc := 94) M hW 0 11 iU6 rfl rfl (by decide) (uw1 158 rfl rfl) rfl (dd dX6_floodFrom_p0 52 rfl) ?_
                obtain ⟨hi, h⟩ := ck_ex h
                obtain ⟨c_numbers_97, ec_numbers_97, h⟩ := nm_ex h
                refine rIast (pc := 97) M hW 2 rfl hi ec_numbers_97 (ws' := (w_X6_floodFrom g a_t a_land a_numbers a_spare a_strips a_land_kinds a_land_nears a_alongs a_sorted a_tally a_squares a_starts a_ends a_land_depths c_there c_size c_land_laid c_land_head c_land_fieldCount c_land_innerCount c_numbers_97 c_spare c_strips c_land_kinds c_land_nears)) rfl (dd dX6_floodFrom_p0 53 rfl) (fun H locs hW => ?_)
                refine lv_aload_n (pc := 98) hx hb (dd dX6_floodFrom_p0 54 rfl) rfl (lv_at hl 1 rfl) ?_
                refine rGet (pc := 99) M hW 0 5 iU6 rfl rfl (by decide) (uw1 146 rfl rfl) rfl (dd dX6_floodFrom_p0 55 rfl) ?_
                refine lv_iload_n (pc := 102) hx hb (dd dX6_floodFrom_p0 56 rfl) rfl (lv_at hl 3 rfl) ?_
                refine lv_iload (pc := 103) hx hb (dd dX6_floodFrom_p0 57 rfl) (lv_at hl 0 rfl) ?_
                obtain ⟨hi, h⟩ := ck_ex h
                obtain ⟨c_spare_105, ec_spare_105, h⟩ := nm_ex h
                refine rIast (pc := 105) M hW 3 rfl hi ec_spare_105 (ws' := (w_X6_floodFrom g a_t a_land a_numbers a_spare a_strips a_land_kinds a_land_nears a_alongs a_sorted a_tally a_squares a_starts a_ends a_land_depths c_there c_size c_land_laid c_land_head c_land_fieldCount c_land_innerCount c_numbers_97 c_spare_105 c_strips c_land_kinds c_land_nears)) rfl (dd dX6_floodFrom_p0 58 rfl) (fun H locs hW => ?_)
                obtain ⟨v3_106, ev3_106, h⟩ := nm_ex h
                refine lv_iinc (pc := 106) (v := v3_106) (lv' := [(3, .int v3_106), (5, .int v5_44), (0, .ref a_t), (1, .int v1), (4, .int v4)]) hx hb (dd dX6_floodFrom_p0 59 rfl) hl (k := 3) rfl (by rw [ev3_106]; rfl) (by decide) rfl (fun ls hl => ?_)
                exact J109 _ _ _ _ _ _ _ h hW (lv_sub hl [2, 3, 0, 4] rfl)
  · obtain ⟨c_numbers_115, c_spare_115, v3_115⟩ := ex
    have h := un3_at h
    intro H locs ls hW hl
    refine lv_iload_n (pc := 115) hx hb (dd dX6_floodFrom_p1 2 rfl) rfl (lv_at hl 0 rfl) ?_
    have hW9 := hW
    cases h
    exact ret _ _ _ 116 hW9 rfl (dd dX6_floodFrom_p1 3 rfl)
abbrev w_X6_flood (g : G9) (a_t a_land a_numbers a_spare a_strips a_land_kinds a_land_nears a_alongs a_sorted a_tally a_squares a_starts a_ends a_land_depths : Nat) (c_there c_size c_land_laid c_land_head c_land_fieldCount c_land_innerCount : Int32) (c_numbers c_spare c_strips c_land_kinds c_land_nears : Ar) : va_W := [ob a_t 6 [.ref a_land, .ref a_strips, .ref a_alongs, .ref a_numbers, .ref a_sorted, .ref a_spare, .ref a_tally, .ref a_squares, .ref a_starts, .ref a_ends, .int c_there, .int c_size], ob a_land 0 [.ref a_land_kinds, .ref a_land_nears, .ref a_land_depths, .int c_land_laid, .int c_land_head, .int c_land_fieldCount, .int c_land_innerCount], ia g a_numbers 1200 c_numbers, ia g a_spare 1200 c_spare, ia g a_strips 1200 c_strips, ia g a_land_kinds 1200 c_land_kinds, ia g a_land_nears 1200 c_land_nears]
noncomputable def X6_flood_L21 (c_size : Int32) (c_strips c_land_kinds c_land_nears c_numbers c_spare : Ar) (v2 v3 : Int32) : Option ((Ar × Ar × Int32 × Int32) ⊕ (Ar × Ar)) :=
  if v2 ≤ v3 then (some (.inr (c_numbers, c_spare))) else (if 1200 ≤ v3 then (some (.inr (c_numbers, c_spare))) else (ck (ix v3 1200) <| bnd (X6_floodFrom c_size c_numbers c_spare c_strips c_land_kinds c_land_nears (ag c_spare v3) v2) <| un3 fun r_41 c_numbers_41 c_spare_41 => nm (v3 + 1) fun v3_45 => some (.inl (c_numbers_41, c_spare_41, r_41, v3_45))))
noncomputable def X6_flood (c_size : Int32) (c_numbers c_spare c_strips c_land_kinds c_land_nears : Ar) (v1 : Int32) : Option (Ar × Ar) :=
  ck (ix v1 1200) <| nm (au c_numbers v1 c_size) fun c_numbers_9 => ck (ix 0 1200) <| nm (au c_spare 0 v1) fun c_spare_16 => bnd (whileV (fun st => X6_flood_L21 c_size c_strips c_land_kinds c_land_nears st.1 st.2.1 st.2.2.1 st.2.2.2) (c_numbers_9, c_spare_16, 1, 0)) <| (un2 fun c_numbers_51 c_spare_51 => some (c_numbers_51, c_spare_51))
set_option maxHeartbeats 4000000 in
set_option maxRecDepth 100000 in
theorem t_X6_flood (l : Launch) (g : G9) (a_t a_land a_numbers a_spare a_strips a_land_kinds a_land_nears a_alongs a_sorted a_tally a_squares a_starts a_ends a_land_depths : Nat) (c_there c_size c_land_laid c_land_head c_land_fieldCount c_land_innerCount : Int32) (c_numbers c_spare c_strips c_land_kinds c_land_nears : Ar) (v1 : Int32) (o_numbers o_spare : Ar) (h : X6_flood c_size c_numbers c_spare c_strips c_land_kinds c_land_nears v1 = some (o_numbers, o_spare)) : CtV l g yX6_flood cX6_flood 4 1 25 [.ref a_t, .int v1] (w_X6_flood g a_t a_land a_numbers a_spare a_strips a_land_kinds a_land_nears a_alongs a_sorted a_tally a_squares a_starts a_ends a_land_depths c_there c_size c_land_laid c_land_head c_land_fieldCount c_land_innerCount c_numbers c_spare c_strips c_land_kinds c_land_nears) (w_X6_flood g a_t a_land a_numbers a_spare a_strips a_land_kinds a_land_nears a_alongs a_sorted a_tally a_squares a_starts a_ends a_land_depths c_there c_size c_land_laid c_land_head c_land_fieldCount c_land_innerCount o_numbers o_spare c_strips c_land_kinds c_land_nears) := by
  refine startV (by decide) (Nat.le_of_ble_eq_true rfl) ?_
  intro p e s m below meth c A Q ls args M hW hl ret
  have hx := M.1
  have hb := M.2.1
  have hown := M.2.2.2.1
  have hu := M.2.2.2.2.1
  have hl : lv_has ls 4 [(0, .ref a_t), (1, .int v1)] := hl
  unfold X6_flood at h
  obtain ⟨H, eH⟩ : ∃ z, z = s.heap := ⟨_, rfl⟩
  obtain ⟨locs, eL⟩ : ∃ z, z = ([] : List Loc) := ⟨_, rfl⟩
  rw [← eL] at hW ⊢
  suffices hS9 : WD g s A (w_X6_flood g a_t a_land a_numbers a_spare a_strips a_land_kinds a_land_nears a_alongs a_sorted a_tally a_squares a_starts a_ends a_land_depths c_there c_size c_land_laid c_land_head c_land_fieldCount c_land_innerCount c_numbers c_spare c_strips c_land_kinds c_land_nears) H locs → W p l e (rm9 1 25) s m args below meth c H locs 0 0 Q (F0 m 0 ls []) by
    rw [← eH] at hW ⊢
    exact hS9 hW
  clear hW eH eL
  intro hW
  refine lv_aload_n (pc := 0) hx hb (dd dX6_flood 0 rfl) rfl (lv_at hl 0 rfl) ?_
  refine rGet (pc := 1) M hW 0 3 iU6 rfl rfl (by decide) (uw1 143 rfl rfl) rfl (dd dX6_flood 1 rfl) ?_
  refine lv_iload_n (pc := 4) hx hb (dd dX6_flood 2 rfl) rfl (lv_at hl 1 rfl) ?_
  refine lv_aload_n (pc := 5) hx hb (dd dX6_flood 3 rfl) rfl (lv_at hl 0 rfl) ?_
  refine rGet (pc := 6) M hW 0 11 iU6 rfl rfl (by decide) (uw1 158 rfl rfl) rfl (dd dX6_flood 4 rfl) ?_
  obtain ⟨hi, h⟩ := ck_ex h
  obtain ⟨c_numbers_9, ec_numbers_9, h⟩ := nm_ex h
  refine rIast (pc := 9) M hW 2 rfl hi ec_numbers_9 (ws' := (w_X6_flood g a_t a_land a_numbers a_spare a_strips a_land_kinds a_land_nears a_alongs a_sorted a_tally a_squares a_starts a_ends a_land_depths c_there c_size c_land_laid c_land_head c_land_fieldCount c_land_innerCount c_numbers_9 c_spare c_strips c_land_kinds c_land_nears)) rfl (dd dX6_flood 5 rfl) (fun H locs hW => ?_)
  refine lv_aload_n (pc := 10) hx hb (dd dX6_flood 6 rfl) rfl (lv_at hl 0 rfl) ?_
  refine rGet (pc := 11) M hW 0 5 iU6 rfl rfl (by decide) (uw1 146 rfl rfl) rfl (dd dX6_flood 7 rfl) ?_
  refine lv_iconst (pc := 14) (v := 0) hx hb (dd dX6_flood 8 rfl) (by decide) ?_
  refine lv_iload_n (pc := 15) hx hb (dd dX6_flood 9 rfl) rfl (lv_at hl 1 rfl) ?_
  obtain ⟨hi, h⟩ := ck_ex h
  obtain ⟨c_spare_16, ec_spare_16, h⟩ := nm_ex h
  refine rIast (pc := 16) M hW 3 rfl hi ec_spare_16 (ws' := (w_X6_flood g a_t a_land a_numbers a_spare a_strips a_land_kinds a_land_nears a_alongs a_sorted a_tally a_squares a_starts a_ends a_land_depths c_there c_size c_land_laid c_land_head c_land_fieldCount c_land_innerCount c_numbers_9 c_spare_16 c_strips c_land_kinds c_land_nears)) rfl (dd dX6_flood 10 rfl) (fun H locs hW => ?_)
  refine lv_iconst (pc := 17) (v := 1) hx hb (dd dX6_flood 11 rfl) (by decide) ?_
  refine lv_istore_n (pc := 18) (lv' := [(2, .int 1), (0, .ref a_t), (1, .int v1)]) hx hb (dd dX6_flood 12 rfl) rfl hl (by decide) rfl (fun ls hl => ?_)
  refine lv_iconst (pc := 19) (v := 0) hx hb (dd dX6_flood 13 rfl) (by decide) ?_
  refine lv_istore_n (pc := 20) (lv' := [(3, .int 0), (2, .int 1), (0, .ref a_t), (1, .int v1)]) hx hb (dd dX6_flood 14 rfl) rfl hl (by decide) rfl (fun ls hl => ?_)
  obtain ⟨ex, hw, h⟩ := bnd_ex h
  refine loopW (fun st => ∀ (H : Heap) (locs : List Loc) (ls : Array Slot), WD g s A (w_X6_flood g a_t a_land a_numbers a_spare a_strips a_land_kinds a_land_nears a_alongs a_sorted a_tally a_squares a_starts a_ends a_land_depths c_there c_size c_land_laid c_land_head c_land_fieldCount c_land_innerCount (st.1) (st.2.1) c_strips c_land_kinds c_land_nears) H locs → lv_has ls 4 [(0, .ref a_t), (2, .int (st.2.2.1)), (3, .int (st.2.2.2))] → W p l e (rm9 1 25) s m args below meth c H locs 0 0 Q (F0 m 21 ls [])) (fun (ex : (Ar × Ar)) => ∀ (H : Heap) (locs : List Loc) (ls : Array Slot), WD g s A (w_X6_flood g a_t a_land a_numbers a_spare a_strips a_land_kinds a_land_nears a_alongs a_sorted a_tally a_squares a_starts a_ends a_land_depths c_there c_size c_land_laid c_land_head c_land_fieldCount c_land_innerCount (ex.1) (ex.2) c_strips c_land_kinds c_land_nears) H locs → lv_has ls 4 [] → W p l e (rm9 1 25) s m args below meth c H locs 0 0 Q (F0 m 51 ls [])) ?_ hw ?_ H locs ls hW (lv_sub hl [2, 1, 0] rfl)
  · rintro ⟨c_numbers, c_spare, v2, v3⟩ o hb9 hk H locs ls hW hl
    have h : X6_flood_L21 c_size c_strips c_land_kinds c_land_nears c_numbers c_spare v2 v3 = some o := hb9
    clear hb9
    unfold X6_flood_L21 at h
    refine lv_iload_n (pc := 21) hx hb (dd dX6_flood 15 rfl) rfl (lv_at hl 2 rfl) ?_
    refine lv_iload_n (pc := 22) hx hb (dd dX6_flood 16 rfl) rfl (lv_at hl 1 rfl) ?_
    refine lv_icmp_ge (pc := 23) (tgt := 51) hx hb (dd dX6_flood 17 rfl) (by decide) (fun hc => ?_) (fun hc => ?_)
    · have h := it_t hc h
      obtain rfl := Option.some.inj h
      exact hk _ _ _ hW (lv_sub hl [] rfl)
    · have h := it_f hc h
      refine lv_iload_n (pc := 26) hx hb (dd dX6_flood 18 rfl) rfl (lv_at hl 2 rfl) ?_
      refine lv_sipush (pc := 27) (v := 1200) hx hb (dd dX6_flood 19 rfl) (by decide) ?_
      refine lv_icmp_ge (pc := 30) (tgt := 51) hx hb (dd dX6_flood 20 rfl) (by decide) (fun hc => ?_) (fun hc => ?_)
      · have h := it_t hc h
        obtain rfl := Option.some.inj h
        exact hk _ _ _ hW (lv_sub hl [] rfl)
      · have h := it_f hc h
        refine lv_aload_n (pc := 33) hx hb (dd dX6_flood 21 rfl) rfl (lv_at hl 0 rfl) ?_
        refine lv_aload_n (pc := 34) hx hb (dd dX6_flood 22 rfl) rfl (lv_at hl 0 rfl) ?_
        refine rGet (pc := 35) M hW 0 5 iU6 rfl rfl (by decide) (uw1 146 rfl rfl) rfl (dd dX6_flood 23 rfl) ?_
        refine lv_iload_n (pc := 38) hx hb (dd dX6_flood 24 rfl) rfl (lv_at hl 2 rfl) ?_
        obtain ⟨hi, h⟩ := ck_ex h
        refine rIald (pc := 39) M hW 3 rfl hi (dd dX6_flood 25 rfl) ?_
        refine lv_iload_n (pc := 40) hx hb (dd dX6_flood 26 rfl) rfl (lv_at hl 1 rfl) ?_
        obtain ⟨⟨r_41, c_numbers_41, c_spare_41⟩, hr, h⟩ := bnd_ex h
        have h := un3_at h
        refine callVI (pc := 41) (na := 2) (As := [.int (ag c_spare v3), .int v2]) (rest := []) (ws2 := (w_X6_flood g a_t a_land a_numbers a_spare a_strips a_land_kinds a_land_nears a_alongs a_sorted a_tally a_squares a_starts a_ends a_land_depths c_there c_size c_land_laid c_land_head c_land_fieldCount c_land_innerCount c_numbers_41 c_spare_41 c_strips c_land_kinds c_land_nears)) M hl.1 hW (t_X6_floodFrom l g a_t a_land a_numbers a_spare a_strips a_land_kinds a_land_nears a_alongs a_sorted a_tally a_squares a_starts a_ends a_land_depths c_there c_size c_land_laid c_land_head c_land_fieldCount c_land_innerCount c_numbers c_spare c_strips c_land_kinds c_land_nears (ag c_spare v3) v2 r_41 c_numbers_41 c_spare_41 hr) rfl [0, 1, 2, 3, 4, 5, 6] [] [0, 1, 2, 3, 4, 5, 6] rfl rfl rfl rfl rfl rfl rfl 0 6 rfl rfl rfl (uw3 174 rfl rfl) (uw3 171 rfl rfl) (uw3 173 rfl rfl) (uwp 20 rfl rfl) (uw1 7 rfl rfl) ⟨by decide, by decide, by decide⟩ rfl ⟨by decide, by decide⟩ (Nat.le_of_ble_eq_true rfl) ⟨Nat.zero_le _, Nat.zero_le _⟩ (dd dX6_flood 27 rfl) (fun H locs hW => ?_)
        refine lv_istore_n (pc := 44) (lv' := [(2, .int r_41), (0, .ref a_t), (3, .int v3)]) hx hb (dd dX6_flood 28 rfl) rfl hl (by decide) rfl (fun ls hl => ?_)
        obtain ⟨v3_45, ev3_45, h⟩ := nm_ex h
        refine lv_iinc (pc := 45) (v := v3_45) (lv' := [(3, .int v3_45), (2, .int r_41), (0, .ref a_t)]) hx hb (dd dX6_flood 29 rfl) hl (k := 2) rfl (by rw [ev3_45]; rfl) (by decide) rfl (fun ls hl => ?_)
        refine lv_goto (pc := 48) (tgt := 21) hx hb (dd dX6_flood 30 rfl) (by decide) ?_
        obtain rfl := Option.some.inj h
        exact hk _ _ _ hW (lv_sub hl [2, 1, 0] rfl)
  · obtain ⟨c_numbers_51, c_spare_51⟩ := ex
    have h := un2_at h
    intro H locs ls hW hl
    have hW9 := hW
    cases h
    exact ret _ _ _ 51 hW9 (dd dX6_flood 31 rfl)
abbrev w_X6_numberAll (g : G9) (a_t a_land a_numbers a_sorted a_spare a_strips a_land_kinds a_land_nears a_alongs a_tally a_squares a_starts a_ends a_land_depths : Nat) (c_there c_size c_land_laid c_land_head c_land_fieldCount c_land_innerCount : Int32) (c_numbers c_sorted c_spare c_strips c_land_kinds c_land_nears : Ar) : va_W := [ob a_t 6 [.ref a_land, .ref a_strips, .ref a_alongs, .ref a_numbers, .ref a_sorted, .ref a_spare, .ref a_tally, .ref a_squares, .ref a_starts, .ref a_ends, .int c_there, .int c_size], ob a_land 0 [.ref a_land_kinds, .ref a_land_nears, .ref a_land_depths, .int c_land_laid, .int c_land_head, .int c_land_fieldCount, .int c_land_innerCount], ia g a_numbers 1200 c_numbers, ia g a_sorted 1200 c_sorted, ia g a_spare 1200 c_spare, ia g a_strips 1200 c_strips, ia g a_land_kinds 1200 c_land_kinds, ia g a_land_nears 1200 c_land_nears]
noncomputable def X6_numberAll_b2_59 (c_size : Int32) (c_numbers c_spare : Ar) (v1 : Int32) : Option ((Int32 × Ar × Ar × Int32) ⊕ ((Int32 × Ar × Ar) ⊕ (Int32 × Ar × Ar))) :=
  nm (v1 + 1) fun v1_59 => some (.inl (c_size, c_numbers, c_spare, v1_59))
noncomputable def X6_numberAll_L2 (c_land_innerCount : Int32) (c_sorted c_strips c_land_kinds c_land_nears : Ar) (c_size : Int32) (c_numbers c_spare : Ar) (v1 : Int32) : Option ((Int32 × Ar × Ar × Int32) ⊕ ((Int32 × Ar × Ar) ⊕ (Int32 × Ar × Ar))) :=
  if c_land_innerCount ≤ v1 then (some (.inr (.inl (c_size, c_numbers, c_spare)))) else (ck (ix v1 1200) <| ck (ix (ag c_sorted v1) 1200) <| if (ag c_numbers (ag c_sorted v1)) = (-1) then (if c_size < 60 then (ck (ix v1 1200) <| bnd (X6_flood c_size c_numbers c_spare c_strips c_land_kinds c_land_nears (ag c_sorted v1)) <| un2 fun c_numbers_46 c_spare_46 => nm ((c_size + 1)) fun c_size_56 => X6_numberAll_b2_59 c_size_56 c_numbers_46 c_spare_46 v1) else (some (.inr (.inr ((c_size, c_numbers, c_spare)))))) else (X6_numberAll_b2_59 c_size c_numbers c_spare v1))
noncomputable def X6_numberAll (c_size c_land_innerCount : Int32) (c_numbers c_sorted c_spare c_strips c_land_kinds c_land_nears : Ar) : Option (Int32 × Int32 × Ar × Ar) :=
  bnd (whileV (fun st => X6_numberAll_L2 c_land_innerCount c_sorted c_strips c_land_kinds c_land_nears st.1 st.2.1 st.2.2.1 st.2.2.2) (c_size, c_numbers, c_spare, 0)) <| (Sum.elim (un3 fun c_size_65 c_numbers_65 c_spare_65 => some (1, c_size_65, c_numbers_65, c_spare_65)) (un3 fun c_size_37 c_numbers_37 c_spare_37 => some (0, c_size_37, c_numbers_37, c_spare_37)))
set_option maxHeartbeats 4000000 in
set_option maxRecDepth 100000 in
theorem t_X6_numberAll (l : Launch) (g : G9) (a_t a_land a_numbers a_sorted a_spare a_strips a_land_kinds a_land_nears a_alongs a_tally a_squares a_starts a_ends a_land_depths : Nat) (c_there c_size c_land_laid c_land_head c_land_fieldCount c_land_innerCount : Int32) (c_numbers c_sorted c_spare c_strips c_land_kinds c_land_nears : Ar) (r0 o_size : Int32) (o_numbers o_spare : Ar) (h : X6_numberAll c_size c_land_innerCount c_numbers c_sorted c_spare c_strips c_land_kinds c_land_nears = some (r0, o_size, o_numbers, o_spare)) : CtI l g yX6_numberAll cX6_numberAll 2 .boolean 2 48 [.ref a_t] (w_X6_numberAll g a_t a_land a_numbers a_sorted a_spare a_strips a_land_kinds a_land_nears a_alongs a_tally a_squares a_starts a_ends a_land_depths c_there c_size c_land_laid c_land_head c_land_fieldCount c_land_innerCount c_numbers c_sorted c_spare c_strips c_land_kinds c_land_nears) r0 (w_X6_numberAll g a_t a_land a_numbers a_sorted a_spare a_strips a_land_kinds a_land_nears a_alongs a_tally a_squares a_starts a_ends a_land_depths c_there o_size c_land_laid c_land_head c_land_fieldCount c_land_innerCount o_numbers c_sorted o_spare c_strips c_land_kinds c_land_nears) := by
  refine startI (by decide) (Nat.le_of_ble_eq_true rfl) ?_
  intro p e s m below meth c A Q ls args M hW hl ret
  have hx := M.1
  have hb := M.2.1
  have hown := M.2.2.2.1
  have hu := M.2.2.2.2.1
  have hl : lv_has ls 2 [(0, .ref a_t)] := hl
  unfold X6_numberAll at h
  obtain ⟨H, eH⟩ : ∃ z, z = s.heap := ⟨_, rfl⟩
  obtain ⟨locs, eL⟩ : ∃ z, z = ([] : List Loc) := ⟨_, rfl⟩
  rw [← eL] at hW ⊢
  suffices hS9 : WD g s A (w_X6_numberAll g a_t a_land a_numbers a_sorted a_spare a_strips a_land_kinds a_land_nears a_alongs a_tally a_squares a_starts a_ends a_land_depths c_there c_size c_land_laid c_land_head c_land_fieldCount c_land_innerCount c_numbers c_sorted c_spare c_strips c_land_kinds c_land_nears) H locs → W p l e (rm9 2 48) s m args below meth c H locs 0 0 Q (F0 m 0 ls []) by
    rw [← eH] at hW ⊢
    exact hS9 hW
  clear hW eH eL
  intro hW
  refine lv_iconst (pc := 0) (v := 0) hx hb (dd dX6_numberAll 0 rfl) (by decide) ?_
  refine lv_istore_n (pc := 1) (lv' := [(1, .int 0), (0, .ref a_t)]) hx hb (dd dX6_numberAll 1 rfl) rfl hl (by decide) rfl (fun ls hl => ?_)
  obtain ⟨ex, hw, h⟩ := bnd_ex h
  refine loopW (fun st => ∀ (H : Heap) (locs : List Loc) (ls : Array Slot), WD g s A (w_X6_numberAll g a_t a_land a_numbers a_sorted a_spare a_strips a_land_kinds a_land_nears a_alongs a_tally a_squares a_starts a_ends a_land_depths c_there (st.1) c_land_laid c_land_head c_land_fieldCount c_land_innerCount (st.2.1) c_sorted (st.2.2.1) c_strips c_land_kinds c_land_nears) H locs → lv_has ls 2 [(0, .ref a_t), (1, .int (st.2.2.2))] → W p l e (rm9 2 48) s m args below meth c H locs 0 0 Q (F0 m 2 ls [])) (Sum.elim (fun (ex : (Int32 × Ar × Ar)) => ∀ (H : Heap) (locs : List Loc) (ls : Array Slot), WD g s A (w_X6_numberAll g a_t a_land a_numbers a_sorted a_spare a_strips a_land_kinds a_land_nears a_alongs a_tally a_squares a_starts a_ends a_land_depths c_there (ex.1) c_land_laid c_land_head c_land_fieldCount c_land_innerCount (ex.2.1) c_sorted (ex.2.2) c_strips c_land_kinds c_land_nears) H locs → lv_has ls 2 [] → W p l e (rm9 2 48) s m args below meth c H locs 0 0 Q (F0 m 65 ls [])) (fun (ex : (Int32 × Ar × Ar)) => ∀ (H : Heap) (locs : List Loc) (ls : Array Slot), WD g s A (w_X6_numberAll g a_t a_land a_numbers a_sorted a_spare a_strips a_land_kinds a_land_nears a_alongs a_tally a_squares a_starts a_ends a_land_depths c_there (ex.1) c_land_laid c_land_head c_land_fieldCount c_land_innerCount (ex.2.1) c_sorted (ex.2.2) c_strips c_land_kinds c_land_nears) H locs → lv_has ls 2 [] → W p l e (rm9 2 48) s m args below meth c H locs 0 0 Q (F0 m 37 ls []))) ?_ hw ?_ H locs ls hW (lv_sub hl [1, 0] rfl)
  · rintro ⟨c_size, c_numbers, c_spare, v1⟩ o hb9 hk H locs ls hW hl
    have h : X6_numberAll_L2 c_land_innerCount c_sorted c_strips c_land_kinds c_land_nears c_size c_numbers c_spare v1 = some o := hb9
    clear hb9
    unfold X6_numberAll_L2 at h
    have J59 : ∀ (c_size : Int32) (c_numbers c_spare : Ar) (v1 : Int32) (H : Heap) (locs : List Loc) (ls : Array Slot), X6_numberAll_b2_59 c_size c_numbers c_spare v1 = some o → WD g s A (w_X6_numberAll g a_t a_land a_numbers a_sorted a_spare a_strips a_land_kinds a_land_nears a_alongs a_tally a_squares a_starts a_ends a_land_depths c_there c_size c_land_laid c_land_head c_land_fieldCount c_land_innerCount c_numbers c_sorted c_spare c_strips c_land_kinds c_land_nears) H locs → lv_has ls 2 [(0, .ref a_t), (1, .int v1)] → W p l e (rm9 2 48) s m args below meth c H locs 0 0 Q (F0 m 59 ls []) := by
      intro c_size c_numbers c_spare v1 H locs ls h hW hl
      unfold X6_numberAll_b2_59 at h
      obtain ⟨v1_59, ev1_59, h⟩ := nm_ex h
      refine lv_iinc (pc := 59) (v := v1_59) (lv' := [(1, .int v1_59), (0, .ref a_t)]) hx hb (dd dX6_numberAll 34 rfl) hl (k := 1) rfl (by rw [ev1_59]; rfl) (by decide) rfl (fun ls hl => ?_)
      refine lv_goto (pc := 62) (tgt := 2) hx hb (dd dX6_numberAll 35 rfl) (by decide) ?_
      obtain rfl := Option.some.inj h
      exact hk _ _ _ hW (lv_sub hl [1, 0] rfl)
    refine lv_iload_n (pc := 2) hx hb (dd dX6_numberAll 2 rfl) rfl (lv_at hl 1 rfl) ?_
    refine lv_aload_n (pc := 3) hx hb (dd dX6_numberAll 3 rfl) rfl (lv_at hl 0 rfl) ?_
    refine rGet (pc := 4) M hW 0 0 iU6 rfl rfl (by decide) (uw1 139 rfl rfl) rfl (dd dX6_numberAll 4 rfl) ?_
    refine rGet (pc := 7) M hW 1 6 iU0 rfl rfl (by decide) (uw1 89 rfl rfl) rfl (dd dX6_numberAll 5 rfl) ?_
    refine lv_icmp_ge (pc := 10) (tgt := 65) hx hb (dd dX6_numberAll 6 rfl) (by decide) (fun hc => ?_) (fun hc => ?_)
    · have h := it_t hc h
      obtain rfl := Option.some.inj h
      exact hk _ _ _ hW (lv_sub hl [] rfl)
    · have h := it_f hc h
      refine lv_aload_n (pc := 13) hx hb (dd dX6_numberAll 7 rfl) rfl (lv_at hl 0 rfl) ?_
      refine rGet (pc := 14) M hW 0 3 iU6 rfl rfl (by decide) (uw1 143 rfl rfl) rfl (dd dX6_numberAll 8 rfl) ?_
      refine lv_aload_n (pc := 17) hx hb (dd dX6_numberAll 9 rfl) rfl (lv_at hl 0 rfl) ?_
      refine rGet (pc := 18) M hW 0 4 iU6 rfl rfl (by decide) (uw1 145 rfl rfl) rfl (dd dX6_numberAll 10 rfl) ?_
      refine lv_iload_n (pc := 21) hx hb (dd dX6_numberAll 11 rfl) rfl (lv_at hl 1 rfl) ?_
      obtain ⟨hi, h⟩ := ck_ex h
      refine rIald (pc := 22) M hW 3 rfl hi (dd dX6_numberAll 12 rfl) ?_
      obtain ⟨hi, h⟩ := ck_ex h
      refine rIald (pc := 23) M hW 2 rfl hi (dd dX6_numberAll 13 rfl) ?_
      refine lv_iconst (pc := 24) (v := (-1)) hx hb (dd dX6_numberAll 14 rfl) (by decide) ?_
      refine lv_icmp_ne (pc := 25) (tgt := 59) hx hb (dd dX6_numberAll 15 rfl) (by decide) (fun hc => ?_) (fun hc => ?_)
      · have h := it_f hc h
        exact J59 _ _ _ _ _ _ _ h hW (lv_sub hl [0, 1] rfl)
      · have h := it_t hc h
        refine lv_aload_n (pc := 28) hx hb (dd dX6_numberAll 16 rfl) rfl (lv_at hl 0 rfl) ?_
        refine rGet (pc := 29) M hW 0 11 iU6 rfl rfl (by decide) (uw1 158 rfl rfl) rfl (dd dX6_numberAll 17 rfl) ?_
        refine lv_bipush (pc := 32) (v := 60) hx hb (dd dX6_numberAll 18 rfl) (by decide) ?_
        refine lv_icmp_lt (pc := 34) (tgt := 39) hx hb (dd dX6_numberAll 19 rfl) (by decide) (fun hc => ?_) (fun hc => ?_)
        · have h := it_t hc h
          refine lv_aload_n (pc := 39) hx hb (dd dX6_numberAll 22 rfl) rfl (lv_at hl 0 rfl) ?_
          refine lv_aload_n (pc := 40) hx hb (dd dX6_numberAll 23 rfl) rfl (lv_at hl 0 rfl) ?_
          refine rGet (pc := 41) M hW 0 4 iU6 rfl rfl (by decide) (uw1 145 rfl rfl) rfl (dd dX6_numberAll 24 rfl) ?_
          refine lv_iload_n (pc := 44) hx hb (dd dX6_numberAll 25 rfl) rfl (lv_at hl 1 rfl) ?_
          obtain ⟨hi, h⟩ := ck_ex h
          refine rIald (pc := 45) M hW 3 rfl hi (dd dX6_numberAll 26 rfl) ?_
          obtain ⟨⟨c_numbers_46, c_spare_46⟩, hr, h⟩ := bnd_ex h
          have h := un2_at h
          refine callVV (pc := 46) (na := 1) (As := [.int (ag c_sorted v1)]) (rest := []) (ws2 := (w_X6_numberAll g a_t a_land a_numbers a_sorted a_spare a_strips a_land_kinds a_land_nears a_alongs a_tally a_squares a_starts a_ends a_land_depths c_there c_size c_land_laid c_land_head c_land_fieldCount c_land_innerCount c_numbers_46 c_sorted c_spare_46 c_strips c_land_kinds c_land_nears)) M hl.1 hW (t_X6_flood l g a_t a_land a_numbers a_spare a_strips a_land_kinds a_land_nears a_alongs a_sorted a_tally a_squares a_starts a_ends a_land_depths c_there c_size c_land_laid c_land_head c_land_fieldCount c_land_innerCount c_numbers c_spare c_strips c_land_kinds c_land_nears (ag c_sorted v1) c_numbers_46 c_spare_46 hr) rfl [0, 1, 2, 4, 5, 6, 7] [3] [1, 2, 3, 0, 4, 5, 6, 7] rfl rfl rfl rfl rfl rfl rfl 0 6 rfl rfl rfl (uw3 170 rfl rfl) (uw3 167 rfl rfl) (uw3 169 rfl rfl) (uwp 19 rfl rfl) (uw1 7 rfl rfl) ⟨by decide, by decide, by decide⟩ rfl ⟨by decide, by decide⟩ (Nat.le_of_ble_eq_true rfl) ⟨Nat.zero_le _, Nat.zero_le _⟩ (dd dX6_numberAll 27 rfl) (fun H locs hW => ?_)
          refine lv_aload_n (pc := 49) hx hb (dd dX6_numberAll 28 rfl) rfl (lv_at hl 0 rfl) ?_
          refine lv_dup (pc := 50) hx hb (dd dX6_numberAll 29 rfl) rfl ?_
          refine rGet (pc := 51) M hW 0 11 iU6 rfl rfl (by decide) (uw1 158 rfl rfl) rfl (dd dX6_numberAll 30 rfl) ?_
          refine lv_iconst (pc := 54) (v := 1) hx hb (dd dX6_numberAll 31 rfl) (by decide) ?_
          refine lv_iadd (pc := 55) hx hb (dd dX6_numberAll 32 rfl) ?_
          obtain ⟨c_size_56, ec_size_56, h⟩ := nm_ex h
          refine rTopi (pc := 56) ec_size_56 ?_
          refine rPut (pc := 56) M hW 0 11 tyX6 tyX6_ok nmX6 iU6 rfl rfl (by decide) (uw1 158 rfl rfl) rfl rfl rfl (Nat.le_of_ble_eq_true rfl) (dd dX6_numberAll 33 rfl) (ws' := (w_X6_numberAll g a_t a_land a_numbers a_sorted a_spare a_strips a_land_kinds a_land_nears a_alongs a_tally a_squares a_starts a_ends a_land_depths c_there c_size_56 c_land_laid c_land_head c_land_fieldCount c_land_innerCount c_numbers_46 c_sorted c_spare_46 c_strips c_land_kinds c_land_nears)) rfl (fun H locs hW => ?_)
          exact J59 _ _ _ _ _ _ _ h hW (lv_sub hl [0, 1] rfl)
        · have h := it_f hc h
          obtain rfl := Option.some.inj h
          exact hk _ _ _ hW (lv_sub hl [] rfl)
  · rcases ex with ⟨c_size_65, c_numbers_65, c_spare_65⟩ | ⟨c_size_37, c_numbers_37, c_spare_37⟩
    · intro H locs ls hW hl
      have h := sE_l h
      have h := un3_at h
      refine lv_iconst (pc := 65) (v := 1) hx hb (dd dX6_numberAll 36 rfl) (by decide) ?_
      have hW9 := hW
      cases h
      exact ret _ _ _ 66 hW9 rfl (dd dX6_numberAll 37 rfl)
    · intro H locs ls hW hl
      have h := sE_r h
      have h := un3_at h
      refine lv_iconst (pc := 37) (v := 0) hx hb (dd dX6_numberAll 20 rfl) (by decide) ?_
      have hW9 := hW
      cases h
      exact ret _ _ _ 38 hW9 rfl (dd dX6_numberAll 21 rfl)
abbrev w_X6_markEnds (g : G9) (a_t a_alongs a_ends a_land a_numbers a_squares a_starts a_strips a_sorted a_spare a_tally a_land_kinds a_land_nears a_land_depths : Nat) (c_there c_size : Int32) (c_alongs c_ends : Ar) (c_land_laid c_land_head c_land_fieldCount c_land_innerCount : Int32) (c_numbers c_squares c_starts : Ar) : va_W := [ob a_t 6 [.ref a_land, .ref a_strips, .ref a_alongs, .ref a_numbers, .ref a_sorted, .ref a_spare, .ref a_tally, .ref a_squares, .ref a_starts, .ref a_ends, .int c_there, .int c_size], ia g a_alongs 1200 c_alongs, ia g a_ends 120 c_ends, ob a_land 0 [.ref a_land_kinds, .ref a_land_nears, .ref a_land_depths, .int c_land_laid, .int c_land_head, .int c_land_fieldCount, .int c_land_innerCount], ia g a_numbers 1200 c_numbers, ia g a_squares 1200 c_squares, ia g a_starts 61 c_starts]
noncomputable def X6_markEnds_b4_109 (c_ends c_starts : Ar) (v1 v2 : Int32) : Option ((Ar × Ar × Int32 × Int32) ⊕ (Ar × Ar)) :=
  nm (v2 + 1) fun v2_109 => some (.inl (c_ends, c_starts, v1, v2_109))
noncomputable def X6_markEnds_L4 (c_alongs : Ar) (c_land_innerCount : Int32) (c_numbers c_squares c_ends c_starts : Ar) (v1 v2 : Int32) : Option ((Ar × Ar × Int32 × Int32) ⊕ (Ar × Ar)) :=
  if c_land_innerCount ≤ v2 then (some (.inr (c_ends, c_starts))) else (ck (ix v2 1200) <| nm ((ag c_squares v2)) fun v3_21 => ck (ix v3_21 1200) <| nm ((ag c_numbers v3_21)) fun v4_28 => if v4_28 = v1 then (ck (ix v3_21 1200) <| ck (ix ((2 * v4_28) + 1) 120) <| ck (ix (ag c_ends ((2 * v4_28) + 1)) 1200) <| if (ag c_alongs v3_21) ≤ (ag c_alongs (ag c_ends ((2 * v4_28) + 1))) then (X6_markEnds_b4_109 c_ends c_starts v1 v2) else (ck (ix ((2 * v4_28) + 1) 120) <| nm (au c_ends ((2 * v4_28) + 1) v3_21) fun c_ends_108 => X6_markEnds_b4_109 c_ends_108 c_starts v1 v2)) else (ck (ix v4_28 61) <| nm (au c_starts v4_28 v2) fun c_starts_46 => ck (ix (2 * v4_28) 120) <| nm (au c_ends (2 * v4_28) v3_21) fun c_ends_56 => ck (ix ((2 * v4_28) + 1) 120) <| nm (au c_ends_56 ((2 * v4_28) + 1) v3_21) fun c_ends_68 => X6_markEnds_b4_109 c_ends_68 c_starts_46 v4_28 v2))
noncomputable def X6_markEnds (c_size : Int32) (c_alongs c_ends : Ar) (c_land_innerCount : Int32) (c_numbers c_squares c_starts : Ar) : Option (Ar × Ar) :=
  bnd (whileV (fun st => X6_markEnds_L4 c_alongs c_land_innerCount c_numbers c_squares st.1 st.2.1 st.2.2.1 st.2.2.2) (c_ends, c_starts, (-1), 0)) <| (un2 fun c_ends_115 c_starts_115 => ck (ix c_size 61) <| nm (au c_starts_115 c_size c_land_innerCount) fun c_starts_130 => some (c_ends_115, c_starts_130))
set_option maxHeartbeats 4000000 in
set_option maxRecDepth 100000 in
theorem t_X6_markEnds (l : Launch) (g : G9) (a_t a_alongs a_ends a_land a_numbers a_squares a_starts a_strips a_sorted a_spare a_tally a_land_kinds a_land_nears a_land_depths : Nat) (c_there c_size : Int32) (c_alongs c_ends : Ar) (c_land_laid c_land_head c_land_fieldCount c_land_innerCount : Int32) (c_numbers c_squares c_starts o_ends o_starts : Ar) (h : X6_markEnds c_size c_alongs c_ends c_land_innerCount c_numbers c_squares c_starts = some (o_ends, o_starts)) : CtV l g yX6_markEnds cX6_markEnds 5 0 0 [.ref a_t] (w_X6_markEnds g a_t a_alongs a_ends a_land a_numbers a_squares a_starts a_strips a_sorted a_spare a_tally a_land_kinds a_land_nears a_land_depths c_there c_size c_alongs c_ends c_land_laid c_land_head c_land_fieldCount c_land_innerCount c_numbers c_squares c_starts) (w_X6_markEnds g a_t a_alongs a_ends a_land a_numbers a_squares a_starts a_strips a_sorted a_spare a_tally a_land_kinds a_land_nears a_land_depths c_there c_size c_alongs o_ends c_land_laid c_land_head c_land_fieldCount c_land_innerCount c_numbers c_squares o_starts) := by
  refine startV (by decide) (Nat.le_of_ble_eq_true rfl) ?_
  intro p e s m below meth c A Q ls args M hW hl ret
  have hx := M.1
  have hb := M.2.1
  have hown := M.2.2.2.1
  have hu := M.2.2.2.2.1
  have hl : lv_has ls 5 [(0, .ref a_t)] := hl
  unfold X6_markEnds at h
  obtain ⟨H, eH⟩ : ∃ z, z = s.heap := ⟨_, rfl⟩
  obtain ⟨locs, eL⟩ : ∃ z, z = ([] : List Loc) := ⟨_, rfl⟩
  rw [← eL] at hW ⊢
  suffices hS9 : WD g s A (w_X6_markEnds g a_t a_alongs a_ends a_land a_numbers a_squares a_starts a_strips a_sorted a_spare a_tally a_land_kinds a_land_nears a_land_depths c_there c_size c_alongs c_ends c_land_laid c_land_head c_land_fieldCount c_land_innerCount c_numbers c_squares c_starts) H locs → W p l e (rm9 0 0) s m args below meth c H locs 0 0 Q (F0 m 0 ls []) by
    rw [← eH] at hW ⊢
    exact hS9 hW
  clear hW eH eL
  intro hW
  refine lv_iconst (pc := 0) (v := (-1)) hx hb (dd dX6_markEnds_p0 0 rfl) (by decide) ?_
  refine lv_istore_n (pc := 1) (lv' := [(1, .int (-1)), (0, .ref a_t)]) hx hb (dd dX6_markEnds_p0 1 rfl) rfl hl (by decide) rfl (fun ls hl => ?_)
  refine lv_iconst (pc := 2) (v := 0) hx hb (dd dX6_markEnds_p0 2 rfl) (by decide) ?_
  refine lv_istore_n (pc := 3) (lv' := [(2, .int 0), (1, .int (-1)), (0, .ref a_t)]) hx hb (dd dX6_markEnds_p0 3 rfl) rfl hl (by decide) rfl (fun ls hl => ?_)
  obtain ⟨ex, hw, h⟩ := bnd_ex h
  refine loopW (fun st => ∀ (H : Heap) (locs : List Loc) (ls : Array Slot), WD g s A (w_X6_markEnds g a_t a_alongs a_ends a_land a_numbers a_squares a_starts a_strips a_sorted a_spare a_tally a_land_kinds a_land_nears a_land_depths c_there c_size c_alongs (st.1) c_land_laid c_land_head c_land_fieldCount c_land_innerCount c_numbers c_squares (st.2.1)) H locs → lv_has ls 5 [(0, .ref a_t), (1, .int (st.2.2.1)), (2, .int (st.2.2.2))] → W p l e (rm9 0 0) s m args below meth c H locs 0 0 Q (F0 m 4 ls [])) (fun (ex : (Ar × Ar)) => ∀ (H : Heap) (locs : List Loc) (ls : Array Slot), WD g s A (w_X6_markEnds g a_t a_alongs a_ends a_land a_numbers a_squares a_starts a_strips a_sorted a_spare a_tally a_land_kinds a_land_nears a_land_depths c_there c_size c_alongs (ex.1) c_land_laid c_land_head c_land_fieldCount c_land_innerCount c_numbers c_squares (ex.2)) H locs → lv_has ls 5 [(0, .ref a_t)] → W p l e (rm9 0 0) s m args below meth c H locs 0 0 Q (F0 m 115 ls [])) ?_ hw ?_ H locs ls hW (lv_sub hl [2, 1, 0] rfl)
  · rintro ⟨c_ends, c_starts, v1, v2⟩ o hb9 hk H locs ls hW hl
    have h : X6_markEnds_L4 c_alongs c_land_innerCount c_numbers c_squares c_ends c_starts v1 v2 = some o := hb9
    clear hb9
    unfold X6_markEnds_L4 at h
    have J109 : ∀ (c_ends c_starts : Ar) (v1 v2 : Int32) (H : Heap) (locs : List Loc) (ls : Array Slot), X6_markEnds_b4_109 c_ends c_starts v1 v2 = some o → WD g s A (w_X6_markEnds g a_t a_alongs a_ends a_land a_numbers a_squares a_starts a_strips a_sorted a_spare a_tally a_land_kinds a_land_nears a_land_depths c_there c_size c_alongs c_ends c_land_laid c_land_head c_land_fieldCount c_land_innerCount c_numbers c_squares c_starts) H locs → lv_has ls 5 [(0, .ref a_t), (1, .int v1), (2, .int v2)] → W p l e (rm9 0 0) s m args below meth c H locs 0 0 Q (F0 m 109 ls []) := by
      intro c_ends c_starts v1 v2 H locs ls h hW hl
      unfold X6_markEnds_b4_109 at h
      obtain ⟨v2_109, ev2_109, h⟩ := nm_ex h
      refine lv_iinc (pc := 109) (v := v2_109) (lv' := [(2, .int v2_109), (0, .ref a_t), (1, .int v1)]) hx hb (dd dX6_markEnds_p1 11 rfl) hl (k := 2) rfl (by rw [ev2_109]; rfl) (by decide) rfl (fun ls hl => ?_)
      refine lv_goto (pc := 112) (tgt := 4) hx hb (dd dX6_markEnds_p1 12 rfl) (by decide) ?_
      obtain rfl := Option.some.inj h
      exact hk _ _ _ hW (lv_sub hl [1, 2, 0] rfl)
    refine lv_iload_n (pc := 4) hx hb (dd dX6_markEnds_p0 4 rfl) rfl (lv_at hl 2 rfl) ?_
    refine lv_aload_n (pc := 5) hx hb (dd dX6_markEnds_p0 5 rfl) rfl (lv_at hl 0 rfl) ?_
    refine rGet (pc := 6) M hW 0 0 iU6 rfl rfl (by decide) (uw1 139 rfl rfl) rfl (dd dX6_markEnds_p0 6 rfl) ?_
    refine rGet (pc := 9) M hW 3 6 iU0 rfl rfl (by decide) (uw1 89 rfl rfl) rfl (dd dX6_markEnds_p0 7 rfl) ?_
    refine lv_icmp_ge (pc := 12) (tgt := 115) hx hb (dd dX6_markEnds_p0 8 rfl) (by decide) (fun hc => ?_) (fun hc => ?_)
    · have h := it_t hc h
      obtain rfl := Option.some.inj h
      exact hk _ _ _ hW (lv_sub hl [0] rfl)
    · have h := it_f hc h
      refine lv_aload_n (pc := 15) hx hb (dd dX6_markEnds_p0 9 rfl) rfl (lv_at hl 0 rfl) ?_
      refine rGet (pc := 16) M hW 0 7 iU6 rfl rfl (by decide) (uw1 148 rfl rfl) rfl (dd dX6_markEnds_p0 10 rfl) ?_
      refine lv_iload_n (pc := 19) hx hb (dd dX6_markEnds_p0 11 rfl) rfl (lv_at hl 2 rfl) ?_
      obtain ⟨hi, h⟩ := ck_ex h
      refine rIald (pc := 20) M hW 5 rfl hi (dd dX6_markEnds_p0 12 rfl) ?_
      obtain ⟨v3_21, ev3_21, h⟩ := nm_ex h
      refine rTopi (pc := 21) ev3_21 ?_
      refine lv_istore_n (pc := 21) (lv' := [(3, .int v3_21), (0, .ref a_t), (1, .int v1), (2, .int v2)]) hx hb (dd dX6_markEnds_p0 13 rfl) rfl hl (by decide) rfl (fun ls hl => ?_)
      refine lv_aload_n (pc := 22) hx hb (dd dX6_markEnds_p0 14 rfl) rfl (lv_at hl 1 rfl) ?_
      refine rGet (pc := 23) M hW 0 3 iU6 rfl rfl (by decide) (uw1 143 rfl rfl) rfl (dd dX6_markEnds_p0 15 rfl) ?_
      refine lv_iload_n (pc := 26) hx hb (dd dX6_markEnds_p0 16 rfl) rfl (lv_at hl 0 rfl) ?_
      obtain ⟨hi, h⟩ := ck_ex h
      refine rIald (pc := 27) M hW 4 rfl hi (dd dX6_markEnds_p0 17 rfl) ?_
      obtain ⟨v4_28, ev4_28, h⟩ := nm_ex h
      refine rTopi (pc := 28) ev4_28 ?_
      refine lv_istore (pc := 28) (lv' := [(4, .int v4_28), (3, .int v3_21), (0, .ref a_t), (1, .int v1), (2, .int v2)]) hx hb (dd dX6_markEnds_p0 18 rfl) hl (by decide) rfl (fun ls hl => ?_)
      refine lv_iload (pc := 30) hx hb (dd dX6_markEnds_p0 19 rfl) (lv_at hl 0 rfl) ?_
      refine lv_iload_n (pc := 32) hx hb (dd dX6_markEnds_p0 20 rfl) rfl (lv_at hl 3 rfl) ?_
      refine lv_icmp_eq (pc := 33) (tgt := 72) hx hb (dd dX6_markEnds_p0 21 rfl) (by decide) (fun hc => ?_) (fun hc => ?_)
      · have h := it_t hc h
        refine lv_aload_n (pc := 72) hx hb (dd dX6_markEnds_p0 46 rfl) rfl (lv_at hl 2 rfl) ?_
        refine rGet (pc := 73) M hW 0 2 iU6 rfl rfl (by decide) (uw1 142 rfl rfl) rfl (dd dX6_markEnds_p0 47 rfl) ?_
        refine lv_iload_n (pc := 76) hx hb (dd dX6_markEnds_p0 48 rfl) rfl (lv_at hl 1 rfl) ?_
        obtain ⟨hi, h⟩ := ck_ex h
        refine rIald (pc := 77) M hW 1 rfl hi (dd dX6_markEnds_p0 49 rfl) ?_
        refine lv_aload_n (pc := 78) hx hb (dd dX6_markEnds_p0 50 rfl) rfl (lv_at hl 2 rfl) ?_
        refine rGet (pc := 79) M hW 0 2 iU6 rfl rfl (by decide) (uw1 142 rfl rfl) rfl (dd dX6_markEnds_p0 51 rfl) ?_
        refine lv_aload_n (pc := 82) hx hb (dd dX6_markEnds_p0 52 rfl) rfl (lv_at hl 2 rfl) ?_
        refine rGet (pc := 83) M hW 0 9 iU6 rfl rfl (by decide) (uw1 153 rfl rfl) rfl (dd dX6_markEnds_p0 53 rfl) ?_
        refine lv_iconst (pc := 86) (v := 2) hx hb (dd dX6_markEnds_p0 54 rfl) (by decide) ?_
        refine lv_iload (pc := 87) hx hb (dd dX6_markEnds_p0 55 rfl) (lv_at hl 0 rfl) ?_
        refine lv_imul (pc := 89) hx hb (dd dX6_markEnds_p0 56 rfl) ?_
        refine lv_iconst (pc := 90) (v := 1) hx hb (dd dX6_markEnds_p0 57 rfl) (by decide) ?_
        refine lv_iadd (pc := 91) hx hb (dd dX6_markEnds_p0 58 rfl) ?_
        obtain ⟨hi, h⟩ := ck_ex h
        refine rIald (pc := 92) M hW 2 rfl hi (dd dX6_markEnds_p0 59 rfl) ?_
        obtain ⟨hi, h⟩ := ck_ex h
        refine rIald (pc := 93) M hW 1 rfl hi (dd dX6_markEnds_p1 0 rfl) ?_
        refine lv_icmp_le (pc := 94) (tgt := 109) hx hb (dd dX6_markEnds_p1 1 rfl) (by decide) (fun hc => ?_) (fun hc => ?_)
        · have h := it_t hc h
          exact J109 _ _ _ _ _ _ _ h hW (lv_sub hl [2, 3, 4] rfl)
        · have h := it_f hc h
          refine lv_aload_n (pc := 97) hx hb (dd dX6_markEnds_p1 2 rfl) rfl (lv_at hl 2 rfl) ?_
          refine rGet (pc := 98) M hW 0 9 iU6 rfl rfl (by decide) (uw1 153 rfl rfl) rfl (dd dX6_markEnds_p1 3 rfl) ?_
          refine lv_iconst (pc := 101) (v := 2) hx hb (dd dX6_markEnds_p1 4 rfl) (by decide) ?_
          refine lv_iload (pc := 102) hx hb (dd dX6_markEnds_p1 5 rfl) (lv_at hl 0 rfl) ?_
          refine lv_imul (pc := 104) hx hb (dd dX6_markEnds_p1 6 rfl) ?_
          refine lv_iconst (pc := 105) (v := 1) hx hb (dd dX6_markEnds_p1 7 rfl) (by decide) ?_
          refine lv_iadd (pc := 106) hx hb (dd dX6_markEnds_p1 8 rfl) ?_
          refine lv_iload_n (pc := 107) hx hb (dd dX6_markEnds_p1 9 rfl) rfl (lv_at hl 1 rfl) ?_
          obtain ⟨hi, h⟩ := ck_ex h
          obtain ⟨c_ends_108, ec_ends_108, h⟩ := nm_ex h
          refine rIast (pc := 108) M hW 2 rfl hi ec_ends_108 (ws' := (w_X6_markEnds g a_t a_alongs a_ends a_land a_numbers a_squares a_starts a_strips a_sorted a_spare a_tally a_land_kinds a_land_nears a_land_depths c_there c_size c_alongs c_ends_108 c_land_laid c_land_head c_land_fieldCount c_land_innerCount c_numbers c_squares c_starts)) rfl (dd dX6_markEnds_p1 10 rfl) (fun H locs hW => ?_)
          exact J109 _ _ _ _ _ _ _ h hW (lv_sub hl [2, 3, 4] rfl)
      · have h := it_f hc h
        refine lv_iload (pc := 36) hx hb (dd dX6_markEnds_p0 22 rfl) (lv_at hl 0 rfl) ?_
        refine lv_istore_n (pc := 38) (lv' := [(1, .int v4_28), (4, .int v4_28), (3, .int v3_21), (0, .ref a_t), (2, .int v2)]) hx hb (dd dX6_markEnds_p0 23 rfl) rfl hl (by decide) rfl (fun ls hl => ?_)
        refine lv_aload_n (pc := 39) hx hb (dd dX6_markEnds_p0 24 rfl) rfl (lv_at hl 3 rfl) ?_
        refine rGet (pc := 40) M hW 0 8 iU6 rfl rfl (by decide) (uw1 150 rfl rfl) rfl (dd dX6_markEnds_p0 25 rfl) ?_
        refine lv_iload (pc := 43) hx hb (dd dX6_markEnds_p0 26 rfl) (lv_at hl 1 rfl) ?_
        refine lv_iload_n (pc := 45) hx hb (dd dX6_markEnds_p0 27 rfl) rfl (lv_at hl 4 rfl) ?_
        obtain ⟨hi, h⟩ := ck_ex h
        obtain ⟨c_starts_46, ec_starts_46, h⟩ := nm_ex h
        refine rIast (pc := 46) M hW 6 rfl hi ec_starts_46 (ws' := (w_X6_markEnds g a_t a_alongs a_ends a_land a_numbers a_squares a_starts a_strips a_sorted a_spare a_tally a_land_kinds a_land_nears a_land_depths c_there c_size c_alongs c_ends c_land_laid c_land_head c_land_fieldCount c_land_innerCount c_numbers c_squares c_starts_46)) rfl (dd dX6_markEnds_p0 28 rfl) (fun H locs hW => ?_)
        refine lv_aload_n (pc := 47) hx hb (dd dX6_markEnds_p0 29 rfl) rfl (lv_at hl 3 rfl) ?_
        refine rGet (pc := 48) M hW 0 9 iU6 rfl rfl (by decide) (uw1 153 rfl rfl) rfl (dd dX6_markEnds_p0 30 rfl) ?_
        refine lv_iconst (pc := 51) (v := 2) hx hb (dd dX6_markEnds_p0 31 rfl) (by decide) ?_
        refine lv_iload (pc := 52) hx hb (dd dX6_markEnds_p0 32 rfl) (lv_at hl 1 rfl) ?_
        refine lv_imul (pc := 54) hx hb (dd dX6_markEnds_p0 33 rfl) ?_
        refine lv_iload_n (pc := 55) hx hb (dd dX6_markEnds_p0 34 rfl) rfl (lv_at hl 2 rfl) ?_
        obtain ⟨hi, h⟩ := ck_ex h
        obtain ⟨c_ends_56, ec_ends_56, h⟩ := nm_ex h
        refine rIast (pc := 56) M hW 2 rfl hi ec_ends_56 (ws' := (w_X6_markEnds g a_t a_alongs a_ends a_land a_numbers a_squares a_starts a_strips a_sorted a_spare a_tally a_land_kinds a_land_nears a_land_depths c_there c_size c_alongs c_ends_56 c_land_laid c_land_head c_land_fieldCount c_land_innerCount c_numbers c_squares c_starts_46)) rfl (dd dX6_markEnds_p0 35 rfl) (fun H locs hW => ?_)
        refine lv_aload_n (pc := 57) hx hb (dd dX6_markEnds_p0 36 rfl) rfl (lv_at hl 3 rfl) ?_
        refine rGet (pc := 58) M hW 0 9 iU6 rfl rfl (by decide) (uw1 153 rfl rfl) rfl (dd dX6_markEnds_p0 37 rfl) ?_
        refine lv_iconst (pc := 61) (v := 2) hx hb (dd dX6_markEnds_p0 38 rfl) (by decide) ?_
        refine lv_iload (pc := 62) hx hb (dd dX6_markEnds_p0 39 rfl) (lv_at hl 1 rfl) ?_
        refine lv_imul (pc := 64) hx hb (dd dX6_markEnds_p0 40 rfl) ?_
        refine lv_iconst (pc := 65) (v := 1) hx hb (dd dX6_markEnds_p0 41 rfl) (by decide) ?_
        refine lv_iadd (pc := 66) hx hb (dd dX6_markEnds_p0 42 rfl) ?_
        refine lv_iload_n (pc := 67) hx hb (dd dX6_markEnds_p0 43 rfl) rfl (lv_at hl 2 rfl) ?_
        obtain ⟨hi, h⟩ := ck_ex h
        obtain ⟨c_ends_68, ec_ends_68, h⟩ := nm_ex h
        refine rIast (pc := 68) M hW 2 rfl hi ec_ends_68 (ws' := (w_X6_markEnds g a_t a_alongs a_ends a_land a_numbers a_squares a_starts a_strips a_sorted a_spare a_tally a_land_kinds a_land_nears a_land_depths c_there c_size c_alongs c_ends_68 c_land_laid c_land_head c_land_fieldCount c_land_innerCount c_numbers c_squares c_starts_46)) rfl (dd dX6_markEnds_p0 44 rfl) (fun H locs hW => ?_)
        refine lv_goto (pc := 69) (tgt := 109) hx hb (dd dX6_markEnds_p0 45 rfl) (by decide) ?_
        exact J109 _ _ _ _ _ _ _ h hW (lv_sub hl [3, 0, 4] rfl)
  · obtain ⟨c_ends_115, c_starts_115⟩ := ex
    have h := un2_at h
    intro H locs ls hW hl
    refine lv_aload_n (pc := 115) hx hb (dd dX6_markEnds_p1 13 rfl) rfl (lv_at hl 0 rfl) ?_
    refine rGet (pc := 116) M hW 0 8 iU6 rfl rfl (by decide) (uw1 150 rfl rfl) rfl (dd dX6_markEnds_p1 14 rfl) ?_
    refine lv_aload_n (pc := 119) hx hb (dd dX6_markEnds_p1 15 rfl) rfl (lv_at hl 0 rfl) ?_
    refine rGet (pc := 120) M hW 0 11 iU6 rfl rfl (by decide) (uw1 158 rfl rfl) rfl (dd dX6_markEnds_p1 16 rfl) ?_
    refine lv_aload_n (pc := 123) hx hb (dd dX6_markEnds_p1 17 rfl) rfl (lv_at hl 0 rfl) ?_
    refine rGet (pc := 124) M hW 0 0 iU6 rfl rfl (by decide) (uw1 139 rfl rfl) rfl (dd dX6_markEnds_p1 18 rfl) ?_
    refine rGet (pc := 127) M hW 3 6 iU0 rfl rfl (by decide) (uw1 89 rfl rfl) rfl (dd dX6_markEnds_p1 19 rfl) ?_
    obtain ⟨hi, h⟩ := ck_ex h
    obtain ⟨c_starts_130, ec_starts_130, h⟩ := nm_ex h
    refine rIast (pc := 130) M hW 6 rfl hi ec_starts_130 (ws' := (w_X6_markEnds g a_t a_alongs a_ends a_land a_numbers a_squares a_starts a_strips a_sorted a_spare a_tally a_land_kinds a_land_nears a_land_depths c_there c_size c_alongs c_ends_115 c_land_laid c_land_head c_land_fieldCount c_land_innerCount c_numbers c_squares c_starts_130)) rfl (dd dX6_markEnds_p1 20 rfl) (fun H locs hW => ?_)
    have hW9 := hW
    cases h
    exact ret _ _ _ 131 hW9 (dd dX6_markEnds_p1 21 rfl)
abbrev w_X6_make (g : G9) (a_t a_alongs a_ends a_land a_numbers a_sorted a_spare a_squares a_starts a_strips a_tally a_land_kinds a_land_nears a_land_depths : Nat) (c_there c_size : Int32) (c_alongs c_ends : Ar) (c_land_laid c_land_head c_land_fieldCount c_land_innerCount : Int32) (c_numbers c_sorted c_spare c_squares c_starts c_strips c_tally c_land_kinds c_land_nears : Ar) : va_W := [ob a_t 6 [.ref a_land, .ref a_strips, .ref a_alongs, .ref a_numbers, .ref a_sorted, .ref a_spare, .ref a_tally, .ref a_squares, .ref a_starts, .ref a_ends, .int c_there, .int c_size], ia g a_alongs 1200 c_alongs, ia g a_ends 120 c_ends, ob a_land 0 [.ref a_land_kinds, .ref a_land_nears, .ref a_land_depths, .int c_land_laid, .int c_land_head, .int c_land_fieldCount, .int c_land_innerCount], ia g a_numbers 1200 c_numbers, ia g a_sorted 1200 c_sorted, ia g a_spare 1200 c_spare, ia g a_squares 1200 c_squares, ia g a_starts 61 c_starts, ia g a_strips 1200 c_strips, ia g a_tally 2486 c_tally, ia g a_land_kinds 1200 c_land_kinds, ia g a_land_nears 1200 c_land_nears]
noncomputable def X6_make (c_there c_size : Int32) (c_alongs c_ends : Ar) (c_land_innerCount : Int32) (c_numbers c_sorted c_spare c_squares c_starts c_strips c_tally c_land_kinds c_land_nears : Ar) (v1 v2 v3 : Int32) : Option (Int32 × Int32 × Int32 × Ar × Ar × Ar × Ar × Ar × Ar × Ar × Ar × Ar) :=
  bnd (X6_gather c_alongs c_numbers c_sorted c_strips c_land_kinds v1 v2 v3) <| un4 fun c_alongs_9 c_numbers_9 c_sorted_9 c_strips_9 => bnd (X6_sortBy c_alongs_9 c_sorted_9 c_spare c_land_innerCount c_tally) <| un2 fun c_spare_25 c_tally_25 => bnd (X6_sortBy c_strips_9 c_spare_25 c_sorted_9 c_land_innerCount c_tally_25) <| un2 fun c_sorted_41 c_tally_41 => bnd (X6_numberAll 0 c_land_innerCount c_numbers_9 c_sorted_41 c_spare_25 c_strips_9 c_land_kinds c_land_nears) <| un4 fun r_46 c_size_46 c_numbers_46 c_spare_46 => ck (bl r_46) <| if r_46 = 0 then (some ((-1), r_46, 0, c_alongs_9, c_ends, c_numbers_46, c_sorted_41, c_spare_46, c_squares, c_starts, c_strips_9, c_tally_41)) else (bnd (X6_sortBy c_numbers_46 c_sorted_41 c_squares c_land_innerCount c_tally_41) <| un2 fun c_squares_79 c_tally_79 => bnd (X6_markEnds c_size_46 c_alongs_9 c_ends c_land_innerCount c_numbers_46 c_squares_79 c_starts) <| un2 fun c_ends_83 c_starts_83 => some (c_size_46, r_46, c_size_46, c_alongs_9, c_ends_83, c_numbers_46, c_sorted_41, c_spare_46, c_squares_79, c_starts_83, c_strips_9, c_tally_79))
set_option maxHeartbeats 4000000 in
set_option maxRecDepth 100000 in
theorem t_X6_make (l : Launch) (g : G9) (a_t a_alongs a_ends a_land a_numbers a_sorted a_spare a_squares a_starts a_strips a_tally a_land_kinds a_land_nears a_land_depths : Nat) (c_there c_size : Int32) (c_alongs c_ends : Ar) (c_land_laid c_land_head c_land_fieldCount c_land_innerCount : Int32) (c_numbers c_sorted c_spare c_squares c_starts c_strips c_tally c_land_kinds c_land_nears : Ar) (v1 v2 v3 r0 o_there o_size : Int32) (o_alongs o_ends o_numbers o_sorted o_spare o_squares o_starts o_strips o_tally : Ar) (h : X6_make c_there c_size c_alongs c_ends c_land_innerCount c_numbers c_sorted c_spare c_squares c_starts c_strips c_tally c_land_kinds c_land_nears v1 v2 v3 = some (r0, o_there, o_size, o_alongs, o_ends, o_numbers, o_sorted, o_spare, o_squares, o_starts, o_strips, o_tally)) : CtI l g yX6_make cX6_make 4 .int 3 69 [.ref a_t, .int v1, .int v2, .int v3] (w_X6_make g a_t a_alongs a_ends a_land a_numbers a_sorted a_spare a_squares a_starts a_strips a_tally a_land_kinds a_land_nears a_land_depths c_there c_size c_alongs c_ends c_land_laid c_land_head c_land_fieldCount c_land_innerCount c_numbers c_sorted c_spare c_squares c_starts c_strips c_tally c_land_kinds c_land_nears) r0 (w_X6_make g a_t a_alongs a_ends a_land a_numbers a_sorted a_spare a_squares a_starts a_strips a_tally a_land_kinds a_land_nears a_land_depths o_there o_size o_alongs o_ends c_land_laid c_land_head c_land_fieldCount c_land_innerCount o_numbers o_sorted o_spare o_squares o_starts o_strips o_tally c_land_kinds c_land_nears) := by
  refine startI (by decide) (Nat.le_of_ble_eq_true rfl) ?_
  intro p e s m below meth c A Q ls args M hW hl ret
  have hx := M.1
  have hb := M.2.1
  have hown := M.2.2.2.1
  have hu := M.2.2.2.2.1
  have hl : lv_has ls 4 [(0, .ref a_t), (1, .int v1), (2, .int v2), (3, .int v3)] := hl
  unfold X6_make at h
  obtain ⟨H, eH⟩ : ∃ z, z = s.heap := ⟨_, rfl⟩
  obtain ⟨locs, eL⟩ : ∃ z, z = ([] : List Loc) := ⟨_, rfl⟩
  rw [← eL] at hW ⊢
  suffices hS9 : WD g s A (w_X6_make g a_t a_alongs a_ends a_land a_numbers a_sorted a_spare a_squares a_starts a_strips a_tally a_land_kinds a_land_nears a_land_depths c_there c_size c_alongs c_ends c_land_laid c_land_head c_land_fieldCount c_land_innerCount c_numbers c_sorted c_spare c_squares c_starts c_strips c_tally c_land_kinds c_land_nears) H locs → W p l e (rm9 3 69) s m args below meth c H locs 0 0 Q (F0 m 0 ls []) by
    rw [← eH] at hW ⊢
    exact hS9 hW
  clear hW eH eL
  intro hW
  refine lv_aload_n (pc := 0) hx hb (dd dX6_make 0 rfl) rfl (lv_at hl 0 rfl) ?_
  refine lv_iconst (pc := 1) (v := 0) hx hb (dd dX6_make 1 rfl) (by decide) ?_
  refine rPut (pc := 2) M hW 0 11 tyX6 tyX6_ok nmX6 iU6 rfl rfl (by decide) (uw1 158 rfl rfl) rfl rfl rfl (Nat.le_of_ble_eq_true rfl) (dd dX6_make 2 rfl) (ws' := (w_X6_make g a_t a_alongs a_ends a_land a_numbers a_sorted a_spare a_squares a_starts a_strips a_tally a_land_kinds a_land_nears a_land_depths c_there 0 c_alongs c_ends c_land_laid c_land_head c_land_fieldCount c_land_innerCount c_numbers c_sorted c_spare c_squares c_starts c_strips c_tally c_land_kinds c_land_nears)) rfl (fun H locs hW => ?_)
  refine lv_aload_n (pc := 5) hx hb (dd dX6_make 3 rfl) rfl (lv_at hl 0 rfl) ?_
  refine lv_iload_n (pc := 6) hx hb (dd dX6_make 4 rfl) rfl (lv_at hl 1 rfl) ?_
  refine lv_iload_n (pc := 7) hx hb (dd dX6_make 5 rfl) rfl (lv_at hl 2 rfl) ?_
  refine lv_iload_n (pc := 8) hx hb (dd dX6_make 6 rfl) rfl (lv_at hl 3 rfl) ?_
  obtain ⟨⟨c_alongs_9, c_numbers_9, c_sorted_9, c_strips_9⟩, hr, h⟩ := bnd_ex h
  have h := un4_at h
  refine callVV (pc := 9) (na := 3) (As := [.int v1, .int v2, .int v3]) (rest := []) (ws2 := (w_X6_make g a_t a_alongs a_ends a_land a_numbers a_sorted a_spare a_squares a_starts a_strips a_tally a_land_kinds a_land_nears a_land_depths c_there 0 c_alongs_9 c_ends c_land_laid c_land_head c_land_fieldCount c_land_innerCount c_numbers_9 c_sorted_9 c_spare c_squares c_starts c_strips_9 c_tally c_land_kinds c_land_nears)) M hl.1 hW (t_X6_gather l g a_t a_alongs a_land a_numbers a_sorted a_strips a_land_kinds a_spare a_tally a_squares a_starts a_ends a_land_nears a_land_depths c_there 0 c_alongs c_land_laid c_land_head c_land_fieldCount c_land_innerCount c_numbers c_sorted c_strips c_land_kinds v1 v2 v3 c_alongs_9 c_numbers_9 c_sorted_9 c_strips_9 hr) rfl [0, 1, 3, 4, 5, 9, 11] [2, 6, 7, 8, 10, 12] [6, 7, 0, 8, 9, 10, 1, 2, 3, 11, 4, 12, 5] rfl rfl rfl rfl rfl rfl rfl 0 6 rfl rfl rfl (uw3 153 rfl rfl) (uw3 150 rfl rfl) (uw3 152 rfl rfl) (uwp 16 rfl rfl) (uw1 7 rfl rfl) ⟨by decide, by decide, by decide⟩ rfl ⟨by decide, by decide⟩ (Nat.le_of_ble_eq_true rfl) ⟨Nat.zero_le _, Nat.zero_le _⟩ (dd dX6_make 7 rfl) (fun H locs hW => ?_)
  refine lv_aload_n (pc := 12) hx hb (dd dX6_make 8 rfl) rfl (lv_at hl 0 rfl) ?_
  refine lv_aload_n (pc := 13) hx hb (dd dX6_make 9 rfl) rfl (lv_at hl 0 rfl) ?_
  refine rGet (pc := 14) M hW 0 2 iU6 rfl rfl (by decide) (uw1 142 rfl rfl) rfl (dd dX6_make 10 rfl) ?_
  refine lv_aload_n (pc := 17) hx hb (dd dX6_make 11 rfl) rfl (lv_at hl 0 rfl) ?_
  refine rGet (pc := 18) M hW 0 4 iU6 rfl rfl (by decide) (uw1 145 rfl rfl) rfl (dd dX6_make 12 rfl) ?_
  refine lv_aload_n (pc := 21) hx hb (dd dX6_make 13 rfl) rfl (lv_at hl 0 rfl) ?_
  refine rGet (pc := 22) M hW 0 5 iU6 rfl rfl (by decide) (uw1 146 rfl rfl) rfl (dd dX6_make 14 rfl) ?_
  obtain ⟨⟨c_spare_25, c_tally_25⟩, hr, h⟩ := bnd_ex h
  have h := un2_at h
  refine callVV (pc := 25) (na := 3) (As := [.ref a_alongs, .ref a_sorted, .ref a_spare]) (rest := []) (ws2 := (w_X6_make g a_t a_alongs a_ends a_land a_numbers a_sorted a_spare a_squares a_starts a_strips a_tally a_land_kinds a_land_nears a_land_depths c_there 0 c_alongs_9 c_ends c_land_laid c_land_head c_land_fieldCount c_land_innerCount c_numbers_9 c_sorted_9 c_spare_25 c_squares c_starts c_strips_9 c_tally_25 c_land_kinds c_land_nears)) M hl.1 hW (t_X6_sortBy l g a_alongs a_sorted a_spare a_t a_land a_tally a_strips a_alongs a_numbers a_sorted a_spare a_squares a_starts a_ends a_land_kinds a_land_nears a_land_depths c_alongs_9 c_sorted_9 c_spare c_there 0 c_land_laid c_land_head c_land_fieldCount c_land_innerCount c_tally c_spare_25 c_tally_25 hr) rfl [1, 5, 6, 0, 3, 10] [2, 4, 7, 8, 9, 11, 12] [10, 7, 0, 11, 1, 8, 9, 2, 3, 4, 12, 5, 6] rfl rfl rfl rfl rfl rfl rfl 0 6 rfl rfl rfl (uw3 161 rfl rfl) (uw3 158 rfl rfl) (uw3 160 rfl rfl) (uwp 17 rfl rfl) (uw1 7 rfl rfl) ⟨by decide, by decide, by decide⟩ rfl ⟨by decide, by decide⟩ (Nat.le_of_ble_eq_true rfl) ⟨Nat.zero_le _, Nat.zero_le _⟩ (dd dX6_make 15 rfl) (fun H locs hW => ?_)
  refine lv_aload_n (pc := 28) hx hb (dd dX6_make 16 rfl) rfl (lv_at hl 0 rfl) ?_
  refine lv_aload_n (pc := 29) hx hb (dd dX6_make 17 rfl) rfl (lv_at hl 0 rfl) ?_
  refine rGet (pc := 30) M hW 0 1 iU6 rfl rfl (by decide) (uw1 140 rfl rfl) rfl (dd dX6_make 18 rfl) ?_
  refine lv_aload_n (pc := 33) hx hb (dd dX6_make 19 rfl) rfl (lv_at hl 0 rfl) ?_
  refine rGet (pc := 34) M hW 0 5 iU6 rfl rfl (by decide) (uw1 146 rfl rfl) rfl (dd dX6_make 20 rfl) ?_
  refine lv_aload_n (pc := 37) hx hb (dd dX6_make 21 rfl) rfl (lv_at hl 0 rfl) ?_
  refine rGet (pc := 38) M hW 0 4 iU6 rfl rfl (by decide) (uw1 145 rfl rfl) rfl (dd dX6_make 22 rfl) ?_
  obtain ⟨⟨c_sorted_41, c_tally_41⟩, hr, h⟩ := bnd_ex h
  have h := un2_at h
  refine callVV (pc := 41) (na := 3) (As := [.ref a_strips, .ref a_spare, .ref a_sorted]) (rest := []) (ws2 := (w_X6_make g a_t a_alongs a_ends a_land a_numbers a_sorted a_spare a_squares a_starts a_strips a_tally a_land_kinds a_land_nears a_land_depths c_there 0 c_alongs_9 c_ends c_land_laid c_land_head c_land_fieldCount c_land_innerCount c_numbers_9 c_sorted_41 c_spare_25 c_squares c_starts c_strips_9 c_tally_41 c_land_kinds c_land_nears)) M hl.1 hW (t_X6_sortBy l g a_strips a_spare a_sorted a_t a_land a_tally a_strips a_alongs a_numbers a_sorted a_spare a_squares a_starts a_ends a_land_kinds a_land_nears a_land_depths c_strips_9 c_spare_25 c_sorted_9 c_there 0 c_land_laid c_land_head c_land_fieldCount c_land_innerCount c_tally_25 c_sorted_41 c_tally_41 hr) rfl [9, 6, 5, 0, 3, 10] [1, 2, 4, 7, 8, 11, 12] [10, 0, 1, 11, 2, 9, 8, 3, 4, 7, 12, 5, 6] rfl rfl rfl rfl rfl rfl rfl 0 6 rfl rfl rfl (uw3 161 rfl rfl) (uw3 158 rfl rfl) (uw3 160 rfl rfl) (uwp 17 rfl rfl) (uw1 7 rfl rfl) ⟨by decide, by decide, by decide⟩ rfl ⟨by decide, by decide⟩ (Nat.le_of_ble_eq_true rfl) ⟨Nat.zero_le _, Nat.zero_le _⟩ (dd dX6_make 23 rfl) (fun H locs hW => ?_)
  refine lv_aload_n (pc := 44) hx hb (dd dX6_make 24 rfl) rfl (lv_at hl 0 rfl) ?_
  refine lv_aload_n (pc := 45) hx hb (dd dX6_make 25 rfl) rfl (lv_at hl 0 rfl) ?_
  obtain ⟨⟨r_46, c_size_46, c_numbers_46, c_spare_46⟩, hr, h⟩ := bnd_ex h
  have h := un4_at h
  refine callVI (pc := 46) (na := 0) (As := []) (rest := [.ref a_t]) (ws2 := (w_X6_make g a_t a_alongs a_ends a_land a_numbers a_sorted a_spare a_squares a_starts a_strips a_tally a_land_kinds a_land_nears a_land_depths c_there c_size_46 c_alongs_9 c_ends c_land_laid c_land_head c_land_fieldCount c_land_innerCount c_numbers_46 c_sorted_41 c_spare_46 c_squares c_starts c_strips_9 c_tally_41 c_land_kinds c_land_nears)) M hl.1 hW (t_X6_numberAll l g a_t a_land a_numbers a_sorted a_spare a_strips a_land_kinds a_land_nears a_alongs a_tally a_squares a_starts a_ends a_land_depths c_there 0 c_land_laid c_land_head c_land_fieldCount c_land_innerCount c_numbers_9 c_sorted_41 c_spare_25 c_strips_9 c_land_kinds c_land_nears r_46 c_size_46 c_numbers_46 c_spare_46 hr) rfl [0, 3, 4, 5, 6, 9, 11, 12] [1, 2, 7, 8, 10] [5, 0, 1, 6, 7, 8, 9, 2, 3, 10, 4, 11, 12] rfl rfl rfl rfl rfl rfl rfl 0 6 rfl rfl rfl (uw3 166 rfl rfl) (uw3 163 rfl rfl) (uw3 165 rfl rfl) (uwp 18 rfl rfl) (uw1 7 rfl rfl) ⟨by decide, by decide, by decide⟩ rfl ⟨by decide, by decide⟩ (Nat.le_of_ble_eq_true rfl) ⟨Nat.zero_le _, Nat.zero_le _⟩ (dd dX6_make 26 rfl) (fun H locs hW => ?_)
  obtain ⟨hi, h⟩ := ck_ex h
  refine rPut (pc := 49) M hW 0 10 tyX6 tyX6_ok nmX6 iU6 rfl rfl (by decide) (uw1 156 rfl rfl) rfl (bl_nar hi) (bl_fit hi) (Nat.le_of_ble_eq_true rfl) (dd dX6_make 27 rfl) (ws' := (w_X6_make g a_t a_alongs a_ends a_land a_numbers a_sorted a_spare a_squares a_starts a_strips a_tally a_land_kinds a_land_nears a_land_depths r_46 c_size_46 c_alongs_9 c_ends c_land_laid c_land_head c_land_fieldCount c_land_innerCount c_numbers_46 c_sorted_41 c_spare_46 c_squares c_starts c_strips_9 c_tally_41 c_land_kinds c_land_nears)) rfl (fun H locs hW => ?_)
  refine lv_aload_n (pc := 52) hx hb (dd dX6_make 28 rfl) rfl (lv_at hl 0 rfl) ?_
  refine rGet (pc := 53) M hW 0 10 iU6 rfl rfl (by decide) (uw1 156 rfl rfl) rfl (dd dX6_make 29 rfl) ?_
  refine lv_if_ne (pc := 56) (tgt := 66) hx hb (dd dX6_make 30 rfl) (by decide) (fun hc => ?_) (fun hc => ?_)
  · have h := it_f hc h
    refine lv_aload_n (pc := 66) hx hb (dd dX6_make 36 rfl) rfl (lv_at hl 0 rfl) ?_
    refine lv_aload_n (pc := 67) hx hb (dd dX6_make 37 rfl) rfl (lv_at hl 0 rfl) ?_
    refine rGet (pc := 68) M hW 0 3 iU6 rfl rfl (by decide) (uw1 143 rfl rfl) rfl (dd dX6_make 38 rfl) ?_
    refine lv_aload_n (pc := 71) hx hb (dd dX6_make 39 rfl) rfl (lv_at hl 0 rfl) ?_
    refine rGet (pc := 72) M hW 0 4 iU6 rfl rfl (by decide) (uw1 145 rfl rfl) rfl (dd dX6_make 40 rfl) ?_
    refine lv_aload_n (pc := 75) hx hb (dd dX6_make 41 rfl) rfl (lv_at hl 0 rfl) ?_
    refine rGet (pc := 76) M hW 0 7 iU6 rfl rfl (by decide) (uw1 148 rfl rfl) rfl (dd dX6_make 42 rfl) ?_
    obtain ⟨⟨c_squares_79, c_tally_79⟩, hr, h⟩ := bnd_ex h
    have h := un2_at h
    refine callVV (pc := 79) (na := 3) (As := [.ref a_numbers, .ref a_sorted, .ref a_squares]) (rest := []) (ws2 := (w_X6_make g a_t a_alongs a_ends a_land a_numbers a_sorted a_spare a_squares a_starts a_strips a_tally a_land_kinds a_land_nears a_land_depths r_46 c_size_46 c_alongs_9 c_ends c_land_laid c_land_head c_land_fieldCount c_land_innerCount c_numbers_46 c_sorted_41 c_spare_46 c_squares_79 c_starts c_strips_9 c_tally_79 c_land_kinds c_land_nears)) M hl.1 hW (t_X6_sortBy l g a_numbers a_sorted a_squares a_t a_land a_tally a_strips a_alongs a_numbers a_sorted a_spare a_squares a_starts a_ends a_land_kinds a_land_nears a_land_depths c_numbers_46 c_sorted_41 c_squares r_46 c_size_46 c_land_laid c_land_head c_land_fieldCount c_land_innerCount c_tally_41 c_squares_79 c_tally_79 hr) rfl [4, 5, 7, 0, 3, 10] [1, 2, 6, 8, 9, 11, 12] [10, 0, 1, 11, 7, 8, 2, 9, 3, 4, 12, 5, 6] rfl rfl rfl rfl rfl rfl rfl 0 6 rfl rfl rfl (uw3 161 rfl rfl) (uw3 158 rfl rfl) (uw3 160 rfl rfl) (uwp 17 rfl rfl) (uw1 7 rfl rfl) ⟨by decide, by decide, by decide⟩ rfl ⟨by decide, by decide⟩ (Nat.le_of_ble_eq_true rfl) ⟨Nat.zero_le _, Nat.zero_le _⟩ (dd dX6_make 43 rfl) (fun H locs hW => ?_)
    refine lv_aload_n (pc := 82) hx hb (dd dX6_make 44 rfl) rfl (lv_at hl 0 rfl) ?_
    obtain ⟨⟨c_ends_83, c_starts_83⟩, hr, h⟩ := bnd_ex h
    have h := un2_at h
    refine callVV (pc := 83) (na := 0) (As := []) (rest := []) (ws2 := (w_X6_make g a_t a_alongs a_ends a_land a_numbers a_sorted a_spare a_squares a_starts a_strips a_tally a_land_kinds a_land_nears a_land_depths r_46 c_size_46 c_alongs_9 c_ends_83 c_land_laid c_land_head c_land_fieldCount c_land_innerCount c_numbers_46 c_sorted_41 c_spare_46 c_squares_79 c_starts_83 c_strips_9 c_tally_79 c_land_kinds c_land_nears)) M hl.1 hW (t_X6_markEnds l g a_t a_alongs a_ends a_land a_numbers a_squares a_starts a_strips a_sorted a_spare a_tally a_land_kinds a_land_nears a_land_depths r_46 c_size_46 c_alongs_9 c_ends c_land_laid c_land_head c_land_fieldCount c_land_innerCount c_numbers_46 c_squares_79 c_starts c_ends_83 c_starts_83 hr) rfl [0, 1, 2, 3, 4, 7, 8] [5, 6, 9, 10, 11, 12] [6, 7, 8, 9, 10, 0, 1, 11, 12, 2, 3, 4, 5] rfl rfl rfl rfl rfl rfl rfl 0 6 rfl rfl rfl (uw3 179 rfl rfl) (uw3 176 rfl rfl) (uw3 178 rfl rfl) (uwp 21 rfl rfl) (uw1 7 rfl rfl) ⟨by decide, by decide, by decide⟩ rfl ⟨by decide, by decide⟩ (Nat.le_of_ble_eq_true rfl) ⟨Nat.zero_le _, Nat.zero_le _⟩ (dd dX6_make 45 rfl) (fun H locs hW => ?_)
    refine lv_aload_n (pc := 86) hx hb (dd dX6_make 46 rfl) rfl (lv_at hl 0 rfl) ?_
    refine rGet (pc := 87) M hW 0 11 iU6 rfl rfl (by decide) (uw1 158 rfl rfl) rfl (dd dX6_make 47 rfl) ?_
    have hW9 := hW
    cases h
    exact ret _ _ _ 90 hW9 rfl (dd dX6_make 48 rfl)
  · have h := it_t hc h
    refine lv_aload_n (pc := 59) hx hb (dd dX6_make 31 rfl) rfl (lv_at hl 0 rfl) ?_
    refine lv_iconst (pc := 60) (v := 0) hx hb (dd dX6_make 32 rfl) (by decide) ?_
    refine rPut (pc := 61) M hW 0 11 tyX6 tyX6_ok nmX6 iU6 rfl rfl (by decide) (uw1 158 rfl rfl) rfl rfl rfl (Nat.le_of_ble_eq_true rfl) (dd dX6_make 33 rfl) (ws' := (w_X6_make g a_t a_alongs a_ends a_land a_numbers a_sorted a_spare a_squares a_starts a_strips a_tally a_land_kinds a_land_nears a_land_depths r_46 0 c_alongs_9 c_ends c_land_laid c_land_head c_land_fieldCount c_land_innerCount c_numbers_46 c_sorted_41 c_spare_46 c_squares c_starts c_strips_9 c_tally_41 c_land_kinds c_land_nears)) rfl (fun H locs hW => ?_)
    refine lv_iconst (pc := 64) (v := (-1)) hx hb (dd dX6_make 34 rfl) (by decide) ?_
    have hW9 := hW
    cases h
    exact ret _ _ _ 65 hW9 rfl (dd dX6_make 35 rfl)
abbrev w_X6_forget (g : G9) (a_t a_land a_strips a_alongs a_numbers a_sorted a_spare a_tally a_squares a_starts a_ends : Nat) (c_there c_size : Int32) : va_W := [ob a_t 6 [.ref a_land, .ref a_strips, .ref a_alongs, .ref a_numbers, .ref a_sorted, .ref a_spare, .ref a_tally, .ref a_squares, .ref a_starts, .ref a_ends, .int c_there, .int c_size]]
noncomputable def X6_forget (c_there c_size : Int32) : Option (Int32 × Int32) :=
  some (0, 0)
set_option maxHeartbeats 4000000 in
set_option maxRecDepth 100000 in
theorem t_X6_forget (l : Launch) (g : G9) (a_t a_land a_strips a_alongs a_numbers a_sorted a_spare a_tally a_squares a_starts a_ends : Nat) (c_there c_size o_there o_size : Int32) (h : X6_forget c_there c_size = some (o_there, o_size)) : CtV l g yX6_forget cX6_forget 1 0 0 [.ref a_t] (w_X6_forget g a_t a_land a_strips a_alongs a_numbers a_sorted a_spare a_tally a_squares a_starts a_ends c_there c_size) (w_X6_forget g a_t a_land a_strips a_alongs a_numbers a_sorted a_spare a_tally a_squares a_starts a_ends o_there o_size) := by
  refine startV (by decide) (Nat.le_of_ble_eq_true rfl) ?_
  intro p e s m below meth c A Q ls args M hW hl ret
  have hx := M.1
  have hb := M.2.1
  have hown := M.2.2.2.1
  have hu := M.2.2.2.2.1
  have hl : lv_has ls 1 [(0, .ref a_t)] := hl
  unfold X6_forget at h
  obtain ⟨H, eH⟩ : ∃ z, z = s.heap := ⟨_, rfl⟩
  obtain ⟨locs, eL⟩ : ∃ z, z = ([] : List Loc) := ⟨_, rfl⟩
  rw [← eL] at hW ⊢
  suffices hS9 : WD g s A (w_X6_forget g a_t a_land a_strips a_alongs a_numbers a_sorted a_spare a_tally a_squares a_starts a_ends c_there c_size) H locs → W p l e (rm9 0 0) s m args below meth c H locs 0 0 Q (F0 m 0 ls []) by
    rw [← eH] at hW ⊢
    exact hS9 hW
  clear hW eH eL
  intro hW
  refine lv_aload_n (pc := 0) hx hb (dd dX6_forget 0 rfl) rfl (lv_at hl 0 rfl) ?_
  refine lv_iconst (pc := 1) (v := 0) hx hb (dd dX6_forget 1 rfl) (by decide) ?_
  refine rPut (pc := 2) M hW 0 10 tyX6 tyX6_ok nmX6 iU6 rfl rfl (by decide) (uw1 156 rfl rfl) rfl rfl rfl (Nat.le_of_ble_eq_true rfl) (dd dX6_forget 2 rfl) (ws' := (w_X6_forget g a_t a_land a_strips a_alongs a_numbers a_sorted a_spare a_tally a_squares a_starts a_ends 0 c_size)) rfl (fun H locs hW => ?_)
  refine lv_aload_n (pc := 5) hx hb (dd dX6_forget 3 rfl) rfl (lv_at hl 0 rfl) ?_
  refine lv_iconst (pc := 6) (v := 0) hx hb (dd dX6_forget 4 rfl) (by decide) ?_
  refine rPut (pc := 7) M hW 0 11 tyX6 tyX6_ok nmX6 iU6 rfl rfl (by decide) (uw1 158 rfl rfl) rfl rfl rfl (Nat.le_of_ble_eq_true rfl) (dd dX6_forget 5 rfl) (ws' := (w_X6_forget g a_t a_land a_strips a_alongs a_numbers a_sorted a_spare a_tally a_squares a_starts a_ends 0 0)) rfl (fun H locs hW => ?_)
  have hW9 := hW
  cases h
  exact ret _ _ _ 10 hW9 (dd dX6_forget 6 rfl)
abbrev w_X2_forget (g : G9) (a_t a_turns a_numbers : Nat) (c_there c_size : Int32) : va_W := [ob a_t 2 [.ref a_turns, .ref a_numbers, .int c_there, .int c_size]]
noncomputable def X2_forget (c_there c_size : Int32) : Option (Int32 × Int32) :=
  some (0, 0)
set_option maxHeartbeats 4000000 in
set_option maxRecDepth 100000 in
theorem t_X2_forget (l : Launch) (g : G9) (a_t a_turns a_numbers : Nat) (c_there c_size o_there o_size : Int32) (h : X2_forget c_there c_size = some (o_there, o_size)) : CtV l g yX2_forget cX2_forget 1 0 0 [.ref a_t] (w_X2_forget g a_t a_turns a_numbers c_there c_size) (w_X2_forget g a_t a_turns a_numbers o_there o_size) := by
  refine startV (by decide) (Nat.le_of_ble_eq_true rfl) ?_
  intro p e s m below meth c A Q ls args M hW hl ret
  have hx := M.1
  have hb := M.2.1
  have hown := M.2.2.2.1
  have hu := M.2.2.2.2.1
  have hl : lv_has ls 1 [(0, .ref a_t)] := hl
  unfold X2_forget at h
  obtain ⟨H, eH⟩ : ∃ z, z = s.heap := ⟨_, rfl⟩
  obtain ⟨locs, eL⟩ : ∃ z, z = ([] : List Loc) := ⟨_, rfl⟩
  rw [← eL] at hW ⊢
  suffices hS9 : WD g s A (w_X2_forget g a_t a_turns a_numbers c_there c_size) H locs → W p l e (rm9 0 0) s m args below meth c H locs 0 0 Q (F0 m 0 ls []) by
    rw [← eH] at hW ⊢
    exact hS9 hW
  clear hW eH eL
  intro hW
  refine lv_aload_n (pc := 0) hx hb (dd dX2_forget 0 rfl) rfl (lv_at hl 0 rfl) ?_
  refine lv_iconst (pc := 1) (v := 0) hx hb (dd dX2_forget 1 rfl) (by decide) ?_
  refine rPut (pc := 2) M hW 0 2 tyX2 tyX2_ok nmX2 iU2 rfl rfl (by decide) (uw1 217 rfl rfl) rfl rfl rfl (Nat.le_of_ble_eq_true rfl) (dd dX2_forget 2 rfl) (ws' := (w_X2_forget g a_t a_turns a_numbers 0 c_size)) rfl (fun H locs hW => ?_)
  refine lv_aload_n (pc := 5) hx hb (dd dX2_forget 3 rfl) rfl (lv_at hl 0 rfl) ?_
  refine lv_iconst (pc := 6) (v := 0) hx hb (dd dX2_forget 4 rfl) (by decide) ?_
  refine rPut (pc := 7) M hW 0 3 tyX2 tyX2_ok nmX2 iU2 rfl rfl (by decide) (uw1 220 rfl rfl) rfl rfl rfl (Nat.le_of_ble_eq_true rfl) (dd dX2_forget 5 rfl) (ws' := (w_X2_forget g a_t a_turns a_numbers 0 0)) rfl (fun H locs hW => ?_)
  have hW9 := hW
  cases h
  exact ret _ _ _ 10 hW9 (dd dX2_forget 6 rfl)
abbrev w_X2_add (g : G9) (a_t a_numbers a_turns : Nat) (c_there c_size : Int32) (c_numbers : Ar) : va_W := [ob a_t 2 [.ref a_turns, .ref a_numbers, .int c_there, .int c_size], ia g a_numbers 60 c_numbers]
noncomputable def X2_add (c_size : Int32) (c_numbers : Ar) (v1 : Int32) : Option (Int32 × Ar) :=
  if 60 ≤ c_size then (some (c_size, c_numbers)) else (ck (ix c_size 60) <| nm (au c_numbers c_size v1) fun c_numbers_18 => nm ((c_size + 1)) fun c_size_26 => some (c_size_26, c_numbers_18))
set_option maxHeartbeats 4000000 in
set_option maxRecDepth 100000 in
theorem t_X2_add (l : Launch) (g : G9) (a_t a_numbers a_turns : Nat) (c_there c_size : Int32) (c_numbers : Ar) (v1 o_size : Int32) (o_numbers : Ar) (h : X2_add c_size c_numbers v1 = some (o_size, o_numbers)) : CtV l g yX2_add cX2_add 2 0 0 [.ref a_t, .int v1] (w_X2_add g a_t a_numbers a_turns c_there c_size c_numbers) (w_X2_add g a_t a_numbers a_turns c_there o_size o_numbers) := by
  refine startV (by decide) (Nat.le_of_ble_eq_true rfl) ?_
  intro p e s m below meth c A Q ls args M hW hl ret
  have hx := M.1
  have hb := M.2.1
  have hown := M.2.2.2.1
  have hu := M.2.2.2.2.1
  have hl : lv_has ls 2 [(0, .ref a_t), (1, .int v1)] := hl
  unfold X2_add at h
  obtain ⟨H, eH⟩ : ∃ z, z = s.heap := ⟨_, rfl⟩
  obtain ⟨locs, eL⟩ : ∃ z, z = ([] : List Loc) := ⟨_, rfl⟩
  rw [← eL] at hW ⊢
  suffices hS9 : WD g s A (w_X2_add g a_t a_numbers a_turns c_there c_size c_numbers) H locs → W p l e (rm9 0 0) s m args below meth c H locs 0 0 Q (F0 m 0 ls []) by
    rw [← eH] at hW ⊢
    exact hS9 hW
  clear hW eH eL
  intro hW
  refine lv_aload_n (pc := 0) hx hb (dd dX2_add 0 rfl) rfl (lv_at hl 0 rfl) ?_
  refine rGet (pc := 1) M hW 0 3 iU2 rfl rfl (by decide) (uw1 220 rfl rfl) rfl (dd dX2_add 1 rfl) ?_
  refine lv_bipush (pc := 4) (v := 60) hx hb (dd dX2_add 2 rfl) (by decide) ?_
  refine lv_icmp_ge (pc := 6) (tgt := 29) hx hb (dd dX2_add 3 rfl) (by decide) (fun hc => ?_) (fun hc => ?_)
  · have h := it_t hc h
    have hW9 := hW
    cases h
    exact ret _ _ _ 29 hW9 (dd dX2_add 16 rfl)
  · have h := it_f hc h
    refine lv_aload_n (pc := 9) hx hb (dd dX2_add 4 rfl) rfl (lv_at hl 0 rfl) ?_
    refine rGet (pc := 10) M hW 0 1 iU2 rfl rfl (by decide) (uw1 213 rfl rfl) rfl (dd dX2_add 5 rfl) ?_
    refine lv_aload_n (pc := 13) hx hb (dd dX2_add 6 rfl) rfl (lv_at hl 0 rfl) ?_
    refine rGet (pc := 14) M hW 0 3 iU2 rfl rfl (by decide) (uw1 220 rfl rfl) rfl (dd dX2_add 7 rfl) ?_
    refine lv_iload_n (pc := 17) hx hb (dd dX2_add 8 rfl) rfl (lv_at hl 1 rfl) ?_
    obtain ⟨hi, h⟩ := ck_ex h
    obtain ⟨c_numbers_18, ec_numbers_18, h⟩ := nm_ex h
    refine rIast (pc := 18) M hW 1 rfl hi ec_numbers_18 (ws' := (w_X2_add g a_t a_numbers a_turns c_there c_size c_numbers_18)) rfl (dd dX2_add 9 rfl) (fun H locs hW => ?_)
    refine lv_aload_n (pc := 19) hx hb (dd dX2_add 10 rfl) rfl (lv_at hl 0 rfl) ?_
    refine lv_dup (pc := 20) hx hb (dd dX2_add 11 rfl) rfl ?_
    refine rGet (pc := 21) M hW 0 3 iU2 rfl rfl (by decide) (uw1 220 rfl rfl) rfl (dd dX2_add 12 rfl) ?_
    refine lv_iconst (pc := 24) (v := 1) hx hb (dd dX2_add 13 rfl) (by decide) ?_
    refine lv_iadd (pc := 25) hx hb (dd dX2_add 14 rfl) ?_
    obtain ⟨c_size_26, ec_size_26, h⟩ := nm_ex h
    refine rTopi (pc := 26) ec_size_26 ?_
    refine rPut (pc := 26) M hW 0 3 tyX2 tyX2_ok nmX2 iU2 rfl rfl (by decide) (uw1 220 rfl rfl) rfl rfl rfl (Nat.le_of_ble_eq_true rfl) (dd dX2_add 15 rfl) (ws' := (w_X2_add g a_t a_numbers a_turns c_there c_size_26 c_numbers_18)) rfl (fun H locs hW => ?_)
    have hW9 := hW
    cases h
    exact ret _ _ _ 29 hW9 (dd dX2_add 16 rfl)
noncomputable def X3_isDone (v0 : Int64) (v2 : Int32) : Option Int32 :=
  if (lg_cmp ((v0 >>> (Int32.toInt64 (v2 / 2) &&& 63)) &&& 1) 0) = 0 then (some 0) else (some 1)
set_option maxHeartbeats 4000000 in
set_option maxRecDepth 100000 in
theorem t_X3_isDone (l : Launch) (g : G9) (v0 : Int64) (v2 r0 : Int32) (h : X3_isDone v0 v2 = some r0) : CtI l g yX3_isDone cX3_isDone 3 .boolean 0 0 [.long v0, .int v2] [] r0 [] := by
  refine startI (by decide) (Nat.le_of_ble_eq_true rfl) ?_
  intro p e s m below meth c A Q ls args M hW hl ret
  have hx := M.1
  have hb := M.2.1
  have hown := M.2.2.2.1
  have hu := M.2.2.2.2.1
  have hl : lv_has ls 3 [(0, .long v0), (2, .int v2)] := hl
  unfold X3_isDone at h
  obtain ⟨H, eH⟩ : ∃ z, z = s.heap := ⟨_, rfl⟩
  obtain ⟨locs, eL⟩ : ∃ z, z = ([] : List Loc) := ⟨_, rfl⟩
  rw [← eL] at hW ⊢
  suffices hS9 : WD g s A [] H locs → W p l e (rm9 0 0) s m args below meth c H locs 0 0 Q (F0 m 0 ls []) by
    rw [← eH] at hW ⊢
    exact hS9 hW
  clear hW eH eL
  intro hW
  refine lv_lload_n (pc := 0) hx hb (dd dX3_isDone 0 rfl) rfl (lv_at hl 0 rfl) ?_
  refine lv_iload_n (pc := 1) hx hb (dd dX3_isDone 1 rfl) rfl (lv_at hl 1 rfl) ?_
  refine lv_iconst (pc := 2) (v := 2) hx hb (dd dX3_isDone 2 rfl) (by decide) ?_
  refine lv_idiv (pc := 3) hx hb (dd dX3_isDone 3 rfl) (by decide) ?_
  refine lv_lshr (pc := 4) hx hb (dd dX3_isDone 4 rfl) rfl ?_
  refine lv_lconst (pc := 5) (v := 1) hx hb (dd dX3_isDone 5 rfl) (by decide) ?_
  refine lv_land (pc := 6) hx hb (dd dX3_isDone 6 rfl) ?_
  refine lv_lconst (pc := 7) (v := 0) hx hb (dd dX3_isDone 7 rfl) (by decide) ?_
  refine W.lcmp (pc := 8) hx hb (dd dX3_isDone 8 rfl) ?_
  refine lv_if_eq (pc := 9) (tgt := 16) hx hb (dd dX3_isDone 9 rfl) (by decide) (fun hc => ?_) (fun hc => ?_)
  · have h := it_t hc h
    refine lv_iconst (pc := 16) (v := 0) hx hb (dd dX3_isDone 12 rfl) (by decide) ?_
    have hW9 := hW
    cases h
    exact ret _ _ _ 17 hW9 rfl (dd dX3_isDone 13 rfl)
  · have h := it_f hc h
    refine lv_iconst (pc := 12) (v := 1) hx hb (dd dX3_isDone 10 rfl) (by decide) ?_
    refine lv_goto (pc := 13) (tgt := 17) hx hb (dd dX3_isDone 11 rfl) (by decide) ?_
    have hW9 := hW
    cases h
    exact ret _ _ _ 17 hW9 rfl (dd dX3_isDone 13 rfl)
abbrev w_X3_nearest (g : G9) (a_t a_turns a_turns_lengths a_plan a_rests a_turns_ways a_turns_rows a_turns_known : Nat) (c_turns_lengths : Ar) : va_W := [ob a_t 3 [.ref a_plan, .ref a_turns, .ref a_rests], ob a_turns 7 [.ref a_turns_ways, .ref a_turns_rows, .ref a_turns_lengths, .ref a_turns_known], ia g a_turns_lengths 14400 c_turns_lengths]
noncomputable def X3_nearest_b10_60 (v1 : Int32) (v2 : Int64) (v4 v5 v6 v7 : Int32) : Option ((Int32 × Int32 × Int32) ⊕ Int32) :=
  nm (v7 + 1) fun v7_60 => some (.inl (v5, v6, v7_60))
noncomputable def X3_nearest_L10 (c_turns_lengths : Ar) (v1 : Int32) (v2 : Int64) (v4 v5 v6 v7 : Int32) : Option ((Int32 × Int32 × Int32) ⊕ Int32) :=
  if (2 * v1) ≤ v7 then (some (.inr v5)) else (bnd (X3_isDone v2 v7) <| fun r_21 => if r_21 = 0 then (bnd (X7_length c_turns_lengths v4 v7) <| fun r_35 => if v6 ≤ r_35 then (X3_nearest_b10_60 v1 v2 v4 v5 v6 v7) else (bnd (X7_length c_turns_lengths v4 v7) <| fun r_51 => X3_nearest_b10_60 v1 v2 v4 v7 r_51 v7)) else (X3_nearest_b10_60 v1 v2 v4 v5 v6 v7))
noncomputable def X3_nearest (c_turns_lengths : Ar) (v1 : Int32) (v2 : Int64) (v4 : Int32) : Option Int32 :=
  bnd (whileV (fun st => X3_nearest_L10 c_turns_lengths v1 v2 v4 st.1 st.2.1 st.2.2) ((-1), 1000000, 0)) <| (fun v5_66 => some v5_66)
set_option maxHeartbeats 4000000 in
set_option maxRecDepth 100000 in
theorem t_X3_nearest (l : Launch) (g : G9) (a_t a_turns a_turns_lengths a_plan a_rests a_turns_ways a_turns_rows a_turns_known : Nat) (c_turns_lengths : Ar) (v1 : Int32) (v2 : Int64) (v4 r0 : Int32) (h : X3_nearest c_turns_lengths v1 v2 v4 = some r0) : CtI l g yX3_nearest cX3_nearest 8 .int 1 22 [.ref a_t, .int v1, .long v2, .int v4] (w_X3_nearest g a_t a_turns a_turns_lengths a_plan a_rests a_turns_ways a_turns_rows a_turns_known c_turns_lengths) r0 (w_X3_nearest g a_t a_turns a_turns_lengths a_plan a_rests a_turns_ways a_turns_rows a_turns_known c_turns_lengths) := by
  refine startI (by decide) (Nat.le_of_ble_eq_true rfl) ?_
  intro p e s m below meth c A Q ls args M hW hl ret
  have hx := M.1
  have hb := M.2.1
  have hown := M.2.2.2.1
  have hu := M.2.2.2.2.1
  have hl : lv_has ls 8 [(0, .ref a_t), (1, .int v1), (2, .long v2), (4, .int v4)] := hl
  unfold X3_nearest at h
  obtain ⟨H, eH⟩ : ∃ z, z = s.heap := ⟨_, rfl⟩
  obtain ⟨locs, eL⟩ : ∃ z, z = ([] : List Loc) := ⟨_, rfl⟩
  rw [← eL] at hW ⊢
  suffices hS9 : WD g s A (w_X3_nearest g a_t a_turns a_turns_lengths a_plan a_rests a_turns_ways a_turns_rows a_turns_known c_turns_lengths) H locs → W p l e (rm9 1 22) s m args below meth c H locs 0 0 Q (F0 m 0 ls []) by
    rw [← eH] at hW ⊢
    exact hS9 hW
  clear hW eH eL
  intro hW
  refine lv_iconst (pc := 0) (v := (-1)) hx hb (dd dX3_nearest 0 rfl) (by decide) ?_
  refine lv_istore (pc := 1) (lv' := [(5, .int (-1)), (0, .ref a_t), (1, .int v1), (2, .long v2), (4, .int v4)]) hx hb (dd dX3_nearest 1 rfl) hl (by decide) rfl (fun ls hl => ?_)
  refine lv_ldc (pc := 3) (v := 1000000) hx hb hown (hu _ (uw4 48 rfl rfl)) (dd dX3_nearest 2 rfl) ?_
  refine lv_istore (pc := 5) (lv' := [(6, .int 1000000), (5, .int (-1)), (0, .ref a_t), (1, .int v1), (2, .long v2), (4, .int v4)]) hx hb (dd dX3_nearest 3 rfl) hl (by decide) rfl (fun ls hl => ?_)
  refine lv_iconst (pc := 7) (v := 0) hx hb (dd dX3_nearest 4 rfl) (by decide) ?_
  refine lv_istore (pc := 8) (lv' := [(7, .int 0), (6, .int 1000000), (5, .int (-1)), (0, .ref a_t), (1, .int v1), (2, .long v2), (4, .int v4)]) hx hb (dd dX3_nearest 5 rfl) hl (by decide) rfl (fun ls hl => ?_)
  obtain ⟨ex, hw, h⟩ := bnd_ex h
  refine loopW (fun st => ∀ (H : Heap) (locs : List Loc) (ls : Array Slot), WD g s A (w_X3_nearest g a_t a_turns a_turns_lengths a_plan a_rests a_turns_ways a_turns_rows a_turns_known c_turns_lengths) H locs → lv_has ls 8 [(0, .ref a_t), (1, .int v1), (2, .long v2), (4, .int v4), (5, .int (st.1)), (6, .int (st.2.1)), (7, .int (st.2.2))] → W p l e (rm9 1 22) s m args below meth c H locs 0 0 Q (F0 m 10 ls [])) (fun (ex : Int32) => ∀ (H : Heap) (locs : List Loc) (ls : Array Slot), WD g s A (w_X3_nearest g a_t a_turns a_turns_lengths a_plan a_rests a_turns_ways a_turns_rows a_turns_known c_turns_lengths) H locs → lv_has ls 8 [(5, .int ex)] → W p l e (rm9 1 22) s m args below meth c H locs 0 0 Q (F0 m 66 ls [])) ?_ hw ?_ H locs ls hW (lv_sub hl [3, 4, 5, 6, 2, 1, 0] rfl)
  · rintro ⟨v5, v6, v7⟩ o hb9 hk H locs ls hW hl
    have h : X3_nearest_L10 c_turns_lengths v1 v2 v4 v5 v6 v7 = some o := hb9
    clear hb9
    unfold X3_nearest_L10 at h
    have J60 : ∀ (v5 v6 v7 : Int32) (H : Heap) (locs : List Loc) (ls : Array Slot), X3_nearest_b10_60 v1 v2 v4 v5 v6 v7 = some o → WD g s A (w_X3_nearest g a_t a_turns a_turns_lengths a_plan a_rests a_turns_ways a_turns_rows a_turns_known c_turns_lengths) H locs → lv_has ls 8 [(0, .ref a_t), (1, .int v1), (2, .long v2), (4, .int v4), (5, .int v5), (6, .int v6), (7, .int v7)] → W p l e (rm9 1 22) s m args below meth c H locs 0 0 Q (F0 m 60 ls []) := by
      intro v5 v6 v7 H locs ls h hW hl
      unfold X3_nearest_b10_60 at h
      obtain ⟨v7_60, ev7_60, h⟩ := nm_ex h
      refine lv_iinc (pc := 60) (v := v7_60) (lv' := [(7, .int v7_60), (0, .ref a_t), (1, .int v1), (2, .long v2), (4, .int v4), (5, .int v5), (6, .int v6)]) hx hb (dd dX3_nearest 30 rfl) hl (k := 6) rfl (by rw [ev7_60]; rfl) (by decide) rfl (fun ls hl => ?_)
      refine lv_goto (pc := 63) (tgt := 10) hx hb (dd dX3_nearest 31 rfl) (by decide) ?_
      obtain rfl := Option.some.inj h
      exact hk _ _ _ hW (lv_sub hl [1, 2, 3, 4, 5, 6, 0] rfl)
    refine lv_iload (pc := 10) hx hb (dd dX3_nearest 6 rfl) (lv_at hl 6 rfl) ?_
    refine lv_iconst (pc := 12) (v := 2) hx hb (dd dX3_nearest 7 rfl) (by decide) ?_
    refine lv_iload_n (pc := 13) hx hb (dd dX3_nearest 8 rfl) rfl (lv_at hl 1 rfl) ?_
    refine lv_imul (pc := 14) hx hb (dd dX3_nearest 9 rfl) ?_
    refine lv_icmp_ge (pc := 15) (tgt := 66) hx hb (dd dX3_nearest 10 rfl) (by decide) (fun hc => ?_) (fun hc => ?_)
    · have h := it_t hc h
      obtain rfl := Option.some.inj h
      exact hk _ _ _ hW (lv_sub hl [4] rfl)
    · have h := it_f hc h
      refine lv_lload_n (pc := 18) hx hb (dd dX3_nearest 11 rfl) rfl (lv_at hl 2 rfl) ?_
      refine lv_iload (pc := 19) hx hb (dd dX3_nearest 12 rfl) (lv_at hl 6 rfl) ?_
      obtain ⟨r_21, hr, h⟩ := bnd_ex h
      refine callSI (pc := 21) (na := 2) (As := [.long v2, .int v7]) (rest := []) (ws2 := (w_X3_nearest g a_t a_turns a_turns_lengths a_plan a_rests a_turns_ways a_turns_rows a_turns_known c_turns_lengths)) M hl.1 hW (t_X3_isDone l g v2 v7 r_21 hr) [] [0, 1, 2] [0, 1, 2] rfl rfl rfl rfl rfl rfl rfl (uw4 43 rfl rfl) (uw4 41 rfl rfl) (uw4 42 rfl rfl) (uw1 10 rfl rfl) ⟨by decide, by decide, by decide⟩ rfl ⟨by decide, by decide⟩ (Nat.le_of_ble_eq_true rfl) ⟨Nat.zero_le _, Nat.zero_le _⟩ (dd dX3_nearest 13 rfl) (fun H locs hW => ?_)
      refine lv_if_ne (pc := 24) (tgt := 60) hx hb (dd dX3_nearest 14 rfl) (by decide) (fun hc => ?_) (fun hc => ?_)
      · have h := it_f hc h
        exact J60 _ _ _ _ _ _ h hW (lv_sub hl [0, 1, 2, 3, 4, 5, 6] rfl)
      · have h := it_t hc h
        refine lv_aload_n (pc := 27) hx hb (dd dX3_nearest 15 rfl) rfl (lv_at hl 0 rfl) ?_
        refine rGet (pc := 28) M hW 0 1 iU3 rfl rfl (by decide) (uw2 0 rfl rfl) rfl (dd dX3_nearest 16 rfl) ?_
        refine lv_iload (pc := 31) hx hb (dd dX3_nearest 17 rfl) (lv_at hl 3 rfl) ?_
        refine lv_iload (pc := 33) hx hb (dd dX3_nearest 18 rfl) (lv_at hl 6 rfl) ?_
        obtain ⟨r_35, hr, h⟩ := bnd_ex h
        refine callVI (pc := 35) (na := 2) (As := [.int v4, .int v7]) (rest := []) (ws2 := (w_X3_nearest g a_t a_turns a_turns_lengths a_plan a_rests a_turns_ways a_turns_rows a_turns_known c_turns_lengths)) M hl.1 hW (t_X7_length l g a_turns a_turns_lengths a_turns_ways a_turns_rows a_turns_known c_turns_lengths v4 v7 r_35 hr) rfl [1, 2] [0] [0, 1, 2] rfl rfl rfl rfl rfl rfl rfl 1 7 rfl rfl rfl (uw4 19 rfl rfl) (uw4 53 rfl rfl) (uw4 17 rfl rfl) (uw4 18 rfl rfl) (uw1 8 rfl rfl) ⟨by decide, by decide, by decide⟩ rfl ⟨by decide, by decide⟩ (Nat.le_of_ble_eq_true rfl) ⟨Nat.zero_le _, Nat.zero_le _⟩ (dd dX3_nearest 19 rfl) (fun H locs hW => ?_)
        refine lv_iload (pc := 38) hx hb (dd dX3_nearest 20 rfl) (lv_at hl 5 rfl) ?_
        refine lv_icmp_ge (pc := 40) (tgt := 60) hx hb (dd dX3_nearest 21 rfl) (by decide) (fun hc => ?_) (fun hc => ?_)
        · have h := it_t hc h
          exact J60 _ _ _ _ _ _ h hW (lv_sub hl [0, 1, 2, 3, 4, 5, 6] rfl)
        · have h := it_f hc h
          refine lv_aload_n (pc := 43) hx hb (dd dX3_nearest 22 rfl) rfl (lv_at hl 0 rfl) ?_
          refine rGet (pc := 44) M hW 0 1 iU3 rfl rfl (by decide) (uw2 0 rfl rfl) rfl (dd dX3_nearest 23 rfl) ?_
          refine lv_iload (pc := 47) hx hb (dd dX3_nearest 24 rfl) (lv_at hl 3 rfl) ?_
          refine lv_iload (pc := 49) hx hb (dd dX3_nearest 25 rfl) (lv_at hl 6 rfl) ?_
          obtain ⟨r_51, hr, h⟩ := bnd_ex h
          refine callVI (pc := 51) (na := 2) (As := [.int v4, .int v7]) (rest := []) (ws2 := (w_X3_nearest g a_t a_turns a_turns_lengths a_plan a_rests a_turns_ways a_turns_rows a_turns_known c_turns_lengths)) M hl.1 hW (t_X7_length l g a_turns a_turns_lengths a_turns_ways a_turns_rows a_turns_known c_turns_lengths v4 v7 r_51 hr) rfl [1, 2] [0] [0, 1, 2] rfl rfl rfl rfl rfl rfl rfl 1 7 rfl rfl rfl (uw4 19 rfl rfl) (uw4 53 rfl rfl) (uw4 17 rfl rfl) (uw4 18 rfl rfl) (uw1 8 rfl rfl) ⟨by decide, by decide, by decide⟩ rfl ⟨by decide, by decide⟩ (Nat.le_of_ble_eq_true rfl) ⟨Nat.zero_le _, Nat.zero_le _⟩ (dd dX3_nearest 26 rfl) (fun H locs hW => ?_)
          refine lv_istore (pc := 54) (lv' := [(6, .int r_51), (0, .ref a_t), (1, .int v1), (2, .long v2), (4, .int v4), (5, .int v5), (7, .int v7)]) hx hb (dd dX3_nearest 27 rfl) hl (by decide) rfl (fun ls hl => ?_)
          refine lv_iload (pc := 56) hx hb (dd dX3_nearest 28 rfl) (lv_at hl 6 rfl) ?_
          refine lv_istore (pc := 58) (lv' := [(5, .int v7), (6, .int r_51), (0, .ref a_t), (1, .int v1), (2, .long v2), (4, .int v4), (7, .int v7)]) hx hb (dd dX3_nearest 29 rfl) hl (by decide) rfl (fun ls hl => ?_)
          exact J60 _ _ _ _ _ _ h hW (lv_sub hl [2, 3, 4, 5, 0, 1, 6] rfl)
  · obtain ⟨v5_66, e9⟩ : ∃ z, z = ex := ⟨_, rfl⟩
    subst e9
    intro H locs ls hW hl
    refine lv_iload (pc := 66) hx hb (dd dX3_nearest 32 rfl) (lv_at hl 0 rfl) ?_
    have hW9 := hW
    cases h
    exact ret _ _ _ 68 hW9 rfl (dd dX3_nearest 33 rfl)
abbrev w_X3_goNearest (g : G9) (a_t a_plan a_turns a_plan_numbers a_turns_lengths a_rests a_turns_ways a_turns_rows a_turns_known : Nat) (c_plan_there c_plan_size : Int32) (c_plan_numbers c_turns_lengths : Ar) : va_W := [ob a_t 3 [.ref a_plan, .ref a_turns, .ref a_rests], ob a_plan 2 [.ref a_turns, .ref a_plan_numbers, .int c_plan_there, .int c_plan_size], ob a_turns 7 [.ref a_turns_ways, .ref a_turns_rows, .ref a_turns_lengths, .ref a_turns_known], ia g a_plan_numbers 60 c_plan_numbers, ia g a_turns_lengths 14400 c_turns_lengths]
noncomputable def X3_goNearest_L13 (c_turns_lengths : Ar) (v1 c_plan_size : Int32) (c_plan_numbers : Ar) (v2 : Int64) (v4 : Int32) : Option ((Int32 × Ar × Int64 × Int32) ⊕ ((Int32 × Ar) ⊕ (Int32 × Ar))) :=
  if v1 ≤ v4 then (some (.inr (.inl (c_plan_size, c_plan_numbers)))) else (ck (ix (v4 - 1) 60) <| bnd (X3_nearest c_turns_lengths v1 v2 ((ag c_plan_numbers (v4 - 1)) ^^^ 1)) <| fun r_36 => if r_36 = (-1) then (some (.inr (.inr ((c_plan_size, c_plan_numbers))))) else (bnd (X2_add c_plan_size c_plan_numbers r_36) <| un2 fun c_plan_size_55 c_plan_numbers_55 => nm ((v2 ||| ((1 : Int64) <<< (Int32.toInt64 (r_36 / 2) &&& 63)))) fun v2_66 => nm (v4 + 1) fun v4_67 => some (.inl (c_plan_size_55, c_plan_numbers_55, v2_66, v4_67))))
noncomputable def X3_goNearest (c_plan_size : Int32) (c_plan_numbers c_turns_lengths : Ar) (v1 : Int32) : Option (Int32 × Int32 × Ar) :=
  bnd (X2_add c_plan_size c_plan_numbers 0) <| un2 fun c_plan_size_5 c_plan_numbers_5 => bnd (whileV (fun st => X3_goNearest_L13 c_turns_lengths v1 st.1 st.2.1 st.2.2.1 st.2.2.2) (c_plan_size_5, c_plan_numbers_5, 1, 1)) <| (Sum.elim (un2 fun c_plan_size_73 c_plan_numbers_73 => some (1, c_plan_size_73, c_plan_numbers_73)) (un2 fun c_plan_size_47 c_plan_numbers_47 => some (0, c_plan_size_47, c_plan_numbers_47)))
set_option maxHeartbeats 4000000 in
set_option maxRecDepth 100000 in
theorem t_X3_goNearest (l : Launch) (g : G9) (a_t a_plan a_turns a_plan_numbers a_turns_lengths a_rests a_turns_ways a_turns_rows a_turns_known : Nat) (c_plan_there c_plan_size : Int32) (c_plan_numbers c_turns_lengths : Ar) (v1 r0 o_plan_size : Int32) (o_plan_numbers : Ar) (h : X3_goNearest c_plan_size c_plan_numbers c_turns_lengths v1 = some (r0, o_plan_size, o_plan_numbers)) : CtI l g yX3_goNearest cX3_goNearest 6 .boolean 2 49 [.ref a_t, .int v1] (w_X3_goNearest g a_t a_plan a_turns a_plan_numbers a_turns_lengths a_rests a_turns_ways a_turns_rows a_turns_known c_plan_there c_plan_size c_plan_numbers c_turns_lengths) r0 (w_X3_goNearest g a_t a_plan a_turns a_plan_numbers a_turns_lengths a_rests a_turns_ways a_turns_rows a_turns_known c_plan_there o_plan_size o_plan_numbers c_turns_lengths) := by
  refine startI (by decide) (Nat.le_of_ble_eq_true rfl) ?_
  intro p e s m below meth c A Q ls args M hW hl ret
  have hx := M.1
  have hb := M.2.1
  have hown := M.2.2.2.1
  have hu := M.2.2.2.2.1
  have hl : lv_has ls 6 [(0, .ref a_t), (1, .int v1)] := hl
  unfold X3_goNearest at h
  obtain ⟨H, eH⟩ : ∃ z, z = s.heap := ⟨_, rfl⟩
  obtain ⟨locs, eL⟩ : ∃ z, z = ([] : List Loc) := ⟨_, rfl⟩
  rw [← eL] at hW ⊢
  suffices hS9 : WD g s A (w_X3_goNearest g a_t a_plan a_turns a_plan_numbers a_turns_lengths a_rests a_turns_ways a_turns_rows a_turns_known c_plan_there c_plan_size c_plan_numbers c_turns_lengths) H locs → W p l e (rm9 2 49) s m args below meth c H locs 0 0 Q (F0 m 0 ls []) by
    rw [← eH] at hW ⊢
    exact hS9 hW
  clear hW eH eL
  intro hW
  refine lv_aload_n (pc := 0) hx hb (dd dX3_goNearest 0 rfl) rfl (lv_at hl 0 rfl) ?_
  refine rGet (pc := 1) M hW 0 0 iU3 rfl rfl (by decide) (uw1 239 rfl rfl) rfl (dd dX3_goNearest 1 rfl) ?_
  refine lv_iconst (pc := 4) (v := 0) hx hb (dd dX3_goNearest 2 rfl) (by decide) ?_
  obtain ⟨⟨c_plan_size_5, c_plan_numbers_5⟩, hr, h⟩ := bnd_ex h
  have h := un2_at h
  refine callVV (pc := 5) (na := 1) (As := [.int 0]) (rest := []) (ws2 := (w_X3_goNearest g a_t a_plan a_turns a_plan_numbers a_turns_lengths a_rests a_turns_ways a_turns_rows a_turns_known c_plan_there c_plan_size_5 c_plan_numbers_5 c_turns_lengths)) M hl.1 hW (t_X2_add l g a_plan a_plan_numbers a_turns c_plan_there c_plan_size c_plan_numbers 0 c_plan_size_5 c_plan_numbers_5 hr) rfl [1, 3] [0, 2, 4] [0, 3, 1, 4, 2] rfl rfl rfl rfl rfl rfl rfl 1 2 rfl rfl rfl (uw4 61 rfl rfl) (uw4 58 rfl rfl) (uw4 59 rfl rfl) (uw4 60 rfl rfl) (uw1 9 rfl rfl) ⟨by decide, by decide, by decide⟩ rfl ⟨by decide, by decide⟩ (Nat.le_of_ble_eq_true rfl) ⟨Nat.zero_le _, Nat.zero_le _⟩ (dd dX3_goNearest 3 rfl) (fun H locs hW => ?_)
  refine lv_lconst (pc := 8) (v := 1) hx hb (dd dX3_goNearest 4 rfl) (by decide) ?_
  refine lv_lstore_n (pc := 9) (lv' := [(2, .long 1), (0, .ref a_t), (1, .int v1)]) hx hb (dd dX3_goNearest 5 rfl) rfl hl (by decide) rfl (fun ls hl => ?_)
  refine lv_iconst (pc := 10) (v := 1) hx hb (dd dX3_goNearest 6 rfl) (by decide) ?_
  refine lv_istore (pc := 11) (lv' := [(4, .int 1), (2, .long 1), (0, .ref a_t), (1, .int v1)]) hx hb (dd dX3_goNearest 7 rfl) hl (by decide) rfl (fun ls hl => ?_)
  obtain ⟨ex, hw, h⟩ := bnd_ex h
  refine loopW (fun st => ∀ (H : Heap) (locs : List Loc) (ls : Array Slot), WD g s A (w_X3_goNearest g a_t a_plan a_turns a_plan_numbers a_turns_lengths a_rests a_turns_ways a_turns_rows a_turns_known c_plan_there (st.1) (st.2.1) c_turns_lengths) H locs → lv_has ls 6 [(0, .ref a_t), (1, .int v1), (2, .long (st.2.2.1)), (4, .int (st.2.2.2))] → W p l e (rm9 2 49) s m args below meth c H locs 0 0 Q (F0 m 13 ls [])) (Sum.elim (fun (ex : (Int32 × Ar)) => ∀ (H : Heap) (locs : List Loc) (ls : Array Slot), WD g s A (w_X3_goNearest g a_t a_plan a_turns a_plan_numbers a_turns_lengths a_rests a_turns_ways a_turns_rows a_turns_known c_plan_there (ex.1) (ex.2) c_turns_lengths) H locs → lv_has ls 6 [] → W p l e (rm9 2 49) s m args below meth c H locs 0 0 Q (F0 m 73 ls [])) (fun (ex : (Int32 × Ar)) => ∀ (H : Heap) (locs : List Loc) (ls : Array Slot), WD g s A (w_X3_goNearest g a_t a_plan a_turns a_plan_numbers a_turns_lengths a_rests a_turns_ways a_turns_rows a_turns_known c_plan_there (ex.1) (ex.2) c_turns_lengths) H locs → lv_has ls 6 [] → W p l e (rm9 2 49) s m args below meth c H locs 0 0 Q (F0 m 47 ls []))) ?_ hw ?_ H locs ls hW (lv_sub hl [2, 3, 1, 0] rfl)
  · rintro ⟨c_plan_size, c_plan_numbers, v2, v4⟩ o hb9 hk H locs ls hW hl
    have h : X3_goNearest_L13 c_turns_lengths v1 c_plan_size c_plan_numbers v2 v4 = some o := hb9
    clear hb9
    unfold X3_goNearest_L13 at h
    refine lv_iload (pc := 13) hx hb (dd dX3_goNearest 8 rfl) (lv_at hl 3 rfl) ?_
    refine lv_iload_n (pc := 15) hx hb (dd dX3_goNearest 9 rfl) rfl (lv_at hl 1 rfl) ?_
    refine lv_icmp_ge (pc := 16) (tgt := 73) hx hb (dd dX3_goNearest 10 rfl) (by decide) (fun hc => ?_) (fun hc => ?_)
    · have h := it_t hc h
      obtain rfl := Option.some.inj h
      exact hk _ _ _ hW (lv_sub hl [] rfl)
    · have h := it_f hc h
      refine lv_aload_n (pc := 19) hx hb (dd dX3_goNearest 11 rfl) rfl (lv_at hl 0 rfl) ?_
      refine lv_iload_n (pc := 20) hx hb (dd dX3_goNearest 12 rfl) rfl (lv_at hl 1 rfl) ?_
      refine lv_lload_n (pc := 21) hx hb (dd dX3_goNearest 13 rfl) rfl (lv_at hl 2 rfl) ?_
      refine lv_aload_n (pc := 22) hx hb (dd dX3_goNearest 14 rfl) rfl (lv_at hl 0 rfl) ?_
      refine rGet (pc := 23) M hW 0 0 iU3 rfl rfl (by decide) (uw1 239 rfl rfl) rfl (dd dX3_goNearest 15 rfl) ?_
      refine rGet (pc := 26) M hW 1 1 iU2 rfl rfl (by decide) (uw1 215 rfl rfl) rfl (dd dX3_goNearest 16 rfl) ?_
      refine lv_iload (pc := 29) hx hb (dd dX3_goNearest 17 rfl) (lv_at hl 3 rfl) ?_
      refine lv_iconst (pc := 31) (v := 1) hx hb (dd dX3_goNearest 18 rfl) (by decide) ?_
      refine lv_isub (pc := 32) hx hb (dd dX3_goNearest 19 rfl) ?_
      obtain ⟨hi, h⟩ := ck_ex h
      refine rIald (pc := 33) M hW 3 rfl hi (dd dX3_goNearest 20 rfl) ?_
      refine lv_iconst (pc := 34) (v := 1) hx hb (dd dX3_goNearest 21 rfl) (by decide) ?_
      refine lv_ixor (pc := 35) hx hb (dd dX3_goNearest 22 rfl) ?_
      obtain ⟨r_36, hr, h⟩ := bnd_ex h
      refine callVI (pc := 36) (na := 3) (As := [.int v1, .long v2, .int ((ag c_plan_numbers (v4 - 1)) ^^^ 1)]) (rest := []) (ws2 := (w_X3_goNearest g a_t a_plan a_turns a_plan_numbers a_turns_lengths a_rests a_turns_ways a_turns_rows a_turns_known c_plan_there c_plan_size c_plan_numbers c_turns_lengths)) M hl.1 hW (t_X3_nearest l g a_t a_turns a_turns_lengths a_plan a_rests a_turns_ways a_turns_rows a_turns_known c_turns_lengths v1 v2 ((ag c_plan_numbers (v4 - 1)) ^^^ 1) r_36 hr) rfl [0, 2, 4] [1, 3] [2, 0, 3, 1, 4] rfl rfl rfl rfl rfl rfl rfl 0 3 rfl rfl rfl (uw4 69 rfl rfl) (uw4 66 rfl rfl) (uw4 68 rfl rfl) (uwp 30 rfl rfl) (uw1 10 rfl rfl) ⟨by decide, by decide, by decide⟩ rfl ⟨by decide, by decide⟩ (Nat.le_of_ble_eq_true rfl) ⟨Nat.zero_le _, Nat.zero_le _⟩ (dd dX3_goNearest 23 rfl) (fun H locs hW => ?_)
      refine lv_istore (pc := 39) (lv' := [(5, .int r_36), (0, .ref a_t), (1, .int v1), (2, .long v2), (4, .int v4)]) hx hb (dd dX3_goNearest 24 rfl) hl (by decide) rfl (fun ls hl => ?_)
      refine lv_iload (pc := 41) hx hb (dd dX3_goNearest 25 rfl) (lv_at hl 0 rfl) ?_
      refine lv_iconst (pc := 43) (v := (-1)) hx hb (dd dX3_goNearest 26 rfl) (by decide) ?_
      refine lv_icmp_ne (pc := 44) (tgt := 49) hx hb (dd dX3_goNearest 27 rfl) (by decide) (fun hc => ?_) (fun hc => ?_)
      · have h := it_f hc h
        refine lv_aload_n (pc := 49) hx hb (dd dX3_goNearest 30 rfl) rfl (lv_at hl 1 rfl) ?_
        refine rGet (pc := 50) M hW 0 0 iU3 rfl rfl (by decide) (uw1 239 rfl rfl) rfl (dd dX3_goNearest 31 rfl) ?_
        refine lv_iload (pc := 53) hx hb (dd dX3_goNearest 32 rfl) (lv_at hl 0 rfl) ?_
        obtain ⟨⟨c_plan_size_55, c_plan_numbers_55⟩, hr, h⟩ := bnd_ex h
        have h := un2_at h
        refine callVV (pc := 55) (na := 1) (As := [.int r_36]) (rest := []) (ws2 := (w_X3_goNearest g a_t a_plan a_turns a_plan_numbers a_turns_lengths a_rests a_turns_ways a_turns_rows a_turns_known c_plan_there c_plan_size_55 c_plan_numbers_55 c_turns_lengths)) M hl.1 hW (t_X2_add l g a_plan a_plan_numbers a_turns c_plan_there c_plan_size c_plan_numbers r_36 c_plan_size_55 c_plan_numbers_55 hr) rfl [1, 3] [0, 2, 4] [0, 3, 1, 4, 2] rfl rfl rfl rfl rfl rfl rfl 1 2 rfl rfl rfl (uw4 61 rfl rfl) (uw4 58 rfl rfl) (uw4 59 rfl rfl) (uw4 60 rfl rfl) (uw1 9 rfl rfl) ⟨by decide, by decide, by decide⟩ rfl ⟨by decide, by decide⟩ (Nat.le_of_ble_eq_true rfl) ⟨Nat.zero_le _, Nat.zero_le _⟩ (dd dX3_goNearest 33 rfl) (fun H locs hW => ?_)
        refine lv_lload_n (pc := 58) hx hb (dd dX3_goNearest 34 rfl) rfl (lv_at hl 3 rfl) ?_
        refine lv_lconst (pc := 59) (v := 1) hx hb (dd dX3_goNearest 35 rfl) (by decide) ?_
        refine lv_iload (pc := 60) hx hb (dd dX3_goNearest 36 rfl) (lv_at hl 0 rfl) ?_
        refine lv_iconst (pc := 62) (v := 2) hx hb (dd dX3_goNearest 37 rfl) (by decide) ?_
        refine lv_idiv (pc := 63) hx hb (dd dX3_goNearest 38 rfl) (by decide) ?_
        refine lv_lshl (pc := 64) hx hb (dd dX3_goNearest 39 rfl) rfl ?_
        refine lv_lor (pc := 65) hx hb (dd dX3_goNearest 40 rfl) ?_
        obtain ⟨v2_66, ev2_66, h⟩ := nm_ex h
        refine rTopl (pc := 66) ev2_66 ?_
        refine lv_lstore_n (pc := 66) (lv' := [(2, .long v2_66), (5, .int r_36), (0, .ref a_t), (1, .int v1), (4, .int v4)]) hx hb (dd dX3_goNearest 41 rfl) rfl hl (by decide) rfl (fun ls hl => ?_)
        obtain ⟨v4_67, ev4_67, h⟩ := nm_ex h
        refine lv_iinc (pc := 67) (v := v4_67) (lv' := [(4, .int v4_67), (2, .long v2_66), (5, .int r_36), (0, .ref a_t), (1, .int v1)]) hx hb (dd dX3_goNearest 42 rfl) hl (k := 4) rfl (by rw [ev4_67]; rfl) (by decide) rfl (fun ls hl => ?_)
        refine lv_goto (pc := 70) (tgt := 13) hx hb (dd dX3_goNearest 43 rfl) (by decide) ?_
        obtain rfl := Option.some.inj h
        exact hk _ _ _ hW (lv_sub hl [3, 4, 1, 0] rfl)
      · have h := it_t hc h
        obtain rfl := Option.some.inj h
        exact hk _ _ _ hW (lv_sub hl [] rfl)
  · rcases ex with ⟨c_plan_size_73, c_plan_numbers_73⟩ | ⟨c_plan_size_47, c_plan_numbers_47⟩
    · intro H locs ls hW hl
      have h := sE_l h
      have h := un2_at h
      refine lv_iconst (pc := 73) (v := 1) hx hb (dd dX3_goNearest 44 rfl) (by decide) ?_
      have hW9 := hW
      cases h
      exact ret _ _ _ 74 hW9 rfl (dd dX3_goNearest 45 rfl)
    · intro H locs ls hW hl
      have h := sE_r h
      have h := un2_at h
      refine lv_iconst (pc := 47) (v := 0) hx hb (dd dX3_goNearest 28 rfl) (by decide) ?_
      have hW9 := hW
      cases h
      exact ret _ _ _ 48 hW9 rfl (dd dX3_goNearest 29 rfl)
abbrev w_X2_sum (g : G9) (a_t a_numbers a_turns a_turns_lengths a_turns_ways a_turns_rows a_turns_known : Nat) (c_there c_size : Int32) (c_numbers c_turns_lengths : Ar) : va_W := [ob a_t 2 [.ref a_turns, .ref a_numbers, .int c_there, .int c_size], ia g a_numbers 60 c_numbers, ob a_turns 7 [.ref a_turns_ways, .ref a_turns_rows, .ref a_turns_lengths, .ref a_turns_known], ia g a_turns_lengths 14400 c_turns_lengths]
noncomputable def X2_sum_L4 (c_size : Int32) (c_numbers c_turns_lengths : Ar) (v1 v2 : Int32) : Option ((Int32 × Int32) ⊕ (Int32 ⊕ Unit)) :=
  if c_size ≤ v2 then (some (.inr (.inl v1))) else (ck (ix (v2 - 1) 60) <| ck (ix v2 60) <| bnd (X7_length c_turns_lengths ((ag c_numbers (v2 - 1)) ^^^ 1) (ag c_numbers v2)) <| fun r_32 => if r_32 < 1000000 then (nm ((v1 + r_32)) fun v1_48 => nm (v2 + 1) fun v2_49 => some (.inl (v1_48, v2_49))) else (some (.inr (.inr (())))))
noncomputable def X2_sum (c_size : Int32) (c_numbers c_turns_lengths : Ar) : Option Int32 :=
  bnd (whileV (fun st => X2_sum_L4 c_size c_numbers c_turns_lengths st.1 st.2) (0, 1)) <| (Sum.elim (fun v1_55 => some v1_55) (fun (_ : Unit) => some 1000000))
set_option maxHeartbeats 4000000 in
set_option maxRecDepth 100000 in
theorem t_X2_sum (l : Launch) (g : G9) (a_t a_numbers a_turns a_turns_lengths a_turns_ways a_turns_rows a_turns_known : Nat) (c_there c_size : Int32) (c_numbers c_turns_lengths : Ar) (r0 : Int32) (h : X2_sum c_size c_numbers c_turns_lengths = some r0) : CtI l g yX2_sum cX2_sum 4 .int 1 22 [.ref a_t] (w_X2_sum g a_t a_numbers a_turns a_turns_lengths a_turns_ways a_turns_rows a_turns_known c_there c_size c_numbers c_turns_lengths) r0 (w_X2_sum g a_t a_numbers a_turns a_turns_lengths a_turns_ways a_turns_rows a_turns_known c_there c_size c_numbers c_turns_lengths) := by
  refine startI (by decide) (Nat.le_of_ble_eq_true rfl) ?_
  intro p e s m below meth c A Q ls args M hW hl ret
  have hx := M.1
  have hb := M.2.1
  have hown := M.2.2.2.1
  have hu := M.2.2.2.2.1
  have hl : lv_has ls 4 [(0, .ref a_t)] := hl
  unfold X2_sum at h
  obtain ⟨H, eH⟩ : ∃ z, z = s.heap := ⟨_, rfl⟩
  obtain ⟨locs, eL⟩ : ∃ z, z = ([] : List Loc) := ⟨_, rfl⟩
  rw [← eL] at hW ⊢
  suffices hS9 : WD g s A (w_X2_sum g a_t a_numbers a_turns a_turns_lengths a_turns_ways a_turns_rows a_turns_known c_there c_size c_numbers c_turns_lengths) H locs → W p l e (rm9 1 22) s m args below meth c H locs 0 0 Q (F0 m 0 ls []) by
    rw [← eH] at hW ⊢
    exact hS9 hW
  clear hW eH eL
  intro hW
  refine lv_iconst (pc := 0) (v := 0) hx hb (dd dX2_sum 0 rfl) (by decide) ?_
  refine lv_istore_n (pc := 1) (lv' := [(1, .int 0), (0, .ref a_t)]) hx hb (dd dX2_sum 1 rfl) rfl hl (by decide) rfl (fun ls hl => ?_)
  refine lv_iconst (pc := 2) (v := 1) hx hb (dd dX2_sum 2 rfl) (by decide) ?_
  refine lv_istore_n (pc := 3) (lv' := [(2, .int 1), (1, .int 0), (0, .ref a_t)]) hx hb (dd dX2_sum 3 rfl) rfl hl (by decide) rfl (fun ls hl => ?_)
  obtain ⟨ex, hw, h⟩ := bnd_ex h
  refine loopW (fun st => ∀ (H : Heap) (locs : List Loc) (ls : Array Slot), WD g s A (w_X2_sum g a_t a_numbers a_turns a_turns_lengths a_turns_ways a_turns_rows a_turns_known c_there c_size c_numbers c_turns_lengths) H locs → lv_has ls 4 [(0, .ref a_t), (1, .int (st.1)), (2, .int (st.2))] → W p l e (rm9 1 22) s m args below meth c H locs 0 0 Q (F0 m 4 ls [])) (Sum.elim (fun (ex : Int32) => ∀ (H : Heap) (locs : List Loc) (ls : Array Slot), WD g s A (w_X2_sum g a_t a_numbers a_turns a_turns_lengths a_turns_ways a_turns_rows a_turns_known c_there c_size c_numbers c_turns_lengths) H locs → lv_has ls 4 [(1, .int ex)] → W p l e (rm9 1 22) s m args below meth c H locs 0 0 Q (F0 m 55 ls [])) (fun (ex : Unit) => ∀ (H : Heap) (locs : List Loc) (ls : Array Slot), WD g s A (w_X2_sum g a_t a_numbers a_turns a_turns_lengths a_turns_ways a_turns_rows a_turns_known c_there c_size c_numbers c_turns_lengths) H locs → lv_has ls 4 [] → W p l e (rm9 1 22) s m args below meth c H locs 0 0 Q (F0 m 42 ls []))) ?_ hw ?_ H locs ls hW (lv_sub hl [2, 1, 0] rfl)
  · rintro ⟨v1, v2⟩ o hb9 hk H locs ls hW hl
    have h : X2_sum_L4 c_size c_numbers c_turns_lengths v1 v2 = some o := hb9
    clear hb9
    unfold X2_sum_L4 at h
    refine lv_iload_n (pc := 4) hx hb (dd dX2_sum 4 rfl) rfl (lv_at hl 2 rfl) ?_
    refine lv_aload_n (pc := 5) hx hb (dd dX2_sum 5 rfl) rfl (lv_at hl 0 rfl) ?_
    refine rGet (pc := 6) M hW 0 3 iU2 rfl rfl (by decide) (uw1 220 rfl rfl) rfl (dd dX2_sum 6 rfl) ?_
    refine lv_icmp_ge (pc := 9) (tgt := 55) hx hb (dd dX2_sum 7 rfl) (by decide) (fun hc => ?_) (fun hc => ?_)
    · have h := it_t hc h
      obtain rfl := Option.some.inj h
      exact hk _ _ _ hW (lv_sub hl [1] rfl)
    · have h := it_f hc h
      refine lv_aload_n (pc := 12) hx hb (dd dX2_sum 8 rfl) rfl (lv_at hl 0 rfl) ?_
      refine rGet (pc := 13) M hW 0 0 iU2 rfl rfl (by decide) (uw1 212 rfl rfl) rfl (dd dX2_sum 9 rfl) ?_
      refine lv_aload_n (pc := 16) hx hb (dd dX2_sum 10 rfl) rfl (lv_at hl 0 rfl) ?_
      refine rGet (pc := 17) M hW 0 1 iU2 rfl rfl (by decide) (uw1 213 rfl rfl) rfl (dd dX2_sum 11 rfl) ?_
      refine lv_iload_n (pc := 20) hx hb (dd dX2_sum 12 rfl) rfl (lv_at hl 2 rfl) ?_
      refine lv_iconst (pc := 21) (v := 1) hx hb (dd dX2_sum 13 rfl) (by decide) ?_
      refine lv_isub (pc := 22) hx hb (dd dX2_sum 14 rfl) ?_
      obtain ⟨hi, h⟩ := ck_ex h
      refine rIald (pc := 23) M hW 1 rfl hi (dd dX2_sum 15 rfl) ?_
      refine lv_iconst (pc := 24) (v := 1) hx hb (dd dX2_sum 16 rfl) (by decide) ?_
      refine lv_ixor (pc := 25) hx hb (dd dX2_sum 17 rfl) ?_
      refine lv_aload_n (pc := 26) hx hb (dd dX2_sum 18 rfl) rfl (lv_at hl 0 rfl) ?_
      refine rGet (pc := 27) M hW 0 1 iU2 rfl rfl (by decide) (uw1 213 rfl rfl) rfl (dd dX2_sum 19 rfl) ?_
      refine lv_iload_n (pc := 30) hx hb (dd dX2_sum 20 rfl) rfl (lv_at hl 2 rfl) ?_
      obtain ⟨hi, h⟩ := ck_ex h
      refine rIald (pc := 31) M hW 1 rfl hi (dd dX2_sum 21 rfl) ?_
      obtain ⟨r_32, hr, h⟩ := bnd_ex h
      refine callVI (pc := 32) (na := 2) (As := [.int ((ag c_numbers (v2 - 1)) ^^^ 1), .int (ag c_numbers v2)]) (rest := []) (ws2 := (w_X2_sum g a_t a_numbers a_turns a_turns_lengths a_turns_ways a_turns_rows a_turns_known c_there c_size c_numbers c_turns_lengths)) M hl.1 hW (t_X7_length l g a_turns a_turns_lengths a_turns_ways a_turns_rows a_turns_known c_turns_lengths ((ag c_numbers (v2 - 1)) ^^^ 1) (ag c_numbers v2) r_32 hr) rfl [2, 3] [0, 1] [0, 1, 2, 3] rfl rfl rfl rfl rfl rfl rfl 2 7 rfl rfl rfl (uw4 19 rfl rfl) (uw4 90 rfl rfl) (uw4 17 rfl rfl) (uw4 18 rfl rfl) (uw1 8 rfl rfl) ⟨by decide, by decide, by decide⟩ rfl ⟨by decide, by decide⟩ (Nat.le_of_ble_eq_true rfl) ⟨Nat.zero_le _, Nat.zero_le _⟩ (dd dX2_sum 22 rfl) (fun H locs hW => ?_)
      refine lv_istore_n (pc := 35) (lv' := [(3, .int r_32), (0, .ref a_t), (1, .int v1), (2, .int v2)]) hx hb (dd dX2_sum 23 rfl) rfl hl (by decide) rfl (fun ls hl => ?_)
      refine lv_iload_n (pc := 36) hx hb (dd dX2_sum 24 rfl) rfl (lv_at hl 0 rfl) ?_
      refine lv_ldc (pc := 37) (v := 1000000) hx hb hown (hu _ (uw4 91 rfl rfl)) (dd dX2_sum 25 rfl) ?_
      refine lv_icmp_lt (pc := 39) (tgt := 45) hx hb (dd dX2_sum 26 rfl) (by decide) (fun hc => ?_) (fun hc => ?_)
      · have h := it_t hc h
        refine lv_iload_n (pc := 45) hx hb (dd dX2_sum 29 rfl) rfl (lv_at hl 2 rfl) ?_
        refine lv_iload_n (pc := 46) hx hb (dd dX2_sum 30 rfl) rfl (lv_at hl 0 rfl) ?_
        refine lv_iadd (pc := 47) hx hb (dd dX2_sum 31 rfl) ?_
        obtain ⟨v1_48, ev1_48, h⟩ := nm_ex h
        refine rTopi (pc := 48) ev1_48 ?_
        refine lv_istore_n (pc := 48) (lv' := [(1, .int v1_48), (3, .int r_32), (0, .ref a_t), (2, .int v2)]) hx hb (dd dX2_sum 32 rfl) rfl hl (by decide) rfl (fun ls hl => ?_)
        obtain ⟨v2_49, ev2_49, h⟩ := nm_ex h
        refine lv_iinc (pc := 49) (v := v2_49) (lv' := [(2, .int v2_49), (1, .int v1_48), (3, .int r_32), (0, .ref a_t)]) hx hb (dd dX2_sum 33 rfl) hl (k := 3) rfl (by rw [ev2_49]; rfl) (by decide) rfl (fun ls hl => ?_)
        refine lv_goto (pc := 52) (tgt := 4) hx hb (dd dX2_sum 34 rfl) (by decide) ?_
        obtain rfl := Option.some.inj h
        exact hk _ _ _ hW (lv_sub hl [3, 1, 0] rfl)
      · have h := it_f hc h
        obtain rfl := Option.some.inj h
        exact hk _ _ _ hW (lv_sub hl [] rfl)
  · rcases ex with v1_55 | _
    · intro H locs ls hW hl
      have h := sE_l h
      refine lv_iload_n (pc := 55) hx hb (dd dX2_sum 35 rfl) rfl (lv_at hl 0 rfl) ?_
      have hW9 := hW
      cases h
      exact ret _ _ _ 56 hW9 rfl (dd dX2_sum 36 rfl)
    · intro H locs ls hW hl
      have h := sE_r h
      refine lv_ldc (pc := 42) (v := 1000000) hx hb hown (hu _ (uw4 91 rfl rfl)) (dd dX2_sum 27 rfl) ?_
      have hW9 := hW
      cases h
      exact ret _ _ _ 44 hW9 rfl (dd dX2_sum 28 rfl)
abbrev w_X3_isLessTurnedRound (g : G9) (a_t a_plan a_turns a_plan_numbers a_turns_lengths a_rests a_turns_ways a_turns_rows a_turns_known : Nat) (c_plan_there c_plan_size : Int32) (c_plan_numbers c_turns_lengths : Ar) : va_W := [ob a_t 3 [.ref a_plan, .ref a_turns, .ref a_rests], ob a_plan 2 [.ref a_turns, .ref a_plan_numbers, .int c_plan_there, .int c_plan_size], ob a_turns 7 [.ref a_turns_ways, .ref a_turns_rows, .ref a_turns_lengths, .ref a_turns_known], ia g a_plan_numbers 60 c_plan_numbers, ia g a_turns_lengths 14400 c_turns_lengths]
noncomputable def X3_isLessTurnedRound_b142 (v3 v4 : Int32) : Option Int32 :=
  if v3 ≤ v4 then (some 0) else (some 1)
noncomputable def X3_isLessTurnedRound_b70 (c_plan_size : Int32) (c_plan_numbers c_turns_lengths : Ar) (v1 v2 v3 v4 : Int32) : Option Int32 :=
  if (c_plan_size - 1) ≤ v2 then (X3_isLessTurnedRound_b142 v3 v4) else (ck (ix (v2 + 1) 60) <| nm ((ag c_plan_numbers (v2 + 1))) fun v5_94 => ck (ix v2 60) <| bnd (X7_length c_turns_lengths ((ag c_plan_numbers v2) ^^^ 1) v5_94) <| fun r_114 => nm ((v3 + r_114)) fun v3_118 => ck (ix v1 60) <| bnd (X7_length c_turns_lengths (ag c_plan_numbers v1) v5_94) <| fun r_136 => nm ((v4 + r_136)) fun v4_140 => X3_isLessTurnedRound_b142 v3_118 v4_140)
noncomputable def X3_isLessTurnedRound (c_plan_size : Int32) (c_plan_numbers c_turns_lengths : Ar) (v1 v2 : Int32) : Option Int32 :=
  if v1 ≤ 0 then (X3_isLessTurnedRound_b70 c_plan_size c_plan_numbers c_turns_lengths v1 v2 0 0) else (ck (ix (v1 - 1) 60) <| nm (((ag c_plan_numbers (v1 - 1)) ^^^ 1)) fun v5_22 => ck (ix v1 60) <| bnd (X7_length c_turns_lengths v5_22 (ag c_plan_numbers v1)) <| fun r_40 => nm ((0 + r_40)) fun v3_44 => ck (ix v2 60) <| bnd (X7_length c_turns_lengths v5_22 ((ag c_plan_numbers v2) ^^^ 1)) <| fun r_64 => nm ((0 + r_64)) fun v4_68 => X3_isLessTurnedRound_b70 c_plan_size c_plan_numbers c_turns_lengths v1 v2 v3_44 v4_68)
set_option maxHeartbeats 4000000 in
set_option maxRecDepth 100000 in
theorem t_X3_isLessTurnedRound (l : Launch) (g : G9) (a_t a_plan a_turns a_plan_numbers a_turns_lengths a_rests a_turns_ways a_turns_rows a_turns_known : Nat) (c_plan_there c_plan_size : Int32) (c_plan_numbers c_turns_lengths : Ar) (v1 v2 r0 : Int32) (h : X3_isLessTurnedRound c_plan_size c_plan_numbers c_turns_lengths v1 v2 = some r0) : CtI l g yX3_isLessTurnedRound cX3_isLessTurnedRound 6 .boolean 1 22 [.ref a_t, .int v1, .int v2] (w_X3_isLessTurnedRound g a_t a_plan a_turns a_plan_numbers a_turns_lengths a_rests a_turns_ways a_turns_rows a_turns_known c_plan_there c_plan_size c_plan_numbers c_turns_lengths) r0 (w_X3_isLessTurnedRound g a_t a_plan a_turns a_plan_numbers a_turns_lengths a_rests a_turns_ways a_turns_rows a_turns_known c_plan_there c_plan_size c_plan_numbers c_turns_lengths) := by
  refine startI (by decide) (Nat.le_of_ble_eq_true rfl) ?_
  intro p e s m below meth c A Q ls args M hW hl ret
  have hx := M.1
  have hb := M.2.1
  have hown := M.2.2.2.1
  have hu := M.2.2.2.2.1
  have hl : lv_has ls 6 [(0, .ref a_t), (1, .int v1), (2, .int v2)] := hl
  unfold X3_isLessTurnedRound at h
  obtain ⟨H, eH⟩ : ∃ z, z = s.heap := ⟨_, rfl⟩
  obtain ⟨locs, eL⟩ : ∃ z, z = ([] : List Loc) := ⟨_, rfl⟩
  rw [← eL] at hW ⊢
  suffices hS9 : WD g s A (w_X3_isLessTurnedRound g a_t a_plan a_turns a_plan_numbers a_turns_lengths a_rests a_turns_ways a_turns_rows a_turns_known c_plan_there c_plan_size c_plan_numbers c_turns_lengths) H locs → W p l e (rm9 1 22) s m args below meth c H locs 0 0 Q (F0 m 0 ls []) by
    rw [← eH] at hW ⊢
    exact hS9 hW
  clear hW eH eL
  intro hW
  have J142 : ∀ (v3 v4 : Int32) (H : Heap) (locs : List Loc) (ls : Array Slot), X3_isLessTurnedRound_b142 v3 v4 = some r0 → WD g s A (w_X3_isLessTurnedRound g a_t a_plan a_turns a_plan_numbers a_turns_lengths a_rests a_turns_ways a_turns_rows a_turns_known c_plan_there c_plan_size c_plan_numbers c_turns_lengths) H locs → lv_has ls 6 [(3, .int v3), (4, .int v4)] → W p l e (rm9 1 22) s m args below meth c H locs 0 0 Q (F0 m 142 ls []) := by
    intro v3 v4 H locs ls h hW hl
    unfold X3_isLessTurnedRound_b142 at h
    refine lv_iload (pc := 142) hx hb (dd dX3_isLessTurnedRound_p1 23 rfl) (lv_at hl 1 rfl) ?_
    refine lv_iload_n (pc := 144) hx hb (dd dX3_isLessTurnedRound_p1 24 rfl) rfl (lv_at hl 0 rfl) ?_
    refine lv_icmp_ge (pc := 145) (tgt := 152) hx hb (dd dX3_isLessTurnedRound_p1 25 rfl) (by decide) (fun hc => ?_) (fun hc => ?_)
    · have h := it_t hc h
      refine lv_iconst (pc := 152) (v := 0) hx hb (dd dX3_isLessTurnedRound_p1 28 rfl) (by decide) ?_
      have hW9 := hW
      cases h
      exact ret _ _ _ 153 hW9 rfl (dd dX3_isLessTurnedRound_p1 29 rfl)
    · have h := it_f hc h
      refine lv_iconst (pc := 148) (v := 1) hx hb (dd dX3_isLessTurnedRound_p1 26 rfl) (by decide) ?_
      refine lv_goto (pc := 149) (tgt := 153) hx hb (dd dX3_isLessTurnedRound_p1 27 rfl) (by decide) ?_
      have hW9 := hW
      cases h
      exact ret _ _ _ 153 hW9 rfl (dd dX3_isLessTurnedRound_p1 29 rfl)
  have J70 : ∀ (v3 v4 : Int32) (H : Heap) (locs : List Loc) (ls : Array Slot), X3_isLessTurnedRound_b70 c_plan_size c_plan_numbers c_turns_lengths v1 v2 v3 v4 = some r0 → WD g s A (w_X3_isLessTurnedRound g a_t a_plan a_turns a_plan_numbers a_turns_lengths a_rests a_turns_ways a_turns_rows a_turns_known c_plan_there c_plan_size c_plan_numbers c_turns_lengths) H locs → lv_has ls 6 [(0, .ref a_t), (1, .int v1), (2, .int v2), (3, .int v3), (4, .int v4)] → W p l e (rm9 1 22) s m args below meth c H locs 0 0 Q (F0 m 70 ls []) := by
    intro v3 v4 H locs ls h hW hl
    unfold X3_isLessTurnedRound_b70 at h
    refine lv_iload_n (pc := 70) hx hb (dd dX3_isLessTurnedRound_p0 42 rfl) rfl (lv_at hl 2 rfl) ?_
    refine lv_aload_n (pc := 71) hx hb (dd dX3_isLessTurnedRound_p0 43 rfl) rfl (lv_at hl 0 rfl) ?_
    refine rGet (pc := 72) M hW 0 0 iU3 rfl rfl (by decide) (uw1 239 rfl rfl) rfl (dd dX3_isLessTurnedRound_p0 44 rfl) ?_
    refine rGet (pc := 75) M hW 1 3 iU2 rfl rfl (by decide) (uw1 222 rfl rfl) rfl (dd dX3_isLessTurnedRound_p0 45 rfl) ?_
    refine lv_iconst (pc := 78) (v := 1) hx hb (dd dX3_isLessTurnedRound_p0 46 rfl) (by decide) ?_
    refine lv_isub (pc := 79) hx hb (dd dX3_isLessTurnedRound_p0 47 rfl) ?_
    refine lv_icmp_ge (pc := 80) (tgt := 142) hx hb (dd dX3_isLessTurnedRound_p0 48 rfl) (by decide) (fun hc => ?_) (fun hc => ?_)
    · have h := it_t hc h
      exact J142 _ _ _ _ _ h hW (lv_sub hl [3, 4] rfl)
    · have h := it_f hc h
      refine lv_aload_n (pc := 83) hx hb (dd dX3_isLessTurnedRound_p0 49 rfl) rfl (lv_at hl 0 rfl) ?_
      refine rGet (pc := 84) M hW 0 0 iU3 rfl rfl (by decide) (uw1 239 rfl rfl) rfl (dd dX3_isLessTurnedRound_p0 50 rfl) ?_
      refine rGet (pc := 87) M hW 1 1 iU2 rfl rfl (by decide) (uw1 215 rfl rfl) rfl (dd dX3_isLessTurnedRound_p0 51 rfl) ?_
      refine lv_iload_n (pc := 90) hx hb (dd dX3_isLessTurnedRound_p0 52 rfl) rfl (lv_at hl 2 rfl) ?_
      refine lv_iconst (pc := 91) (v := 1) hx hb (dd dX3_isLessTurnedRound_p0 53 rfl) (by decide) ?_
      refine lv_iadd (pc := 92) hx hb (dd dX3_isLessTurnedRound_p0 54 rfl) ?_
      obtain ⟨hi, h⟩ := ck_ex h
      refine rIald (pc := 93) M hW 3 rfl hi (dd dX3_isLessTurnedRound_p0 55 rfl) ?_
      obtain ⟨v5_94, ev5_94, h⟩ := nm_ex h
      refine rTopi (pc := 94) ev5_94 ?_
      refine lv_istore (pc := 94) (lv' := [(5, .int v5_94), (0, .ref a_t), (1, .int v1), (2, .int v2), (3, .int v3), (4, .int v4)]) hx hb (dd dX3_isLessTurnedRound_p0 56 rfl) hl (by decide) rfl (fun ls hl => ?_)
      refine lv_iload_n (pc := 96) hx hb (dd dX3_isLessTurnedRound_p0 57 rfl) rfl (lv_at hl 4 rfl) ?_
      refine lv_aload_n (pc := 97) hx hb (dd dX3_isLessTurnedRound_p0 58 rfl) rfl (lv_at hl 1 rfl) ?_
      refine rGet (pc := 98) M hW 0 1 iU3 rfl rfl (by decide) (uw2 0 rfl rfl) rfl (dd dX3_isLessTurnedRound_p0 59 rfl) ?_
      refine lv_aload_n (pc := 101) hx hb (dd dX3_isLessTurnedRound_p1 0 rfl) rfl (lv_at hl 1 rfl) ?_
      refine rGet (pc := 102) M hW 0 0 iU3 rfl rfl (by decide) (uw1 239 rfl rfl) rfl (dd dX3_isLessTurnedRound_p1 1 rfl) ?_
      refine rGet (pc := 105) M hW 1 1 iU2 rfl rfl (by decide) (uw1 215 rfl rfl) rfl (dd dX3_isLessTurnedRound_p1 2 rfl) ?_
      refine lv_iload_n (pc := 108) hx hb (dd dX3_isLessTurnedRound_p1 3 rfl) rfl (lv_at hl 3 rfl) ?_
      obtain ⟨hi, h⟩ := ck_ex h
      refine rIald (pc := 109) M hW 3 rfl hi (dd dX3_isLessTurnedRound_p1 4 rfl) ?_
      refine lv_iconst (pc := 110) (v := 1) hx hb (dd dX3_isLessTurnedRound_p1 5 rfl) (by decide) ?_
      refine lv_ixor (pc := 111) hx hb (dd dX3_isLessTurnedRound_p1 6 rfl) ?_
      refine lv_iload (pc := 112) hx hb (dd dX3_isLessTurnedRound_p1 7 rfl) (lv_at hl 0 rfl) ?_
      obtain ⟨r_114, hr, h⟩ := bnd_ex h
      refine callVI (pc := 114) (na := 2) (As := [.int ((ag c_plan_numbers v2) ^^^ 1), .int v5_94]) (rest := [.int v3]) (ws2 := (w_X3_isLessTurnedRound g a_t a_plan a_turns a_plan_numbers a_turns_lengths a_rests a_turns_ways a_turns_rows a_turns_known c_plan_there c_plan_size c_plan_numbers c_turns_lengths)) M hl.1 hW (t_X7_length l g a_turns a_turns_lengths a_turns_ways a_turns_rows a_turns_known c_turns_lengths ((ag c_plan_numbers v2) ^^^ 1) v5_94 r_114 hr) rfl [2, 4] [0, 1, 3] [0, 1, 3, 2, 4] rfl rfl rfl rfl rfl rfl rfl 2 7 rfl rfl rfl (uw4 19 rfl rfl) (uw4 53 rfl rfl) (uw4 17 rfl rfl) (uw4 18 rfl rfl) (uw1 8 rfl rfl) ⟨by decide, by decide, by decide⟩ rfl ⟨by decide, by decide⟩ (Nat.le_of_ble_eq_true rfl) ⟨Nat.zero_le _, Nat.zero_le _⟩ (dd dX3_isLessTurnedRound_p1 8 rfl) (fun H locs hW => ?_)
      refine lv_iadd (pc := 117) hx hb (dd dX3_isLessTurnedRound_p1 9 rfl) ?_
      obtain ⟨v3_118, ev3_118, h⟩ := nm_ex h
      refine rTopi (pc := 118) ev3_118 ?_
      refine lv_istore_n (pc := 118) (lv' := [(3, .int v3_118), (5, .int v5_94), (0, .ref a_t), (1, .int v1), (2, .int v2), (4, .int v4)]) hx hb (dd dX3_isLessTurnedRound_p1 10 rfl) rfl hl (by decide) rfl (fun ls hl => ?_)
      refine lv_iload (pc := 119) hx hb (dd dX3_isLessTurnedRound_p1 11 rfl) (lv_at hl 5 rfl) ?_
      refine lv_aload_n (pc := 121) hx hb (dd dX3_isLessTurnedRound_p1 12 rfl) rfl (lv_at hl 2 rfl) ?_
      refine rGet (pc := 122) M hW 0 1 iU3 rfl rfl (by decide) (uw2 0 rfl rfl) rfl (dd dX3_isLessTurnedRound_p1 13 rfl) ?_
      refine lv_aload_n (pc := 125) hx hb (dd dX3_isLessTurnedRound_p1 14 rfl) rfl (lv_at hl 2 rfl) ?_
      refine rGet (pc := 126) M hW 0 0 iU3 rfl rfl (by decide) (uw1 239 rfl rfl) rfl (dd dX3_isLessTurnedRound_p1 15 rfl) ?_
      refine rGet (pc := 129) M hW 1 1 iU2 rfl rfl (by decide) (uw1 215 rfl rfl) rfl (dd dX3_isLessTurnedRound_p1 16 rfl) ?_
      refine lv_iload_n (pc := 132) hx hb (dd dX3_isLessTurnedRound_p1 17 rfl) rfl (lv_at hl 3 rfl) ?_
      obtain ⟨hi, h⟩ := ck_ex h
      refine rIald (pc := 133) M hW 3 rfl hi (dd dX3_isLessTurnedRound_p1 18 rfl) ?_
      refine lv_iload (pc := 134) hx hb (dd dX3_isLessTurnedRound_p1 19 rfl) (lv_at hl 1 rfl) ?_
      obtain ⟨r_136, hr, h⟩ := bnd_ex h
      refine callVI (pc := 136) (na := 2) (As := [.int (ag c_plan_numbers v1), .int v5_94]) (rest := [.int v4]) (ws2 := (w_X3_isLessTurnedRound g a_t a_plan a_turns a_plan_numbers a_turns_lengths a_rests a_turns_ways a_turns_rows a_turns_known c_plan_there c_plan_size c_plan_numbers c_turns_lengths)) M hl.1 hW (t_X7_length l g a_turns a_turns_lengths a_turns_ways a_turns_rows a_turns_known c_turns_lengths (ag c_plan_numbers v1) v5_94 r_136 hr) rfl [2, 4] [0, 1, 3] [0, 1, 3, 2, 4] rfl rfl rfl rfl rfl rfl rfl 2 7 rfl rfl rfl (uw4 19 rfl rfl) (uw4 53 rfl rfl) (uw4 17 rfl rfl) (uw4 18 rfl rfl) (uw1 8 rfl rfl) ⟨by decide, by decide, by decide⟩ rfl ⟨by decide, by decide⟩ (Nat.le_of_ble_eq_true rfl) ⟨Nat.zero_le _, Nat.zero_le _⟩ (dd dX3_isLessTurnedRound_p1 20 rfl) (fun H locs hW => ?_)
      refine lv_iadd (pc := 139) hx hb (dd dX3_isLessTurnedRound_p1 21 rfl) ?_
      obtain ⟨v4_140, ev4_140, h⟩ := nm_ex h
      refine rTopi (pc := 140) ev4_140 ?_
      refine lv_istore (pc := 140) (lv' := [(4, .int v4_140), (3, .int v3_118), (5, .int v5_94), (0, .ref a_t), (1, .int v1), (2, .int v2)]) hx hb (dd dX3_isLessTurnedRound_p1 22 rfl) hl (by decide) rfl (fun ls hl => ?_)
      exact J142 _ _ _ _ _ h hW (lv_sub hl [1, 0] rfl)
  refine lv_iconst (pc := 0) (v := 0) hx hb (dd dX3_isLessTurnedRound_p0 0 rfl) (by decide) ?_
  refine lv_istore_n (pc := 1) (lv' := [(3, .int 0), (0, .ref a_t), (1, .int v1), (2, .int v2)]) hx hb (dd dX3_isLessTurnedRound_p0 1 rfl) rfl hl (by decide) rfl (fun ls hl => ?_)
  refine lv_iconst (pc := 2) (v := 0) hx hb (dd dX3_isLessTurnedRound_p0 2 rfl) (by decide) ?_
  refine lv_istore (pc := 3) (lv' := [(4, .int 0), (3, .int 0), (0, .ref a_t), (1, .int v1), (2, .int v2)]) hx hb (dd dX3_isLessTurnedRound_p0 3 rfl) hl (by decide) rfl (fun ls hl => ?_)
  refine lv_iload_n (pc := 5) hx hb (dd dX3_isLessTurnedRound_p0 4 rfl) rfl (lv_at hl 3 rfl) ?_
  refine lv_if_le (pc := 6) (tgt := 70) hx hb (dd dX3_isLessTurnedRound_p0 5 rfl) (by decide) (fun hc => ?_) (fun hc => ?_)
  · have h := it_t hc h
    exact J70 _ _ _ _ _ h hW (lv_sub hl [2, 3, 4, 1, 0] rfl)
  · have h := it_f hc h
    refine lv_aload_n (pc := 9) hx hb (dd dX3_isLessTurnedRound_p0 6 rfl) rfl (lv_at hl 2 rfl) ?_
    refine rGet (pc := 10) M hW 0 0 iU3 rfl rfl (by decide) (uw1 239 rfl rfl) rfl (dd dX3_isLessTurnedRound_p0 7 rfl) ?_
    refine rGet (pc := 13) M hW 1 1 iU2 rfl rfl (by decide) (uw1 215 rfl rfl) rfl (dd dX3_isLessTurnedRound_p0 8 rfl) ?_
    refine lv_iload_n (pc := 16) hx hb (dd dX3_isLessTurnedRound_p0 9 rfl) rfl (lv_at hl 3 rfl) ?_
    refine lv_iconst (pc := 17) (v := 1) hx hb (dd dX3_isLessTurnedRound_p0 10 rfl) (by decide) ?_
    refine lv_isub (pc := 18) hx hb (dd dX3_isLessTurnedRound_p0 11 rfl) ?_
    obtain ⟨hi, h⟩ := ck_ex h
    refine rIald (pc := 19) M hW 3 rfl hi (dd dX3_isLessTurnedRound_p0 12 rfl) ?_
    refine lv_iconst (pc := 20) (v := 1) hx hb (dd dX3_isLessTurnedRound_p0 13 rfl) (by decide) ?_
    refine lv_ixor (pc := 21) hx hb (dd dX3_isLessTurnedRound_p0 14 rfl) ?_
    obtain ⟨v5_22, ev5_22, h⟩ := nm_ex h
    refine rTopi (pc := 22) ev5_22 ?_
    refine lv_istore (pc := 22) (lv' := [(5, .int v5_22), (4, .int 0), (3, .int 0), (0, .ref a_t), (1, .int v1), (2, .int v2)]) hx hb (dd dX3_isLessTurnedRound_p0 15 rfl) hl (by decide) rfl (fun ls hl => ?_)
    refine lv_iload_n (pc := 24) hx hb (dd dX3_isLessTurnedRound_p0 16 rfl) rfl (lv_at hl 2 rfl) ?_
    refine lv_aload_n (pc := 25) hx hb (dd dX3_isLessTurnedRound_p0 17 rfl) rfl (lv_at hl 3 rfl) ?_
    refine rGet (pc := 26) M hW 0 1 iU3 rfl rfl (by decide) (uw2 0 rfl rfl) rfl (dd dX3_isLessTurnedRound_p0 18 rfl) ?_
    refine lv_iload (pc := 29) hx hb (dd dX3_isLessTurnedRound_p0 19 rfl) (lv_at hl 0 rfl) ?_
    refine lv_aload_n (pc := 31) hx hb (dd dX3_isLessTurnedRound_p0 20 rfl) rfl (lv_at hl 3 rfl) ?_
    refine rGet (pc := 32) M hW 0 0 iU3 rfl rfl (by decide) (uw1 239 rfl rfl) rfl (dd dX3_isLessTurnedRound_p0 21 rfl) ?_
    refine rGet (pc := 35) M hW 1 1 iU2 rfl rfl (by decide) (uw1 215 rfl rfl) rfl (dd dX3_isLessTurnedRound_p0 22 rfl) ?_
    refine lv_iload_n (pc := 38) hx hb (dd dX3_isLessTurnedRound_p0 23 rfl) rfl (lv_at hl 4 rfl) ?_
    obtain ⟨hi, h⟩ := ck_ex h
    refine rIald (pc := 39) M hW 3 rfl hi (dd dX3_isLessTurnedRound_p0 24 rfl) ?_
    obtain ⟨r_40, hr, h⟩ := bnd_ex h
    refine callVI (pc := 40) (na := 2) (As := [.int v5_22, .int (ag c_plan_numbers v1)]) (rest := [.int 0]) (ws2 := (w_X3_isLessTurnedRound g a_t a_plan a_turns a_plan_numbers a_turns_lengths a_rests a_turns_ways a_turns_rows a_turns_known c_plan_there c_plan_size c_plan_numbers c_turns_lengths)) M hl.1 hW (t_X7_length l g a_turns a_turns_lengths a_turns_ways a_turns_rows a_turns_known c_turns_lengths v5_22 (ag c_plan_numbers v1) r_40 hr) rfl [2, 4] [0, 1, 3] [0, 1, 3, 2, 4] rfl rfl rfl rfl rfl rfl rfl 2 7 rfl rfl rfl (uw4 19 rfl rfl) (uw4 53 rfl rfl) (uw4 17 rfl rfl) (uw4 18 rfl rfl) (uw1 8 rfl rfl) ⟨by decide, by decide, by decide⟩ rfl ⟨by decide, by decide⟩ (Nat.le_of_ble_eq_true rfl) ⟨Nat.zero_le _, Nat.zero_le _⟩ (dd dX3_isLessTurnedRound_p0 25 rfl) (fun H locs hW => ?_)
    refine lv_iadd (pc := 43) hx hb (dd dX3_isLessTurnedRound_p0 26 rfl) ?_
    obtain ⟨v3_44, ev3_44, h⟩ := nm_ex h
    refine rTopi (pc := 44) ev3_44 ?_
    refine lv_istore_n (pc := 44) (lv' := [(3, .int v3_44), (5, .int v5_22), (4, .int 0), (0, .ref a_t), (1, .int v1), (2, .int v2)]) hx hb (dd dX3_isLessTurnedRound_p0 27 rfl) rfl hl (by decide) rfl (fun ls hl => ?_)
    refine lv_iload (pc := 45) hx hb (dd dX3_isLessTurnedRound_p0 28 rfl) (lv_at hl 2 rfl) ?_
    refine lv_aload_n (pc := 47) hx hb (dd dX3_isLessTurnedRound_p0 29 rfl) rfl (lv_at hl 3 rfl) ?_
    refine rGet (pc := 48) M hW 0 1 iU3 rfl rfl (by decide) (uw2 0 rfl rfl) rfl (dd dX3_isLessTurnedRound_p0 30 rfl) ?_
    refine lv_iload (pc := 51) hx hb (dd dX3_isLessTurnedRound_p0 31 rfl) (lv_at hl 1 rfl) ?_
    refine lv_aload_n (pc := 53) hx hb (dd dX3_isLessTurnedRound_p0 32 rfl) rfl (lv_at hl 3 rfl) ?_
    refine rGet (pc := 54) M hW 0 0 iU3 rfl rfl (by decide) (uw1 239 rfl rfl) rfl (dd dX3_isLessTurnedRound_p0 33 rfl) ?_
    refine rGet (pc := 57) M hW 1 1 iU2 rfl rfl (by decide) (uw1 215 rfl rfl) rfl (dd dX3_isLessTurnedRound_p0 34 rfl) ?_
    refine lv_iload_n (pc := 60) hx hb (dd dX3_isLessTurnedRound_p0 35 rfl) rfl (lv_at hl 5 rfl) ?_
    obtain ⟨hi, h⟩ := ck_ex h
    refine rIald (pc := 61) M hW 3 rfl hi (dd dX3_isLessTurnedRound_p0 36 rfl) ?_
    refine lv_iconst (pc := 62) (v := 1) hx hb (dd dX3_isLessTurnedRound_p0 37 rfl) (by decide) ?_
    refine lv_ixor (pc := 63) hx hb (dd dX3_isLessTurnedRound_p0 38 rfl) ?_
    obtain ⟨r_64, hr, h⟩ := bnd_ex h
    refine callVI (pc := 64) (na := 2) (As := [.int v5_22, .int ((ag c_plan_numbers v2) ^^^ 1)]) (rest := [.int 0]) (ws2 := (w_X3_isLessTurnedRound g a_t a_plan a_turns a_plan_numbers a_turns_lengths a_rests a_turns_ways a_turns_rows a_turns_known c_plan_there c_plan_size c_plan_numbers c_turns_lengths)) M hl.1 hW (t_X7_length l g a_turns a_turns_lengths a_turns_ways a_turns_rows a_turns_known c_turns_lengths v5_22 ((ag c_plan_numbers v2) ^^^ 1) r_64 hr) rfl [2, 4] [0, 1, 3] [0, 1, 3, 2, 4] rfl rfl rfl rfl rfl rfl rfl 2 7 rfl rfl rfl (uw4 19 rfl rfl) (uw4 53 rfl rfl) (uw4 17 rfl rfl) (uw4 18 rfl rfl) (uw1 8 rfl rfl) ⟨by decide, by decide, by decide⟩ rfl ⟨by decide, by decide⟩ (Nat.le_of_ble_eq_true rfl) ⟨Nat.zero_le _, Nat.zero_le _⟩ (dd dX3_isLessTurnedRound_p0 39 rfl) (fun H locs hW => ?_)
    refine lv_iadd (pc := 67) hx hb (dd dX3_isLessTurnedRound_p0 40 rfl) ?_
    obtain ⟨v4_68, ev4_68, h⟩ := nm_ex h
    refine rTopi (pc := 68) ev4_68 ?_
    refine lv_istore (pc := 68) (lv' := [(4, .int v4_68), (3, .int v3_44), (5, .int v5_22), (0, .ref a_t), (1, .int v1), (2, .int v2)]) hx hb (dd dX3_isLessTurnedRound_p0 41 rfl) hl (by decide) rfl (fun ls hl => ?_)
    exact J70 _ _ _ _ _ h hW (lv_sub hl [3, 4, 5, 1, 0] rfl)
abbrev w_X2_turnRound (g : G9) (a_t a_numbers a_turns : Nat) (c_there c_size : Int32) (c_numbers : Ar) : va_W := [ob a_t 2 [.ref a_turns, .ref a_numbers, .int c_there, .int c_size], ia g a_numbers 60 c_numbers]
noncomputable def X2_turnRound_L5 (c_numbers : Ar) (v3 v4 : Int32) : Option ((Ar × Int32 × Int32) ⊕ Ar) :=
  if v4 < v3 then (some (.inr c_numbers)) else (ck (ix v3 60) <| nm (((ag c_numbers v3) ^^^ 1)) fun v5_19 => ck (ix v4 60) <| ck (ix v3 60) <| nm (au c_numbers v3 ((ag c_numbers v4) ^^^ 1)) fun c_numbers_35 => ck (ix v4 60) <| nm (au c_numbers_35 v4 v5_19) fun c_numbers_44 => nm (v3 + 1) fun v3_45 => nm (v4 + (-1)) fun v4_48 => some (.inl (c_numbers_44, v3_45, v4_48)))
noncomputable def X2_turnRound (c_numbers : Ar) (v1 v2 : Int32) : Option Ar :=
  bnd (whileV (fun st => X2_turnRound_L5  st.1 st.2.1 st.2.2) (c_numbers, v1, v2)) <| (fun c_numbers_54 => some c_numbers_54)
set_option maxHeartbeats 4000000 in
set_option maxRecDepth 100000 in
theorem t_X2_turnRound (l : Launch) (g : G9) (a_t a_numbers a_turns : Nat) (c_there c_size : Int32) (c_numbers : Ar) (v1 v2 : Int32) (o_numbers : Ar) (h : X2_turnRound c_numbers v1 v2 = some o_numbers) : CtV l g yX2_turnRound cX2_turnRound 6 0 0 [.ref a_t, .int v1, .int v2] (w_X2_turnRound g a_t a_numbers a_turns c_there c_size c_numbers) (w_X2_turnRound g a_t a_numbers a_turns c_there c_size o_numbers) := by
  refine startV (by decide) (Nat.le_of_ble_eq_true rfl) ?_
  intro p e s m below meth c A Q ls args M hW hl ret
  have hx := M.1
  have hb := M.2.1
  have hown := M.2.2.2.1
  have hu := M.2.2.2.2.1
  have hl : lv_has ls 6 [(0, .ref a_t), (1, .int v1), (2, .int v2)] := hl
  unfold X2_turnRound at h
  obtain ⟨H, eH⟩ : ∃ z, z = s.heap := ⟨_, rfl⟩
  obtain ⟨locs, eL⟩ : ∃ z, z = ([] : List Loc) := ⟨_, rfl⟩
  rw [← eL] at hW ⊢
  suffices hS9 : WD g s A (w_X2_turnRound g a_t a_numbers a_turns c_there c_size c_numbers) H locs → W p l e (rm9 0 0) s m args below meth c H locs 0 0 Q (F0 m 0 ls []) by
    rw [← eH] at hW ⊢
    exact hS9 hW
  clear hW eH eL
  intro hW
  refine lv_iload_n (pc := 0) hx hb (dd dX2_turnRound 0 rfl) rfl (lv_at hl 1 rfl) ?_
  refine lv_istore_n (pc := 1) (lv' := [(3, .int v1), (0, .ref a_t), (1, .int v1), (2, .int v2)]) hx hb (dd dX2_turnRound 1 rfl) rfl hl (by decide) rfl (fun ls hl => ?_)
  refine lv_iload_n (pc := 2) hx hb (dd dX2_turnRound 2 rfl) rfl (lv_at hl 3 rfl) ?_
  refine lv_istore (pc := 3) (lv' := [(4, .int v2), (3, .int v1), (0, .ref a_t), (1, .int v1), (2, .int v2)]) hx hb (dd dX2_turnRound 3 rfl) hl (by decide) rfl (fun ls hl => ?_)
  obtain ⟨ex, hw, h⟩ := bnd_ex h
  refine loopW (fun st => ∀ (H : Heap) (locs : List Loc) (ls : Array Slot), WD g s A (w_X2_turnRound g a_t a_numbers a_turns c_there c_size (st.1)) H locs → lv_has ls 6 [(0, .ref a_t), (3, .int (st.2.1)), (4, .int (st.2.2))] → W p l e (rm9 0 0) s m args below meth c H locs 0 0 Q (F0 m 5 ls [])) (fun (ex : Ar) => ∀ (H : Heap) (locs : List Loc) (ls : Array Slot), WD g s A (w_X2_turnRound g a_t a_numbers a_turns c_there c_size ex) H locs → lv_has ls 6 [] → W p l e (rm9 0 0) s m args below meth c H locs 0 0 Q (F0 m 54 ls [])) ?_ hw ?_ H locs ls hW (lv_sub hl [2, 1, 0] rfl)
  · rintro ⟨c_numbers, v3, v4⟩ o hb9 hk H locs ls hW hl
    have h : X2_turnRound_L5  c_numbers v3 v4 = some o := hb9
    clear hb9
    unfold X2_turnRound_L5 at h
    refine lv_iload_n (pc := 5) hx hb (dd dX2_turnRound 4 rfl) rfl (lv_at hl 1 rfl) ?_
    refine lv_iload (pc := 6) hx hb (dd dX2_turnRound 5 rfl) (lv_at hl 2 rfl) ?_
    refine lv_icmp_gt (pc := 8) (tgt := 54) hx hb (dd dX2_turnRound 6 rfl) (by decide) (fun hc => ?_) (fun hc => ?_)
    · have h := it_t hc h
      obtain rfl := Option.some.inj h
      exact hk _ _ _ hW (lv_sub hl [] rfl)
    · have h := it_f hc h
      refine lv_aload_n (pc := 11) hx hb (dd dX2_turnRound 7 rfl) rfl (lv_at hl 0 rfl) ?_
      refine rGet (pc := 12) M hW 0 1 iU2 rfl rfl (by decide) (uw1 213 rfl rfl) rfl (dd dX2_turnRound 8 rfl) ?_
      refine lv_iload_n (pc := 15) hx hb (dd dX2_turnRound 9 rfl) rfl (lv_at hl 1 rfl) ?_
      obtain ⟨hi, h⟩ := ck_ex h
      refine rIald (pc := 16) M hW 1 rfl hi (dd dX2_turnRound 10 rfl) ?_
      refine lv_iconst (pc := 17) (v := 1) hx hb (dd dX2_turnRound 11 rfl) (by decide) ?_
      refine lv_ixor (pc := 18) hx hb (dd dX2_turnRound 12 rfl) ?_
      obtain ⟨v5_19, ev5_19, h⟩ := nm_ex h
      refine rTopi (pc := 19) ev5_19 ?_
      refine lv_istore (pc := 19) (lv' := [(5, .int v5_19), (0, .ref a_t), (3, .int v3), (4, .int v4)]) hx hb (dd dX2_turnRound 13 rfl) hl (by decide) rfl (fun ls hl => ?_)
      refine lv_aload_n (pc := 21) hx hb (dd dX2_turnRound 14 rfl) rfl (lv_at hl 1 rfl) ?_
      refine rGet (pc := 22) M hW 0 1 iU2 rfl rfl (by decide) (uw1 213 rfl rfl) rfl (dd dX2_turnRound 15 rfl) ?_
      refine lv_iload_n (pc := 25) hx hb (dd dX2_turnRound 16 rfl) rfl (lv_at hl 2 rfl) ?_
      refine lv_aload_n (pc := 26) hx hb (dd dX2_turnRound 17 rfl) rfl (lv_at hl 1 rfl) ?_
      refine rGet (pc := 27) M hW 0 1 iU2 rfl rfl (by decide) (uw1 213 rfl rfl) rfl (dd dX2_turnRound 18 rfl) ?_
      refine lv_iload (pc := 30) hx hb (dd dX2_turnRound 19 rfl) (lv_at hl 3 rfl) ?_
      obtain ⟨hi, h⟩ := ck_ex h
      refine rIald (pc := 32) M hW 1 rfl hi (dd dX2_turnRound 20 rfl) ?_
      refine lv_iconst (pc := 33) (v := 1) hx hb (dd dX2_turnRound 21 rfl) (by decide) ?_
      refine lv_ixor (pc := 34) hx hb (dd dX2_turnRound 22 rfl) ?_
      obtain ⟨hi, h⟩ := ck_ex h
      obtain ⟨c_numbers_35, ec_numbers_35, h⟩ := nm_ex h
      refine rIast (pc := 35) M hW 1 rfl hi ec_numbers_35 (ws' := (w_X2_turnRound g a_t a_numbers a_turns c_there c_size c_numbers_35)) rfl (dd dX2_turnRound 23 rfl) (fun H locs hW => ?_)
      refine lv_aload_n (pc := 36) hx hb (dd dX2_turnRound 24 rfl) rfl (lv_at hl 1 rfl) ?_
      refine rGet (pc := 37) M hW 0 1 iU2 rfl rfl (by decide) (uw1 213 rfl rfl) rfl (dd dX2_turnRound 25 rfl) ?_
      refine lv_iload (pc := 40) hx hb (dd dX2_turnRound 26 rfl) (lv_at hl 3 rfl) ?_
      refine lv_iload (pc := 42) hx hb (dd dX2_turnRound 27 rfl) (lv_at hl 0 rfl) ?_
      obtain ⟨hi, h⟩ := ck_ex h
      obtain ⟨c_numbers_44, ec_numbers_44, h⟩ := nm_ex h
      refine rIast (pc := 44) M hW 1 rfl hi ec_numbers_44 (ws' := (w_X2_turnRound g a_t a_numbers a_turns c_there c_size c_numbers_44)) rfl (dd dX2_turnRound 28 rfl) (fun H locs hW => ?_)
      obtain ⟨v3_45, ev3_45, h⟩ := nm_ex h
      refine lv_iinc (pc := 45) (v := v3_45) (lv' := [(3, .int v3_45), (5, .int v5_19), (0, .ref a_t), (4, .int v4)]) hx hb (dd dX2_turnRound 29 rfl) hl (k := 2) rfl (by rw [ev3_45]; rfl) (by decide) rfl (fun ls hl => ?_)
      obtain ⟨v4_48, ev4_48, h⟩ := nm_ex h
      refine lv_iinc (pc := 48) (v := v4_48) (lv' := [(4, .int v4_48), (3, .int v3_45), (5, .int v5_19), (0, .ref a_t)]) hx hb (dd dX2_turnRound 30 rfl) hl (k := 3) rfl (by rw [ev4_48]; rfl) (by decide) rfl (fun ls hl => ?_)
      refine lv_goto (pc := 51) (tgt := 5) hx hb (dd dX2_turnRound 31 rfl) (by decide) ?_
      obtain rfl := Option.some.inj h
      exact hk _ _ _ hW (lv_sub hl [3, 1, 0] rfl)
  · obtain ⟨c_numbers_54, e9⟩ : ∃ z, z = ex := ⟨_, rfl⟩
    subst e9
    intro H locs ls hW hl
    have hW9 := hW
    cases h
    exact ret _ _ _ 54 hW9 (dd dX2_turnRound 32 rfl)
abbrev w_X3_turnFirstRound (g : G9) (a_t a_plan a_turns a_plan_numbers a_turns_lengths a_rests a_turns_ways a_turns_rows a_turns_known : Nat) (c_plan_there c_plan_size : Int32) (c_plan_numbers c_turns_lengths : Ar) : va_W := [ob a_t 3 [.ref a_plan, .ref a_turns, .ref a_rests], ob a_plan 2 [.ref a_turns, .ref a_plan_numbers, .int c_plan_there, .int c_plan_size], ob a_turns 7 [.ref a_turns_ways, .ref a_turns_rows, .ref a_turns_lengths, .ref a_turns_known], ia g a_plan_numbers 60 c_plan_numbers, ia g a_turns_lengths 14400 c_turns_lengths]
noncomputable def X3_turnFirstRound_L15 (c_plan_size : Int32) (c_plan_numbers c_turns_lengths : Ar) (v1 v2 : Int32) : Option (Int32 ⊕ (Unit ⊕ Int32)) :=
  if c_plan_size ≤ v2 then (some (.inr (.inl ()))) else (bnd (X3_isLessTurnedRound c_plan_size c_plan_numbers c_turns_lengths v1 v2) <| fun r_29 => if r_29 = 0 then (nm (v2 + 1) fun v2_46 => some (.inl v2_46)) else (some (.inr (.inr (v2)))))
noncomputable def X3_turnFirstRound_L2 (c_plan_size : Int32) (c_plan_numbers c_turns_lengths : Ar) (v1 : Int32) : Option (Int32 ⊕ (Unit ⊕ (Int32 × Int32))) :=
  if c_plan_size ≤ v1 then (some (.inr (.inl ()))) else (bnd (whileV (fun st => X3_turnFirstRound_L15 c_plan_size c_plan_numbers c_turns_lengths v1 st) v1) <| (Sum.elim (fun (_ : Unit) => nm (v1 + 1) fun v1_52 => some (.inl v1_52)) (fun v2_35 => some (.inr (.inr ((v1, v2_35)))))))
noncomputable def X3_turnFirstRound (c_plan_size : Int32) (c_plan_numbers c_turns_lengths : Ar) : Option (Int32 × Ar) :=
  bnd (whileV (fun st => X3_turnFirstRound_L2 c_plan_size c_plan_numbers c_turns_lengths st) 0) <| (Sum.elim (fun (_ : Unit) => some (0, c_plan_numbers)) (un2 fun v1_35 v2_35 => bnd (X2_turnRound c_plan_numbers v1_35 v2_35) <| fun c_plan_numbers_41 => some (1, c_plan_numbers_41)))
set_option maxHeartbeats 4000000 in
set_option maxRecDepth 100000 in
theorem t_X3_turnFirstRound (l : Launch) (g : G9) (a_t a_plan a_turns a_plan_numbers a_turns_lengths a_rests a_turns_ways a_turns_rows a_turns_known : Nat) (c_plan_there c_plan_size : Int32) (c_plan_numbers c_turns_lengths : Ar) (r0 : Int32) (o_plan_numbers : Ar) (h : X3_turnFirstRound c_plan_size c_plan_numbers c_turns_lengths = some (r0, o_plan_numbers)) : CtI l g yX3_turnFirstRound cX3_turnFirstRound 3 .boolean 2 47 [.ref a_t] (w_X3_turnFirstRound g a_t a_plan a_turns a_plan_numbers a_turns_lengths a_rests a_turns_ways a_turns_rows a_turns_known c_plan_there c_plan_size c_plan_numbers c_turns_lengths) r0 (w_X3_turnFirstRound g a_t a_plan a_turns a_plan_numbers a_turns_lengths a_rests a_turns_ways a_turns_rows a_turns_known c_plan_there c_plan_size o_plan_numbers c_turns_lengths) := by
  refine startI (by decide) (Nat.le_of_ble_eq_true rfl) ?_
  intro p e s m below meth c A Q ls args M hW hl ret
  have hx := M.1
  have hb := M.2.1
  have hown := M.2.2.2.1
  have hu := M.2.2.2.2.1
  have hl : lv_has ls 3 [(0, .ref a_t)] := hl
  unfold X3_turnFirstRound at h
  obtain ⟨H, eH⟩ : ∃ z, z = s.heap := ⟨_, rfl⟩
  obtain ⟨locs, eL⟩ : ∃ z, z = ([] : List Loc) := ⟨_, rfl⟩
  rw [← eL] at hW ⊢
  suffices hS9 : WD g s A (w_X3_turnFirstRound g a_t a_plan a_turns a_plan_numbers a_turns_lengths a_rests a_turns_ways a_turns_rows a_turns_known c_plan_there c_plan_size c_plan_numbers c_turns_lengths) H locs → W p l e (rm9 2 47) s m args below meth c H locs 0 0 Q (F0 m 0 ls []) by
    rw [← eH] at hW ⊢
    exact hS9 hW
  clear hW eH eL
  intro hW
  refine lv_iconst (pc := 0) (v := 0) hx hb (dd dX3_turnFirstRound 0 rfl) (by decide) ?_
  refine lv_istore_n (pc := 1) (lv' := [(1, .int 0), (0, .ref a_t)]) hx hb (dd dX3_turnFirstRound 1 rfl) rfl hl (by decide) rfl (fun ls hl => ?_)
  obtain ⟨ex, hw, h⟩ := bnd_ex h
  refine loopW (fun st => ∀ (H : Heap) (locs : List Loc) (ls : Array Slot), WD g s A (w_X3_turnFirstRound g a_t a_plan a_turns a_plan_numbers a_turns_lengths a_rests a_turns_ways a_turns_rows a_turns_known c_plan_there c_plan_size c_plan_numbers c_turns_lengths) H locs → lv_has ls 3 [(0, .ref a_t), (1, .int st)] → W p l e (rm9 2 47) s m args below meth c H locs 0 0 Q (F0 m 2 ls [])) (Sum.elim (fun (ex : Unit) => ∀ (H : Heap) (locs : List Loc) (ls : Array Slot), WD g s A (w_X3_turnFirstRound g a_t a_plan a_turns a_plan_numbers a_turns_lengths a_rests a_turns_ways a_turns_rows a_turns_known c_plan_there c_plan_size c_plan_numbers c_turns_lengths) H locs → lv_has ls 3 [] → W p l e (rm9 2 47) s m args below meth c H locs 0 0 Q (F0 m 58 ls [])) (fun (ex : (Int32 × Int32)) => ∀ (H : Heap) (locs : List Loc) (ls : Array Slot), WD g s A (w_X3_turnFirstRound g a_t a_plan a_turns a_plan_numbers a_turns_lengths a_rests a_turns_ways a_turns_rows a_turns_known c_plan_there c_plan_size c_plan_numbers c_turns_lengths) H locs → lv_has ls 3 [(0, .ref a_t), (1, .int (ex.1)), (2, .int (ex.2))] → W p l e (rm9 2 47) s m args below meth c H locs 0 0 Q (F0 m 35 ls []))) ?_ hw ?_ H locs ls hW (lv_sub hl [1, 0] rfl)
  · rintro v1 o hb9 hk H locs ls hW hl
    have h : X3_turnFirstRound_L2 c_plan_size c_plan_numbers c_turns_lengths v1 = some o := hb9
    clear hb9
    unfold X3_turnFirstRound_L2 at h
    refine lv_iload_n (pc := 2) hx hb (dd dX3_turnFirstRound 2 rfl) rfl (lv_at hl 1 rfl) ?_
    refine lv_aload_n (pc := 3) hx hb (dd dX3_turnFirstRound 3 rfl) rfl (lv_at hl 0 rfl) ?_
    refine rGet (pc := 4) M hW 0 0 iU3 rfl rfl (by decide) (uw1 239 rfl rfl) rfl (dd dX3_turnFirstRound 4 rfl) ?_
    refine rGet (pc := 7) M hW 1 3 iU2 rfl rfl (by decide) (uw1 222 rfl rfl) rfl (dd dX3_turnFirstRound 5 rfl) ?_
    refine lv_icmp_ge (pc := 10) (tgt := 58) hx hb (dd dX3_turnFirstRound 6 rfl) (by decide) (fun hc => ?_) (fun hc => ?_)
    · have h := it_t hc h
      obtain rfl := Option.some.inj h
      exact hk _ _ _ hW (lv_sub hl [] rfl)
    · have h := it_f hc h
      refine lv_iload_n (pc := 13) hx hb (dd dX3_turnFirstRound 7 rfl) rfl (lv_at hl 1 rfl) ?_
      refine lv_istore_n (pc := 14) (lv' := [(2, .int v1), (0, .ref a_t), (1, .int v1)]) hx hb (dd dX3_turnFirstRound 8 rfl) rfl hl (by decide) rfl (fun ls hl => ?_)
      obtain ⟨ex, hw, h⟩ := bnd_ex h
      refine loopW (fun st => ∀ (H : Heap) (locs : List Loc) (ls : Array Slot), WD g s A (w_X3_turnFirstRound g a_t a_plan a_turns a_plan_numbers a_turns_lengths a_rests a_turns_ways a_turns_rows a_turns_known c_plan_there c_plan_size c_plan_numbers c_turns_lengths) H locs → lv_has ls 3 [(0, .ref a_t), (1, .int v1), (2, .int st)] → W p l e (rm9 2 47) s m args below meth c H locs 0 0 Q (F0 m 15 ls [])) (Sum.elim (fun (ex : Unit) => ∀ (H : Heap) (locs : List Loc) (ls : Array Slot), WD g s A (w_X3_turnFirstRound g a_t a_plan a_turns a_plan_numbers a_turns_lengths a_rests a_turns_ways a_turns_rows a_turns_known c_plan_there c_plan_size c_plan_numbers c_turns_lengths) H locs → lv_has ls 3 [(0, .ref a_t), (1, .int v1)] → W p l e (rm9 2 47) s m args below meth c H locs 0 0 Q (F0 m 52 ls [])) (fun (ex : Int32) => ∀ (H : Heap) (locs : List Loc) (ls : Array Slot), WD g s A (w_X3_turnFirstRound g a_t a_plan a_turns a_plan_numbers a_turns_lengths a_rests a_turns_ways a_turns_rows a_turns_known c_plan_there c_plan_size c_plan_numbers c_turns_lengths) H locs → lv_has ls 3 [(0, .ref a_t), (1, .int v1), (2, .int ex)] → W p l e (rm9 2 47) s m args below meth c H locs 0 0 Q (F0 m 35 ls []))) ?_ hw ?_ H locs ls hW (lv_sub hl [1, 2, 0] rfl)
      · rintro v2 o hb9 hk H locs ls hW hl
        have h : X3_turnFirstRound_L15 c_plan_size c_plan_numbers c_turns_lengths v1 v2 = some o := hb9
        clear hb9
        unfold X3_turnFirstRound_L15 at h
        refine lv_iload_n (pc := 15) hx hb (dd dX3_turnFirstRound 9 rfl) rfl (lv_at hl 2 rfl) ?_
        refine lv_aload_n (pc := 16) hx hb (dd dX3_turnFirstRound 10 rfl) rfl (lv_at hl 0 rfl) ?_
        refine rGet (pc := 17) M hW 0 0 iU3 rfl rfl (by decide) (uw1 239 rfl rfl) rfl (dd dX3_turnFirstRound 11 rfl) ?_
        refine rGet (pc := 20) M hW 1 3 iU2 rfl rfl (by decide) (uw1 222 rfl rfl) rfl (dd dX3_turnFirstRound 12 rfl) ?_
        refine lv_icmp_ge (pc := 23) (tgt := 52) hx hb (dd dX3_turnFirstRound 13 rfl) (by decide) (fun hc => ?_) (fun hc => ?_)
        · have h := it_t hc h
          obtain rfl := Option.some.inj h
          exact hk _ _ _ hW (lv_sub hl [0, 1] rfl)
        · have h := it_f hc h
          refine lv_aload_n (pc := 26) hx hb (dd dX3_turnFirstRound 14 rfl) rfl (lv_at hl 0 rfl) ?_
          refine lv_iload_n (pc := 27) hx hb (dd dX3_turnFirstRound 15 rfl) rfl (lv_at hl 1 rfl) ?_
          refine lv_iload_n (pc := 28) hx hb (dd dX3_turnFirstRound 16 rfl) rfl (lv_at hl 2 rfl) ?_
          obtain ⟨r_29, hr, h⟩ := bnd_ex h
          refine callVI (pc := 29) (na := 2) (As := [.int v1, .int v2]) (rest := []) (ws2 := (w_X3_turnFirstRound g a_t a_plan a_turns a_plan_numbers a_turns_lengths a_rests a_turns_ways a_turns_rows a_turns_known c_plan_there c_plan_size c_plan_numbers c_turns_lengths)) M hl.1 hW (t_X3_isLessTurnedRound l g a_t a_plan a_turns a_plan_numbers a_turns_lengths a_rests a_turns_ways a_turns_rows a_turns_known c_plan_there c_plan_size c_plan_numbers c_turns_lengths v1 v2 r_29 hr) rfl [0, 1, 2, 3, 4] [] [0, 1, 2, 3, 4] rfl rfl rfl rfl rfl rfl rfl 0 3 rfl rfl rfl (uw4 81 rfl rfl) (uw4 78 rfl rfl) (uw4 80 rfl rfl) (uwp 33 rfl rfl) (uw1 10 rfl rfl) ⟨by decide, by decide, by decide⟩ rfl ⟨by decide, by decide⟩ (Nat.le_of_ble_eq_true rfl) ⟨Nat.zero_le _, Nat.zero_le _⟩ (dd dX3_turnFirstRound 17 rfl) (fun H locs hW => ?_)
          refine lv_if_eq (pc := 32) (tgt := 46) hx hb (dd dX3_turnFirstRound 18 rfl) (by decide) (fun hc => ?_) (fun hc => ?_)
          · have h := it_t hc h
            obtain ⟨v2_46, ev2_46, h⟩ := nm_ex h
            refine lv_iinc (pc := 46) (v := v2_46) (lv' := [(2, .int v2_46), (0, .ref a_t), (1, .int v1)]) hx hb (dd dX3_turnFirstRound 26 rfl) hl (k := 2) rfl (by rw [ev2_46]; rfl) (by decide) rfl (fun ls hl => ?_)
            refine lv_goto (pc := 49) (tgt := 15) hx hb (dd dX3_turnFirstRound 27 rfl) (by decide) ?_
            obtain rfl := Option.some.inj h
            exact hk _ _ _ hW (lv_sub hl [1, 2, 0] rfl)
          · have h := it_f hc h
            obtain rfl := Option.some.inj h
            exact hk _ _ _ hW (lv_sub hl [0, 1, 2] rfl)
      · rcases ex with _ | v2_35
        · intro H locs ls hW hl
          have h := sE_l h
          obtain ⟨v1_52, ev1_52, h⟩ := nm_ex h
          refine lv_iinc (pc := 52) (v := v1_52) (lv' := [(1, .int v1_52), (0, .ref a_t)]) hx hb (dd dX3_turnFirstRound 28 rfl) hl (k := 1) rfl (by rw [ev1_52]; rfl) (by decide) rfl (fun ls hl => ?_)
          refine lv_goto (pc := 55) (tgt := 2) hx hb (dd dX3_turnFirstRound 29 rfl) (by decide) ?_
          obtain rfl := Option.some.inj h
          exact hk _ _ _ hW (lv_sub hl [1, 0] rfl)
        · intro H locs ls hW hl
          have h := sE_r h
          obtain rfl := Option.some.inj h
          exact hk _ _ _ hW (lv_sub hl [0, 1, 2] rfl)
  · rcases ex with _ | ⟨v1_35, v2_35⟩
    · intro H locs ls hW hl
      have h := sE_l h
      refine lv_iconst (pc := 58) (v := 0) hx hb (dd dX3_turnFirstRound 30 rfl) (by decide) ?_
      have hW9 := hW
      cases h
      exact ret _ _ _ 59 hW9 rfl (dd dX3_turnFirstRound 31 rfl)
    · intro H locs ls hW hl
      have h := sE_r h
      have h := un2_at h
      refine lv_aload_n (pc := 35) hx hb (dd dX3_turnFirstRound 19 rfl) rfl (lv_at hl 0 rfl) ?_
      refine rGet (pc := 36) M hW 0 0 iU3 rfl rfl (by decide) (uw1 239 rfl rfl) rfl (dd dX3_turnFirstRound 20 rfl) ?_
      refine lv_iload_n (pc := 39) hx hb (dd dX3_turnFirstRound 21 rfl) rfl (lv_at hl 1 rfl) ?_
      refine lv_iload_n (pc := 40) hx hb (dd dX3_turnFirstRound 22 rfl) rfl (lv_at hl 2 rfl) ?_
      obtain ⟨c_plan_numbers_41, hr, h⟩ := bnd_ex h
      refine callVV (pc := 41) (na := 2) (As := [.int v1_35, .int v2_35]) (rest := []) (ws2 := (w_X3_turnFirstRound g a_t a_plan a_turns a_plan_numbers a_turns_lengths a_rests a_turns_ways a_turns_rows a_turns_known c_plan_there c_plan_size c_plan_numbers_41 c_turns_lengths)) M hl.1 hW (t_X2_turnRound l g a_plan a_plan_numbers a_turns c_plan_there c_plan_size c_plan_numbers v1_35 v2_35 c_plan_numbers_41 hr) rfl [1, 3] [0, 2, 4] [0, 3, 1, 4, 2] rfl rfl rfl rfl rfl rfl rfl 1 2 rfl rfl rfl (uw4 85 rfl rfl) (uw4 82 rfl rfl) (uw4 83 rfl rfl) (uw4 84 rfl rfl) (uw1 9 rfl rfl) ⟨by decide, by decide, by decide⟩ rfl ⟨by decide, by decide⟩ (Nat.le_of_ble_eq_true rfl) ⟨Nat.zero_le _, Nat.zero_le _⟩ (dd dX3_turnFirstRound 23 rfl) (fun H locs hW => ?_)
      refine lv_iconst (pc := 44) (v := 1) hx hb (dd dX3_turnFirstRound 24 rfl) (by decide) ?_
      have hW9 := hW
      cases h
      exact ret _ _ _ 45 hW9 rfl (dd dX3_turnFirstRound 25 rfl)
abbrev w_X3_improve (g : G9) (a_t a_plan a_turns a_plan_numbers a_turns_lengths a_rests a_turns_ways a_turns_rows a_turns_known : Nat) (c_plan_there c_plan_size : Int32) (c_plan_numbers c_turns_lengths : Ar) : va_W := [ob a_t 3 [.ref a_plan, .ref a_turns, .ref a_rests], ob a_plan 2 [.ref a_turns, .ref a_plan_numbers, .int c_plan_there, .int c_plan_size], ob a_turns 7 [.ref a_turns_ways, .ref a_turns_rows, .ref a_turns_lengths, .ref a_turns_known], ia g a_plan_numbers 60 c_plan_numbers, ia g a_turns_lengths 14400 c_turns_lengths]
noncomputable def X3_improve_L4 (c_plan_size : Int32) (c_turns_lengths c_plan_numbers : Ar) (v1 v2 : Int32) : Option ((Ar × Int32 × Int32) ⊕ Ar) :=
  if 1000000 ≤ v2 then (some (.inr c_plan_numbers)) else (if v1 = 0 then (some (.inr c_plan_numbers)) else (bnd (X3_turnFirstRound c_plan_size c_plan_numbers c_turns_lengths) <| un2 fun r_15 c_plan_numbers_15 => nm (v2 + 1) fun v2_19 => some (.inl (c_plan_numbers_15, r_15, v2_19))))
noncomputable def X3_improve (c_plan_size : Int32) (c_plan_numbers c_turns_lengths : Ar) : Option Ar :=
  bnd (whileV (fun st => X3_improve_L4 c_plan_size c_turns_lengths st.1 st.2.1 st.2.2) (c_plan_numbers, 1, 0)) <| (fun c_plan_numbers_25 => some c_plan_numbers_25)
set_option maxHeartbeats 4000000 in
set_option maxRecDepth 100000 in
theorem t_X3_improve (l : Launch) (g : G9) (a_t a_plan a_turns a_plan_numbers a_turns_lengths a_rests a_turns_ways a_turns_rows a_turns_known : Nat) (c_plan_there c_plan_size : Int32) (c_plan_numbers c_turns_lengths o_plan_numbers : Ar) (h : X3_improve c_plan_size c_plan_numbers c_turns_lengths = some o_plan_numbers) : CtV l g yX3_improve cX3_improve 3 3 69 [.ref a_t] (w_X3_improve g a_t a_plan a_turns a_plan_numbers a_turns_lengths a_rests a_turns_ways a_turns_rows a_turns_known c_plan_there c_plan_size c_plan_numbers c_turns_lengths) (w_X3_improve g a_t a_plan a_turns a_plan_numbers a_turns_lengths a_rests a_turns_ways a_turns_rows a_turns_known c_plan_there c_plan_size o_plan_numbers c_turns_lengths) := by
  refine startV (by decide) (Nat.le_of_ble_eq_true rfl) ?_
  intro p e s m below meth c A Q ls args M hW hl ret
  have hx := M.1
  have hb := M.2.1
  have hown := M.2.2.2.1
  have hu := M.2.2.2.2.1
  have hl : lv_has ls 3 [(0, .ref a_t)] := hl
  unfold X3_improve at h
  obtain ⟨H, eH⟩ : ∃ z, z = s.heap := ⟨_, rfl⟩
  obtain ⟨locs, eL⟩ : ∃ z, z = ([] : List Loc) := ⟨_, rfl⟩
  rw [← eL] at hW ⊢
  suffices hS9 : WD g s A (w_X3_improve g a_t a_plan a_turns a_plan_numbers a_turns_lengths a_rests a_turns_ways a_turns_rows a_turns_known c_plan_there c_plan_size c_plan_numbers c_turns_lengths) H locs → W p l e (rm9 3 69) s m args below meth c H locs 0 0 Q (F0 m 0 ls []) by
    rw [← eH] at hW ⊢
    exact hS9 hW
  clear hW eH eL
  intro hW
  refine lv_iconst (pc := 0) (v := 1) hx hb (dd dX3_improve 0 rfl) (by decide) ?_
  refine lv_istore_n (pc := 1) (lv' := [(1, .int 1), (0, .ref a_t)]) hx hb (dd dX3_improve 1 rfl) rfl hl (by decide) rfl (fun ls hl => ?_)
  refine lv_iconst (pc := 2) (v := 0) hx hb (dd dX3_improve 2 rfl) (by decide) ?_
  refine lv_istore_n (pc := 3) (lv' := [(2, .int 0), (1, .int 1), (0, .ref a_t)]) hx hb (dd dX3_improve 3 rfl) rfl hl (by decide) rfl (fun ls hl => ?_)
  obtain ⟨ex, hw, h⟩ := bnd_ex h
  refine loopW (fun st => ∀ (H : Heap) (locs : List Loc) (ls : Array Slot), WD g s A (w_X3_improve g a_t a_plan a_turns a_plan_numbers a_turns_lengths a_rests a_turns_ways a_turns_rows a_turns_known c_plan_there c_plan_size (st.1) c_turns_lengths) H locs → lv_has ls 3 [(0, .ref a_t), (1, .int (st.2.1)), (2, .int (st.2.2))] → W p l e (rm9 3 69) s m args below meth c H locs 0 0 Q (F0 m 4 ls [])) (fun (ex : Ar) => ∀ (H : Heap) (locs : List Loc) (ls : Array Slot), WD g s A (w_X3_improve g a_t a_plan a_turns a_plan_numbers a_turns_lengths a_rests a_turns_ways a_turns_rows a_turns_known c_plan_there c_plan_size ex c_turns_lengths) H locs → lv_has ls 3 [] → W p l e (rm9 3 69) s m args below meth c H locs 0 0 Q (F0 m 25 ls [])) ?_ hw ?_ H locs ls hW (lv_sub hl [2, 1, 0] rfl)
  · rintro ⟨c_plan_numbers, v1, v2⟩ o hb9 hk H locs ls hW hl
    have h : X3_improve_L4 c_plan_size c_turns_lengths c_plan_numbers v1 v2 = some o := hb9
    clear hb9
    unfold X3_improve_L4 at h
    refine lv_iload_n (pc := 4) hx hb (dd dX3_improve 4 rfl) rfl (lv_at hl 2 rfl) ?_
    refine lv_ldc (pc := 5) (v := 1000000) hx hb hown (hu _ (uw4 48 rfl rfl)) (dd dX3_improve 5 rfl) ?_
    refine lv_icmp_ge (pc := 7) (tgt := 25) hx hb (dd dX3_improve 6 rfl) (by decide) (fun hc => ?_) (fun hc => ?_)
    · have h := it_t hc h
      obtain rfl := Option.some.inj h
      exact hk _ _ _ hW (lv_sub hl [] rfl)
    · have h := it_f hc h
      refine lv_iload_n (pc := 10) hx hb (dd dX3_improve 7 rfl) rfl (lv_at hl 1 rfl) ?_
      refine lv_if_eq (pc := 11) (tgt := 25) hx hb (dd dX3_improve 8 rfl) (by decide) (fun hc => ?_) (fun hc => ?_)
      · have h := it_t hc h
        obtain rfl := Option.some.inj h
        exact hk _ _ _ hW (lv_sub hl [] rfl)
      · have h := it_f hc h
        refine lv_aload_n (pc := 14) hx hb (dd dX3_improve 9 rfl) rfl (lv_at hl 0 rfl) ?_
        obtain ⟨⟨r_15, c_plan_numbers_15⟩, hr, h⟩ := bnd_ex h
        have h := un2_at h
        refine callVI (pc := 15) (na := 0) (As := []) (rest := []) (ws2 := (w_X3_improve g a_t a_plan a_turns a_plan_numbers a_turns_lengths a_rests a_turns_ways a_turns_rows a_turns_known c_plan_there c_plan_size c_plan_numbers_15 c_turns_lengths)) M hl.1 hW (t_X3_turnFirstRound l g a_t a_plan a_turns a_plan_numbers a_turns_lengths a_rests a_turns_ways a_turns_rows a_turns_known c_plan_there c_plan_size c_plan_numbers c_turns_lengths r_15 c_plan_numbers_15 hr) rfl [0, 1, 2, 3, 4] [] [0, 1, 2, 3, 4] rfl rfl rfl rfl rfl rfl rfl 0 3 rfl rfl rfl (uw4 77 rfl rfl) (uw4 74 rfl rfl) (uw4 76 rfl rfl) (uwp 32 rfl rfl) (uw1 10 rfl rfl) ⟨by decide, by decide, by decide⟩ rfl ⟨by decide, by decide⟩ (Nat.le_of_ble_eq_true rfl) ⟨Nat.zero_le _, Nat.zero_le _⟩ (dd dX3_improve 10 rfl) (fun H locs hW => ?_)
        refine lv_istore_n (pc := 18) (lv' := [(1, .int r_15), (0, .ref a_t), (2, .int v2)]) hx hb (dd dX3_improve 11 rfl) rfl hl (by decide) rfl (fun ls hl => ?_)
        obtain ⟨v2_19, ev2_19, h⟩ := nm_ex h
        refine lv_iinc (pc := 19) (v := v2_19) (lv' := [(2, .int v2_19), (1, .int r_15), (0, .ref a_t)]) hx hb (dd dX3_improve 12 rfl) hl (k := 2) rfl (by rw [ev2_19]; rfl) (by decide) rfl (fun ls hl => ?_)
        refine lv_goto (pc := 22) (tgt := 4) hx hb (dd dX3_improve 13 rfl) (by decide) ?_
        obtain rfl := Option.some.inj h
        exact hk _ _ _ hW (lv_sub hl [2, 1, 0] rfl)
  · obtain ⟨c_plan_numbers_25, e9⟩ : ∃ z, z = ex := ⟨_, rfl⟩
    subst e9
    intro H locs ls hW hl
    have hW9 := hW
    cases h
    exact ret _ _ _ 25 hW9 (dd dX3_improve 14 rfl)
abbrev w_X3_restThrough (g : G9) (a_t a_rests a_turns a_turns_lengths a_plan a_turns_ways a_turns_rows a_turns_known : Nat) (c_rests c_turns_lengths : Ar) : va_W := [ob a_t 3 [.ref a_plan, .ref a_turns, .ref a_rests], ia g a_rests 9216 c_rests, ob a_turns 7 [.ref a_turns_ways, .ref a_turns_rows, .ref a_turns_lengths, .ref a_turns_known], ia g a_turns_lengths 14400 c_turns_lengths]
noncomputable def X3_restThrough_b20 (c_rests : Ar) (v1 v3 k0 : Int32) : Option Int32 :=
  ck (ix ((18 * (v1 ||| ((1 : Int32) <<< ((v3 / 2) &&& 31)))) + v3) 9216) <| some (k0 + (ag c_rests ((18 * (v1 ||| ((1 : Int32) <<< ((v3 / 2) &&& 31)))) + v3)))
noncomputable def X3_restThrough (c_rests c_turns_lengths : Ar) (v1 v2 v3 : Int32) : Option Int32 :=
  if v2 = (-1) then (X3_restThrough_b20 c_rests v1 v3 0) else (bnd (X7_length c_turns_lengths (v2 ^^^ 1) v3) <| fun r_17 => X3_restThrough_b20 c_rests v1 v3 r_17)
set_option maxHeartbeats 4000000 in
set_option maxRecDepth 100000 in
theorem t_X3_restThrough (l : Launch) (g : G9) (a_t a_rests a_turns a_turns_lengths a_plan a_turns_ways a_turns_rows a_turns_known : Nat) (c_rests c_turns_lengths : Ar) (v1 v2 v3 r0 : Int32) (h : X3_restThrough c_rests c_turns_lengths v1 v2 v3 = some r0) : CtI l g yX3_restThrough cX3_restThrough 5 .int 1 22 [.ref a_t, .int v1, .int v2, .int v3] (w_X3_restThrough g a_t a_rests a_turns a_turns_lengths a_plan a_turns_ways a_turns_rows a_turns_known c_rests c_turns_lengths) r0 (w_X3_restThrough g a_t a_rests a_turns a_turns_lengths a_plan a_turns_ways a_turns_rows a_turns_known c_rests c_turns_lengths) := by
  refine startI (by decide) (Nat.le_of_ble_eq_true rfl) ?_
  intro p e s m below meth c A Q ls args M hW hl ret
  have hx := M.1
  have hb := M.2.1
  have hown := M.2.2.2.1
  have hu := M.2.2.2.2.1
  have hl : lv_has ls 5 [(0, .ref a_t), (1, .int v1), (2, .int v2), (3, .int v3)] := hl
  unfold X3_restThrough at h
  obtain ⟨H, eH⟩ : ∃ z, z = s.heap := ⟨_, rfl⟩
  obtain ⟨locs, eL⟩ : ∃ z, z = ([] : List Loc) := ⟨_, rfl⟩
  rw [← eL] at hW ⊢
  suffices hS9 : WD g s A (w_X3_restThrough g a_t a_rests a_turns a_turns_lengths a_plan a_turns_ways a_turns_rows a_turns_known c_rests c_turns_lengths) H locs → W p l e (rm9 1 22) s m args below meth c H locs 0 0 Q (F0 m 0 ls []) by
    rw [← eH] at hW ⊢
    exact hS9 hW
  clear hW eH eL
  intro hW
  have J20 : ∀ (k0 : Int32) (H : Heap) (locs : List Loc) (ls : Array Slot), X3_restThrough_b20 c_rests v1 v3 k0 = some r0 → WD g s A (w_X3_restThrough g a_t a_rests a_turns a_turns_lengths a_plan a_turns_ways a_turns_rows a_turns_known c_rests c_turns_lengths) H locs → lv_has ls 5 [(0, .ref a_t), (1, .int v1), (3, .int v3)] → W p l e (rm9 1 22) s m args below meth c H locs 0 0 Q (F0 m 20 ls [.int k0]) := by
    intro k0 H locs ls h hW hl
    unfold X3_restThrough_b20 at h
    refine lv_istore (pc := 20) (lv' := [(4, .int k0), (0, .ref a_t), (1, .int v1), (3, .int v3)]) hx hb (dd dX3_restThrough 12 rfl) hl (by decide) rfl (fun ls hl => ?_)
    refine lv_iload (pc := 22) hx hb (dd dX3_restThrough 13 rfl) (lv_at hl 0 rfl) ?_
    refine lv_aload_n (pc := 24) hx hb (dd dX3_restThrough 14 rfl) rfl (lv_at hl 1 rfl) ?_
    refine rGet (pc := 25) M hW 0 2 iU3 rfl rfl (by decide) (uw2 1 rfl rfl) rfl (dd dX3_restThrough 15 rfl) ?_
    refine lv_bipush (pc := 28) (v := 18) hx hb (dd dX3_restThrough 16 rfl) (by decide) ?_
    refine lv_iload_n (pc := 30) hx hb (dd dX3_restThrough 17 rfl) rfl (lv_at hl 2 rfl) ?_
    refine lv_iconst (pc := 31) (v := 1) hx hb (dd dX3_restThrough 18 rfl) (by decide) ?_
    refine lv_iload_n (pc := 32) hx hb (dd dX3_restThrough 19 rfl) rfl (lv_at hl 3 rfl) ?_
    refine lv_iconst (pc := 33) (v := 2) hx hb (dd dX3_restThrough 20 rfl) (by decide) ?_
    refine lv_idiv (pc := 34) hx hb (dd dX3_restThrough 21 rfl) (by decide) ?_
    refine lv_ishl (pc := 35) hx hb (dd dX3_restThrough 22 rfl) ?_
    refine lv_ior (pc := 36) hx hb (dd dX3_restThrough 23 rfl) ?_
    refine lv_imul (pc := 37) hx hb (dd dX3_restThrough 24 rfl) ?_
    refine lv_iload_n (pc := 38) hx hb (dd dX3_restThrough 25 rfl) rfl (lv_at hl 3 rfl) ?_
    refine lv_iadd (pc := 39) hx hb (dd dX3_restThrough 26 rfl) ?_
    obtain ⟨hi, h⟩ := ck_ex h
    refine rIald (pc := 40) M hW 1 rfl hi (dd dX3_restThrough 27 rfl) ?_
    refine lv_iadd (pc := 41) hx hb (dd dX3_restThrough 28 rfl) ?_
    have hW9 := hW
    cases h
    exact ret _ _ _ 42 hW9 rfl (dd dX3_restThrough 29 rfl)
  refine lv_iload_n (pc := 0) hx hb (dd dX3_restThrough 0 rfl) rfl (lv_at hl 2 rfl) ?_
  refine lv_iconst (pc := 1) (v := (-1)) hx hb (dd dX3_restThrough 1 rfl) (by decide) ?_
  refine lv_icmp_ne (pc := 2) (tgt := 9) hx hb (dd dX3_restThrough 2 rfl) (by decide) (fun hc => ?_) (fun hc => ?_)
  · have h := it_f hc h
    refine lv_aload_n (pc := 9) hx hb (dd dX3_restThrough 5 rfl) rfl (lv_at hl 0 rfl) ?_
    refine rGet (pc := 10) M hW 0 1 iU3 rfl rfl (by decide) (uw2 0 rfl rfl) rfl (dd dX3_restThrough 6 rfl) ?_
    refine lv_iload_n (pc := 13) hx hb (dd dX3_restThrough 7 rfl) rfl (lv_at hl 2 rfl) ?_
    refine lv_iconst (pc := 14) (v := 1) hx hb (dd dX3_restThrough 8 rfl) (by decide) ?_
    refine lv_ixor (pc := 15) hx hb (dd dX3_restThrough 9 rfl) ?_
    refine lv_iload_n (pc := 16) hx hb (dd dX3_restThrough 10 rfl) rfl (lv_at hl 3 rfl) ?_
    obtain ⟨r_17, hr, h⟩ := bnd_ex h
    refine callVI (pc := 17) (na := 2) (As := [.int (v2 ^^^ 1), .int v3]) (rest := []) (ws2 := (w_X3_restThrough g a_t a_rests a_turns a_turns_lengths a_plan a_turns_ways a_turns_rows a_turns_known c_rests c_turns_lengths)) M hl.1 hW (t_X7_length l g a_turns a_turns_lengths a_turns_ways a_turns_rows a_turns_known c_turns_lengths (v2 ^^^ 1) v3 r_17 hr) rfl [2, 3] [0, 1] [0, 1, 2, 3] rfl rfl rfl rfl rfl rfl rfl 2 7 rfl rfl rfl (uw4 19 rfl rfl) (uw4 53 rfl rfl) (uw4 17 rfl rfl) (uw4 18 rfl rfl) (uw1 8 rfl rfl) ⟨by decide, by decide, by decide⟩ rfl ⟨by decide, by decide⟩ (Nat.le_of_ble_eq_true rfl) ⟨Nat.zero_le _, Nat.zero_le _⟩ (dd dX3_restThrough 11 rfl) (fun H locs hW => ?_)
    exact J20 _ _ _ _ h hW (lv_sub hl [0, 1, 3] rfl)
  · have h := it_t hc h
    refine lv_iconst (pc := 5) (v := 0) hx hb (dd dX3_restThrough 3 rfl) (by decide) ?_
    refine lv_goto (pc := 6) (tgt := 20) hx hb (dd dX3_restThrough 4 rfl) (by decide) ?_
    exact J20 _ _ _ _ h hW (lv_sub hl [0, 1, 3] rfl)
abbrev w_X3_firstOfFew (g : G9) (a_t a_rests a_turns a_turns_lengths a_plan a_turns_ways a_turns_rows a_turns_known : Nat) (c_rests c_turns_lengths : Ar) : va_W := [ob a_t 3 [.ref a_plan, .ref a_turns, .ref a_rests], ia g a_rests 9216 c_rests, ob a_turns 7 [.ref a_turns_ways, .ref a_turns_rows, .ref a_turns_lengths, .ref a_turns_known], ia g a_turns_lengths 14400 c_turns_lengths]
noncomputable def X3_firstOfFew_b10_53 (v1 v2 v3 v4 v5 v6 : Int32) : Option ((Int32 × Int32 × Int32) ⊕ Int32) :=
  nm (v6 + 1) fun v6_53 => some (.inl (v4, v5, v6_53))
noncomputable def X3_firstOfFew_L10 (c_rests c_turns_lengths : Ar) (v1 v2 v3 v4 v5 v6 : Int32) : Option ((Int32 × Int32 × Int32) ⊕ Int32) :=
  if (2 * v1) ≤ v6 then (some (.inr v4)) else (bnd (X3_isDone (Int32.toInt64 v2) v6) <| fun r_22 => if r_22 = 0 then (bnd (X3_restThrough c_rests c_turns_lengths v2 v3 v6) <| fun r_33 => if v5 ≤ r_33 then (X3_firstOfFew_b10_53 v1 v2 v3 v4 v5 v6) else (X3_firstOfFew_b10_53 v1 v2 v3 v6 r_33 v6)) else (X3_firstOfFew_b10_53 v1 v2 v3 v4 v5 v6))
noncomputable def X3_firstOfFew (c_rests c_turns_lengths : Ar) (v1 v2 v3 : Int32) : Option Int32 :=
  bnd (whileV (fun st => X3_firstOfFew_L10 c_rests c_turns_lengths v1 v2 v3 st.1 st.2.1 st.2.2) ((-1), 1000000, 0)) <| (fun v4_59 => some v4_59)
set_option maxHeartbeats 4000000 in
set_option maxRecDepth 100000 in
theorem t_X3_firstOfFew (l : Launch) (g : G9) (a_t a_rests a_turns a_turns_lengths a_plan a_turns_ways a_turns_rows a_turns_known : Nat) (c_rests c_turns_lengths : Ar) (v1 v2 v3 r0 : Int32) (h : X3_firstOfFew c_rests c_turns_lengths v1 v2 v3 = some r0) : CtI l g yX3_firstOfFew cX3_firstOfFew 8 .int 2 46 [.ref a_t, .int v1, .int v2, .int v3] (w_X3_firstOfFew g a_t a_rests a_turns a_turns_lengths a_plan a_turns_ways a_turns_rows a_turns_known c_rests c_turns_lengths) r0 (w_X3_firstOfFew g a_t a_rests a_turns a_turns_lengths a_plan a_turns_ways a_turns_rows a_turns_known c_rests c_turns_lengths) := by
  refine startI (by decide) (Nat.le_of_ble_eq_true rfl) ?_
  intro p e s m below meth c A Q ls args M hW hl ret
  have hx := M.1
  have hb := M.2.1
  have hown := M.2.2.2.1
  have hu := M.2.2.2.2.1
  have hl : lv_has ls 8 [(0, .ref a_t), (1, .int v1), (2, .int v2), (3, .int v3)] := hl
  unfold X3_firstOfFew at h
  obtain ⟨H, eH⟩ : ∃ z, z = s.heap := ⟨_, rfl⟩
  obtain ⟨locs, eL⟩ : ∃ z, z = ([] : List Loc) := ⟨_, rfl⟩
  rw [← eL] at hW ⊢
  suffices hS9 : WD g s A (w_X3_firstOfFew g a_t a_rests a_turns a_turns_lengths a_plan a_turns_ways a_turns_rows a_turns_known c_rests c_turns_lengths) H locs → W p l e (rm9 2 46) s m args below meth c H locs 0 0 Q (F0 m 0 ls []) by
    rw [← eH] at hW ⊢
    exact hS9 hW
  clear hW eH eL
  intro hW
  refine lv_iconst (pc := 0) (v := (-1)) hx hb (dd dX3_firstOfFew 0 rfl) (by decide) ?_
  refine lv_istore (pc := 1) (lv' := [(4, .int (-1)), (0, .ref a_t), (1, .int v1), (2, .int v2), (3, .int v3)]) hx hb (dd dX3_firstOfFew 1 rfl) hl (by decide) rfl (fun ls hl => ?_)
  refine lv_ldc (pc := 3) (v := 1000000) hx hb hown (hu _ (uw4 48 rfl rfl)) (dd dX3_firstOfFew 2 rfl) ?_
  refine lv_istore (pc := 5) (lv' := [(5, .int 1000000), (4, .int (-1)), (0, .ref a_t), (1, .int v1), (2, .int v2), (3, .int v3)]) hx hb (dd dX3_firstOfFew 3 rfl) hl (by decide) rfl (fun ls hl => ?_)
  refine lv_iconst (pc := 7) (v := 0) hx hb (dd dX3_firstOfFew 4 rfl) (by decide) ?_
  refine lv_istore (pc := 8) (lv' := [(6, .int 0), (5, .int 1000000), (4, .int (-1)), (0, .ref a_t), (1, .int v1), (2, .int v2), (3, .int v3)]) hx hb (dd dX3_firstOfFew 5 rfl) hl (by decide) rfl (fun ls hl => ?_)
  obtain ⟨ex, hw, h⟩ := bnd_ex h
  refine loopW (fun st => ∀ (H : Heap) (locs : List Loc) (ls : Array Slot), WD g s A (w_X3_firstOfFew g a_t a_rests a_turns a_turns_lengths a_plan a_turns_ways a_turns_rows a_turns_known c_rests c_turns_lengths) H locs → lv_has ls 8 [(0, .ref a_t), (1, .int v1), (2, .int v2), (3, .int v3), (4, .int (st.1)), (5, .int (st.2.1)), (6, .int (st.2.2))] → W p l e (rm9 2 46) s m args below meth c H locs 0 0 Q (F0 m 10 ls [])) (fun (ex : Int32) => ∀ (H : Heap) (locs : List Loc) (ls : Array Slot), WD g s A (w_X3_firstOfFew g a_t a_rests a_turns a_turns_lengths a_plan a_turns_ways a_turns_rows a_turns_known c_rests c_turns_lengths) H locs → lv_has ls 8 [(4, .int ex)] → W p l e (rm9 2 46) s m args below meth c H locs 0 0 Q (F0 m 59 ls [])) ?_ hw ?_ H locs ls hW (lv_sub hl [3, 4, 5, 6, 2, 1, 0] rfl)
  · rintro ⟨v4, v5, v6⟩ o hb9 hk H locs ls hW hl
    have h : X3_firstOfFew_L10 c_rests c_turns_lengths v1 v2 v3 v4 v5 v6 = some o := hb9
    clear hb9
    unfold X3_firstOfFew_L10 at h
    have J53 : ∀ (v4 v5 v6 : Int32) (H : Heap) (locs : List Loc) (ls : Array Slot), X3_firstOfFew_b10_53 v1 v2 v3 v4 v5 v6 = some o → WD g s A (w_X3_firstOfFew g a_t a_rests a_turns a_turns_lengths a_plan a_turns_ways a_turns_rows a_turns_known c_rests c_turns_lengths) H locs → lv_has ls 8 [(0, .ref a_t), (1, .int v1), (2, .int v2), (3, .int v3), (4, .int v4), (5, .int v5), (6, .int v6)] → W p l e (rm9 2 46) s m args below meth c H locs 0 0 Q (F0 m 53 ls []) := by
      intro v4 v5 v6 H locs ls h hW hl
      unfold X3_firstOfFew_b10_53 at h
      obtain ⟨v6_53, ev6_53, h⟩ := nm_ex h
      refine lv_iinc (pc := 53) (v := v6_53) (lv' := [(6, .int v6_53), (0, .ref a_t), (1, .int v1), (2, .int v2), (3, .int v3), (4, .int v4), (5, .int v5)]) hx hb (dd dX3_firstOfFew 29 rfl) hl (k := 6) rfl (by rw [ev6_53]; rfl) (by decide) rfl (fun ls hl => ?_)
      refine lv_goto (pc := 56) (tgt := 10) hx hb (dd dX3_firstOfFew 30 rfl) (by decide) ?_
      obtain rfl := Option.some.inj h
      exact hk _ _ _ hW (lv_sub hl [1, 2, 3, 4, 5, 6, 0] rfl)
    refine lv_iload (pc := 10) hx hb (dd dX3_firstOfFew 6 rfl) (lv_at hl 6 rfl) ?_
    refine lv_iconst (pc := 12) (v := 2) hx hb (dd dX3_firstOfFew 7 rfl) (by decide) ?_
    refine lv_iload_n (pc := 13) hx hb (dd dX3_firstOfFew 8 rfl) rfl (lv_at hl 1 rfl) ?_
    refine lv_imul (pc := 14) hx hb (dd dX3_firstOfFew 9 rfl) ?_
    refine lv_icmp_ge (pc := 15) (tgt := 59) hx hb (dd dX3_firstOfFew 10 rfl) (by decide) (fun hc => ?_) (fun hc => ?_)
    · have h := it_t hc h
      obtain rfl := Option.some.inj h
      exact hk _ _ _ hW (lv_sub hl [4] rfl)
    · have h := it_f hc h
      refine lv_iload_n (pc := 18) hx hb (dd dX3_firstOfFew 11 rfl) rfl (lv_at hl 2 rfl) ?_
      refine lv_i2l (pc := 19) hx hb (dd dX3_firstOfFew 12 rfl) rfl ?_
      refine lv_iload (pc := 20) hx hb (dd dX3_firstOfFew 13 rfl) (lv_at hl 6 rfl) ?_
      obtain ⟨r_22, hr, h⟩ := bnd_ex h
      refine callSI (pc := 22) (na := 2) (As := [.long (Int32.toInt64 v2), .int v6]) (rest := []) (ws2 := (w_X3_firstOfFew g a_t a_rests a_turns a_turns_lengths a_plan a_turns_ways a_turns_rows a_turns_known c_rests c_turns_lengths)) M hl.1 hW (t_X3_isDone l g (Int32.toInt64 v2) v6 r_22 hr) [] [0, 1, 2, 3] [0, 1, 2, 3] rfl rfl rfl rfl rfl rfl rfl (uw4 43 rfl rfl) (uw4 41 rfl rfl) (uw4 42 rfl rfl) (uw1 10 rfl rfl) ⟨by decide, by decide, by decide⟩ rfl ⟨by decide, by decide⟩ (Nat.le_of_ble_eq_true rfl) ⟨Nat.zero_le _, Nat.zero_le _⟩ (dd dX3_firstOfFew 14 rfl) (fun H locs hW => ?_)
      refine lv_if_ne (pc := 25) (tgt := 53) hx hb (dd dX3_firstOfFew 15 rfl) (by decide) (fun hc => ?_) (fun hc => ?_)
      · have h := it_f hc h
        exact J53 _ _ _ _ _ _ h hW (lv_sub hl [0, 1, 2, 3, 4, 5, 6] rfl)
      · have h := it_t hc h
        refine lv_aload_n (pc := 28) hx hb (dd dX3_firstOfFew 16 rfl) rfl (lv_at hl 0 rfl) ?_
        refine lv_iload_n (pc := 29) hx hb (dd dX3_firstOfFew 17 rfl) rfl (lv_at hl 2 rfl) ?_
        refine lv_iload_n (pc := 30) hx hb (dd dX3_firstOfFew 18 rfl) rfl (lv_at hl 3 rfl) ?_
        refine lv_iload (pc := 31) hx hb (dd dX3_firstOfFew 19 rfl) (lv_at hl 6 rfl) ?_
        obtain ⟨r_33, hr, h⟩ := bnd_ex h
        refine callVI (pc := 33) (na := 3) (As := [.int v2, .int v3, .int v6]) (rest := []) (ws2 := (w_X3_firstOfFew g a_t a_rests a_turns a_turns_lengths a_plan a_turns_ways a_turns_rows a_turns_known c_rests c_turns_lengths)) M hl.1 hW (t_X3_restThrough l g a_t a_rests a_turns a_turns_lengths a_plan a_turns_ways a_turns_rows a_turns_known c_rests c_turns_lengths v2 v3 v6 r_33 hr) rfl [0, 1, 2, 3] [] [0, 1, 2, 3] rfl rfl rfl rfl rfl rfl rfl 0 3 rfl rfl rfl (uw4 52 rfl rfl) (uw4 49 rfl rfl) (uw4 51 rfl rfl) (uwp 27 rfl rfl) (uw1 10 rfl rfl) ⟨by decide, by decide, by decide⟩ rfl ⟨by decide, by decide⟩ (Nat.le_of_ble_eq_true rfl) ⟨Nat.zero_le _, Nat.zero_le _⟩ (dd dX3_firstOfFew 20 rfl) (fun H locs hW => ?_)
        refine lv_istore (pc := 36) (lv' := [(7, .int r_33), (0, .ref a_t), (1, .int v1), (2, .int v2), (3, .int v3), (4, .int v4), (5, .int v5), (6, .int v6)]) hx hb (dd dX3_firstOfFew 21 rfl) hl (by decide) rfl (fun ls hl => ?_)
        refine lv_iload (pc := 38) hx hb (dd dX3_firstOfFew 22 rfl) (lv_at hl 0 rfl) ?_
        refine lv_iload (pc := 40) hx hb (dd dX3_firstOfFew 23 rfl) (lv_at hl 6 rfl) ?_
        refine lv_icmp_ge (pc := 42) (tgt := 53) hx hb (dd dX3_firstOfFew 24 rfl) (by decide) (fun hc => ?_) (fun hc => ?_)
        · have h := it_t hc h
          exact J53 _ _ _ _ _ _ h hW (lv_sub hl [1, 2, 3, 4, 5, 6, 7] rfl)
        · have h := it_f hc h
          refine lv_iload (pc := 45) hx hb (dd dX3_firstOfFew 25 rfl) (lv_at hl 0 rfl) ?_
          refine lv_istore (pc := 47) (lv' := [(5, .int r_33), (7, .int r_33), (0, .ref a_t), (1, .int v1), (2, .int v2), (3, .int v3), (4, .int v4), (6, .int v6)]) hx hb (dd dX3_firstOfFew 26 rfl) hl (by decide) rfl (fun ls hl => ?_)
          refine lv_iload (pc := 49) hx hb (dd dX3_firstOfFew 27 rfl) (lv_at hl 7 rfl) ?_
          refine lv_istore (pc := 51) (lv' := [(4, .int v6), (5, .int r_33), (7, .int r_33), (0, .ref a_t), (1, .int v1), (2, .int v2), (3, .int v3), (6, .int v6)]) hx hb (dd dX3_firstOfFew 28 rfl) hl (by decide) rfl (fun ls hl => ?_)
          exact J53 _ _ _ _ _ _ h hW (lv_sub hl [3, 4, 5, 6, 0, 1, 7] rfl)
  · obtain ⟨v4_59, e9⟩ : ∃ z, z = ex := ⟨_, rfl⟩
    subst e9
    intro H locs ls hW hl
    refine lv_iload (pc := 59) hx hb (dd dX3_firstOfFew 31 rfl) (lv_at hl 0 rfl) ?_
    have hW9 := hW
    cases h
    exact ret _ _ _ 61 hW9 rfl (dd dX3_firstOfFew 32 rfl)
abbrev w_X3_measureRests (g : G9) (a_t a_rests a_turns a_turns_lengths a_plan a_turns_ways a_turns_rows a_turns_known : Nat) (c_rests c_turns_lengths : Ar) : va_W := [ob a_t 3 [.ref a_plan, .ref a_turns, .ref a_rests], ia g a_rests 9216 c_rests, ob a_turns 7 [.ref a_turns_ways, .ref a_turns_rows, .ref a_turns_lengths, .ref a_turns_known], ia g a_turns_lengths 14400 c_turns_lengths]
noncomputable def X3_measureRests_b15_97 (c_rests : Ar) (v1 v2 v3 v4 : Int32) : Option ((Ar × Int32) ⊕ Ar) :=
  nm (v4 + 1) fun v4_97 => some (.inl (c_rests, v4_97))
noncomputable def X3_measureRests_b15_96 (c_rests : Ar) (v1 v2 v3 v4 k1 k2 : Int32) : Option ((Ar × Int32) ⊕ Ar) :=
  ck (ix k1 9216) <| nm (au c_rests k1 k2) fun c_rests_96 => X3_measureRests_b15_97 c_rests_96 v1 v2 v3 v4
noncomputable def X3_measureRests_b15_72 (c_rests : Ar) (v1 v2 v3 v4 k0 : Int32) : Option ((Ar × Int32) ⊕ Ar) :=
  if v3 = v2 then (X3_measureRests_b15_96 c_rests v1 v2 v3 v4 ((18 * v3) + v4) 0) else (X3_measureRests_b15_96 c_rests v1 v2 v3 v4 ((18 * v3) + v4) k0)
noncomputable def X3_measureRests_b15_50 (c_rests c_turns_lengths : Ar) (v1 v2 v3 v4 k0 : Int32) : Option ((Ar × Int32) ⊕ Ar) :=
  if k0 = (-1) then (X3_measureRests_b15_72 c_rests v1 v2 v3 v4 1000000) else (bnd (X3_restThrough c_rests c_turns_lengths v3 v4 k0) <| fun r_69 => X3_measureRests_b15_72 c_rests v1 v2 v3 v4 r_69)
noncomputable def X3_measureRests_L15 (c_turns_lengths : Ar) (v1 v2 v3 : Int32) (c_rests : Ar) (v4 : Int32) : Option ((Ar × Int32) ⊕ Ar) :=
  if (2 * v1) ≤ v4 then (some (.inr c_rests)) else (bnd (X3_isDone (Int32.toInt64 v3) v4) <| fun r_27 => if r_27 = 0 then (X3_measureRests_b15_97 c_rests v1 v2 v3 v4) else (if v3 = v2 then (X3_measureRests_b15_50 c_rests c_turns_lengths v1 v2 v3 v4 (-1)) else (bnd (X3_firstOfFew c_rests c_turns_lengths v1 v3 v4) <| fun r_47 => X3_measureRests_b15_50 c_rests c_turns_lengths v1 v2 v3 v4 r_47)))
noncomputable def X3_measureRests_L8 (c_turns_lengths : Ar) (v1 v2 : Int32) (c_rests : Ar) (v3 : Int32) : Option ((Ar × Int32) ⊕ Ar) :=
  if v3 ≤ 0 then (some (.inr c_rests)) else (bnd (whileV (fun st => X3_measureRests_L15 c_turns_lengths v1 v2 v3 st.1 st.2) (c_rests, 0)) <| (fun c_rests_103 => nm (v3 + (-1)) fun v3_103 => some (.inl (c_rests_103, v3_103))))
noncomputable def X3_measureRests (c_rests c_turns_lengths : Ar) (v1 : Int32) : Option Ar :=
  nm ((((1 : Int32) <<< (v1 &&& 31)) - 1)) fun v2_5 => bnd (whileV (fun st => X3_measureRests_L8 c_turns_lengths v1 v2_5 st.1 st.2) (c_rests, v2_5)) <| (fun c_rests_109 => some c_rests_109)
set_option maxHeartbeats 4000000 in
set_option maxRecDepth 100000 in
theorem t_X3_measureRests (l : Launch) (g : G9) (a_t a_rests a_turns a_turns_lengths a_plan a_turns_ways a_turns_rows a_turns_known : Nat) (c_rests c_turns_lengths : Ar) (v1 : Int32) (o_rests : Ar) (h : X3_measureRests c_rests c_turns_lengths v1 = some o_rests) : CtV l g yX3_measureRests cX3_measureRests 7 3 73 [.ref a_t, .int v1] (w_X3_measureRests g a_t a_rests a_turns a_turns_lengths a_plan a_turns_ways a_turns_rows a_turns_known c_rests c_turns_lengths) (w_X3_measureRests g a_t a_rests a_turns a_turns_lengths a_plan a_turns_ways a_turns_rows a_turns_known o_rests c_turns_lengths) := by
  refine startV (by decide) (Nat.le_of_ble_eq_true rfl) ?_
  intro p e s m below meth c A Q ls args M hW hl ret
  have hx := M.1
  have hb := M.2.1
  have hown := M.2.2.2.1
  have hu := M.2.2.2.2.1
  have hl : lv_has ls 7 [(0, .ref a_t), (1, .int v1)] := hl
  unfold X3_measureRests at h
  obtain ⟨H, eH⟩ : ∃ z, z = s.heap := ⟨_, rfl⟩
  obtain ⟨locs, eL⟩ : ∃ z, z = ([] : List Loc) := ⟨_, rfl⟩
  rw [← eL] at hW ⊢
  suffices hS9 : WD g s A (w_X3_measureRests g a_t a_rests a_turns a_turns_lengths a_plan a_turns_ways a_turns_rows a_turns_known c_rests c_turns_lengths) H locs → W p l e (rm9 3 73) s m args below meth c H locs 0 0 Q (F0 m 0 ls []) by
    rw [← eH] at hW ⊢
    exact hS9 hW
  clear hW eH eL
  intro hW
  refine lv_iconst (pc := 0) (v := 1) hx hb (dd dX3_measureRests_p0 0 rfl) (by decide) ?_
  refine lv_iload_n (pc := 1) hx hb (dd dX3_measureRests_p0 1 rfl) rfl (lv_at hl 1 rfl) ?_
  refine lv_ishl (pc := 2) hx hb (dd dX3_measureRests_p0 2 rfl) ?_
  refine lv_iconst (pc := 3) (v := 1) hx hb (dd dX3_measureRests_p0 3 rfl) (by decide) ?_
  refine lv_isub (pc := 4) hx hb (dd dX3_measureRests_p0 4 rfl) ?_
  obtain ⟨v2_5, ev2_5, h⟩ := nm_ex h
  refine rTopi (pc := 5) ev2_5 ?_
  refine lv_istore_n (pc := 5) (lv' := [(2, .int v2_5), (0, .ref a_t), (1, .int v1)]) hx hb (dd dX3_measureRests_p0 5 rfl) rfl hl (by decide) rfl (fun ls hl => ?_)
  refine lv_iload_n (pc := 6) hx hb (dd dX3_measureRests_p0 6 rfl) rfl (lv_at hl 0 rfl) ?_
  refine lv_istore_n (pc := 7) (lv' := [(3, .int v2_5), (2, .int v2_5), (0, .ref a_t), (1, .int v1)]) hx hb (dd dX3_measureRests_p0 7 rfl) rfl hl (by decide) rfl (fun ls hl => ?_)
  obtain ⟨ex, hw, h⟩ := bnd_ex h
  refine loopW (fun st => ∀ (H : Heap) (locs : List Loc) (ls : Array Slot), WD g s A (w_X3_measureRests g a_t a_rests a_turns a_turns_lengths a_plan a_turns_ways a_turns_rows a_turns_known (st.1) c_turns_lengths) H locs → lv_has ls 7 [(0, .ref a_t), (1, .int v1), (2, .int v2_5), (3, .int (st.2))] → W p l e (rm9 3 73) s m args below meth c H locs 0 0 Q (F0 m 8 ls [])) (fun (ex : Ar) => ∀ (H : Heap) (locs : List Loc) (ls : Array Slot), WD g s A (w_X3_measureRests g a_t a_rests a_turns a_turns_lengths a_plan a_turns_ways a_turns_rows a_turns_known ex c_turns_lengths) H locs → lv_has ls 7 [] → W p l e (rm9 3 73) s m args below meth c H locs 0 0 Q (F0 m 109 ls [])) ?_ hw ?_ H locs ls hW (lv_sub hl [2, 3, 1, 0] rfl)
  · rintro ⟨c_rests, v3⟩ o hb9 hk H locs ls hW hl
    have h : X3_measureRests_L8 c_turns_lengths v1 v2_5 c_rests v3 = some o := hb9
    clear hb9
    unfold X3_measureRests_L8 at h
    refine lv_iload_n (pc := 8) hx hb (dd dX3_measureRests_p0 8 rfl) rfl (lv_at hl 3 rfl) ?_
    refine lv_if_le (pc := 9) (tgt := 109) hx hb (dd dX3_measureRests_p0 9 rfl) (by decide) (fun hc => ?_) (fun hc => ?_)
    · have h := it_t hc h
      obtain rfl := Option.some.inj h
      exact hk _ _ _ hW (lv_sub hl [] rfl)
    · have h := it_f hc h
      refine lv_iconst (pc := 12) (v := 0) hx hb (dd dX3_measureRests_p0 10 rfl) (by decide) ?_
      refine lv_istore (pc := 13) (lv' := [(4, .int 0), (0, .ref a_t), (1, .int v1), (2, .int v2_5), (3, .int v3)]) hx hb (dd dX3_measureRests_p0 11 rfl) hl (by decide) rfl (fun ls hl => ?_)
      obtain ⟨ex, hw, h⟩ := bnd_ex h
      refine loopW (fun st => ∀ (H : Heap) (locs : List Loc) (ls : Array Slot), WD g s A (w_X3_measureRests g a_t a_rests a_turns a_turns_lengths a_plan a_turns_ways a_turns_rows a_turns_known (st.1) c_turns_lengths) H locs → lv_has ls 7 [(0, .ref a_t), (1, .int v1), (2, .int v2_5), (3, .int v3), (4, .int (st.2))] → W p l e (rm9 3 73) s m args below meth c H locs 0 0 Q (F0 m 15 ls [])) (fun (ex : Ar) => ∀ (H : Heap) (locs : List Loc) (ls : Array Slot), WD g s A (w_X3_measureRests g a_t a_rests a_turns a_turns_lengths a_plan a_turns_ways a_turns_rows a_turns_known ex c_turns_lengths) H locs → lv_has ls 7 [(0, .ref a_t), (1, .int v1), (2, .int v2_5), (3, .int v3)] → W p l e (rm9 3 73) s m args below meth c H locs 0 0 Q (F0 m 103 ls [])) ?_ hw ?_ H locs ls hW (lv_sub hl [1, 2, 3, 4, 0] rfl)
      · rintro ⟨c_rests, v4⟩ o hb9 hk H locs ls hW hl
        have h : X3_measureRests_L15 c_turns_lengths v1 v2_5 v3 c_rests v4 = some o := hb9
        clear hb9
        unfold X3_measureRests_L15 at h
        have J97 : ∀ (c_rests : Ar) (v4 : Int32) (H : Heap) (locs : List Loc) (ls : Array Slot), X3_measureRests_b15_97 c_rests v1 v2_5 v3 v4 = some o → WD g s A (w_X3_measureRests g a_t a_rests a_turns a_turns_lengths a_plan a_turns_ways a_turns_rows a_turns_known c_rests c_turns_lengths) H locs → lv_has ls 7 [(0, .ref a_t), (1, .int v1), (2, .int v2_5), (3, .int v3), (4, .int v4)] → W p l e (rm9 3 73) s m args below meth c H locs 0 0 Q (F0 m 97 ls []) := by
          intro c_rests v4 H locs ls h hW hl
          unfold X3_measureRests_b15_97 at h
          obtain ⟨v4_97, ev4_97, h⟩ := nm_ex h
          refine lv_iinc (pc := 97) (v := v4_97) (lv' := [(4, .int v4_97), (0, .ref a_t), (1, .int v1), (2, .int v2_5), (3, .int v3)]) hx hb (dd dX3_measureRests_p0 58 rfl) hl (k := 4) rfl (by rw [ev4_97]; rfl) (by decide) rfl (fun ls hl => ?_)
          refine lv_goto (pc := 100) (tgt := 15) hx hb (dd dX3_measureRests_p0 59 rfl) (by decide) ?_
          obtain rfl := Option.some.inj h
          exact hk _ _ _ hW (lv_sub hl [1, 2, 3, 4, 0] rfl)
        have J96 : ∀ (c_rests : Ar) (v4 k1 k2 : Int32) (H : Heap) (locs : List Loc) (ls : Array Slot), X3_measureRests_b15_96 c_rests v1 v2_5 v3 v4 k1 k2 = some o → WD g s A (w_X3_measureRests g a_t a_rests a_turns a_turns_lengths a_plan a_turns_ways a_turns_rows a_turns_known c_rests c_turns_lengths) H locs → lv_has ls 7 [(0, .ref a_t), (1, .int v1), (2, .int v2_5), (3, .int v3), (4, .int v4)] → W p l e (rm9 3 73) s m args below meth c H locs 0 0 Q (F0 m 96 ls [.int k2, .int k1, .ref a_rests]) := by
          intro c_rests v4 k1 k2 H locs ls h hW hl
          unfold X3_measureRests_b15_96 at h
          obtain ⟨hi, h⟩ := ck_ex h
          obtain ⟨c_rests_96, ec_rests_96, h⟩ := nm_ex h
          refine rIast (pc := 96) M hW 1 rfl hi ec_rests_96 (ws' := (w_X3_measureRests g a_t a_rests a_turns a_turns_lengths a_plan a_turns_ways a_turns_rows a_turns_known c_rests_96 c_turns_lengths)) rfl (dd dX3_measureRests_p0 57 rfl) (fun H locs hW => ?_)
          exact J97 _ _ _ _ _ h hW (lv_sub hl [0, 1, 2, 3, 4] rfl)
        have J72 : ∀ (c_rests : Ar) (v4 k0 : Int32) (H : Heap) (locs : List Loc) (ls : Array Slot), X3_measureRests_b15_72 c_rests v1 v2_5 v3 v4 k0 = some o → WD g s A (w_X3_measureRests g a_t a_rests a_turns a_turns_lengths a_plan a_turns_ways a_turns_rows a_turns_known c_rests c_turns_lengths) H locs → lv_has ls 7 [(0, .ref a_t), (1, .int v1), (2, .int v2_5), (3, .int v3), (4, .int v4)] → W p l e (rm9 3 73) s m args below meth c H locs 0 0 Q (F0 m 72 ls [.int k0]) := by
          intro c_rests v4 k0 H locs ls h hW hl
          unfold X3_measureRests_b15_72 at h
          refine lv_istore (pc := 72) (lv' := [(6, .int k0), (0, .ref a_t), (1, .int v1), (2, .int v2_5), (3, .int v3), (4, .int v4)]) hx hb (dd dX3_measureRests_p0 43 rfl) hl (by decide) rfl (fun ls hl => ?_)
          refine lv_aload_n (pc := 74) hx hb (dd dX3_measureRests_p0 44 rfl) rfl (lv_at hl 1 rfl) ?_
          refine rGet (pc := 75) M hW 0 2 iU3 rfl rfl (by decide) (uw2 1 rfl rfl) rfl (dd dX3_measureRests_p0 45 rfl) ?_
          refine lv_bipush (pc := 78) (v := 18) hx hb (dd dX3_measureRests_p0 46 rfl) (by decide) ?_
          refine lv_iload_n (pc := 80) hx hb (dd dX3_measureRests_p0 47 rfl) rfl (lv_at hl 4 rfl) ?_
          refine lv_imul (pc := 81) hx hb (dd dX3_measureRests_p0 48 rfl) ?_
          refine lv_iload (pc := 82) hx hb (dd dX3_measureRests_p0 49 rfl) (lv_at hl 5 rfl) ?_
          refine lv_iadd (pc := 84) hx hb (dd dX3_measureRests_p0 50 rfl) ?_
          refine lv_iload_n (pc := 85) hx hb (dd dX3_measureRests_p0 51 rfl) rfl (lv_at hl 4 rfl) ?_
          refine lv_iload_n (pc := 86) hx hb (dd dX3_measureRests_p0 52 rfl) rfl (lv_at hl 3 rfl) ?_
          refine lv_icmp_ne (pc := 87) (tgt := 94) hx hb (dd dX3_measureRests_p0 53 rfl) (by decide) (fun hc => ?_) (fun hc => ?_)
          · have h := it_f hc h
            refine lv_iload (pc := 94) hx hb (dd dX3_measureRests_p0 56 rfl) (lv_at hl 0 rfl) ?_
            exact J96 _ _ _ _ _ _ _ h hW (lv_sub hl [1, 2, 3, 4, 5] rfl)
          · have h := it_t hc h
            refine lv_iconst (pc := 90) (v := 0) hx hb (dd dX3_measureRests_p0 54 rfl) (by decide) ?_
            refine lv_goto (pc := 91) (tgt := 96) hx hb (dd dX3_measureRests_p0 55 rfl) (by decide) ?_
            exact J96 _ _ _ _ _ _ _ h hW (lv_sub hl [1, 2, 3, 4, 5] rfl)
        have J50 : ∀ (c_rests : Ar) (v4 k0 : Int32) (H : Heap) (locs : List Loc) (ls : Array Slot), X3_measureRests_b15_50 c_rests c_turns_lengths v1 v2_5 v3 v4 k0 = some o → WD g s A (w_X3_measureRests g a_t a_rests a_turns a_turns_lengths a_plan a_turns_ways a_turns_rows a_turns_known c_rests c_turns_lengths) H locs → lv_has ls 7 [(0, .ref a_t), (1, .int v1), (2, .int v2_5), (3, .int v3), (4, .int v4)] → W p l e (rm9 3 73) s m args below meth c H locs 0 0 Q (F0 m 50 ls [.int k0]) := by
          intro c_rests v4 k0 H locs ls h hW hl
          unfold X3_measureRests_b15_50 at h
          refine lv_istore (pc := 50) (lv' := [(5, .int k0), (0, .ref a_t), (1, .int v1), (2, .int v2_5), (3, .int v3), (4, .int v4)]) hx hb (dd dX3_measureRests_p0 32 rfl) hl (by decide) rfl (fun ls hl => ?_)
          refine lv_iload (pc := 52) hx hb (dd dX3_measureRests_p0 33 rfl) (lv_at hl 0 rfl) ?_
          refine lv_iconst (pc := 54) (v := (-1)) hx hb (dd dX3_measureRests_p0 34 rfl) (by decide) ?_
          refine lv_icmp_ne (pc := 55) (tgt := 63) hx hb (dd dX3_measureRests_p0 35 rfl) (by decide) (fun hc => ?_) (fun hc => ?_)
          · have h := it_f hc h
            refine lv_aload_n (pc := 63) hx hb (dd dX3_measureRests_p0 38 rfl) rfl (lv_at hl 1 rfl) ?_
            refine lv_iload_n (pc := 64) hx hb (dd dX3_measureRests_p0 39 rfl) rfl (lv_at hl 4 rfl) ?_
            refine lv_iload (pc := 65) hx hb (dd dX3_measureRests_p0 40 rfl) (lv_at hl 5 rfl) ?_
            refine lv_iload (pc := 67) hx hb (dd dX3_measureRests_p0 41 rfl) (lv_at hl 0 rfl) ?_
            obtain ⟨r_69, hr, h⟩ := bnd_ex h
            refine callVI (pc := 69) (na := 3) (As := [.int v3, .int v4, .int k0]) (rest := []) (ws2 := (w_X3_measureRests g a_t a_rests a_turns a_turns_lengths a_plan a_turns_ways a_turns_rows a_turns_known c_rests c_turns_lengths)) M hl.1 hW (t_X3_restThrough l g a_t a_rests a_turns a_turns_lengths a_plan a_turns_ways a_turns_rows a_turns_known c_rests c_turns_lengths v3 v4 k0 r_69 hr) rfl [0, 1, 2, 3] [] [0, 1, 2, 3] rfl rfl rfl rfl rfl rfl rfl 0 3 rfl rfl rfl (uw4 52 rfl rfl) (uw4 49 rfl rfl) (uw4 51 rfl rfl) (uwp 27 rfl rfl) (uw1 10 rfl rfl) ⟨by decide, by decide, by decide⟩ rfl ⟨by decide, by decide⟩ (Nat.le_of_ble_eq_true rfl) ⟨Nat.zero_le _, Nat.zero_le _⟩ (dd dX3_measureRests_p0 42 rfl) (fun H locs hW => ?_)
            exact J72 _ _ _ _ _ _ h hW (lv_sub hl [1, 2, 3, 4, 5] rfl)
          · have h := it_t hc h
            refine lv_ldc (pc := 58) (v := 1000000) hx hb hown (hu _ (uw4 48 rfl rfl)) (dd dX3_measureRests_p0 36 rfl) ?_
            refine lv_goto (pc := 60) (tgt := 72) hx hb (dd dX3_measureRests_p0 37 rfl) (by decide) ?_
            exact J72 _ _ _ _ _ _ h hW (lv_sub hl [1, 2, 3, 4, 5] rfl)
        refine lv_iload (pc := 15) hx hb (dd dX3_measureRests_p0 12 rfl) (lv_at hl 4 rfl) ?_
        refine lv_iconst (pc := 17) (v := 2) hx hb (dd dX3_measureRests_p0 13 rfl) (by decide) ?_
        refine lv_iload_n (pc := 18) hx hb (dd dX3_measureRests_p0 14 rfl) rfl (lv_at hl 1 rfl) ?_
        refine lv_imul (pc := 19) hx hb (dd dX3_measureRests_p0 15 rfl) ?_
        refine lv_icmp_ge (pc := 20) (tgt := 103) hx hb (dd dX3_measureRests_p0 16 rfl) (by decide) (fun hc => ?_) (fun hc => ?_)
        · have h := it_t hc h
          obtain rfl := Option.some.inj h
          exact hk _ _ _ hW (lv_sub hl [0, 1, 2, 3] rfl)
        · have h := it_f hc h
          refine lv_iload_n (pc := 23) hx hb (dd dX3_measureRests_p0 17 rfl) rfl (lv_at hl 3 rfl) ?_
          refine lv_i2l (pc := 24) hx hb (dd dX3_measureRests_p0 18 rfl) rfl ?_
          refine lv_iload (pc := 25) hx hb (dd dX3_measureRests_p0 19 rfl) (lv_at hl 4 rfl) ?_
          obtain ⟨r_27, hr, h⟩ := bnd_ex h
          refine callSI (pc := 27) (na := 2) (As := [.long (Int32.toInt64 v3), .int v4]) (rest := []) (ws2 := (w_X3_measureRests g a_t a_rests a_turns a_turns_lengths a_plan a_turns_ways a_turns_rows a_turns_known c_rests c_turns_lengths)) M hl.1 hW (t_X3_isDone l g (Int32.toInt64 v3) v4 r_27 hr) [] [0, 1, 2, 3] [0, 1, 2, 3] rfl rfl rfl rfl rfl rfl rfl (uw4 43 rfl rfl) (uw4 41 rfl rfl) (uw4 42 rfl rfl) (uw1 10 rfl rfl) ⟨by decide, by decide, by decide⟩ rfl ⟨by decide, by decide⟩ (Nat.le_of_ble_eq_true rfl) ⟨Nat.zero_le _, Nat.zero_le _⟩ (dd dX3_measureRests_p0 20 rfl) (fun H locs hW => ?_)
          refine lv_if_eq (pc := 30) (tgt := 97) hx hb (dd dX3_measureRests_p0 21 rfl) (by decide) (fun hc => ?_) (fun hc => ?_)
          · have h := it_t hc h
            exact J97 _ _ _ _ _ h hW (lv_sub hl [0, 1, 2, 3, 4] rfl)
          · have h := it_f hc h
            refine lv_iload_n (pc := 33) hx hb (dd dX3_measureRests_p0 22 rfl) rfl (lv_at hl 3 rfl) ?_
            refine lv_iload_n (pc := 34) hx hb (dd dX3_measureRests_p0 23 rfl) rfl (lv_at hl 2 rfl) ?_
            refine lv_icmp_ne (pc := 35) (tgt := 42) hx hb (dd dX3_measureRests_p0 24 rfl) (by decide) (fun hc => ?_) (fun hc => ?_)
            · have h := it_f hc h
              refine lv_aload_n (pc := 42) hx hb (dd dX3_measureRests_p0 27 rfl) rfl (lv_at hl 0 rfl) ?_
              refine lv_iload_n (pc := 43) hx hb (dd dX3_measureRests_p0 28 rfl) rfl (lv_at hl 1 rfl) ?_
              refine lv_iload_n (pc := 44) hx hb (dd dX3_measureRests_p0 29 rfl) rfl (lv_at hl 3 rfl) ?_
              refine lv_iload (pc := 45) hx hb (dd dX3_measureRests_p0 30 rfl) (lv_at hl 4 rfl) ?_
              obtain ⟨r_47, hr, h⟩ := bnd_ex h
              refine callVI (pc := 47) (na := 3) (As := [.int v1, .int v3, .int v4]) (rest := []) (ws2 := (w_X3_measureRests g a_t a_rests a_turns a_turns_lengths a_plan a_turns_ways a_turns_rows a_turns_known c_rests c_turns_lengths)) M hl.1 hW (t_X3_firstOfFew l g a_t a_rests a_turns a_turns_lengths a_plan a_turns_ways a_turns_rows a_turns_known c_rests c_turns_lengths v1 v3 v4 r_47 hr) rfl [0, 1, 2, 3] [] [0, 1, 2, 3] rfl rfl rfl rfl rfl rfl rfl 0 3 rfl rfl rfl (uw4 47 rfl rfl) (uw4 44 rfl rfl) (uw4 46 rfl rfl) (uwp 26 rfl rfl) (uw1 10 rfl rfl) ⟨by decide, by decide, by decide⟩ rfl ⟨by decide, by decide⟩ (Nat.le_of_ble_eq_true rfl) ⟨Nat.zero_le _, Nat.zero_le _⟩ (dd dX3_measureRests_p0 31 rfl) (fun H locs hW => ?_)
              exact J50 _ _ _ _ _ _ h hW (lv_sub hl [0, 1, 2, 3, 4] rfl)
            · have h := it_t hc h
              refine lv_iconst (pc := 38) (v := (-1)) hx hb (dd dX3_measureRests_p0 25 rfl) (by decide) ?_
              refine lv_goto (pc := 39) (tgt := 50) hx hb (dd dX3_measureRests_p0 26 rfl) (by decide) ?_
              exact J50 _ _ _ _ _ _ h hW (lv_sub hl [0, 1, 2, 3, 4] rfl)
      · obtain ⟨c_rests_103, e9⟩ : ∃ z, z = ex := ⟨_, rfl⟩
        subst e9
        intro H locs ls hW hl
        obtain ⟨v3_103, ev3_103, h⟩ := nm_ex h
        refine lv_iinc (pc := 103) (v := v3_103) (lv' := [(3, .int v3_103), (0, .ref a_t), (1, .int v1), (2, .int v2_5)]) hx hb (dd dX3_measureRests_p1 0 rfl) hl (k := 3) rfl (by rw [ev3_103]; rfl) (by decide) rfl (fun ls hl => ?_)
        refine lv_goto (pc := 106) (tgt := 8) hx hb (dd dX3_measureRests_p1 1 rfl) (by decide) ?_
        obtain rfl := Option.some.inj h
        exact hk _ _ _ hW (lv_sub hl [1, 2, 3, 0] rfl)
  · obtain ⟨c_rests_109, e9⟩ : ∃ z, z = ex := ⟨_, rfl⟩
    subst e9
    intro H locs ls hW hl
    have hW9 := hW
    cases h
    exact ret _ _ _ 109 hW9 (dd dX3_measureRests_p1 2 rfl)
abbrev w_X3_followRests (g : G9) (a_t a_plan a_rests a_turns a_plan_numbers a_turns_lengths a_turns_ways a_turns_rows a_turns_known : Nat) (c_plan_there c_plan_size : Int32) (c_rests c_plan_numbers c_turns_lengths : Ar) : va_W := [ob a_t 3 [.ref a_plan, .ref a_turns, .ref a_rests], ob a_plan 2 [.ref a_turns, .ref a_plan_numbers, .int c_plan_there, .int c_plan_size], ia g a_rests 9216 c_rests, ob a_turns 7 [.ref a_turns_ways, .ref a_turns_rows, .ref a_turns_lengths, .ref a_turns_known], ia g a_plan_numbers 60 c_plan_numbers, ia g a_turns_lengths 14400 c_turns_lengths]
noncomputable def X3_followRests_L7 (c_rests c_turns_lengths : Ar) (v1 c_plan_size : Int32) (c_plan_numbers : Ar) (v2 v3 v4 : Int32) : Option ((Int32 × Ar × Int32 × Int32 × Int32) ⊕ ((Int32 × Ar) ⊕ (Int32 × Ar))) :=
  if v1 ≤ v4 then (some (.inr (.inl (c_plan_size, c_plan_numbers)))) else (bnd (X3_firstOfFew c_rests c_turns_lengths v1 v2 v3) <| fun r_17 => if r_17 = (-1) then (some (.inr (.inr ((c_plan_size, c_plan_numbers))))) else (bnd (X2_add c_plan_size c_plan_numbers r_17) <| un2 fun c_plan_size_36 c_plan_numbers_36 => nm ((v2 ||| ((1 : Int32) <<< ((r_17 / 2) &&& 31)))) fun v2_47 => nm (v4 + 1) fun v4_51 => some (.inl (c_plan_size_36, c_plan_numbers_36, v2_47, r_17, v4_51))))
noncomputable def X3_followRests (c_plan_size : Int32) (c_rests c_plan_numbers c_turns_lengths : Ar) (v1 : Int32) : Option (Int32 × Int32 × Ar) :=
  bnd (whileV (fun st => X3_followRests_L7 c_rests c_turns_lengths v1 st.1 st.2.1 st.2.2.1 st.2.2.2.1 st.2.2.2.2) (c_plan_size, c_plan_numbers, 0, (-1), 0)) <| (Sum.elim (un2 fun c_plan_size_57 c_plan_numbers_57 => some (1, c_plan_size_57, c_plan_numbers_57)) (un2 fun c_plan_size_28 c_plan_numbers_28 => some (0, c_plan_size_28, c_plan_numbers_28)))
set_option maxHeartbeats 4000000 in
set_option maxRecDepth 100000 in
theorem t_X3_followRests (l : Launch) (g : G9) (a_t a_plan a_rests a_turns a_plan_numbers a_turns_lengths a_turns_ways a_turns_rows a_turns_known : Nat) (c_plan_there c_plan_size : Int32) (c_rests c_plan_numbers c_turns_lengths : Ar) (v1 r0 o_plan_size : Int32) (o_plan_numbers : Ar) (h : X3_followRests c_plan_size c_rests c_plan_numbers c_turns_lengths v1 = some (r0, o_plan_size, o_plan_numbers)) : CtI l g yX3_followRests cX3_followRests 6 .boolean 3 73 [.ref a_t, .int v1] (w_X3_followRests g a_t a_plan a_rests a_turns a_plan_numbers a_turns_lengths a_turns_ways a_turns_rows a_turns_known c_plan_there c_plan_size c_rests c_plan_numbers c_turns_lengths) r0 (w_X3_followRests g a_t a_plan a_rests a_turns a_plan_numbers a_turns_lengths a_turns_ways a_turns_rows a_turns_known c_plan_there o_plan_size c_rests o_plan_numbers c_turns_lengths) := by
  refine startI (by decide) (Nat.le_of_ble_eq_true rfl) ?_
  intro p e s m below meth c A Q ls args M hW hl ret
  have hx := M.1
  have hb := M.2.1
  have hown := M.2.2.2.1
  have hu := M.2.2.2.2.1
  have hl : lv_has ls 6 [(0, .ref a_t), (1, .int v1)] := hl
  unfold X3_followRests at h
  obtain ⟨H, eH⟩ : ∃ z, z = s.heap := ⟨_, rfl⟩
  obtain ⟨locs, eL⟩ : ∃ z, z = ([] : List Loc) := ⟨_, rfl⟩
  rw [← eL] at hW ⊢
  suffices hS9 : WD g s A (w_X3_followRests g a_t a_plan a_rests a_turns a_plan_numbers a_turns_lengths a_turns_ways a_turns_rows a_turns_known c_plan_there c_plan_size c_rests c_plan_numbers c_turns_lengths) H locs → W p l e (rm9 3 73) s m args below meth c H locs 0 0 Q (F0 m 0 ls []) by
    rw [← eH] at hW ⊢
    exact hS9 hW
  clear hW eH eL
  intro hW
  refine lv_iconst (pc := 0) (v := 0) hx hb (dd dX3_followRests 0 rfl) (by decide) ?_
  refine lv_istore_n (pc := 1) (lv' := [(2, .int 0), (0, .ref a_t), (1, .int v1)]) hx hb (dd dX3_followRests 1 rfl) rfl hl (by decide) rfl (fun ls hl => ?_)
  refine lv_iconst (pc := 2) (v := (-1)) hx hb (dd dX3_followRests 2 rfl) (by decide) ?_
  refine lv_istore_n (pc := 3) (lv' := [(3, .int (-1)), (2, .int 0), (0, .ref a_t), (1, .int v1)]) hx hb (dd dX3_followRests 3 rfl) rfl hl (by decide) rfl (fun ls hl => ?_)
  refine lv_iconst (pc := 4) (v := 0) hx hb (dd dX3_followRests 4 rfl) (by decide) ?_
  refine lv_istore (pc := 5) (lv' := [(4, .int 0), (3, .int (-1)), (2, .int 0), (0, .ref a_t), (1, .int v1)]) hx hb (dd dX3_followRests 5 rfl) hl (by decide) rfl (fun ls hl => ?_)
  obtain ⟨ex, hw, h⟩ := bnd_ex h
  refine loopW (fun st => ∀ (H : Heap) (locs : List Loc) (ls : Array Slot), WD g s A (w_X3_followRests g a_t a_plan a_rests a_turns a_plan_numbers a_turns_lengths a_turns_ways a_turns_rows a_turns_known c_plan_there (st.1) c_rests (st.2.1) c_turns_lengths) H locs → lv_has ls 6 [(0, .ref a_t), (1, .int v1), (2, .int (st.2.2.1)), (3, .int (st.2.2.2.1)), (4, .int (st.2.2.2.2))] → W p l e (rm9 3 73) s m args below meth c H locs 0 0 Q (F0 m 7 ls [])) (Sum.elim (fun (ex : (Int32 × Ar)) => ∀ (H : Heap) (locs : List Loc) (ls : Array Slot), WD g s A (w_X3_followRests g a_t a_plan a_rests a_turns a_plan_numbers a_turns_lengths a_turns_ways a_turns_rows a_turns_known c_plan_there (ex.1) c_rests (ex.2) c_turns_lengths) H locs → lv_has ls 6 [] → W p l e (rm9 3 73) s m args below meth c H locs 0 0 Q (F0 m 57 ls [])) (fun (ex : (Int32 × Ar)) => ∀ (H : Heap) (locs : List Loc) (ls : Array Slot), WD g s A (w_X3_followRests g a_t a_plan a_rests a_turns a_plan_numbers a_turns_lengths a_turns_ways a_turns_rows a_turns_known c_plan_there (ex.1) c_rests (ex.2) c_turns_lengths) H locs → lv_has ls 6 [] → W p l e (rm9 3 73) s m args below meth c H locs 0 0 Q (F0 m 28 ls []))) ?_ hw ?_ H locs ls hW (lv_sub hl [3, 4, 2, 1, 0] rfl)
  · rintro ⟨c_plan_size, c_plan_numbers, v2, v3, v4⟩ o hb9 hk H locs ls hW hl
    have h : X3_followRests_L7 c_rests c_turns_lengths v1 c_plan_size c_plan_numbers v2 v3 v4 = some o := hb9
    clear hb9
    unfold X3_followRests_L7 at h
    refine lv_iload (pc := 7) hx hb (dd dX3_followRests 6 rfl) (lv_at hl 4 rfl) ?_
    refine lv_iload_n (pc := 9) hx hb (dd dX3_followRests 7 rfl) rfl (lv_at hl 1 rfl) ?_
    refine lv_icmp_ge (pc := 10) (tgt := 57) hx hb (dd dX3_followRests 8 rfl) (by decide) (fun hc => ?_) (fun hc => ?_)
    · have h := it_t hc h
      obtain rfl := Option.some.inj h
      exact hk _ _ _ hW (lv_sub hl [] rfl)
    · have h := it_f hc h
      refine lv_aload_n (pc := 13) hx hb (dd dX3_followRests 9 rfl) rfl (lv_at hl 0 rfl) ?_
      refine lv_iload_n (pc := 14) hx hb (dd dX3_followRests 10 rfl) rfl (lv_at hl 1 rfl) ?_
      refine lv_iload_n (pc := 15) hx hb (dd dX3_followRests 11 rfl) rfl (lv_at hl 2 rfl) ?_
      refine lv_iload_n (pc := 16) hx hb (dd dX3_followRests 12 rfl) rfl (lv_at hl 3 rfl) ?_
      obtain ⟨r_17, hr, h⟩ := bnd_ex h
      refine callVI (pc := 17) (na := 3) (As := [.int v1, .int v2, .int v3]) (rest := []) (ws2 := (w_X3_followRests g a_t a_plan a_rests a_turns a_plan_numbers a_turns_lengths a_turns_ways a_turns_rows a_turns_known c_plan_there c_plan_size c_rests c_plan_numbers c_turns_lengths)) M hl.1 hW (t_X3_firstOfFew l g a_t a_rests a_turns a_turns_lengths a_plan a_turns_ways a_turns_rows a_turns_known c_rests c_turns_lengths v1 v2 v3 r_17 hr) rfl [0, 2, 3, 5] [1, 4] [2, 0, 3, 4, 1, 5] rfl rfl rfl rfl rfl rfl rfl 0 3 rfl rfl rfl (uw4 47 rfl rfl) (uw4 44 rfl rfl) (uw4 46 rfl rfl) (uwp 26 rfl rfl) (uw1 10 rfl rfl) ⟨by decide, by decide, by decide⟩ rfl ⟨by decide, by decide⟩ (Nat.le_of_ble_eq_true rfl) ⟨Nat.zero_le _, Nat.zero_le _⟩ (dd dX3_followRests 13 rfl) (fun H locs hW => ?_)
      refine lv_istore (pc := 20) (lv' := [(5, .int r_17), (0, .ref a_t), (1, .int v1), (2, .int v2), (3, .int v3), (4, .int v4)]) hx hb (dd dX3_followRests 14 rfl) hl (by decide) rfl (fun ls hl => ?_)
      refine lv_iload (pc := 22) hx hb (dd dX3_followRests 15 rfl) (lv_at hl 0 rfl) ?_
      refine lv_iconst (pc := 24) (v := (-1)) hx hb (dd dX3_followRests 16 rfl) (by decide) ?_
      refine lv_icmp_ne (pc := 25) (tgt := 30) hx hb (dd dX3_followRests 17 rfl) (by decide) (fun hc => ?_) (fun hc => ?_)
      · have h := it_f hc h
        refine lv_aload_n (pc := 30) hx hb (dd dX3_followRests 20 rfl) rfl (lv_at hl 1 rfl) ?_
        refine rGet (pc := 31) M hW 0 0 iU3 rfl rfl (by decide) (uw1 239 rfl rfl) rfl (dd dX3_followRests 21 rfl) ?_
        refine lv_iload (pc := 34) hx hb (dd dX3_followRests 22 rfl) (lv_at hl 0 rfl) ?_
        obtain ⟨⟨c_plan_size_36, c_plan_numbers_36⟩, hr, h⟩ := bnd_ex h
        have h := un2_at h
        refine callVV (pc := 36) (na := 1) (As := [.int r_17]) (rest := []) (ws2 := (w_X3_followRests g a_t a_plan a_rests a_turns a_plan_numbers a_turns_lengths a_turns_ways a_turns_rows a_turns_known c_plan_there c_plan_size_36 c_rests c_plan_numbers_36 c_turns_lengths)) M hl.1 hW (t_X2_add l g a_plan a_plan_numbers a_turns c_plan_there c_plan_size c_plan_numbers r_17 c_plan_size_36 c_plan_numbers_36 hr) rfl [1, 4] [0, 2, 3, 5] [0, 4, 1, 2, 5, 3] rfl rfl rfl rfl rfl rfl rfl 1 2 rfl rfl rfl (uw4 61 rfl rfl) (uw4 58 rfl rfl) (uw4 59 rfl rfl) (uw4 60 rfl rfl) (uw1 9 rfl rfl) ⟨by decide, by decide, by decide⟩ rfl ⟨by decide, by decide⟩ (Nat.le_of_ble_eq_true rfl) ⟨Nat.zero_le _, Nat.zero_le _⟩ (dd dX3_followRests 23 rfl) (fun H locs hW => ?_)
        refine lv_iload_n (pc := 39) hx hb (dd dX3_followRests 24 rfl) rfl (lv_at hl 3 rfl) ?_
        refine lv_iconst (pc := 40) (v := 1) hx hb (dd dX3_followRests 25 rfl) (by decide) ?_
        refine lv_iload (pc := 41) hx hb (dd dX3_followRests 26 rfl) (lv_at hl 0 rfl) ?_
        refine lv_iconst (pc := 43) (v := 2) hx hb (dd dX3_followRests 27 rfl) (by decide) ?_
        refine lv_idiv (pc := 44) hx hb (dd dX3_followRests 28 rfl) (by decide) ?_
        refine lv_ishl (pc := 45) hx hb (dd dX3_followRests 29 rfl) ?_
        refine lv_ior (pc := 46) hx hb (dd dX3_followRests 30 rfl) ?_
        obtain ⟨v2_47, ev2_47, h⟩ := nm_ex h
        refine rTopi (pc := 47) ev2_47 ?_
        refine lv_istore_n (pc := 47) (lv' := [(2, .int v2_47), (5, .int r_17), (0, .ref a_t), (1, .int v1), (3, .int v3), (4, .int v4)]) hx hb (dd dX3_followRests 31 rfl) rfl hl (by decide) rfl (fun ls hl => ?_)
        refine lv_iload (pc := 48) hx hb (dd dX3_followRests 32 rfl) (lv_at hl 1 rfl) ?_
        refine lv_istore_n (pc := 50) (lv' := [(3, .int r_17), (2, .int v2_47), (5, .int r_17), (0, .ref a_t), (1, .int v1), (4, .int v4)]) hx hb (dd dX3_followRests 33 rfl) rfl hl (by decide) rfl (fun ls hl => ?_)
        obtain ⟨v4_51, ev4_51, h⟩ := nm_ex h
        refine lv_iinc (pc := 51) (v := v4_51) (lv' := [(4, .int v4_51), (3, .int r_17), (2, .int v2_47), (5, .int r_17), (0, .ref a_t), (1, .int v1)]) hx hb (dd dX3_followRests 34 rfl) hl (k := 5) rfl (by rw [ev4_51]; rfl) (by decide) rfl (fun ls hl => ?_)
        refine lv_goto (pc := 54) (tgt := 7) hx hb (dd dX3_followRests 35 rfl) (by decide) ?_
        obtain rfl := Option.some.inj h
        exact hk _ _ _ hW (lv_sub hl [4, 5, 2, 1, 0] rfl)
      · have h := it_t hc h
        obtain rfl := Option.some.inj h
        exact hk _ _ _ hW (lv_sub hl [] rfl)
  · rcases ex with ⟨c_plan_size_57, c_plan_numbers_57⟩ | ⟨c_plan_size_28, c_plan_numbers_28⟩
    · intro H locs ls hW hl
      have h := sE_l h
      have h := un2_at h
      refine lv_iconst (pc := 57) (v := 1) hx hb (dd dX3_followRests 36 rfl) (by decide) ?_
      have hW9 := hW
      cases h
      exact ret _ _ _ 58 hW9 rfl (dd dX3_followRests 37 rfl)
    · intro H locs ls hW hl
      have h := sE_r h
      have h := un2_at h
      refine lv_iconst (pc := 28) (v := 0) hx hb (dd dX3_followRests 18 rfl) (by decide) ?_
      have hW9 := hW
      cases h
      exact ret _ _ _ 29 hW9 rfl (dd dX3_followRests 19 rfl)
abbrev w_X3_make (g : G9) (a_t a_plan a_rests a_turns a_plan_numbers a_turns_lengths a_turns_ways a_turns_rows a_turns_known : Nat) (c_plan_there c_plan_size : Int32) (c_rests c_plan_numbers c_turns_lengths : Ar) : va_W := [ob a_t 3 [.ref a_plan, .ref a_turns, .ref a_rests], ob a_plan 2 [.ref a_turns, .ref a_plan_numbers, .int c_plan_there, .int c_plan_size], ia g a_rests 9216 c_rests, ob a_turns 7 [.ref a_turns_ways, .ref a_turns_rows, .ref a_turns_lengths, .ref a_turns_known], ia g a_plan_numbers 60 c_plan_numbers, ia g a_turns_lengths 14400 c_turns_lengths]
noncomputable def X3_make_b74 (c_plan_there c_plan_size : Int32) (c_rests c_plan_numbers c_turns_lengths : Ar) : Option (Int32 × Int32 × Int32 × Ar × Ar) :=
  bnd (X2_sum c_plan_size c_plan_numbers c_turns_lengths) <| fun r_78 => some (r_78, c_plan_there, c_plan_size, c_rests, c_plan_numbers)
noncomputable def X3_make_b45 (c_plan_there c_plan_size : Int32) (c_rests c_plan_numbers c_turns_lengths : Ar) (v1 : Int32) : Option (Int32 × Int32 × Int32 × Ar × Ar) :=
  if c_plan_there = 0 then (bnd (X2_forget c_plan_there c_plan_size) <| un2 fun c_plan_there_59 c_plan_size_59 => some ((-1), c_plan_there_59, c_plan_size_59, c_rests, c_plan_numbers)) else (if v1 ≤ 9 then (X3_make_b74 c_plan_there c_plan_size c_rests c_plan_numbers c_turns_lengths) else (bnd (X3_improve c_plan_size c_plan_numbers c_turns_lengths) <| fun c_plan_numbers_71 => X3_make_b74 c_plan_there c_plan_size c_rests c_plan_numbers_71 c_turns_lengths))
noncomputable def X3_make (c_plan_there c_plan_size : Int32) (c_rests c_plan_numbers c_turns_lengths : Ar) (v1 : Int32) : Option (Int32 × Int32 × Int32 × Ar × Ar) :=
  bnd (X2_forget c_plan_there c_plan_size) <| un2 fun c_plan_there_4 c_plan_size_4 => if 9 < v1 then (bnd (X3_goNearest c_plan_size_4 c_plan_numbers c_turns_lengths v1) <| un3 fun r_39 c_plan_size_39 c_plan_numbers_39 => ck (bl r_39) <| X3_make_b45 r_39 c_plan_size_39 c_rests c_plan_numbers_39 c_turns_lengths v1) else (bnd (X3_measureRests c_rests c_turns_lengths v1) <| fun c_rests_15 => bnd (X3_followRests c_plan_size_4 c_rests_15 c_plan_numbers c_turns_lengths v1) <| un3 fun r_24 c_plan_size_24 c_plan_numbers_24 => ck (bl r_24) <| X3_make_b45 r_24 c_plan_size_24 c_rests_15 c_plan_numbers_24 c_turns_lengths v1)
set_option maxHeartbeats 4000000 in
set_option maxRecDepth 100000 in
theorem t_X3_make (l : Launch) (g : G9) (a_t a_plan a_rests a_turns a_plan_numbers a_turns_lengths a_turns_ways a_turns_rows a_turns_known : Nat) (c_plan_there c_plan_size : Int32) (c_rests c_plan_numbers c_turns_lengths : Ar) (v1 r0 o_plan_there o_plan_size : Int32) (o_rests o_plan_numbers : Ar) (h : X3_make c_plan_there c_plan_size c_rests c_plan_numbers c_turns_lengths v1 = some (r0, o_plan_there, o_plan_size, o_rests, o_plan_numbers)) : CtI l g yX3_make cX3_make 2 .int 4 99 [.ref a_t, .int v1] (w_X3_make g a_t a_plan a_rests a_turns a_plan_numbers a_turns_lengths a_turns_ways a_turns_rows a_turns_known c_plan_there c_plan_size c_rests c_plan_numbers c_turns_lengths) r0 (w_X3_make g a_t a_plan a_rests a_turns a_plan_numbers a_turns_lengths a_turns_ways a_turns_rows a_turns_known o_plan_there o_plan_size o_rests o_plan_numbers c_turns_lengths) := by
  refine startI (by decide) (Nat.le_of_ble_eq_true rfl) ?_
  intro p e s m below meth c A Q ls args M hW hl ret
  have hx := M.1
  have hb := M.2.1
  have hown := M.2.2.2.1
  have hu := M.2.2.2.2.1
  have hl : lv_has ls 2 [(0, .ref a_t), (1, .int v1)] := hl
  unfold X3_make at h
  obtain ⟨H, eH⟩ : ∃ z, z = s.heap := ⟨_, rfl⟩
  obtain ⟨locs, eL⟩ : ∃ z, z = ([] : List Loc) := ⟨_, rfl⟩
  rw [← eL] at hW ⊢
  suffices hS9 : WD g s A (w_X3_make g a_t a_plan a_rests a_turns a_plan_numbers a_turns_lengths a_turns_ways a_turns_rows a_turns_known c_plan_there c_plan_size c_rests c_plan_numbers c_turns_lengths) H locs → W p l e (rm9 4 99) s m args below meth c H locs 0 0 Q (F0 m 0 ls []) by
    rw [← eH] at hW ⊢
    exact hS9 hW
  clear hW eH eL
  intro hW
  have J74 : ∀ (c_plan_there c_plan_size : Int32) (c_rests c_plan_numbers : Ar) (H : Heap) (locs : List Loc) (ls : Array Slot), X3_make_b74 c_plan_there c_plan_size c_rests c_plan_numbers c_turns_lengths = some (r0, o_plan_there, o_plan_size, o_rests, o_plan_numbers) → WD g s A (w_X3_make g a_t a_plan a_rests a_turns a_plan_numbers a_turns_lengths a_turns_ways a_turns_rows a_turns_known c_plan_there c_plan_size c_rests c_plan_numbers c_turns_lengths) H locs → lv_has ls 2 [(0, .ref a_t)] → W p l e (rm9 4 99) s m args below meth c H locs 0 0 Q (F0 m 74 ls []) := by
    intro c_plan_there c_plan_size c_rests c_plan_numbers H locs ls h hW hl
    unfold X3_make_b74 at h
    refine lv_aload_n (pc := 74) hx hb (dd dX3_make 36 rfl) rfl (lv_at hl 0 rfl) ?_
    refine rGet (pc := 75) M hW 0 0 iU3 rfl rfl (by decide) (uw1 239 rfl rfl) rfl (dd dX3_make 37 rfl) ?_
    obtain ⟨r_78, hr, h⟩ := bnd_ex h
    refine callVI (pc := 78) (na := 0) (As := []) (rest := []) (ws2 := (w_X3_make g a_t a_plan a_rests a_turns a_plan_numbers a_turns_lengths a_turns_ways a_turns_rows a_turns_known c_plan_there c_plan_size c_rests c_plan_numbers c_turns_lengths)) M hl.1 hW (t_X2_sum l g a_plan a_plan_numbers a_turns a_turns_lengths a_turns_ways a_turns_rows a_turns_known c_plan_there c_plan_size c_plan_numbers c_turns_lengths r_78 hr) rfl [1, 4, 3, 5] [0, 2] [0, 2, 1, 4, 3, 5] rfl rfl rfl rfl rfl rfl rfl 1 2 rfl rfl rfl (uw4 89 rfl rfl) (uw4 86 rfl rfl) (uw4 87 rfl rfl) (uw4 88 rfl rfl) (uw1 9 rfl rfl) ⟨by decide, by decide, by decide⟩ rfl ⟨by decide, by decide⟩ (Nat.le_of_ble_eq_true rfl) ⟨Nat.zero_le _, Nat.zero_le _⟩ (dd dX3_make 38 rfl) (fun H locs hW => ?_)
    have hW9 := hW
    cases h
    exact ret _ _ _ 81 hW9 rfl (dd dX3_make 39 rfl)
  have J45 : ∀ (c_plan_there c_plan_size : Int32) (c_rests c_plan_numbers : Ar) (H : Heap) (locs : List Loc) (ls : Array Slot), X3_make_b45 c_plan_there c_plan_size c_rests c_plan_numbers c_turns_lengths v1 = some (r0, o_plan_there, o_plan_size, o_rests, o_plan_numbers) → WD g s A (w_X3_make g a_t a_plan a_rests a_turns a_plan_numbers a_turns_lengths a_turns_ways a_turns_rows a_turns_known c_plan_there c_plan_size c_rests c_plan_numbers c_turns_lengths) H locs → lv_has ls 2 [(0, .ref a_t), (1, .int v1)] → W p l e (rm9 4 99) s m args below meth c H locs 0 0 Q (F0 m 45 ls []) := by
    intro c_plan_there c_plan_size c_rests c_plan_numbers H locs ls h hW hl
    unfold X3_make_b45 at h
    refine lv_aload_n (pc := 45) hx hb (dd dX3_make 22 rfl) rfl (lv_at hl 0 rfl) ?_
    refine rGet (pc := 46) M hW 0 0 iU3 rfl rfl (by decide) (uw1 239 rfl rfl) rfl (dd dX3_make 23 rfl) ?_
    refine rGet (pc := 49) M hW 1 2 iU2 rfl rfl (by decide) (uw1 218 rfl rfl) rfl (dd dX3_make 24 rfl) ?_
    refine lv_if_ne (pc := 52) (tgt := 64) hx hb (dd dX3_make 25 rfl) (by decide) (fun hc => ?_) (fun hc => ?_)
    · have h := it_f hc h
      refine lv_iload_n (pc := 64) hx hb (dd dX3_make 31 rfl) rfl (lv_at hl 1 rfl) ?_
      refine lv_bipush (pc := 65) (v := 9) hx hb (dd dX3_make 32 rfl) (by decide) ?_
      refine lv_icmp_le (pc := 67) (tgt := 74) hx hb (dd dX3_make 33 rfl) (by decide) (fun hc => ?_) (fun hc => ?_)
      · have h := it_t hc h
        exact J74 _ _ _ _ _ _ _ h hW (lv_sub hl [0] rfl)
      · have h := it_f hc h
        refine lv_aload_n (pc := 70) hx hb (dd dX3_make 34 rfl) rfl (lv_at hl 0 rfl) ?_
        obtain ⟨c_plan_numbers_71, hr, h⟩ := bnd_ex h
        refine callVV (pc := 71) (na := 0) (As := []) (rest := []) (ws2 := (w_X3_make g a_t a_plan a_rests a_turns a_plan_numbers a_turns_lengths a_turns_ways a_turns_rows a_turns_known c_plan_there c_plan_size c_rests c_plan_numbers_71 c_turns_lengths)) M hl.1 hW (t_X3_improve l g a_t a_plan a_turns a_plan_numbers a_turns_lengths a_rests a_turns_ways a_turns_rows a_turns_known c_plan_there c_plan_size c_plan_numbers c_turns_lengths c_plan_numbers_71 hr) rfl [0, 1, 3, 4, 5] [2] [1, 2, 0, 3, 4, 5] rfl rfl rfl rfl rfl rfl rfl 0 3 rfl rfl rfl (uw4 73 rfl rfl) (uw4 70 rfl rfl) (uw4 72 rfl rfl) (uwp 31 rfl rfl) (uw1 10 rfl rfl) ⟨by decide, by decide, by decide⟩ rfl ⟨by decide, by decide⟩ (Nat.le_of_ble_eq_true rfl) ⟨Nat.zero_le _, Nat.zero_le _⟩ (dd dX3_make 35 rfl) (fun H locs hW => ?_)
        exact J74 _ _ _ _ _ _ _ h hW (lv_sub hl [0] rfl)
    · have h := it_t hc h
      refine lv_aload_n (pc := 55) hx hb (dd dX3_make 26 rfl) rfl (lv_at hl 0 rfl) ?_
      refine rGet (pc := 56) M hW 0 0 iU3 rfl rfl (by decide) (uw1 239 rfl rfl) rfl (dd dX3_make 27 rfl) ?_
      obtain ⟨⟨c_plan_there_59, c_plan_size_59⟩, hr, h⟩ := bnd_ex h
      have h := un2_at h
      refine callVV (pc := 59) (na := 0) (As := []) (rest := []) (ws2 := (w_X3_make g a_t a_plan a_rests a_turns a_plan_numbers a_turns_lengths a_turns_ways a_turns_rows a_turns_known c_plan_there_59 c_plan_size_59 c_rests c_plan_numbers c_turns_lengths)) M hl.1 hW (t_X2_forget l g a_plan a_turns a_plan_numbers c_plan_there c_plan_size c_plan_there_59 c_plan_size_59 hr) rfl [1] [0, 2, 3, 4, 5] [0, 5, 1, 2, 3, 4] rfl rfl rfl rfl rfl rfl rfl 1 2 rfl rfl rfl (uw3 1 rfl rfl) (uw4 36 rfl rfl) (uw2 239 rfl rfl) (uw3 0 rfl rfl) (uw1 9 rfl rfl) ⟨by decide, by decide, by decide⟩ rfl ⟨by decide, by decide⟩ (Nat.le_of_ble_eq_true rfl) ⟨Nat.zero_le _, Nat.zero_le _⟩ (dd dX3_make 28 rfl) (fun H locs hW => ?_)
      refine lv_iconst (pc := 62) (v := (-1)) hx hb (dd dX3_make 29 rfl) (by decide) ?_
      have hW9 := hW
      cases h
      exact ret _ _ _ 63 hW9 rfl (dd dX3_make 30 rfl)
  refine lv_aload_n (pc := 0) hx hb (dd dX3_make 0 rfl) rfl (lv_at hl 0 rfl) ?_
  refine rGet (pc := 1) M hW 0 0 iU3 rfl rfl (by decide) (uw1 239 rfl rfl) rfl (dd dX3_make 1 rfl) ?_
  obtain ⟨⟨c_plan_there_4, c_plan_size_4⟩, hr, h⟩ := bnd_ex h
  have h := un2_at h
  refine callVV (pc := 4) (na := 0) (As := []) (rest := []) (ws2 := (w_X3_make g a_t a_plan a_rests a_turns a_plan_numbers a_turns_lengths a_turns_ways a_turns_rows a_turns_known c_plan_there_4 c_plan_size_4 c_rests c_plan_numbers c_turns_lengths)) M hl.1 hW (t_X2_forget l g a_plan a_turns a_plan_numbers c_plan_there c_plan_size c_plan_there_4 c_plan_size_4 hr) rfl [1] [0, 2, 3, 4, 5] [0, 5, 1, 2, 3, 4] rfl rfl rfl rfl rfl rfl rfl 1 2 rfl rfl rfl (uw3 1 rfl rfl) (uw4 36 rfl rfl) (uw2 239 rfl rfl) (uw3 0 rfl rfl) (uw1 9 rfl rfl) ⟨by decide, by decide, by decide⟩ rfl ⟨by decide, by decide⟩ (Nat.le_of_ble_eq_true rfl) ⟨Nat.zero_le _, Nat.zero_le _⟩ (dd dX3_make 2 rfl) (fun H locs hW => ?_)
  refine lv_iload_n (pc := 7) hx hb (dd dX3_make 3 rfl) rfl (lv_at hl 1 rfl) ?_
  refine lv_bipush (pc := 8) (v := 9) hx hb (dd dX3_make 4 rfl) (by decide) ?_
  refine lv_icmp_gt (pc := 10) (tgt := 33) hx hb (dd dX3_make 5 rfl) (by decide) (fun hc => ?_) (fun hc => ?_)
  · have h := it_t hc h
    refine lv_aload_n (pc := 33) hx hb (dd dX3_make 16 rfl) rfl (lv_at hl 0 rfl) ?_
    refine rGet (pc := 34) M hW 0 0 iU3 rfl rfl (by decide) (uw1 239 rfl rfl) rfl (dd dX3_make 17 rfl) ?_
    refine lv_aload_n (pc := 37) hx hb (dd dX3_make 18 rfl) rfl (lv_at hl 0 rfl) ?_
    refine lv_iload_n (pc := 38) hx hb (dd dX3_make 19 rfl) rfl (lv_at hl 1 rfl) ?_
    obtain ⟨⟨r_39, c_plan_size_39, c_plan_numbers_39⟩, hr, h⟩ := bnd_ex h
    have h := un3_at h
    refine callVI (pc := 39) (na := 1) (As := [.int v1]) (rest := [.ref a_plan]) (ws2 := (w_X3_make g a_t a_plan a_rests a_turns a_plan_numbers a_turns_lengths a_turns_ways a_turns_rows a_turns_known c_plan_there_4 c_plan_size_39 c_rests c_plan_numbers_39 c_turns_lengths)) M hl.1 hW (t_X3_goNearest l g a_t a_plan a_turns a_plan_numbers a_turns_lengths a_rests a_turns_ways a_turns_rows a_turns_known c_plan_there_4 c_plan_size_4 c_plan_numbers c_turns_lengths v1 r_39 c_plan_size_39 c_plan_numbers_39 hr) rfl [0, 1, 3, 4, 5] [2] [1, 2, 0, 3, 4, 5] rfl rfl rfl rfl rfl rfl rfl 0 3 rfl rfl rfl (uw4 65 rfl rfl) (uw4 62 rfl rfl) (uw4 64 rfl rfl) (uwp 29 rfl rfl) (uw1 10 rfl rfl) ⟨by decide, by decide, by decide⟩ rfl ⟨by decide, by decide⟩ (Nat.le_of_ble_eq_true rfl) ⟨Nat.zero_le _, Nat.zero_le _⟩ (dd dX3_make 20 rfl) (fun H locs hW => ?_)
    obtain ⟨hi, h⟩ := ck_ex h
    refine rPut (pc := 42) M hW 1 2 tyX2 tyX2_ok nmX2 iU2 rfl rfl (by decide) (uw1 218 rfl rfl) rfl (bl_nar hi) (bl_fit hi) (Nat.le_of_ble_eq_true rfl) (dd dX3_make 21 rfl) (ws' := (w_X3_make g a_t a_plan a_rests a_turns a_plan_numbers a_turns_lengths a_turns_ways a_turns_rows a_turns_known r_39 c_plan_size_39 c_rests c_plan_numbers_39 c_turns_lengths)) rfl (fun H locs hW => ?_)
    exact J45 _ _ _ _ _ _ _ h hW (lv_sub hl [0, 1] rfl)
  · have h := it_f hc h
    refine lv_aload_n (pc := 13) hx hb (dd dX3_make 6 rfl) rfl (lv_at hl 0 rfl) ?_
    refine lv_iload_n (pc := 14) hx hb (dd dX3_make 7 rfl) rfl (lv_at hl 1 rfl) ?_
    obtain ⟨c_rests_15, hr, h⟩ := bnd_ex h
    refine callVV (pc := 15) (na := 1) (As := [.int v1]) (rest := []) (ws2 := (w_X3_make g a_t a_plan a_rests a_turns a_plan_numbers a_turns_lengths a_turns_ways a_turns_rows a_turns_known c_plan_there_4 c_plan_size_4 c_rests_15 c_plan_numbers c_turns_lengths)) M hl.1 hW (t_X3_measureRests l g a_t a_rests a_turns a_turns_lengths a_plan a_turns_ways a_turns_rows a_turns_known c_rests c_turns_lengths v1 c_rests_15 hr) rfl [0, 2, 3, 5] [1, 4] [2, 0, 3, 4, 1, 5] rfl rfl rfl rfl rfl rfl rfl 0 3 rfl rfl rfl (uw4 40 rfl rfl) (uw4 37 rfl rfl) (uw4 39 rfl rfl) (uwp 25 rfl rfl) (uw1 10 rfl rfl) ⟨by decide, by decide, by decide⟩ rfl ⟨by decide, by decide⟩ (Nat.le_of_ble_eq_true rfl) ⟨Nat.zero_le _, Nat.zero_le _⟩ (dd dX3_make 8 rfl) (fun H locs hW => ?_)
    refine lv_aload_n (pc := 18) hx hb (dd dX3_make 9 rfl) rfl (lv_at hl 0 rfl) ?_
    refine rGet (pc := 19) M hW 0 0 iU3 rfl rfl (by decide) (uw1 239 rfl rfl) rfl (dd dX3_make 10 rfl) ?_
    refine lv_aload_n (pc := 22) hx hb (dd dX3_make 11 rfl) rfl (lv_at hl 0 rfl) ?_
    refine lv_iload_n (pc := 23) hx hb (dd dX3_make 12 rfl) rfl (lv_at hl 1 rfl) ?_
    obtain ⟨⟨r_24, c_plan_size_24, c_plan_numbers_24⟩, hr, h⟩ := bnd_ex h
    have h := un3_at h
    refine callVI (pc := 24) (na := 1) (As := [.int v1]) (rest := [.ref a_plan]) (ws2 := (w_X3_make g a_t a_plan a_rests a_turns a_plan_numbers a_turns_lengths a_turns_ways a_turns_rows a_turns_known c_plan_there_4 c_plan_size_24 c_rests_15 c_plan_numbers_24 c_turns_lengths)) M hl.1 hW (t_X3_followRests l g a_t a_plan a_rests a_turns a_plan_numbers a_turns_lengths a_turns_ways a_turns_rows a_turns_known c_plan_there_4 c_plan_size_4 c_rests_15 c_plan_numbers c_turns_lengths v1 r_24 c_plan_size_24 c_plan_numbers_24 hr) rfl [0, 1, 2, 3, 4, 5] [] [0, 1, 2, 3, 4, 5] rfl rfl rfl rfl rfl rfl rfl 0 3 rfl rfl rfl (uw4 57 rfl rfl) (uw4 54 rfl rfl) (uw4 56 rfl rfl) (uwp 28 rfl rfl) (uw1 10 rfl rfl) ⟨by decide, by decide, by decide⟩ rfl ⟨by decide, by decide⟩ (Nat.le_of_ble_eq_true rfl) ⟨Nat.zero_le _, Nat.zero_le _⟩ (dd dX3_make 13 rfl) (fun H locs hW => ?_)
    obtain ⟨hi, h⟩ := ck_ex h
    refine rPut (pc := 27) M hW 1 2 tyX2 tyX2_ok nmX2 iU2 rfl rfl (by decide) (uw1 218 rfl rfl) rfl (bl_nar hi) (bl_fit hi) (Nat.le_of_ble_eq_true rfl) (dd dX3_make 14 rfl) (ws' := (w_X3_make g a_t a_plan a_rests a_turns a_plan_numbers a_turns_lengths a_turns_ways a_turns_rows a_turns_known r_24 c_plan_size_24 c_rests_15 c_plan_numbers_24 c_turns_lengths)) rfl (fun H locs hW => ?_)
    refine lv_goto (pc := 30) (tgt := 45) hx hb (dd dX3_make 15 rfl) (by decide) ?_
    exact J45 _ _ _ _ _ _ _ h hW (lv_sub hl [0, 1] rfl)
abbrev w_X4_callWagon (g : G9) (a_t a_findings a_places a_crop a_bearing : Nat) (c_capacity c_weight c_unload : Int32) (c_findings c_places : Ar) : va_W := [ob a_t 4 [.ref a_crop, .ref a_bearing, .ref a_findings, .ref a_places, .int c_capacity, .int c_weight, .int c_unload], ia g a_findings 8 c_findings, ia g a_places 1200 c_places]
noncomputable def X4_callWagon_b34 (c_unload : Int32) (c_findings c_places : Ar) : Option (Ar × Ar) :=
  ck (ix 5 8) <| ck (ix 3 8) <| ck (ix 5 8) <| nm (au c_findings 5 ((ag c_findings 5) + (ag c_findings 3))) fun c_findings_48 => ck (ix 3 8) <| nm (au c_findings_48 3 0) fun c_findings_55 => ck (ix 0 8) <| ck (ix 0 8) <| nm (au c_findings_55 0 ((ag c_findings_55 0) + c_unload)) fun c_findings_68 => some (c_findings_68, c_places)
noncomputable def X4_callWagon (c_unload : Int32) (c_findings c_places : Ar) (v1 : Int32) : Option (Ar × Ar) :=
  ck (ix 4 8) <| if 1200 ≤ (ag c_findings 4) then (X4_callWagon_b34 c_unload c_findings c_places) else (ck (ix 4 8) <| ck (ix (ag c_findings 4) 1200) <| nm (au c_places (ag c_findings 4) v1) fun c_places_23 => ck (ix 4 8) <| ck (ix 4 8) <| nm (au c_findings 4 ((ag c_findings 4) + 1)) fun c_findings_33 => X4_callWagon_b34 c_unload c_findings_33 c_places_23)
set_option maxHeartbeats 4000000 in
set_option maxRecDepth 100000 in
theorem t_X4_callWagon (l : Launch) (g : G9) (a_t a_findings a_places a_crop a_bearing : Nat) (c_capacity c_weight c_unload : Int32) (c_findings c_places : Ar) (v1 : Int32) (o_findings o_places : Ar) (h : X4_callWagon c_unload c_findings c_places v1 = some (o_findings, o_places)) : CtV l g yX4_callWagon cX4_callWagon 2 0 0 [.ref a_t, .int v1] (w_X4_callWagon g a_t a_findings a_places a_crop a_bearing c_capacity c_weight c_unload c_findings c_places) (w_X4_callWagon g a_t a_findings a_places a_crop a_bearing c_capacity c_weight c_unload o_findings o_places) := by
  refine startV (by decide) (Nat.le_of_ble_eq_true rfl) ?_
  intro p e s m below meth c A Q ls args M hW hl ret
  have hx := M.1
  have hb := M.2.1
  have hown := M.2.2.2.1
  have hu := M.2.2.2.2.1
  have hl : lv_has ls 2 [(0, .ref a_t), (1, .int v1)] := hl
  unfold X4_callWagon at h
  obtain ⟨H, eH⟩ : ∃ z, z = s.heap := ⟨_, rfl⟩
  obtain ⟨locs, eL⟩ : ∃ z, z = ([] : List Loc) := ⟨_, rfl⟩
  rw [← eL] at hW ⊢
  suffices hS9 : WD g s A (w_X4_callWagon g a_t a_findings a_places a_crop a_bearing c_capacity c_weight c_unload c_findings c_places) H locs → W p l e (rm9 0 0) s m args below meth c H locs 0 0 Q (F0 m 0 ls []) by
    rw [← eH] at hW ⊢
    exact hS9 hW
  clear hW eH eL
  intro hW
  have J34 : ∀ (c_findings c_places : Ar) (H : Heap) (locs : List Loc) (ls : Array Slot), X4_callWagon_b34 c_unload c_findings c_places = some (o_findings, o_places) → WD g s A (w_X4_callWagon g a_t a_findings a_places a_crop a_bearing c_capacity c_weight c_unload c_findings c_places) H locs → lv_has ls 2 [(0, .ref a_t)] → W p l e (rm9 0 0) s m args below meth c H locs 0 0 Q (F0 m 34 ls []) := by
    intro c_findings c_places H locs ls h hW hl
    unfold X4_callWagon_b34 at h
    refine lv_aload_n (pc := 34) hx hb (dd dX4_callWagon 22 rfl) rfl (lv_at hl 0 rfl) ?_
    refine rGet (pc := 35) M hW 0 2 iU4 rfl rfl (by decide) (uw2 25 rfl rfl) rfl (dd dX4_callWagon 23 rfl) ?_
    refine lv_iconst (pc := 38) (v := 5) hx hb (dd dX4_callWagon 24 rfl) (by decide) ?_
    refine lv_dup2_11 (pc := 39) hx hb (dd dX4_callWagon 25 rfl) rfl rfl ?_
    obtain ⟨hi, h⟩ := ck_ex h
    refine rIald (pc := 40) M hW 1 rfl hi (dd dX4_callWagon 26 rfl) ?_
    refine lv_aload_n (pc := 41) hx hb (dd dX4_callWagon 27 rfl) rfl (lv_at hl 0 rfl) ?_
    refine rGet (pc := 42) M hW 0 2 iU4 rfl rfl (by decide) (uw2 25 rfl rfl) rfl (dd dX4_callWagon 28 rfl) ?_
    refine lv_iconst (pc := 45) (v := 3) hx hb (dd dX4_callWagon 29 rfl) (by decide) ?_
    obtain ⟨hi, h⟩ := ck_ex h
    refine rIald (pc := 46) M hW 1 rfl hi (dd dX4_callWagon 30 rfl) ?_
    refine lv_iadd (pc := 47) hx hb (dd dX4_callWagon 31 rfl) ?_
    obtain ⟨hi, h⟩ := ck_ex h
    obtain ⟨c_findings_48, ec_findings_48, h⟩ := nm_ex h
    refine rIast (pc := 48) M hW 1 rfl hi ec_findings_48 (ws' := (w_X4_callWagon g a_t a_findings a_places a_crop a_bearing c_capacity c_weight c_unload c_findings_48 c_places)) rfl (dd dX4_callWagon 32 rfl) (fun H locs hW => ?_)
    refine lv_aload_n (pc := 49) hx hb (dd dX4_callWagon 33 rfl) rfl (lv_at hl 0 rfl) ?_
    refine rGet (pc := 50) M hW 0 2 iU4 rfl rfl (by decide) (uw2 25 rfl rfl) rfl (dd dX4_callWagon 34 rfl) ?_
    refine lv_iconst (pc := 53) (v := 3) hx hb (dd dX4_callWagon 35 rfl) (by decide) ?_
    refine lv_iconst (pc := 54) (v := 0) hx hb (dd dX4_callWagon 36 rfl) (by decide) ?_
    obtain ⟨hi, h⟩ := ck_ex h
    obtain ⟨c_findings_55, ec_findings_55, h⟩ := nm_ex h
    refine rIast (pc := 55) M hW 1 rfl hi ec_findings_55 (ws' := (w_X4_callWagon g a_t a_findings a_places a_crop a_bearing c_capacity c_weight c_unload c_findings_55 c_places)) rfl (dd dX4_callWagon 37 rfl) (fun H locs hW => ?_)
    refine lv_aload_n (pc := 56) hx hb (dd dX4_callWagon 38 rfl) rfl (lv_at hl 0 rfl) ?_
    refine rGet (pc := 57) M hW 0 2 iU4 rfl rfl (by decide) (uw2 25 rfl rfl) rfl (dd dX4_callWagon 39 rfl) ?_
    refine lv_iconst (pc := 60) (v := 0) hx hb (dd dX4_callWagon 40 rfl) (by decide) ?_
    refine lv_dup2_11 (pc := 61) hx hb (dd dX4_callWagon 41 rfl) rfl rfl ?_
    obtain ⟨hi, h⟩ := ck_ex h
    refine rIald (pc := 62) M hW 1 rfl hi (dd dX4_callWagon 42 rfl) ?_
    refine lv_aload_n (pc := 63) hx hb (dd dX4_callWagon 43 rfl) rfl (lv_at hl 0 rfl) ?_
    refine rGet (pc := 64) M hW 0 6 iU4 rfl rfl (by decide) (uw2 33 rfl rfl) rfl (dd dX4_callWagon 44 rfl) ?_
    refine lv_iadd (pc := 67) hx hb (dd dX4_callWagon 45 rfl) ?_
    obtain ⟨hi, h⟩ := ck_ex h
    obtain ⟨c_findings_68, ec_findings_68, h⟩ := nm_ex h
    refine rIast (pc := 68) M hW 1 rfl hi ec_findings_68 (ws' := (w_X4_callWagon g a_t a_findings a_places a_crop a_bearing c_capacity c_weight c_unload c_findings_68 c_places)) rfl (dd dX4_callWagon 46 rfl) (fun H locs hW => ?_)
    have hW9 := hW
    cases h
    exact ret _ _ _ 69 hW9 (dd dX4_callWagon 47 rfl)
  refine lv_aload_n (pc := 0) hx hb (dd dX4_callWagon 0 rfl) rfl (lv_at hl 0 rfl) ?_
  refine rGet (pc := 1) M hW 0 2 iU4 rfl rfl (by decide) (uw2 25 rfl rfl) rfl (dd dX4_callWagon 1 rfl) ?_
  refine lv_iconst (pc := 4) (v := 4) hx hb (dd dX4_callWagon 2 rfl) (by decide) ?_
  obtain ⟨hi, h⟩ := ck_ex h
  refine rIald (pc := 5) M hW 1 rfl hi (dd dX4_callWagon 3 rfl) ?_
  refine lv_sipush (pc := 6) (v := 1200) hx hb (dd dX4_callWagon 4 rfl) (by decide) ?_
  refine lv_icmp_ge (pc := 9) (tgt := 34) hx hb (dd dX4_callWagon 5 rfl) (by decide) (fun hc => ?_) (fun hc => ?_)
  · have h := it_t hc h
    exact J34 _ _ _ _ _ h hW (lv_sub hl [0] rfl)
  · have h := it_f hc h
    refine lv_aload_n (pc := 12) hx hb (dd dX4_callWagon 6 rfl) rfl (lv_at hl 0 rfl) ?_
    refine rGet (pc := 13) M hW 0 3 iU4 rfl rfl (by decide) (uw2 27 rfl rfl) rfl (dd dX4_callWagon 7 rfl) ?_
    refine lv_aload_n (pc := 16) hx hb (dd dX4_callWagon 8 rfl) rfl (lv_at hl 0 rfl) ?_
    refine rGet (pc := 17) M hW 0 2 iU4 rfl rfl (by decide) (uw2 25 rfl rfl) rfl (dd dX4_callWagon 9 rfl) ?_
    refine lv_iconst (pc := 20) (v := 4) hx hb (dd dX4_callWagon 10 rfl) (by decide) ?_
    obtain ⟨hi, h⟩ := ck_ex h
    refine rIald (pc := 21) M hW 1 rfl hi (dd dX4_callWagon 11 rfl) ?_
    refine lv_iload_n (pc := 22) hx hb (dd dX4_callWagon 12 rfl) rfl (lv_at hl 1 rfl) ?_
    obtain ⟨hi, h⟩ := ck_ex h
    obtain ⟨c_places_23, ec_places_23, h⟩ := nm_ex h
    refine rIast (pc := 23) M hW 2 rfl hi ec_places_23 (ws' := (w_X4_callWagon g a_t a_findings a_places a_crop a_bearing c_capacity c_weight c_unload c_findings c_places_23)) rfl (dd dX4_callWagon 13 rfl) (fun H locs hW => ?_)
    refine lv_aload_n (pc := 24) hx hb (dd dX4_callWagon 14 rfl) rfl (lv_at hl 0 rfl) ?_
    refine rGet (pc := 25) M hW 0 2 iU4 rfl rfl (by decide) (uw2 25 rfl rfl) rfl (dd dX4_callWagon 15 rfl) ?_
    refine lv_iconst (pc := 28) (v := 4) hx hb (dd dX4_callWagon 16 rfl) (by decide) ?_
    refine lv_dup2_11 (pc := 29) hx hb (dd dX4_callWagon 17 rfl) rfl rfl ?_
    obtain ⟨hi, h⟩ := ck_ex h
    refine rIald (pc := 30) M hW 1 rfl hi (dd dX4_callWagon 18 rfl) ?_
    refine lv_iconst (pc := 31) (v := 1) hx hb (dd dX4_callWagon 19 rfl) (by decide) ?_
    refine lv_iadd (pc := 32) hx hb (dd dX4_callWagon 20 rfl) ?_
    obtain ⟨hi, h⟩ := ck_ex h
    obtain ⟨c_findings_33, ec_findings_33, h⟩ := nm_ex h
    refine rIast (pc := 33) M hW 1 rfl hi ec_findings_33 (ws' := (w_X4_callWagon g a_t a_findings a_places a_crop a_bearing c_capacity c_weight c_unload c_findings_33 c_places_23)) rfl (dd dX4_callWagon 21 rfl) (fun H locs hW => ?_)
    exact J34 _ _ _ _ _ h hW (lv_sub hl [0] rfl)
abbrev w_X4_workSquare (g : G9) (a_t a_bearing a_crop a_findings a_places : Nat) (c_capacity c_weight c_unload : Int32) (c_bearing c_crop c_findings c_places : Ar) : va_W := [ob a_t 4 [.ref a_crop, .ref a_bearing, .ref a_findings, .ref a_places, .int c_capacity, .int c_weight, .int c_unload], ia g a_bearing 1200 c_bearing, ia g a_crop 1200 c_crop, ia g a_findings 8 c_findings, ia g a_places 1200 c_places]
noncomputable def X4_workSquare_b109 (c_findings c_places : Ar) : Option (Ar × Ar) :=
  ck (ix 1 8) <| ck (ix 1 8) <| nm (au c_findings 1 ((ag c_findings 1) + 1)) fun c_findings_118 => ck (ix 0 8) <| ck (ix 0 8) <| nm (au c_findings_118 0 ((ag c_findings_118 0) + 1)) fun c_findings_128 => some (c_findings_128, c_places)
noncomputable def X4_workSquare_b25 (c_weight : Int32) (c_bearing c_crop c_findings c_places : Ar) (v1 : Int32) : Option (Ar × Ar) :=
  ck (ix 3 8) <| ck (ix v1 1200) <| ck (ix 3 8) <| nm (au c_findings 3 ((ag c_findings 3) + (ag c_crop v1))) fun c_findings_39 => ck (ix 2 8) <| ck (ix v1 1200) <| ck (ix 2 8) <| nm (au c_findings_39 2 ((ag c_findings_39 2) + (ag c_crop v1))) fun c_findings_54 => ck (ix 7 8) <| ck (ix 3 8) <| ck (ix 7 8) <| nm (au c_findings_54 7 (mx (ag c_findings_54 7) (ag c_findings_54 3))) fun c_findings_77 => ck (ix 3 8) <| ck (ix v1 1200) <| if (c_weight + (ag c_findings_77 3)) ≤ (ag c_bearing v1) then (X4_workSquare_b109 c_findings_77 c_places) else (ck (ix 6 8) <| ck (ix 6 8) <| nm (au c_findings_77 6 ((ag c_findings_77 6) + 1)) fun c_findings_108 => X4_workSquare_b109 c_findings_108 c_places)
noncomputable def X4_workSquare (c_capacity c_weight c_unload : Int32) (c_bearing c_crop c_findings c_places : Ar) (v1 : Int32) : Option (Ar × Ar) :=
  ck (ix 3 8) <| ck (ix v1 1200) <| if ((ag c_findings 3) + (ag c_crop v1)) ≤ c_capacity then (X4_workSquare_b25 c_weight c_bearing c_crop c_findings c_places v1) else (bnd (X4_callWagon c_unload c_findings c_places v1) <| un2 fun c_findings_22 c_places_22 => X4_workSquare_b25 c_weight c_bearing c_crop c_findings_22 c_places_22 v1)
set_option maxHeartbeats 4000000 in
set_option maxRecDepth 100000 in
theorem t_X4_workSquare (l : Launch) (g : G9) (a_t a_bearing a_crop a_findings a_places : Nat) (c_capacity c_weight c_unload : Int32) (c_bearing c_crop c_findings c_places : Ar) (v1 : Int32) (o_findings o_places : Ar) (h : X4_workSquare c_capacity c_weight c_unload c_bearing c_crop c_findings c_places v1 = some (o_findings, o_places)) : CtV l g yX4_workSquare cX4_workSquare 2 1 22 [.ref a_t, .int v1] (w_X4_workSquare g a_t a_bearing a_crop a_findings a_places c_capacity c_weight c_unload c_bearing c_crop c_findings c_places) (w_X4_workSquare g a_t a_bearing a_crop a_findings a_places c_capacity c_weight c_unload c_bearing c_crop o_findings o_places) := by
  refine startV (by decide) (Nat.le_of_ble_eq_true rfl) ?_
  intro p e s m below meth c A Q ls args M hW hl ret
  have hx := M.1
  have hb := M.2.1
  have hown := M.2.2.2.1
  have hu := M.2.2.2.2.1
  have hl : lv_has ls 2 [(0, .ref a_t), (1, .int v1)] := hl
  unfold X4_workSquare at h
  obtain ⟨H, eH⟩ : ∃ z, z = s.heap := ⟨_, rfl⟩
  obtain ⟨locs, eL⟩ : ∃ z, z = ([] : List Loc) := ⟨_, rfl⟩
  rw [← eL] at hW ⊢
  suffices hS9 : WD g s A (w_X4_workSquare g a_t a_bearing a_crop a_findings a_places c_capacity c_weight c_unload c_bearing c_crop c_findings c_places) H locs → W p l e (rm9 1 22) s m args below meth c H locs 0 0 Q (F0 m 0 ls []) by
    rw [← eH] at hW ⊢
    exact hS9 hW
  clear hW eH eL
  intro hW
  have J109 : ∀ (c_findings c_places : Ar) (H : Heap) (locs : List Loc) (ls : Array Slot), X4_workSquare_b109 c_findings c_places = some (o_findings, o_places) → WD g s A (w_X4_workSquare g a_t a_bearing a_crop a_findings a_places c_capacity c_weight c_unload c_bearing c_crop c_findings c_places) H locs → lv_has ls 2 [(0, .ref a_t)] → W p l e (rm9 1 22) s m args below meth c H locs 0 0 Q (F0 m 109 ls []) := by
    intro c_findings c_places H locs ls h hW hl
    unfold X4_workSquare_b109 at h
    refine lv_aload_n (pc := 109) hx hb (dd dX4_workSquare_p1 10 rfl) rfl (lv_at hl 0 rfl) ?_
    refine rGet (pc := 110) M hW 0 2 iU4 rfl rfl (by decide) (uw2 25 rfl rfl) rfl (dd dX4_workSquare_p1 11 rfl) ?_
    refine lv_iconst (pc := 113) (v := 1) hx hb (dd dX4_workSquare_p1 12 rfl) (by decide) ?_
    refine lv_dup2_11 (pc := 114) hx hb (dd dX4_workSquare_p1 13 rfl) rfl rfl ?_
    obtain ⟨hi, h⟩ := ck_ex h
    refine rIald (pc := 115) M hW 3 rfl hi (dd dX4_workSquare_p1 14 rfl) ?_
    refine lv_iconst (pc := 116) (v := 1) hx hb (dd dX4_workSquare_p1 15 rfl) (by decide) ?_
    refine lv_iadd (pc := 117) hx hb (dd dX4_workSquare_p1 16 rfl) ?_
    obtain ⟨hi, h⟩ := ck_ex h
    obtain ⟨c_findings_118, ec_findings_118, h⟩ := nm_ex h
    refine rIast (pc := 118) M hW 3 rfl hi ec_findings_118 (ws' := (w_X4_workSquare g a_t a_bearing a_crop a_findings a_places c_capacity c_weight c_unload c_bearing c_crop c_findings_118 c_places)) rfl (dd dX4_workSquare_p1 17 rfl) (fun H locs hW => ?_)
    refine lv_aload_n (pc := 119) hx hb (dd dX4_workSquare_p1 18 rfl) rfl (lv_at hl 0 rfl) ?_
    refine rGet (pc := 120) M hW 0 2 iU4 rfl rfl (by decide) (uw2 25 rfl rfl) rfl (dd dX4_workSquare_p1 19 rfl) ?_
    refine lv_iconst (pc := 123) (v := 0) hx hb (dd dX4_workSquare_p1 20 rfl) (by decide) ?_
    refine lv_dup2_11 (pc := 124) hx hb (dd dX4_workSquare_p1 21 rfl) rfl rfl ?_
    obtain ⟨hi, h⟩ := ck_ex h
    refine rIald (pc := 125) M hW 3 rfl hi (dd dX4_workSquare_p1 22 rfl) ?_
    refine lv_iconst (pc := 126) (v := 1) hx hb (dd dX4_workSquare_p1 23 rfl) (by decide) ?_
    refine lv_iadd (pc := 127) hx hb (dd dX4_workSquare_p1 24 rfl) ?_
    obtain ⟨hi, h⟩ := ck_ex h
    obtain ⟨c_findings_128, ec_findings_128, h⟩ := nm_ex h
    refine rIast (pc := 128) M hW 3 rfl hi ec_findings_128 (ws' := (w_X4_workSquare g a_t a_bearing a_crop a_findings a_places c_capacity c_weight c_unload c_bearing c_crop c_findings_128 c_places)) rfl (dd dX4_workSquare_p1 25 rfl) (fun H locs hW => ?_)
    have hW9 := hW
    cases h
    exact ret _ _ _ 129 hW9 (dd dX4_workSquare_p1 26 rfl)
  have J25 : ∀ (c_findings c_places : Ar) (H : Heap) (locs : List Loc) (ls : Array Slot), X4_workSquare_b25 c_weight c_bearing c_crop c_findings c_places v1 = some (o_findings, o_places) → WD g s A (w_X4_workSquare g a_t a_bearing a_crop a_findings a_places c_capacity c_weight c_unload c_bearing c_crop c_findings c_places) H locs → lv_has ls 2 [(0, .ref a_t), (1, .int v1)] → W p l e (rm9 1 22) s m args below meth c H locs 0 0 Q (F0 m 25 ls []) := by
    intro c_findings c_places H locs ls h hW hl
    unfold X4_workSquare_b25 at h
    refine lv_aload_n (pc := 25) hx hb (dd dX4_workSquare_p0 15 rfl) rfl (lv_at hl 0 rfl) ?_
    refine rGet (pc := 26) M hW 0 2 iU4 rfl rfl (by decide) (uw2 25 rfl rfl) rfl (dd dX4_workSquare_p0 16 rfl) ?_
    refine lv_iconst (pc := 29) (v := 3) hx hb (dd dX4_workSquare_p0 17 rfl) (by decide) ?_
    refine lv_dup2_11 (pc := 30) hx hb (dd dX4_workSquare_p0 18 rfl) rfl rfl ?_
    obtain ⟨hi, h⟩ := ck_ex h
    refine rIald (pc := 31) M hW 3 rfl hi (dd dX4_workSquare_p0 19 rfl) ?_
    refine lv_aload_n (pc := 32) hx hb (dd dX4_workSquare_p0 20 rfl) rfl (lv_at hl 0 rfl) ?_
    refine rGet (pc := 33) M hW 0 0 iU4 rfl rfl (by decide) (uw2 21 rfl rfl) rfl (dd dX4_workSquare_p0 21 rfl) ?_
    refine lv_iload_n (pc := 36) hx hb (dd dX4_workSquare_p0 22 rfl) rfl (lv_at hl 1 rfl) ?_
    obtain ⟨hi, h⟩ := ck_ex h
    refine rIald (pc := 37) M hW 2 rfl hi (dd dX4_workSquare_p0 23 rfl) ?_
    refine lv_iadd (pc := 38) hx hb (dd dX4_workSquare_p0 24 rfl) ?_
    obtain ⟨hi, h⟩ := ck_ex h
    obtain ⟨c_findings_39, ec_findings_39, h⟩ := nm_ex h
    refine rIast (pc := 39) M hW 3 rfl hi ec_findings_39 (ws' := (w_X4_workSquare g a_t a_bearing a_crop a_findings a_places c_capacity c_weight c_unload c_bearing c_crop c_findings_39 c_places)) rfl (dd dX4_workSquare_p0 25 rfl) (fun H locs hW => ?_)
    refine lv_aload_n (pc := 40) hx hb (dd dX4_workSquare_p0 26 rfl) rfl (lv_at hl 0 rfl) ?_
    refine rGet (pc := 41) M hW 0 2 iU4 rfl rfl (by decide) (uw2 25 rfl rfl) rfl (dd dX4_workSquare_p0 27 rfl) ?_
    refine lv_iconst (pc := 44) (v := 2) hx hb (dd dX4_workSquare_p0 28 rfl) (by decide) ?_
    refine lv_dup2_11 (pc := 45) hx hb (dd dX4_workSquare_p0 29 rfl) rfl rfl ?_
    obtain ⟨hi, h⟩ := ck_ex h
    refine rIald (pc := 46) M hW 3 rfl hi (dd dX4_workSquare_p0 30 rfl) ?_
    refine lv_aload_n (pc := 47) hx hb (dd dX4_workSquare_p0 31 rfl) rfl (lv_at hl 0 rfl) ?_
    refine rGet (pc := 48) M hW 0 0 iU4 rfl rfl (by decide) (uw2 21 rfl rfl) rfl (dd dX4_workSquare_p0 32 rfl) ?_
    refine lv_iload_n (pc := 51) hx hb (dd dX4_workSquare_p0 33 rfl) rfl (lv_at hl 1 rfl) ?_
    obtain ⟨hi, h⟩ := ck_ex h
    refine rIald (pc := 52) M hW 2 rfl hi (dd dX4_workSquare_p0 34 rfl) ?_
    refine lv_iadd (pc := 53) hx hb (dd dX4_workSquare_p0 35 rfl) ?_
    obtain ⟨hi, h⟩ := ck_ex h
    obtain ⟨c_findings_54, ec_findings_54, h⟩ := nm_ex h
    refine rIast (pc := 54) M hW 3 rfl hi ec_findings_54 (ws' := (w_X4_workSquare g a_t a_bearing a_crop a_findings a_places c_capacity c_weight c_unload c_bearing c_crop c_findings_54 c_places)) rfl (dd dX4_workSquare_p0 36 rfl) (fun H locs hW => ?_)
    refine lv_aload_n (pc := 55) hx hb (dd dX4_workSquare_p0 37 rfl) rfl (lv_at hl 0 rfl) ?_
    refine rGet (pc := 56) M hW 0 2 iU4 rfl rfl (by decide) (uw2 25 rfl rfl) rfl (dd dX4_workSquare_p0 38 rfl) ?_
    refine lv_bipush (pc := 59) (v := 7) hx hb (dd dX4_workSquare_p0 39 rfl) (by decide) ?_
    refine lv_aload_n (pc := 61) hx hb (dd dX4_workSquare_p0 40 rfl) rfl (lv_at hl 0 rfl) ?_
    refine rGet (pc := 62) M hW 0 2 iU4 rfl rfl (by decide) (uw2 25 rfl rfl) rfl (dd dX4_workSquare_p0 41 rfl) ?_
    refine lv_bipush (pc := 65) (v := 7) hx hb (dd dX4_workSquare_p0 42 rfl) (by decide) ?_
    obtain ⟨hi, h⟩ := ck_ex h
    refine rIald (pc := 67) M hW 3 rfl hi (dd dX4_workSquare_p0 43 rfl) ?_
    refine lv_aload_n (pc := 68) hx hb (dd dX4_workSquare_p0 44 rfl) rfl (lv_at hl 0 rfl) ?_
    refine rGet (pc := 69) M hW 0 2 iU4 rfl rfl (by decide) (uw2 25 rfl rfl) rfl (dd dX4_workSquare_p0 45 rfl) ?_
    refine lv_iconst (pc := 72) (v := 3) hx hb (dd dX4_workSquare_p0 46 rfl) (by decide) ?_
    obtain ⟨hi, h⟩ := ck_ex h
    refine rIald (pc := 73) M hW 3 rfl hi (dd dX4_workSquare_p0 47 rfl) ?_
    refine rMax (pc := 74) M hl.1 (uw4 193 rfl rfl) (uw1 44 rfl rfl) (uw1 4 rfl rfl) (uw1 45 rfl rfl) ⟨by decide, by decide⟩ (Nat.le_of_ble_eq_true rfl) ⟨Nat.zero_le _, Nat.zero_le _⟩ (dd dX4_workSquare_p0 48 rfl) ?_
    obtain ⟨hi, h⟩ := ck_ex h
    obtain ⟨c_findings_77, ec_findings_77, h⟩ := nm_ex h
    refine rIast (pc := 77) M hW 3 rfl hi ec_findings_77 (ws' := (w_X4_workSquare g a_t a_bearing a_crop a_findings a_places c_capacity c_weight c_unload c_bearing c_crop c_findings_77 c_places)) rfl (dd dX4_workSquare_p0 49 rfl) (fun H locs hW => ?_)
    refine lv_aload_n (pc := 78) hx hb (dd dX4_workSquare_p0 50 rfl) rfl (lv_at hl 0 rfl) ?_
    refine rGet (pc := 79) M hW 0 5 iU4 rfl rfl (by decide) (uw2 31 rfl rfl) rfl (dd dX4_workSquare_p0 51 rfl) ?_
    refine lv_aload_n (pc := 82) hx hb (dd dX4_workSquare_p0 52 rfl) rfl (lv_at hl 0 rfl) ?_
    refine rGet (pc := 83) M hW 0 2 iU4 rfl rfl (by decide) (uw2 25 rfl rfl) rfl (dd dX4_workSquare_p0 53 rfl) ?_
    refine lv_iconst (pc := 86) (v := 3) hx hb (dd dX4_workSquare_p0 54 rfl) (by decide) ?_
    obtain ⟨hi, h⟩ := ck_ex h
    refine rIald (pc := 87) M hW 3 rfl hi (dd dX4_workSquare_p0 55 rfl) ?_
    refine lv_iadd (pc := 88) hx hb (dd dX4_workSquare_p0 56 rfl) ?_
    refine lv_aload_n (pc := 89) hx hb (dd dX4_workSquare_p0 57 rfl) rfl (lv_at hl 0 rfl) ?_
    refine rGet (pc := 90) M hW 0 1 iU4 rfl rfl (by decide) (uw2 23 rfl rfl) rfl (dd dX4_workSquare_p0 58 rfl) ?_
    refine lv_iload_n (pc := 93) hx hb (dd dX4_workSquare_p0 59 rfl) rfl (lv_at hl 1 rfl) ?_
    obtain ⟨hi, h⟩ := ck_ex h
    refine rIald (pc := 94) M hW 1 rfl hi (dd dX4_workSquare_p1 0 rfl) ?_
    refine lv_icmp_le (pc := 95) (tgt := 109) hx hb (dd dX4_workSquare_p1 1 rfl) (by decide) (fun hc => ?_) (fun hc => ?_)
    · have h := it_t hc h
      exact J109 _ _ _ _ _ h hW (lv_sub hl [0] rfl)
    · have h := it_f hc h
      refine lv_aload_n (pc := 98) hx hb (dd dX4_workSquare_p1 2 rfl) rfl (lv_at hl 0 rfl) ?_
      refine rGet (pc := 99) M hW 0 2 iU4 rfl rfl (by decide) (uw2 25 rfl rfl) rfl (dd dX4_workSquare_p1 3 rfl) ?_
      refine lv_bipush (pc := 102) (v := 6) hx hb (dd dX4_workSquare_p1 4 rfl) (by decide) ?_
      refine lv_dup2_11 (pc := 104) hx hb (dd dX4_workSquare_p1 5 rfl) rfl rfl ?_
      obtain ⟨hi, h⟩ := ck_ex h
      refine rIald (pc := 105) M hW 3 rfl hi (dd dX4_workSquare_p1 6 rfl) ?_
      refine lv_iconst (pc := 106) (v := 1) hx hb (dd dX4_workSquare_p1 7 rfl) (by decide) ?_
      refine lv_iadd (pc := 107) hx hb (dd dX4_workSquare_p1 8 rfl) ?_
      obtain ⟨hi, h⟩ := ck_ex h
      obtain ⟨c_findings_108, ec_findings_108, h⟩ := nm_ex h
      refine rIast (pc := 108) M hW 3 rfl hi ec_findings_108 (ws' := (w_X4_workSquare g a_t a_bearing a_crop a_findings a_places c_capacity c_weight c_unload c_bearing c_crop c_findings_108 c_places)) rfl (dd dX4_workSquare_p1 9 rfl) (fun H locs hW => ?_)
      exact J109 _ _ _ _ _ h hW (lv_sub hl [0] rfl)
  refine lv_aload_n (pc := 0) hx hb (dd dX4_workSquare_p0 0 rfl) rfl (lv_at hl 0 rfl) ?_
  refine rGet (pc := 1) M hW 0 2 iU4 rfl rfl (by decide) (uw2 25 rfl rfl) rfl (dd dX4_workSquare_p0 1 rfl) ?_
  refine lv_iconst (pc := 4) (v := 3) hx hb (dd dX4_workSquare_p0 2 rfl) (by decide) ?_
  obtain ⟨hi, h⟩ := ck_ex h
  refine rIald (pc := 5) M hW 3 rfl hi (dd dX4_workSquare_p0 3 rfl) ?_
  refine lv_aload_n (pc := 6) hx hb (dd dX4_workSquare_p0 4 rfl) rfl (lv_at hl 0 rfl) ?_
  refine rGet (pc := 7) M hW 0 0 iU4 rfl rfl (by decide) (uw2 21 rfl rfl) rfl (dd dX4_workSquare_p0 5 rfl) ?_
  refine lv_iload_n (pc := 10) hx hb (dd dX4_workSquare_p0 6 rfl) rfl (lv_at hl 1 rfl) ?_
  obtain ⟨hi, h⟩ := ck_ex h
  refine rIald (pc := 11) M hW 2 rfl hi (dd dX4_workSquare_p0 7 rfl) ?_
  refine lv_iadd (pc := 12) hx hb (dd dX4_workSquare_p0 8 rfl) ?_
  refine lv_aload_n (pc := 13) hx hb (dd dX4_workSquare_p0 9 rfl) rfl (lv_at hl 0 rfl) ?_
  refine rGet (pc := 14) M hW 0 4 iU4 rfl rfl (by decide) (uw2 29 rfl rfl) rfl (dd dX4_workSquare_p0 10 rfl) ?_
  refine lv_icmp_le (pc := 17) (tgt := 25) hx hb (dd dX4_workSquare_p0 11 rfl) (by decide) (fun hc => ?_) (fun hc => ?_)
  · have h := it_t hc h
    exact J25 _ _ _ _ _ h hW (lv_sub hl [0, 1] rfl)
  · have h := it_f hc h
    refine lv_aload_n (pc := 20) hx hb (dd dX4_workSquare_p0 12 rfl) rfl (lv_at hl 0 rfl) ?_
    refine lv_iload_n (pc := 21) hx hb (dd dX4_workSquare_p0 13 rfl) rfl (lv_at hl 1 rfl) ?_
    obtain ⟨⟨c_findings_22, c_places_22⟩, hr, h⟩ := bnd_ex h
    have h := un2_at h
    refine callVV (pc := 22) (na := 1) (As := [.int v1]) (rest := []) (ws2 := (w_X4_workSquare g a_t a_bearing a_crop a_findings a_places c_capacity c_weight c_unload c_bearing c_crop c_findings_22 c_places_22)) M hl.1 hW (t_X4_callWagon l g a_t a_findings a_places a_crop a_bearing c_capacity c_weight c_unload c_findings c_places v1 c_findings_22 c_places_22 hr) rfl [0, 3, 4] [1, 2] [2, 0, 1, 3, 4] rfl rfl rfl rfl rfl rfl rfl 0 4 rfl rfl rfl (uw4 192 rfl rfl) (uw4 189 rfl rfl) (uw4 191 rfl rfl) (uwp 40 rfl rfl) (uw1 11 rfl rfl) ⟨by decide, by decide, by decide⟩ rfl ⟨by decide, by decide⟩ (Nat.le_of_ble_eq_true rfl) ⟨Nat.zero_le _, Nat.zero_le _⟩ (dd dX4_workSquare_p0 14 rfl) (fun H locs hW => ?_)
    exact J25 _ _ _ _ _ h hW (lv_sub hl [0, 1] rfl)
abbrev w_X4_workRow (g : G9) (a_p1 a_t a_p1_squares a_p1_starts a_bearing a_crop a_findings a_places a_p1_land a_p1_strips a_p1_alongs a_p1_numbers a_p1_sorted a_p1_spare a_p1_tally a_p1_ends : Nat) (c_p1_there c_p1_size c_capacity c_weight c_unload : Int32) (c_p1_squares c_p1_starts c_bearing c_crop c_findings c_places : Ar) : va_W := [ob a_p1 6 [.ref a_p1_land, .ref a_p1_strips, .ref a_p1_alongs, .ref a_p1_numbers, .ref a_p1_sorted, .ref a_p1_spare, .ref a_p1_tally, .ref a_p1_squares, .ref a_p1_starts, .ref a_p1_ends, .int c_p1_there, .int c_p1_size], ob a_t 4 [.ref a_crop, .ref a_bearing, .ref a_findings, .ref a_places, .int c_capacity, .int c_weight, .int c_unload], ia g a_p1_squares 1200 c_p1_squares, ia g a_p1_starts 61 c_p1_starts, ia g a_bearing 1200 c_bearing, ia g a_crop 1200 c_crop, ia g a_findings 8 c_findings, ia g a_places 1200 c_places]
noncomputable def X4_workRow_b24_53 (c_capacity c_weight c_unload : Int32) (c_p1_squares c_bearing c_crop c_findings c_places : Ar) (v3 v4 v5 v6 k2 : Int32) : Option ((Ar × Ar × Int32) ⊕ (Ar × Ar)) :=
  ck (ix k2 1200) <| bnd (X4_workSquare c_capacity c_weight c_unload c_bearing c_crop c_findings c_places (ag c_p1_squares k2)) <| un2 fun c_findings_54 c_places_54 => nm (v6 + 1) fun v6_57 => some (.inl (c_findings_54, c_places_54, v6_57))
noncomputable def X4_workRow_L24 (c_capacity c_weight c_unload : Int32) (c_p1_squares c_bearing c_crop : Ar) (v3 v4 v5 : Int32) (c_findings c_places : Ar) (v6 : Int32) : Option ((Ar × Ar × Int32) ⊕ (Ar × Ar)) :=
  if v5 < v6 then (some (.inr (c_findings, c_places))) else (if v3 = 0 then (X4_workRow_b24_53 c_capacity c_weight c_unload c_p1_squares c_bearing c_crop c_findings c_places v3 v4 v5 v6 ((v4 + v5) - v6)) else (X4_workRow_b24_53 c_capacity c_weight c_unload c_p1_squares c_bearing c_crop c_findings c_places v3 v4 v5 v6 v6))
noncomputable def X4_workRow (c_capacity c_weight c_unload : Int32) (c_p1_squares c_p1_starts c_bearing c_crop c_findings c_places : Ar) (v2 v3 : Int32) : Option (Ar × Ar) :=
  ck (ix v2 61) <| nm ((ag c_p1_starts v2)) fun v4_6 => ck (ix (v2 + 1) 61) <| nm (((ag c_p1_starts (v2 + 1)) - 1)) fun v5_18 => bnd (whileV (fun st => X4_workRow_L24 c_capacity c_weight c_unload c_p1_squares c_bearing c_crop v3 v4_6 v5_18 st.1 st.2.1 st.2.2) (c_findings, c_places, v4_6)) <| (un2 fun c_findings_63 c_places_63 => some (c_findings_63, c_places_63))
set_option maxHeartbeats 4000000 in
set_option maxRecDepth 100000 in
theorem t_X4_workRow (l : Launch) (g : G9) (a_p1 a_t a_p1_squares a_p1_starts a_bearing a_crop a_findings a_places a_p1_land a_p1_strips a_p1_alongs a_p1_numbers a_p1_sorted a_p1_spare a_p1_tally a_p1_ends : Nat) (c_p1_there c_p1_size c_capacity c_weight c_unload : Int32) (c_p1_squares c_p1_starts c_bearing c_crop c_findings c_places : Ar) (v2 v3 : Int32) (o_findings o_places : Ar) (h : X4_workRow c_capacity c_weight c_unload c_p1_squares c_p1_starts c_bearing c_crop c_findings c_places v2 v3 = some (o_findings, o_places)) : CtV l g yX4_workRow cX4_workRow 7 2 43 [.ref a_t, .ref a_p1, .int v2, .int v3] (w_X4_workRow g a_p1 a_t a_p1_squares a_p1_starts a_bearing a_crop a_findings a_places a_p1_land a_p1_strips a_p1_alongs a_p1_numbers a_p1_sorted a_p1_spare a_p1_tally a_p1_ends c_p1_there c_p1_size c_capacity c_weight c_unload c_p1_squares c_p1_starts c_bearing c_crop c_findings c_places) (w_X4_workRow g a_p1 a_t a_p1_squares a_p1_starts a_bearing a_crop a_findings a_places a_p1_land a_p1_strips a_p1_alongs a_p1_numbers a_p1_sorted a_p1_spare a_p1_tally a_p1_ends c_p1_there c_p1_size c_capacity c_weight c_unload c_p1_squares c_p1_starts c_bearing c_crop o_findings o_places) := by
  refine startV (by decide) (Nat.le_of_ble_eq_true rfl) ?_
  intro p e s m below meth c A Q ls args M hW hl ret
  have hx := M.1
  have hb := M.2.1
  have hown := M.2.2.2.1
  have hu := M.2.2.2.2.1
  have hl : lv_has ls 7 [(0, .ref a_t), (1, .ref a_p1), (2, .int v2), (3, .int v3)] := hl
  unfold X4_workRow at h
  obtain ⟨H, eH⟩ : ∃ z, z = s.heap := ⟨_, rfl⟩
  obtain ⟨locs, eL⟩ : ∃ z, z = ([] : List Loc) := ⟨_, rfl⟩
  rw [← eL] at hW ⊢
  suffices hS9 : WD g s A (w_X4_workRow g a_p1 a_t a_p1_squares a_p1_starts a_bearing a_crop a_findings a_places a_p1_land a_p1_strips a_p1_alongs a_p1_numbers a_p1_sorted a_p1_spare a_p1_tally a_p1_ends c_p1_there c_p1_size c_capacity c_weight c_unload c_p1_squares c_p1_starts c_bearing c_crop c_findings c_places) H locs → W p l e (rm9 2 43) s m args below meth c H locs 0 0 Q (F0 m 0 ls []) by
    rw [← eH] at hW ⊢
    exact hS9 hW
  clear hW eH eL
  intro hW
  refine lv_aload_n (pc := 0) hx hb (dd dX4_workRow 0 rfl) rfl (lv_at hl 1 rfl) ?_
  refine rGet (pc := 1) M hW 0 8 iU6 rfl rfl (by decide) (uw1 151 rfl rfl) rfl (dd dX4_workRow 1 rfl) ?_
  refine lv_iload_n (pc := 4) hx hb (dd dX4_workRow 2 rfl) rfl (lv_at hl 2 rfl) ?_
  obtain ⟨hi, h⟩ := ck_ex h
  refine rIald (pc := 5) M hW 3 rfl hi (dd dX4_workRow 3 rfl) ?_
  obtain ⟨v4_6, ev4_6, h⟩ := nm_ex h
  refine rTopi (pc := 6) ev4_6 ?_
  refine lv_istore (pc := 6) (lv' := [(4, .int v4_6), (0, .ref a_t), (1, .ref a_p1), (2, .int v2), (3, .int v3)]) hx hb (dd dX4_workRow 4 rfl) hl (by decide) rfl (fun ls hl => ?_)
  refine lv_aload_n (pc := 8) hx hb (dd dX4_workRow 5 rfl) rfl (lv_at hl 2 rfl) ?_
  refine rGet (pc := 9) M hW 0 8 iU6 rfl rfl (by decide) (uw1 151 rfl rfl) rfl (dd dX4_workRow 6 rfl) ?_
  refine lv_iload_n (pc := 12) hx hb (dd dX4_workRow 7 rfl) rfl (lv_at hl 3 rfl) ?_
  refine lv_iconst (pc := 13) (v := 1) hx hb (dd dX4_workRow 8 rfl) (by decide) ?_
  refine lv_iadd (pc := 14) hx hb (dd dX4_workRow 9 rfl) ?_
  obtain ⟨hi, h⟩ := ck_ex h
  refine rIald (pc := 15) M hW 3 rfl hi (dd dX4_workRow 10 rfl) ?_
  refine lv_iconst (pc := 16) (v := 1) hx hb (dd dX4_workRow 11 rfl) (by decide) ?_
  refine lv_isub (pc := 17) hx hb (dd dX4_workRow 12 rfl) ?_
  obtain ⟨v5_18, ev5_18, h⟩ := nm_ex h
  refine rTopi (pc := 18) ev5_18 ?_
  refine lv_istore (pc := 18) (lv' := [(5, .int v5_18), (4, .int v4_6), (0, .ref a_t), (1, .ref a_p1), (2, .int v2), (3, .int v3)]) hx hb (dd dX4_workRow 13 rfl) hl (by decide) rfl (fun ls hl => ?_)
  refine lv_iload (pc := 20) hx hb (dd dX4_workRow 14 rfl) (lv_at hl 1 rfl) ?_
  refine lv_istore (pc := 22) (lv' := [(6, .int v4_6), (5, .int v5_18), (4, .int v4_6), (0, .ref a_t), (1, .ref a_p1), (2, .int v2), (3, .int v3)]) hx hb (dd dX4_workRow 15 rfl) hl (by decide) rfl (fun ls hl => ?_)
  obtain ⟨ex, hw, h⟩ := bnd_ex h
  refine loopW (fun st => ∀ (H : Heap) (locs : List Loc) (ls : Array Slot), WD g s A (w_X4_workRow g a_p1 a_t a_p1_squares a_p1_starts a_bearing a_crop a_findings a_places a_p1_land a_p1_strips a_p1_alongs a_p1_numbers a_p1_sorted a_p1_spare a_p1_tally a_p1_ends c_p1_there c_p1_size c_capacity c_weight c_unload c_p1_squares c_p1_starts c_bearing c_crop (st.1) (st.2.1)) H locs → lv_has ls 7 [(0, .ref a_t), (1, .ref a_p1), (3, .int v3), (4, .int v4_6), (5, .int v5_18), (6, .int (st.2.2))] → W p l e (rm9 2 43) s m args below meth c H locs 0 0 Q (F0 m 24 ls [])) (fun (ex : (Ar × Ar)) => ∀ (H : Heap) (locs : List Loc) (ls : Array Slot), WD g s A (w_X4_workRow g a_p1 a_t a_p1_squares a_p1_starts a_bearing a_crop a_findings a_places a_p1_land a_p1_strips a_p1_alongs a_p1_numbers a_p1_sorted a_p1_spare a_p1_tally a_p1_ends c_p1_there c_p1_size c_capacity c_weight c_unload c_p1_squares c_p1_starts c_bearing c_crop (ex.1) (ex.2)) H locs → lv_has ls 7 [] → W p l e (rm9 2 43) s m args below meth c H locs 0 0 Q (F0 m 63 ls [])) ?_ hw ?_ H locs ls hW (lv_sub hl [3, 4, 6, 2, 1, 0] rfl)
  · rintro ⟨c_findings, c_places, v6⟩ o hb9 hk H locs ls hW hl
    have h : X4_workRow_L24 c_capacity c_weight c_unload c_p1_squares c_bearing c_crop v3 v4_6 v5_18 c_findings c_places v6 = some o := hb9
    clear hb9
    unfold X4_workRow_L24 at h
    have J53 : ∀ (c_findings c_places : Ar) (v6 k2 : Int32) (H : Heap) (locs : List Loc) (ls : Array Slot), X4_workRow_b24_53 c_capacity c_weight c_unload c_p1_squares c_bearing c_crop c_findings c_places v3 v4_6 v5_18 v6 k2 = some o → WD g s A (w_X4_workRow g a_p1 a_t a_p1_squares a_p1_starts a_bearing a_crop a_findings a_places a_p1_land a_p1_strips a_p1_alongs a_p1_numbers a_p1_sorted a_p1_spare a_p1_tally a_p1_ends c_p1_there c_p1_size c_capacity c_weight c_unload c_p1_squares c_p1_starts c_bearing c_crop c_findings c_places) H locs → lv_has ls 7 [(0, .ref a_t), (1, .ref a_p1), (3, .int v3), (4, .int v4_6), (5, .int v5_18), (6, .int v6)] → W p l e (rm9 2 43) s m args below meth c H locs 0 0 Q (F0 m 53 ls [.int k2, .ref a_p1_squares, .ref a_t]) := by
      intro c_findings c_places v6 k2 H locs ls h hW hl
      unfold X4_workRow_b24_53 at h
      obtain ⟨hi, h⟩ := ck_ex h
      refine rIald (pc := 53) M hW 2 rfl hi (dd dX4_workRow 31 rfl) ?_
      obtain ⟨⟨c_findings_54, c_places_54⟩, hr, h⟩ := bnd_ex h
      have h := un2_at h
      refine callVV (pc := 54) (na := 1) (As := [.int (ag c_p1_squares k2)]) (rest := []) (ws2 := (w_X4_workRow g a_p1 a_t a_p1_squares a_p1_starts a_bearing a_crop a_findings a_places a_p1_land a_p1_strips a_p1_alongs a_p1_numbers a_p1_sorted a_p1_spare a_p1_tally a_p1_ends c_p1_there c_p1_size c_capacity c_weight c_unload c_p1_squares c_p1_starts c_bearing c_crop c_findings_54 c_places_54)) M hl.1 hW (t_X4_workSquare l g a_t a_bearing a_crop a_findings a_places c_capacity c_weight c_unload c_bearing c_crop c_findings c_places (ag c_p1_squares k2) c_findings_54 c_places_54 hr) rfl [1, 4, 5, 6, 7] [0, 2, 3] [0, 3, 1, 2, 4, 5, 6, 7] rfl rfl rfl rfl rfl rfl rfl 1 4 rfl rfl rfl (uw4 188 rfl rfl) (uw4 185 rfl rfl) (uw4 187 rfl rfl) (uwp 39 rfl rfl) (uw1 11 rfl rfl) ⟨by decide, by decide, by decide⟩ rfl ⟨by decide, by decide⟩ (Nat.le_of_ble_eq_true rfl) ⟨Nat.zero_le _, Nat.zero_le _⟩ (dd dX4_workRow 32 rfl) (fun H locs hW => ?_)
      obtain ⟨v6_57, ev6_57, h⟩ := nm_ex h
      refine lv_iinc (pc := 57) (v := v6_57) (lv' := [(6, .int v6_57), (0, .ref a_t), (1, .ref a_p1), (3, .int v3), (4, .int v4_6), (5, .int v5_18)]) hx hb (dd dX4_workRow 33 rfl) hl (k := 5) rfl (by rw [ev6_57]; rfl) (by decide) rfl (fun ls hl => ?_)
      refine lv_goto (pc := 60) (tgt := 24) hx hb (dd dX4_workRow 34 rfl) (by decide) ?_
      obtain rfl := Option.some.inj h
      exact hk _ _ _ hW (lv_sub hl [1, 2, 3, 4, 5, 0] rfl)
    refine lv_iload (pc := 24) hx hb (dd dX4_workRow 16 rfl) (lv_at hl 5 rfl) ?_
    refine lv_iload (pc := 26) hx hb (dd dX4_workRow 17 rfl) (lv_at hl 4 rfl) ?_
    refine lv_icmp_gt (pc := 28) (tgt := 63) hx hb (dd dX4_workRow 18 rfl) (by decide) (fun hc => ?_) (fun hc => ?_)
    · have h := it_t hc h
      obtain rfl := Option.some.inj h
      exact hk _ _ _ hW (lv_sub hl [] rfl)
    · have h := it_f hc h
      refine lv_aload_n (pc := 31) hx hb (dd dX4_workRow 19 rfl) rfl (lv_at hl 0 rfl) ?_
      refine lv_aload_n (pc := 32) hx hb (dd dX4_workRow 20 rfl) rfl (lv_at hl 1 rfl) ?_
      refine rGet (pc := 33) M hW 0 7 iU6 rfl rfl (by decide) (uw1 149 rfl rfl) rfl (dd dX4_workRow 21 rfl) ?_
      refine lv_iload_n (pc := 36) hx hb (dd dX4_workRow 22 rfl) rfl (lv_at hl 2 rfl) ?_
      refine lv_if_eq (pc := 37) (tgt := 45) hx hb (dd dX4_workRow 23 rfl) (by decide) (fun hc => ?_) (fun hc => ?_)
      · have h := it_t hc h
        refine lv_iload (pc := 45) hx hb (dd dX4_workRow 26 rfl) (lv_at hl 3 rfl) ?_
        refine lv_iload (pc := 47) hx hb (dd dX4_workRow 27 rfl) (lv_at hl 4 rfl) ?_
        refine lv_iadd (pc := 49) hx hb (dd dX4_workRow 28 rfl) ?_
        refine lv_iload (pc := 50) hx hb (dd dX4_workRow 29 rfl) (lv_at hl 5 rfl) ?_
        refine lv_isub (pc := 52) hx hb (dd dX4_workRow 30 rfl) ?_
        exact J53 _ _ _ _ _ _ _ h hW (lv_sub hl [0, 1, 2, 3, 4, 5] rfl)
      · have h := it_f hc h
        refine lv_iload (pc := 40) hx hb (dd dX4_workRow 24 rfl) (lv_at hl 5 rfl) ?_
        refine lv_goto (pc := 42) (tgt := 53) hx hb (dd dX4_workRow 25 rfl) (by decide) ?_
        exact J53 _ _ _ _ _ _ _ h hW (lv_sub hl [0, 1, 2, 3, 4, 5] rfl)
  · obtain ⟨c_findings_63, c_places_63⟩ := ex
    have h := un2_at h
    intro H locs ls hW hl
    have hW9 := hW
    cases h
    exact ret _ _ _ 63 hW9 (dd dX4_workRow 35 rfl)
abbrev w_X4_work (g : G9) (a_p1 a_p2 a_t a_p1_numbers a_p2_squares a_p2_starts a_bearing a_crop a_findings a_places a_p1_turns a_p2_land a_p2_strips a_p2_alongs a_p2_numbers a_p2_sorted a_p2_spare a_p2_tally a_p2_ends : Nat) (c_p1_there c_p1_size c_p2_there c_p2_size c_capacity c_weight c_unload : Int32) (c_p1_numbers c_p2_squares c_p2_starts c_bearing c_crop c_findings c_places : Ar) : va_W := [ob a_p1 2 [.ref a_p1_turns, .ref a_p1_numbers, .int c_p1_there, .int c_p1_size], ob a_p2 6 [.ref a_p2_land, .ref a_p2_strips, .ref a_p2_alongs, .ref a_p2_numbers, .ref a_p2_sorted, .ref a_p2_spare, .ref a_p2_tally, .ref a_p2_squares, .ref a_p2_starts, .ref a_p2_ends, .int c_p2_there, .int c_p2_size], ob a_t 4 [.ref a_crop, .ref a_bearing, .ref a_findings, .ref a_places, .int c_capacity, .int c_weight, .int c_unload], ia g a_p1_numbers 60 c_p1_numbers, ia g a_p2_squares 1200 c_p2_squares, ia g a_p2_starts 61 c_p2_starts, ia g a_bearing 1200 c_bearing, ia g a_crop 1200 c_crop, ia g a_findings 8 c_findings, ia g a_places 1200 c_places]
noncomputable def X4_work_b11_48 (c_capacity c_weight c_unload : Int32) (c_p2_squares c_p2_starts c_bearing c_crop c_findings c_places : Ar) (v3 v4 k2 k3 : Int32) : Option ((Ar × Ar × Int32) ⊕ (Ar × Ar)) :=
  bnd (X4_workRow c_capacity c_weight c_unload c_p2_squares c_p2_starts c_bearing c_crop c_findings c_places k2 k3) <| un2 fun c_findings_48 c_places_48 => nm (v4 + 1) fun v4_51 => some (.inl (c_findings_48, c_places_48, v4_51))
noncomputable def X4_work_L11 (c_p1_size c_capacity c_weight c_unload : Int32) (c_p1_numbers c_p2_squares c_p2_starts c_bearing c_crop : Ar) (v3 : Int32) (c_findings c_places : Ar) (v4 : Int32) : Option ((Ar × Ar × Int32) ⊕ (Ar × Ar)) :=
  if c_p1_size ≤ v4 then (some (.inr (c_findings, c_places))) else (ck (ix v4 60) <| ck (ix v4 60) <| if ((ag c_p1_numbers v4) - (ag c_p1_numbers v4) / 2 * 2) = 0 then (X4_work_b11_48 c_capacity c_weight c_unload c_p2_squares c_p2_starts c_bearing c_crop c_findings c_places v3 v4 ((ag c_p1_numbers v4) / 2) 1) else (X4_work_b11_48 c_capacity c_weight c_unload c_p2_squares c_p2_starts c_bearing c_crop c_findings c_places v3 v4 ((ag c_p1_numbers v4) / 2) 0))
noncomputable def X4_work (c_p1_size c_capacity c_weight c_unload : Int32) (c_p1_numbers c_p2_squares c_p2_starts c_bearing c_crop c_findings c_places : Ar) (v3 : Int32) : Option (Int32 × Ar × Ar) :=
  bnd (J7_fill_53178 8 c_findings 0) <| fun c_findings_5 => bnd (whileV (fun st => X4_work_L11 c_p1_size c_capacity c_weight c_unload c_p1_numbers c_p2_squares c_p2_starts c_bearing c_crop v3 st.1 st.2.1 st.2.2) (c_findings_5, c_places, 0)) <| (un2 fun c_findings_57 c_places_57 => ck (ix 0 8) <| ck (ix 0 8) <| nm (au c_findings_57 0 ((ag c_findings_57 0) + v3)) fun c_findings_66 => ck (ix 0 8) <| some ((ag c_findings_66 0), c_findings_66, c_places_57))
set_option maxHeartbeats 4000000 in
set_option maxRecDepth 100000 in
theorem t_X4_work (l : Launch) (g : G9) (a_p1 a_p2 a_t a_p1_numbers a_p2_squares a_p2_starts a_bearing a_crop a_findings a_places a_p1_turns a_p2_land a_p2_strips a_p2_alongs a_p2_numbers a_p2_sorted a_p2_spare a_p2_tally a_p2_ends : Nat) (c_p1_there c_p1_size c_p2_there c_p2_size c_capacity c_weight c_unload : Int32) (c_p1_numbers c_p2_squares c_p2_starts c_bearing c_crop c_findings c_places : Ar) (v3 r0 : Int32) (o_findings o_places : Ar) (h : X4_work c_p1_size c_capacity c_weight c_unload c_p1_numbers c_p2_squares c_p2_starts c_bearing c_crop c_findings c_places v3 = some (r0, o_findings, o_places)) : CtI l g yX4_work cX4_work 5 .int 3 69 [.ref a_t, .ref a_p1, .ref a_p2, .int v3] (w_X4_work g a_p1 a_p2 a_t a_p1_numbers a_p2_squares a_p2_starts a_bearing a_crop a_findings a_places a_p1_turns a_p2_land a_p2_strips a_p2_alongs a_p2_numbers a_p2_sorted a_p2_spare a_p2_tally a_p2_ends c_p1_there c_p1_size c_p2_there c_p2_size c_capacity c_weight c_unload c_p1_numbers c_p2_squares c_p2_starts c_bearing c_crop c_findings c_places) r0 (w_X4_work g a_p1 a_p2 a_t a_p1_numbers a_p2_squares a_p2_starts a_bearing a_crop a_findings a_places a_p1_turns a_p2_land a_p2_strips a_p2_alongs a_p2_numbers a_p2_sorted a_p2_spare a_p2_tally a_p2_ends c_p1_there c_p1_size c_p2_there c_p2_size c_capacity c_weight c_unload c_p1_numbers c_p2_squares c_p2_starts c_bearing c_crop o_findings o_places) := by
  refine startI (by decide) (Nat.le_of_ble_eq_true rfl) ?_
  intro p e s m below meth c A Q ls args M hW hl ret
  have hx := M.1
  have hb := M.2.1
  have hown := M.2.2.2.1
  have hu := M.2.2.2.2.1
  have hl : lv_has ls 5 [(0, .ref a_t), (1, .ref a_p1), (2, .ref a_p2), (3, .int v3)] := hl
  unfold X4_work at h
  obtain ⟨H, eH⟩ : ∃ z, z = s.heap := ⟨_, rfl⟩
  obtain ⟨locs, eL⟩ : ∃ z, z = ([] : List Loc) := ⟨_, rfl⟩
  rw [← eL] at hW ⊢
  suffices hS9 : WD g s A (w_X4_work g a_p1 a_p2 a_t a_p1_numbers a_p2_squares a_p2_starts a_bearing a_crop a_findings a_places a_p1_turns a_p2_land a_p2_strips a_p2_alongs a_p2_numbers a_p2_sorted a_p2_spare a_p2_tally a_p2_ends c_p1_there c_p1_size c_p2_there c_p2_size c_capacity c_weight c_unload c_p1_numbers c_p2_squares c_p2_starts c_bearing c_crop c_findings c_places) H locs → W p l e (rm9 3 69) s m args below meth c H locs 0 0 Q (F0 m 0 ls []) by
    rw [← eH] at hW ⊢
    exact hS9 hW
  clear hW eH eL
  intro hW
  refine lv_aload_n (pc := 0) hx hb (dd dX4_work 0 rfl) rfl (lv_at hl 0 rfl) ?_
  refine rGet (pc := 1) M hW 2 2 iU4 rfl rfl (by decide) (uw2 25 rfl rfl) rfl (dd dX4_work 1 rfl) ?_
  refine lv_iconst (pc := 4) (v := 0) hx hb (dd dX4_work 2 rfl) (by decide) ?_
  obtain ⟨c_findings_5, hr, h⟩ := bnd_ex h
  refine callSV (pc := 5) (na := 2) (As := [.ref a_findings, .int 0]) (rest := []) (ws2 := (w_X4_work g a_p1 a_p2 a_t a_p1_numbers a_p2_squares a_p2_starts a_bearing a_crop a_findings a_places a_p1_turns a_p2_land a_p2_strips a_p2_alongs a_p2_numbers a_p2_sorted a_p2_spare a_p2_tally a_p2_ends c_p1_there c_p1_size c_p2_there c_p2_size c_capacity c_weight c_unload c_p1_numbers c_p2_squares c_p2_starts c_bearing c_crop c_findings_5 c_places)) M hl.1 hW (t_J7_fill_53178 l g a_findings 8 c_findings 0 c_findings_5 hr) [8] [0, 1, 2, 3, 4, 5, 6, 7, 9] [0, 1, 2, 3, 4, 5, 6, 7, 9, 8] rfl rfl rfl rfl rfl rfl rfl (uw2 20 rfl rfl) (uw2 18 rfl rfl) (uw2 19 rfl rfl) (uw1 12 rfl rfl) ⟨by decide, by decide, by decide⟩ rfl ⟨by decide, by decide⟩ (Nat.le_of_ble_eq_true rfl) ⟨Nat.zero_le _, Nat.zero_le _⟩ (dd dX4_work 3 rfl) (fun H locs hW => ?_)
  refine lv_iconst (pc := 8) (v := 0) hx hb (dd dX4_work 4 rfl) (by decide) ?_
  refine lv_istore (pc := 9) (lv' := [(4, .int 0), (0, .ref a_t), (1, .ref a_p1), (2, .ref a_p2), (3, .int v3)]) hx hb (dd dX4_work 5 rfl) hl (by decide) rfl (fun ls hl => ?_)
  obtain ⟨ex, hw, h⟩ := bnd_ex h
  refine loopW (fun st => ∀ (H : Heap) (locs : List Loc) (ls : Array Slot), WD g s A (w_X4_work g a_p1 a_p2 a_t a_p1_numbers a_p2_squares a_p2_starts a_bearing a_crop a_findings a_places a_p1_turns a_p2_land a_p2_strips a_p2_alongs a_p2_numbers a_p2_sorted a_p2_spare a_p2_tally a_p2_ends c_p1_there c_p1_size c_p2_there c_p2_size c_capacity c_weight c_unload c_p1_numbers c_p2_squares c_p2_starts c_bearing c_crop (st.1) (st.2.1)) H locs → lv_has ls 5 [(0, .ref a_t), (1, .ref a_p1), (2, .ref a_p2), (3, .int v3), (4, .int (st.2.2))] → W p l e (rm9 3 69) s m args below meth c H locs 0 0 Q (F0 m 11 ls [])) (fun (ex : (Ar × Ar)) => ∀ (H : Heap) (locs : List Loc) (ls : Array Slot), WD g s A (w_X4_work g a_p1 a_p2 a_t a_p1_numbers a_p2_squares a_p2_starts a_bearing a_crop a_findings a_places a_p1_turns a_p2_land a_p2_strips a_p2_alongs a_p2_numbers a_p2_sorted a_p2_spare a_p2_tally a_p2_ends c_p1_there c_p1_size c_p2_there c_p2_size c_capacity c_weight c_unload c_p1_numbers c_p2_squares c_p2_starts c_bearing c_crop (ex.1) (ex.2)) H locs → lv_has ls 5 [(0, .ref a_t), (3, .int v3)] → W p l e (rm9 3 69) s m args below meth c H locs 0 0 Q (F0 m 57 ls [])) ?_ hw ?_ H locs ls hW (lv_sub hl [1, 2, 3, 4, 0] rfl)
  · rintro ⟨c_findings, c_places, v4⟩ o hb9 hk H locs ls hW hl
    have h : X4_work_L11 c_p1_size c_capacity c_weight c_unload c_p1_numbers c_p2_squares c_p2_starts c_bearing c_crop v3 c_findings c_places v4 = some o := hb9
    clear hb9
    unfold X4_work_L11 at h
    have J48 : ∀ (c_findings c_places : Ar) (v4 k2 k3 : Int32) (H : Heap) (locs : List Loc) (ls : Array Slot), X4_work_b11_48 c_capacity c_weight c_unload c_p2_squares c_p2_starts c_bearing c_crop c_findings c_places v3 v4 k2 k3 = some o → WD g s A (w_X4_work g a_p1 a_p2 a_t a_p1_numbers a_p2_squares a_p2_starts a_bearing a_crop a_findings a_places a_p1_turns a_p2_land a_p2_strips a_p2_alongs a_p2_numbers a_p2_sorted a_p2_spare a_p2_tally a_p2_ends c_p1_there c_p1_size c_p2_there c_p2_size c_capacity c_weight c_unload c_p1_numbers c_p2_squares c_p2_starts c_bearing c_crop c_findings c_places) H locs → lv_has ls 5 [(0, .ref a_t), (1, .ref a_p1), (2, .ref a_p2), (3, .int v3), (4, .int v4)] → W p l e (rm9 3 69) s m args below meth c H locs 0 0 Q (F0 m 48 ls [.int k3, .int k2, .ref a_p2, .ref a_t]) := by
      intro c_findings c_places v4 k2 k3 H locs ls h hW hl
      unfold X4_work_b11_48 at h
      obtain ⟨⟨c_findings_48, c_places_48⟩, hr, h⟩ := bnd_ex h
      have h := un2_at h
      refine callVV (pc := 48) (na := 3) (As := [.ref a_p2, .int k2, .int k3]) (rest := []) (ws2 := (w_X4_work g a_p1 a_p2 a_t a_p1_numbers a_p2_squares a_p2_starts a_bearing a_crop a_findings a_places a_p1_turns a_p2_land a_p2_strips a_p2_alongs a_p2_numbers a_p2_sorted a_p2_spare a_p2_tally a_p2_ends c_p1_there c_p1_size c_p2_there c_p2_size c_capacity c_weight c_unload c_p1_numbers c_p2_squares c_p2_starts c_bearing c_crop c_findings_48 c_places_48)) M hl.1 hW (t_X4_workRow l g a_p2 a_t a_p2_squares a_p2_starts a_bearing a_crop a_findings a_places a_p2_land a_p2_strips a_p2_alongs a_p2_numbers a_p2_sorted a_p2_spare a_p2_tally a_p2_ends c_p2_there c_p2_size c_capacity c_weight c_unload c_p2_squares c_p2_starts c_bearing c_crop c_findings c_places k2 k3 c_findings_48 c_places_48 hr) rfl [1, 2, 4, 5, 6, 7, 8, 9] [0, 3] [0, 2, 3, 1, 4, 5, 6, 7, 8, 9] rfl rfl rfl rfl rfl rfl rfl 2 4 rfl rfl rfl (uw4 184 rfl rfl) (uw4 181 rfl rfl) (uw4 183 rfl rfl) (uwp 38 rfl rfl) (uw1 11 rfl rfl) ⟨by decide, by decide, by decide⟩ rfl ⟨by decide, by decide⟩ (Nat.le_of_ble_eq_true rfl) ⟨Nat.zero_le _, Nat.zero_le _⟩ (dd dX4_work 28 rfl) (fun H locs hW => ?_)
      obtain ⟨v4_51, ev4_51, h⟩ := nm_ex h
      refine lv_iinc (pc := 51) (v := v4_51) (lv' := [(4, .int v4_51), (0, .ref a_t), (1, .ref a_p1), (2, .ref a_p2), (3, .int v3)]) hx hb (dd dX4_work 29 rfl) hl (k := 4) rfl (by rw [ev4_51]; rfl) (by decide) rfl (fun ls hl => ?_)
      refine lv_goto (pc := 54) (tgt := 11) hx hb (dd dX4_work 30 rfl) (by decide) ?_
      obtain rfl := Option.some.inj h
      exact hk _ _ _ hW (lv_sub hl [1, 2, 3, 4, 0] rfl)
    refine lv_iload (pc := 11) hx hb (dd dX4_work 6 rfl) (lv_at hl 4 rfl) ?_
    refine lv_aload_n (pc := 13) hx hb (dd dX4_work 7 rfl) rfl (lv_at hl 1 rfl) ?_
    refine rGet (pc := 14) M hW 0 3 iU2 rfl rfl (by decide) (uw1 221 rfl rfl) rfl (dd dX4_work 8 rfl) ?_
    refine lv_icmp_ge (pc := 17) (tgt := 57) hx hb (dd dX4_work 9 rfl) (by decide) (fun hc => ?_) (fun hc => ?_)
    · have h := it_t hc h
      obtain rfl := Option.some.inj h
      exact hk _ _ _ hW (lv_sub hl [0, 3] rfl)
    · have h := it_f hc h
      refine lv_aload_n (pc := 20) hx hb (dd dX4_work 10 rfl) rfl (lv_at hl 0 rfl) ?_
      refine lv_aload_n (pc := 21) hx hb (dd dX4_work 11 rfl) rfl (lv_at hl 2 rfl) ?_
      refine lv_aload_n (pc := 22) hx hb (dd dX4_work 12 rfl) rfl (lv_at hl 1 rfl) ?_
      refine rGet (pc := 23) M hW 0 1 iU2 rfl rfl (by decide) (uw1 214 rfl rfl) rfl (dd dX4_work 13 rfl) ?_
      refine lv_iload (pc := 26) hx hb (dd dX4_work 14 rfl) (lv_at hl 4 rfl) ?_
      obtain ⟨hi, h⟩ := ck_ex h
      refine rIald (pc := 28) M hW 3 rfl hi (dd dX4_work 15 rfl) ?_
      refine lv_iconst (pc := 29) (v := 2) hx hb (dd dX4_work 16 rfl) (by decide) ?_
      refine lv_idiv (pc := 30) hx hb (dd dX4_work 17 rfl) (by decide) ?_
      refine lv_aload_n (pc := 31) hx hb (dd dX4_work 18 rfl) rfl (lv_at hl 1 rfl) ?_
      refine rGet (pc := 32) M hW 0 1 iU2 rfl rfl (by decide) (uw1 214 rfl rfl) rfl (dd dX4_work 19 rfl) ?_
      refine lv_iload (pc := 35) hx hb (dd dX4_work 20 rfl) (lv_at hl 4 rfl) ?_
      obtain ⟨hi, h⟩ := ck_ex h
      refine rIald (pc := 37) M hW 3 rfl hi (dd dX4_work 21 rfl) ?_
      refine lv_iconst (pc := 38) (v := 2) hx hb (dd dX4_work 22 rfl) (by decide) ?_
      refine lv_irem (pc := 39) hx hb (dd dX4_work 23 rfl) (by decide) ?_
      refine lv_if_ne (pc := 40) (tgt := 47) hx hb (dd dX4_work 24 rfl) (by decide) (fun hc => ?_) (fun hc => ?_)
      · have h := it_f hc h
        refine lv_iconst (pc := 47) (v := 0) hx hb (dd dX4_work 27 rfl) (by decide) ?_
        exact J48 _ _ _ _ _ _ _ _ h hW (lv_sub hl [0, 1, 2, 3, 4] rfl)
      · have h := it_t hc h
        refine lv_iconst (pc := 43) (v := 1) hx hb (dd dX4_work 25 rfl) (by decide) ?_
        refine lv_goto (pc := 44) (tgt := 48) hx hb (dd dX4_work 26 rfl) (by decide) ?_
        exact J48 _ _ _ _ _ _ _ _ h hW (lv_sub hl [0, 1, 2, 3, 4] rfl)
  · obtain ⟨c_findings_57, c_places_57⟩ := ex
    have h := un2_at h
    intro H locs ls hW hl
    refine lv_aload_n (pc := 57) hx hb (dd dX4_work 31 rfl) rfl (lv_at hl 0 rfl) ?_
    refine rGet (pc := 58) M hW 2 2 iU4 rfl rfl (by decide) (uw2 25 rfl rfl) rfl (dd dX4_work 32 rfl) ?_
    refine lv_iconst (pc := 61) (v := 0) hx hb (dd dX4_work 33 rfl) (by decide) ?_
    refine lv_dup2_11 (pc := 62) hx hb (dd dX4_work 34 rfl) rfl rfl ?_
    obtain ⟨hi, h⟩ := ck_ex h
    refine rIald (pc := 63) M hW 8 rfl hi (dd dX4_work 35 rfl) ?_
    refine lv_iload_n (pc := 64) hx hb (dd dX4_work 36 rfl) rfl (lv_at hl 1 rfl) ?_
    refine lv_iadd (pc := 65) hx hb (dd dX4_work 37 rfl) ?_
    obtain ⟨hi, h⟩ := ck_ex h
    obtain ⟨c_findings_66, ec_findings_66, h⟩ := nm_ex h
    refine rIast (pc := 66) M hW 8 rfl hi ec_findings_66 (ws' := (w_X4_work g a_p1 a_p2 a_t a_p1_numbers a_p2_squares a_p2_starts a_bearing a_crop a_findings a_places a_p1_turns a_p2_land a_p2_strips a_p2_alongs a_p2_numbers a_p2_sorted a_p2_spare a_p2_tally a_p2_ends c_p1_there c_p1_size c_p2_there c_p2_size c_capacity c_weight c_unload c_p1_numbers c_p2_squares c_p2_starts c_bearing c_crop c_findings_66 c_places_57)) rfl (dd dX4_work 38 rfl) (fun H locs hW => ?_)
    refine lv_aload_n (pc := 67) hx hb (dd dX4_work 39 rfl) rfl (lv_at hl 0 rfl) ?_
    refine rGet (pc := 68) M hW 2 2 iU4 rfl rfl (by decide) (uw2 25 rfl rfl) rfl (dd dX4_work 40 rfl) ?_
    refine lv_iconst (pc := 71) (v := 0) hx hb (dd dX4_work 41 rfl) (by decide) ?_
    obtain ⟨hi, h⟩ := ck_ex h
    refine rIald (pc := 72) M hW 8 rfl hi (dd dX4_work 42 rfl) ?_
    have hW9 := hW
    cases h
    exact ret _ _ _ 73 hW9 rfl (dd dX4_work 43 rfl)
