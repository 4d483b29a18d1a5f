abbrev w_X8_reach (g : G9) (a_t a_land a_lengths a_slantwises a_straights a_land_kinds a_land_nears a_land_depths : Nat) (c_straightSize c_slantwiseSize c_land_laid c_land_head c_land_fieldCount c_land_innerCount : Int32) (c_lengths c_slantwises c_straights c_land_kinds : Ar) : va_W := [ob a_t 8 [.ref a_land, .ref a_lengths, .ref a_straights, .ref a_slantwises, .int c_straightSize, .int c_slantwiseSize], ob a_land 0 [.ref a_land_kinds, .ref a_land_nears, .ref a_land_depths, .int c_land_laid, .int c_land_head, .int c_land_fieldCount, .int c_land_innerCount], ia g a_lengths 1200 c_lengths, ia g a_slantwises 1200 c_slantwises, ia g a_straights 1200 c_straights, ia g a_land_kinds 1200 c_land_kinds]
noncomputable def X8_reach_b92 (c_straightSize c_slantwiseSize : Int32) (c_lengths c_slantwises c_straights : Ar) : Option (Int32 × Int32 × Ar × Ar × Ar) :=
  some (c_straightSize, c_slantwiseSize, c_lengths, c_slantwises, c_straights)
noncomputable def X8_reach_b58 (c_straightSize c_slantwiseSize : Int32) (c_lengths c_slantwises c_straights : Ar) (v1 v3 : Int32) : Option (Int32 × Int32 × Ar × Ar × Ar) :=
  if v3 = 0 then (if 1200 ≤ c_slantwiseSize then (X8_reach_b92 c_straightSize c_slantwiseSize c_lengths c_slantwises c_straights) else (ck (ix c_slantwiseSize 1200) <| nm (au c_slantwises c_slantwiseSize v1) fun c_slantwises_81 => nm ((c_slantwiseSize + 1)) fun c_slantwiseSize_89 => X8_reach_b92 c_straightSize c_slantwiseSize_89 c_lengths c_slantwises_81 c_straights)) else (X8_reach_b92 c_straightSize c_slantwiseSize c_lengths c_slantwises c_straights)
noncomputable def X8_reach (c_straightSize c_slantwiseSize : Int32) (c_lengths c_slantwises c_straights c_land_kinds : Ar) (v1 v2 v3 : Int32) : Option (Int32 × Int32 × Ar × Ar × Ar) :=
  ck (ix v1 1200) <| nm (au c_lengths v1 v2) fun c_lengths_6 => ck (ix v1 1200) <| if (ag c_land_kinds v1) = 1 then (if v3 = 0 then (X8_reach_b58 c_straightSize c_slantwiseSize c_lengths_6 c_slantwises c_straights v1 v3) else (if 1200 ≤ c_straightSize then (X8_reach_b58 c_straightSize c_slantwiseSize c_lengths_6 c_slantwises c_straights v1 v3) else (ck (ix c_straightSize 1200) <| nm (au c_straights c_straightSize v1) fun c_straights_44 => nm ((c_straightSize + 1)) fun c_straightSize_52 => X8_reach_b92 c_straightSize_52 c_slantwiseSize c_lengths_6 c_slantwises c_straights_44))) else (some (c_straightSize, c_slantwiseSize, c_lengths_6, c_slantwises, c_straights))
set_option maxHeartbeats 4000000 in
set_option maxRecDepth 100000 in
theorem t_X8_reach (l : Launch) (g : G9) (a_t a_land a_lengths a_slantwises a_straights a_land_kinds a_land_nears a_land_depths : Nat) (c_straightSize c_slantwiseSize c_land_laid c_land_head c_land_fieldCount c_land_innerCount : Int32) (c_lengths c_slantwises c_straights c_land_kinds : Ar) (v1 v2 v3 o_straightSize o_slantwiseSize : Int32) (o_lengths o_slantwises o_straights : Ar) (h : X8_reach c_straightSize c_slantwiseSize c_lengths c_slantwises c_straights c_land_kinds v1 v2 v3 = some (o_straightSize, o_slantwiseSize, o_lengths, o_slantwises, o_straights)) : CtV l g yX8_reach cX8_reach 4 0 0 [.ref a_t, .int v1, .int v2, .int v3] (w_X8_reach g a_t a_land a_lengths a_slantwises a_straights a_land_kinds a_land_nears a_land_depths c_straightSize c_slantwiseSize c_land_laid c_land_head c_land_fieldCount c_land_innerCount c_lengths c_slantwises c_straights c_land_kinds) (w_X8_reach g a_t a_land a_lengths a_slantwises a_straights a_land_kinds a_land_nears a_land_depths o_straightSize o_slantwiseSize c_land_laid c_land_head c_land_fieldCount c_land_innerCount o_lengths o_slantwises o_straights c_land_kinds) := by
  refine startV (by decide) (Nat.le_of_ble_eq_true rfl) ?_
  intro p e s m below meth c A Q ls args M hW hl ret
  have hx := M.1
  have hb := M.2.1
  have hown := M.2.2.2.1
  have hu := M.2.2.2.2.1
  have hl : lv_has ls 4 [(0, .ref a_t), (1, .int v1), (2, .int v2), (3, .int v3)] := hl
  unfold X8_reach at h
  obtain ⟨H, eH⟩ : ∃ z, z = s.heap := ⟨_, rfl⟩
  obtain ⟨locs, eL⟩ : ∃ z, z = ([] : List Loc) := ⟨_, rfl⟩
  rw [← eL] at hW ⊢
  suffices hS9 : WD g s A (w_X8_reach g a_t a_land a_lengths a_slantwises a_straights a_land_kinds a_land_nears a_land_depths c_straightSize c_slantwiseSize c_land_laid c_land_head c_land_fieldCount c_land_innerCount c_lengths c_slantwises c_straights c_land_kinds) H locs → W p l e (rm9 0 0) s m args below meth c H locs 0 0 Q (F0 m 0 ls []) by
    rw [← eH] at hW ⊢
    exact hS9 hW
  clear hW eH eL
  intro hW
  have J92 : ∀ (c_straightSize c_slantwiseSize : Int32) (c_lengths c_slantwises c_straights : Ar) (H : Heap) (locs : List Loc) (ls : Array Slot), X8_reach_b92 c_straightSize c_slantwiseSize c_lengths c_slantwises c_straights = some (o_straightSize, o_slantwiseSize, o_lengths, o_slantwises, o_straights) → WD g s A (w_X8_reach g a_t a_land a_lengths a_slantwises a_straights a_land_kinds a_land_nears a_land_depths c_straightSize c_slantwiseSize c_land_laid c_land_head c_land_fieldCount c_land_innerCount c_lengths c_slantwises c_straights c_land_kinds) H locs → lv_has ls 4 [] → W p l e (rm9 0 0) s m args below meth c H locs 0 0 Q (F0 m 92 ls []) := by
    intro c_straightSize c_slantwiseSize c_lengths c_slantwises c_straights H locs ls h hW hl
    unfold X8_reach_b92 at h
    cases h
    exact ret _ _ _ 92 hW (dd dX8_reach 50 rfl)
  have J58 : ∀ (c_straightSize c_slantwiseSize : Int32) (c_lengths c_slantwises c_straights : Ar) (H : Heap) (locs : List Loc) (ls : Array Slot), X8_reach_b58 c_straightSize c_slantwiseSize c_lengths c_slantwises c_straights v1 v3 = some (o_straightSize, o_slantwiseSize, o_lengths, o_slantwises, o_straights) → WD g s A (w_X8_reach g a_t a_land a_lengths a_slantwises a_straights a_land_kinds a_land_nears a_land_depths c_straightSize c_slantwiseSize c_land_laid c_land_head c_land_fieldCount c_land_innerCount c_lengths c_slantwises c_straights c_land_kinds) H locs → lv_has ls 4 [(0, .ref a_t), (1, .int v1), (3, .int v3)] → W p l e (rm9 0 0) s m args below meth c H locs 0 0 Q (F0 m 58 ls []) := by
    intro c_straightSize c_slantwiseSize c_lengths c_slantwises c_straights H locs ls h hW hl
    unfold X8_reach_b58 at h
    refine lv_iload_n (pc := 58) hx hb (dd dX8_reach 32 rfl) rfl (lv_at hl 2 rfl) ?_
    refine lv_if_ne (pc := 59) (tgt := 92) hx hb (dd dX8_reach 33 rfl) (by decide) (fun hc => ?_) (fun hc => ?_)
    · have h := it_f hc h
      exact J92 _ _ _ _ _ _ _ _ h hW (lv_sub hl [] rfl)
    · have h := it_t hc h
      refine lv_aload_n (pc := 62) hx hb (dd dX8_reach 34 rfl) rfl (lv_at hl 0 rfl) ?_
      refine rGet (pc := 63) M hW 0 5 iU8 rfl rfl (by decide) (uw1 119 rfl rfl) rfl (dd dX8_reach 35 rfl) ?_
      refine lv_sipush (pc := 66) (v := 1200) hx hb (dd dX8_reach 36 rfl) (by decide) ?_
      refine lv_icmp_ge (pc := 69) (tgt := 92) hx hb (dd dX8_reach 37 rfl) (by decide) (fun hc => ?_) (fun hc => ?_)
      · have h := it_t hc h
        exact J92 _ _ _ _ _ _ _ _ h hW (lv_sub hl [] rfl)
      · have h := it_f hc h
        refine lv_aload_n (pc := 72) hx hb (dd dX8_reach 38 rfl) rfl (lv_at hl 0 rfl) ?_
        refine rGet (pc := 73) M hW 0 3 iU8 rfl rfl (by decide) (uw1 117 rfl rfl) rfl (dd dX8_reach 39 rfl) ?_
        refine lv_aload_n (pc := 76) hx hb (dd dX8_reach 40 rfl) rfl (lv_at hl 0 rfl) ?_
        refine rGet (pc := 77) M hW 0 5 iU8 rfl rfl (by decide) (uw1 119 rfl rfl) rfl (dd dX8_reach 41 rfl) ?_
        refine lv_iload_n (pc := 80) hx hb (dd dX8_reach 42 rfl) rfl (lv_at hl 1 rfl) ?_
        obtain ⟨hi, h⟩ := ck_ex h
        obtain ⟨c_slantwises_81, ec_slantwises_81, h⟩ := nm_ex h
        refine rIast (pc := 81) M hW 3 rfl hi ec_slantwises_81 (ws' := (w_X8_reach g a_t a_land a_lengths a_slantwises a_straights a_land_kinds a_land_nears a_land_depths c_straightSize c_slantwiseSize c_land_laid c_land_head c_land_fieldCount c_land_innerCount c_lengths c_slantwises_81 c_straights c_land_kinds)) rfl (dd dX8_reach 43 rfl) (fun H locs hW => ?_)
        refine lv_aload_n (pc := 82) hx hb (dd dX8_reach 44 rfl) rfl (lv_at hl 0 rfl) ?_
        refine lv_dup (pc := 83) hx hb (dd dX8_reach 45 rfl) rfl ?_
        refine rGet (pc := 84) M hW 0 5 iU8 rfl rfl (by decide) (uw1 119 rfl rfl) rfl (dd dX8_reach 46 rfl) ?_
        refine lv_iconst (pc := 87) (v := 1) hx hb (dd dX8_reach 47 rfl) (by decide) ?_
        refine lv_iadd (pc := 88) hx hb (dd dX8_reach 48 rfl) ?_
        obtain ⟨c_slantwiseSize_89, ec_slantwiseSize_89, h⟩ := nm_ex h
        refine rTopi (pc := 89) ec_slantwiseSize_89 ?_
        refine rPut (pc := 89) M hW 0 5 tyX8 tyX8_ok nmX8 iU8 rfl rfl (by decide) (uw1 119 rfl rfl) rfl rfl rfl (Nat.le_of_ble_eq_true rfl) (dd dX8_reach 49 rfl) (ws' := (w_X8_reach g a_t a_land a_lengths a_slantwises a_straights a_land_kinds a_land_nears a_land_depths c_straightSize c_slantwiseSize_89 c_land_laid c_land_head c_land_fieldCount c_land_innerCount c_lengths c_slantwises_81 c_straights c_land_kinds)) rfl (fun H locs hW => ?_)
        exact J92 _ _ _ _ _ _ _ _ h hW (lv_sub hl [] rfl)
  refine lv_aload_n (pc := 0) hx hb (dd dX8_reach 0 rfl) rfl (lv_at hl 0 rfl) ?_
  refine rGet (pc := 1) M hW 0 1 iU8 rfl rfl (by decide) (uw1 113 rfl rfl) rfl (dd dX8_reach 1 rfl) ?_
  refine lv_iload_n (pc := 4) hx hb (dd dX8_reach 2 rfl) rfl (lv_at hl 1 rfl) ?_
  refine lv_iload_n (pc := 5) hx hb (dd dX8_reach 3 rfl) rfl (lv_at hl 2 rfl) ?_
  obtain ⟨hi, h⟩ := ck_ex h
  obtain ⟨c_lengths_6, ec_lengths_6, h⟩ := nm_ex h
  refine rIast (pc := 6) M hW 2 rfl hi ec_lengths_6 (ws' := (w_X8_reach g a_t a_land a_lengths a_slantwises a_straights a_land_kinds a_land_nears a_land_depths c_straightSize c_slantwiseSize c_land_laid c_land_head c_land_fieldCount c_land_innerCount c_lengths_6 c_slantwises c_straights c_land_kinds)) rfl (dd dX8_reach 4 rfl) (fun H locs hW => ?_)
  refine lv_aload_n (pc := 7) hx hb (dd dX8_reach 5 rfl) rfl (lv_at hl 0 rfl) ?_
  refine rGet (pc := 8) M hW 0 0 iU8 rfl rfl (by decide) (uw1 112 rfl rfl) rfl (dd dX8_reach 6 rfl) ?_
  refine rGet (pc := 11) M hW 1 0 iU0 rfl rfl (by decide) (uw1 75 rfl rfl) rfl (dd dX8_reach 7 rfl) ?_
  refine lv_iload_n (pc := 14) hx hb (dd dX8_reach 8 rfl) rfl (lv_at hl 1 rfl) ?_
  obtain ⟨hi, h⟩ := ck_ex h
  refine rIald (pc := 15) M hW 5 rfl hi (dd dX8_reach 9 rfl) ?_
  refine lv_iconst (pc := 16) (v := 1) hx hb (dd dX8_reach 10 rfl) (by decide) ?_
  refine lv_icmp_eq (pc := 17) (tgt := 21) hx hb (dd dX8_reach 11 rfl) (by decide) (fun hc => ?_) (fun hc => ?_)
  · have h := it_t hc h
    refine lv_iload_n (pc := 21) hx hb (dd dX8_reach 13 rfl) rfl (lv_at hl 3 rfl) ?_
    refine lv_if_eq (pc := 22) (tgt := 58) hx hb (dd dX8_reach 14 rfl) (by decide) (fun hc => ?_) (fun hc => ?_)
    · have h := it_t hc h
      exact J58 _ _ _ _ _ _ _ _ h hW (lv_sub hl [0, 1, 3] rfl)
    · have h := it_f hc h
      refine lv_aload_n (pc := 25) hx hb (dd dX8_reach 15 rfl) rfl (lv_at hl 0 rfl) ?_
      refine rGet (pc := 26) M hW 0 4 iU8 rfl rfl (by decide) (uw1 118 rfl rfl) rfl (dd dX8_reach 16 rfl) ?_
      refine lv_sipush (pc := 29) (v := 1200) hx hb (dd dX8_reach 17 rfl) (by decide) ?_
      refine lv_icmp_ge (pc := 32) (tgt := 58) hx hb (dd dX8_reach 18 rfl) (by decide) (fun hc => ?_) (fun hc => ?_)
      · have h := it_t hc h
        exact J58 _ _ _ _ _ _ _ _ h hW (lv_sub hl [0, 1, 3] rfl)
      · have h := it_f hc h
        refine lv_aload_n (pc := 35) hx hb (dd dX8_reach 19 rfl) rfl (lv_at hl 0 rfl) ?_
        refine rGet (pc := 36) M hW 0 2 iU8 rfl rfl (by decide) (uw1 116 rfl rfl) rfl (dd dX8_reach 20 rfl) ?_
        refine lv_aload_n (pc := 39) hx hb (dd dX8_reach 21 rfl) rfl (lv_at hl 0 rfl) ?_
        refine rGet (pc := 40) M hW 0 4 iU8 rfl rfl (by decide) (uw1 118 rfl rfl) rfl (dd dX8_reach 22 rfl) ?_
        refine lv_iload_n (pc := 43) hx hb (dd dX8_reach 23 rfl) rfl (lv_at hl 1 rfl) ?_
        obtain ⟨hi, h⟩ := ck_ex h
        obtain ⟨c_straights_44, ec_straights_44, h⟩ := nm_ex h
        refine rIast (pc := 44) M hW 4 rfl hi ec_straights_44 (ws' := (w_X8_reach g a_t a_land a_lengths a_slantwises a_straights a_land_kinds a_land_nears a_land_depths c_straightSize c_slantwiseSize c_land_laid c_land_head c_land_fieldCount c_land_innerCount c_lengths_6 c_slantwises c_straights_44 c_land_kinds)) rfl (dd dX8_reach 24 rfl) (fun H locs hW => ?_)
        refine lv_aload_n (pc := 45) hx hb (dd dX8_reach 25 rfl) rfl (lv_at hl 0 rfl) ?_
        refine lv_dup (pc := 46) hx hb (dd dX8_reach 26 rfl) rfl ?_
        refine rGet (pc := 47) M hW 0 4 iU8 rfl rfl (by decide) (uw1 118 rfl rfl) rfl (dd dX8_reach 27 rfl) ?_
        refine lv_iconst (pc := 50) (v := 1) hx hb (dd dX8_reach 28 rfl) (by decide) ?_
        refine lv_iadd (pc := 51) hx hb (dd dX8_reach 29 rfl) ?_
        obtain ⟨c_straightSize_52, ec_straightSize_52, h⟩ := nm_ex h
        refine rTopi (pc := 52) ec_straightSize_52 ?_
        refine rPut (pc := 52) M hW 0 4 tyX8 tyX8_ok nmX8 iU8 rfl rfl (by decide) (uw1 118 rfl rfl) rfl rfl rfl (Nat.le_of_ble_eq_true rfl) (dd dX8_reach 30 rfl) (ws' := (w_X8_reach g a_t a_land a_lengths a_slantwises a_straights a_land_kinds a_land_nears a_land_depths c_straightSize_52 c_slantwiseSize c_land_laid c_land_head c_land_fieldCount c_land_innerCount c_lengths_6 c_slantwises c_straights_44 c_land_kinds)) rfl (fun H locs hW => ?_)
        refine lv_goto (pc := 55) (tgt := 92) hx hb (dd dX8_reach 31 rfl) (by decide) ?_
        exact J92 _ _ _ _ _ _ _ _ h hW (lv_sub hl [] rfl)
  · have h := it_f hc h
    cases h
    exact ret _ _ _ 20 hW (dd dX8_reach 12 rfl)
