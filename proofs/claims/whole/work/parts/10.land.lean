abbrev w_J7_fill_53178 (g : G9) (a_p0 nA : Nat) (c_p0 : Ar) : va_W := [ia g a_p0 nA c_p0]
noncomputable def J7_fill_53178_L5 (nA : Nat) (v1 v3 : Int32) (c_p0 : Ar) (v2 : Int32) : Option ((Ar × Int32) ⊕ Ar) :=
  if v3 ≤ v2 then (some (.inr c_p0)) else (ck (ix v2 nA) <| nm (au c_p0 v2 v1) fun c_p0_13 => nm (v2 + 1) fun v2_14 => some (.inl (c_p0_13, v2_14)))
noncomputable def J7_fill_53178 (nA : Nat) (c_p0 : Ar) (v1 : Int32) : Option Ar :=
  nm ((nI nA)) fun v3_4 => bnd (whileV (fun st => J7_fill_53178_L5 nA v1 v3_4 st.1 st.2) (c_p0, 0)) <| (fun c_p0_20 => some c_p0_20)
set_option maxHeartbeats 4000000 in
set_option maxRecDepth 100000 in
theorem t_J7_fill_53178 (l : Launch) (g : G9) (a_p0 nA : Nat) (c_p0 : Ar) (v1 : Int32) (o_p0 : Ar) (h : J7_fill_53178 nA c_p0 v1 = some o_p0) : CtV l g yJ7_fill_53178 cJ7_fill_53178 4 0 0 [.ref a_p0, .int v1] (w_J7_fill_53178 g a_p0 nA c_p0) (w_J7_fill_53178 g a_p0 nA o_p0) := by
  refine startV (by decide) (Nat.le_of_ble_eq_true rfl) ?_
  intro p e s m below meth c A Q ls args M hW hl ret
  have hx := M.1
  have hb := M.2.1
  have hown := M.2.2.2.1
  have hu := M.2.2.2.2.1
  have hl : lv_has ls 4 [(0, .ref a_p0), (1, .int v1)] := hl
  unfold J7_fill_53178 at h
  obtain ⟨H, eH⟩ : ∃ z, z = s.heap := ⟨_, rfl⟩
  obtain ⟨locs, eL⟩ : ∃ z, z = ([] : List Loc) := ⟨_, rfl⟩
  rw [← eL] at hW ⊢
  suffices hS9 : WD g s A (w_J7_fill_53178 g a_p0 nA c_p0) H locs → W p l e (rm9 0 0) s m args below meth c H locs 0 0 Q (F0 m 0 ls []) by
    rw [← eH] at hW ⊢
    exact hS9 hW
  clear hW eH eL
  intro hW
  refine lv_iconst (pc := 0) (v := 0) hx hb (dd dJ7_fill_53178 0 rfl) (by decide) ?_
  refine lv_istore_n (pc := 1) (lv' := [(2, .int 0), (0, .ref a_p0), (1, .int v1)]) hx hb (dd dJ7_fill_53178 1 rfl) rfl hl (by decide) rfl (fun ls hl => ?_)
  refine lv_aload_n (pc := 2) hx hb (dd dJ7_fill_53178 2 rfl) rfl (lv_at hl 1 rfl) ?_
  refine rAlenI (pc := 3) M hW 0 rfl (dd dJ7_fill_53178 3 rfl) ?_
  obtain ⟨v3_4, ev3_4, h⟩ := nm_ex h
  refine rTopi (pc := 4) ev3_4 ?_
  refine lv_istore_n (pc := 4) (lv' := [(3, .int v3_4), (2, .int 0), (0, .ref a_p0), (1, .int v1)]) hx hb (dd dJ7_fill_53178 4 rfl) rfl hl (by decide) rfl (fun ls hl => ?_)
  obtain ⟨ex, hw, h⟩ := bnd_ex h
  refine loopW (fun st => ∀ (H : Heap) (locs : List Loc) (ls : Array Slot), WD g s A (w_J7_fill_53178 g a_p0 nA (st.1)) H locs → lv_has ls 4 [(0, .ref a_p0), (1, .int v1), (2, .int (st.2)), (3, .int v3_4)] → W p l e (rm9 0 0) s m args below meth c H locs 0 0 Q (F0 m 5 ls [])) (fun (ex : Ar) => ∀ (H : Heap) (locs : List Loc) (ls : Array Slot), WD g s A (w_J7_fill_53178 g a_p0 nA ex) H locs → lv_has ls 4 [] → W p l e (rm9 0 0) s m args below meth c H locs 0 0 Q (F0 m 20 ls [])) ?_ hw ?_ H locs ls hW (lv_sub hl [2, 3, 1, 0] rfl)
  · rintro ⟨c_p0, v2⟩ o hb9 hk H locs ls hW hl
    have h : J7_fill_53178_L5 nA v1 v3_4 c_p0 v2 = some o := hb9
    clear hb9
    unfold J7_fill_53178_L5 at h
    refine lv_iload_n (pc := 5) hx hb (dd dJ7_fill_53178 5 rfl) rfl (lv_at hl 2 rfl) ?_
    refine lv_iload_n (pc := 6) hx hb (dd dJ7_fill_53178 6 rfl) rfl (lv_at hl 3 rfl) ?_
    refine lv_icmp_ge (pc := 7) (tgt := 20) hx hb (dd dJ7_fill_53178 7 rfl) (by decide) (fun hc => ?_) (fun hc => ?_)
    · have h := it_t hc h
      obtain rfl := Option.some.inj h
      exact hk _ _ _ hW (lv_sub hl [] rfl)
    · have h := it_f hc h
      refine lv_aload_n (pc := 10) hx hb (dd dJ7_fill_53178 8 rfl) rfl (lv_at hl 0 rfl) ?_
      refine lv_iload_n (pc := 11) hx hb (dd dJ7_fill_53178 9 rfl) rfl (lv_at hl 2 rfl) ?_
      refine lv_iload_n (pc := 12) hx hb (dd dJ7_fill_53178 10 rfl) rfl (lv_at hl 1 rfl) ?_
      obtain ⟨hi, h⟩ := ck_ex h
      obtain ⟨c_p0_13, ec_p0_13, h⟩ := nm_ex h
      refine rIast (pc := 13) M hW 0 rfl hi ec_p0_13 (ws' := (w_J7_fill_53178 g a_p0 nA c_p0_13)) rfl (dd dJ7_fill_53178 11 rfl) (fun H locs hW => ?_)
      obtain ⟨v2_14, ev2_14, h⟩ := nm_ex h
      refine lv_iinc (pc := 14) (v := v2_14) (lv' := [(2, .int v2_14), (0, .ref a_p0), (1, .int v1), (3, .int v3_4)]) hx hb (dd dJ7_fill_53178 12 rfl) hl (k := 2) rfl (by rw [ev2_14]; rfl) (by decide) rfl (fun ls hl => ?_)
      refine lv_goto (pc := 17) (tgt := 5) hx hb (dd dJ7_fill_53178 13 rfl) (by decide) ?_
      obtain rfl := Option.some.inj h
      exact hk _ _ _ hW (lv_sub hl [1, 2, 0, 3] rfl)
  · obtain ⟨c_p0_20, e9⟩ : ∃ z, z = ex := ⟨_, rfl⟩
    subst e9
    intro H locs ls hW hl
    have hW9 := hW
    cases h
    exact ret _ _ _ 20 hW9 (dd dJ7_fill_53178 14 rfl)
abbrev w_X8_reach (g : G9) (a_t a_land a_lengths a_slantwises a_straights a_land_kinds a_land_nears a_land_depths : Nat) (c_straightSize c_slantwiseSize c_land_laid c_land_head c_land_fieldCount c_land_innerCount : Int32) (c_lengths c_slantwises c_straights c_land_kinds : Ar) : va_W := [ob a_t 8 [.ref a_land, .ref a_lengths, .ref a_straights, .ref a_slantwises, .int c_straightSize, .int c_slantwiseSize], ob a_land 0 [.ref a_land_kinds, .ref a_land_nears, .ref a_land_depths, .int c_land_laid, .int c_land_head, .int c_land_fieldCount, .int c_land_innerCount], ia g a_lengths 1200 c_lengths, ia g a_slantwises 1200 c_slantwises, ia g a_straights 1200 c_straights, ia g a_land_kinds 1200 c_land_kinds]
noncomputable def X8_reach_b58 (c_straightSize c_slantwiseSize : Int32) (c_lengths c_slantwises c_straights : Ar) (v1 v3 : Int32) : Option (Int32 × Int32 × Ar × Ar × Ar) :=
  if v3 = 0 then (if 1200 ≤ c_slantwiseSize then (some (c_straightSize, c_slantwiseSize, c_lengths, c_slantwises, c_straights)) else (ck (ix c_slantwiseSize 1200) <| nm (au c_slantwises c_slantwiseSize v1) fun c_slantwises_81 => nm ((c_slantwiseSize + 1)) fun c_slantwiseSize_89 => some (c_straightSize, c_slantwiseSize_89, c_lengths, c_slantwises_81, c_straights))) else (some (c_straightSize, c_slantwiseSize, c_lengths, c_slantwises, c_straights))
noncomputable def X8_reach (c_straightSize c_slantwiseSize : Int32) (c_lengths c_slantwises c_straights c_land_kinds : Ar) (v1 v2 v3 : Int32) : Option (Int32 × Int32 × Ar × Ar × Ar) :=
  ck (ix v1 1200) <| nm (au c_lengths v1 v2) fun c_lengths_6 => ck (ix v1 1200) <| if (ag c_land_kinds v1) = 1 then (if v3 = 0 then (X8_reach_b58 c_straightSize c_slantwiseSize c_lengths_6 c_slantwises c_straights v1 v3) else (if 1200 ≤ c_straightSize then (X8_reach_b58 c_straightSize c_slantwiseSize c_lengths_6 c_slantwises c_straights v1 v3) else (ck (ix c_straightSize 1200) <| nm (au c_straights c_straightSize v1) fun c_straights_44 => nm ((c_straightSize + 1)) fun c_straightSize_52 => some (c_straightSize_52, c_slantwiseSize, c_lengths_6, c_slantwises, c_straights_44)))) else (some (c_straightSize, c_slantwiseSize, c_lengths_6, c_slantwises, c_straights))
set_option maxHeartbeats 4000000 in
set_option maxRecDepth 100000 in
theorem t_X8_reach (l : Launch) (g : G9) (a_t a_land a_lengths a_slantwises a_straights a_land_kinds a_land_nears a_land_depths : Nat) (c_straightSize c_slantwiseSize c_land_laid c_land_head c_land_fieldCount c_land_innerCount : Int32) (c_lengths c_slantwises c_straights c_land_kinds : Ar) (v1 v2 v3 o_straightSize o_slantwiseSize : Int32) (o_lengths o_slantwises o_straights : Ar) (h : X8_reach c_straightSize c_slantwiseSize c_lengths c_slantwises c_straights c_land_kinds v1 v2 v3 = some (o_straightSize, o_slantwiseSize, o_lengths, o_slantwises, o_straights)) : CtV l g yX8_reach cX8_reach 4 0 0 [.ref a_t, .int v1, .int v2, .int v3] (w_X8_reach g a_t a_land a_lengths a_slantwises a_straights a_land_kinds a_land_nears a_land_depths c_straightSize c_slantwiseSize c_land_laid c_land_head c_land_fieldCount c_land_innerCount c_lengths c_slantwises c_straights c_land_kinds) (w_X8_reach g a_t a_land a_lengths a_slantwises a_straights a_land_kinds a_land_nears a_land_depths o_straightSize o_slantwiseSize c_land_laid c_land_head c_land_fieldCount c_land_innerCount o_lengths o_slantwises o_straights c_land_kinds) := by
  refine startV (by decide) (Nat.le_of_ble_eq_true rfl) ?_
  intro p e s m below meth c A Q ls args M hW hl ret
  have hx := M.1
  have hb := M.2.1
  have hown := M.2.2.2.1
  have hu := M.2.2.2.2.1
  have hl : lv_has ls 4 [(0, .ref a_t), (1, .int v1), (2, .int v2), (3, .int v3)] := hl
  unfold X8_reach at h
  obtain ⟨H, eH⟩ : ∃ z, z = s.heap := ⟨_, rfl⟩
  obtain ⟨locs, eL⟩ : ∃ z, z = ([] : List Loc) := ⟨_, rfl⟩
  rw [← eL] at hW ⊢
  suffices hS9 : WD g s A (w_X8_reach g a_t a_land a_lengths a_slantwises a_straights a_land_kinds a_land_nears a_land_depths c_straightSize c_slantwiseSize c_land_laid c_land_head c_land_fieldCount c_land_innerCount c_lengths c_slantwises c_straights c_land_kinds) H locs → W p l e (rm9 0 0) s m args below meth c H locs 0 0 Q (F0 m 0 ls []) by
    rw [← eH] at hW ⊢
    exact hS9 hW
  clear hW eH eL
  intro hW
  have J58 : ∀ (c_straightSize c_slantwiseSize : Int32) (c_lengths c_slantwises c_straights : Ar) (H : Heap) (locs : List Loc) (ls : Array Slot), X8_reach_b58 c_straightSize c_slantwiseSize c_lengths c_slantwises c_straights v1 v3 = some (o_straightSize, o_slantwiseSize, o_lengths, o_slantwises, o_straights) → WD g s A (w_X8_reach g a_t a_land a_lengths a_slantwises a_straights a_land_kinds a_land_nears a_land_depths c_straightSize c_slantwiseSize c_land_laid c_land_head c_land_fieldCount c_land_innerCount c_lengths c_slantwises c_straights c_land_kinds) H locs → lv_has ls 4 [(0, .ref a_t), (1, .int v1), (3, .int v3)] → W p l e (rm9 0 0) s m args below meth c H locs 0 0 Q (F0 m 58 ls []) := by
    intro c_straightSize c_slantwiseSize c_lengths c_slantwises c_straights H locs ls h hW hl
    unfold X8_reach_b58 at h
    refine lv_iload_n (pc := 58) hx hb (dd dX8_reach 32 rfl) rfl (lv_at hl 2 rfl) ?_
    refine lv_if_ne (pc := 59) (tgt := 92) hx hb (dd dX8_reach 33 rfl) (by decide) (fun hc => ?_) (fun hc => ?_)
    · have h := it_f hc h
      have hW9 := hW
      cases h
      exact ret _ _ _ 92 hW9 (dd dX8_reach 50 rfl)
    · have h := it_t hc h
      refine lv_aload_n (pc := 62) hx hb (dd dX8_reach 34 rfl) rfl (lv_at hl 0 rfl) ?_
      refine rGet (pc := 63) M hW 0 5 iU8 rfl rfl (by decide) (uw1 119 rfl rfl) rfl (dd dX8_reach 35 rfl) ?_
      refine lv_sipush (pc := 66) (v := 1200) hx hb (dd dX8_reach 36 rfl) (by decide) ?_
      refine lv_icmp_ge (pc := 69) (tgt := 92) hx hb (dd dX8_reach 37 rfl) (by decide) (fun hc => ?_) (fun hc => ?_)
      · have h := it_t hc h
        have hW9 := hW
        cases h
        exact ret _ _ _ 92 hW9 (dd dX8_reach 50 rfl)
      · have h := it_f hc h
        refine lv_aload_n (pc := 72) hx hb (dd dX8_reach 38 rfl) rfl (lv_at hl 0 rfl) ?_
        refine rGet (pc := 73) M hW 0 3 iU8 rfl rfl (by decide) (uw1 117 rfl rfl) rfl (dd dX8_reach 39 rfl) ?_
        refine lv_aload_n (pc := 76) hx hb (dd dX8_reach 40 rfl) rfl (lv_at hl 0 rfl) ?_
        refine rGet (pc := 77) M hW 0 5 iU8 rfl rfl (by decide) (uw1 119 rfl rfl) rfl (dd dX8_reach 41 rfl) ?_
        refine lv_iload_n (pc := 80) hx hb (dd dX8_reach 42 rfl) rfl (lv_at hl 1 rfl) ?_
        obtain ⟨hi, h⟩ := ck_ex h
        obtain ⟨c_slantwises_81, ec_slantwises_81, h⟩ := nm_ex h
        refine rIast (pc := 81) M hW 3 rfl hi ec_slantwises_81 (ws' := (w_X8_reach g a_t a_land a_lengths a_slantwises a_straights a_land_kinds a_land_nears a_land_depths c_straightSize c_slantwiseSize c_land_laid c_land_head c_land_fieldCount c_land_innerCount c_lengths c_slantwises_81 c_straights c_land_kinds)) rfl (dd dX8_reach 43 rfl) (fun H locs hW => ?_)
        refine lv_aload_n (pc := 82) hx hb (dd dX8_reach 44 rfl) rfl (lv_at hl 0 rfl) ?_
        refine lv_dup (pc := 83) hx hb (dd dX8_reach 45 rfl) rfl ?_
        refine rGet (pc := 84) M hW 0 5 iU8 rfl rfl (by decide) (uw1 119 rfl rfl) rfl (dd dX8_reach 46 rfl) ?_
        refine lv_iconst (pc := 87) (v := 1) hx hb (dd dX8_reach 47 rfl) (by decide) ?_
        refine lv_iadd (pc := 88) hx hb (dd dX8_reach 48 rfl) ?_
        obtain ⟨c_slantwiseSize_89, ec_slantwiseSize_89, h⟩ := nm_ex h
        refine rTopi (pc := 89) ec_slantwiseSize_89 ?_
        refine rPut (pc := 89) M hW 0 5 tyX8 tyX8_ok nmX8 iU8 rfl rfl (by decide) (uw1 119 rfl rfl) rfl rfl rfl (Nat.le_of_ble_eq_true rfl) (dd dX8_reach 49 rfl) (ws' := (w_X8_reach g a_t a_land a_lengths a_slantwises a_straights a_land_kinds a_land_nears a_land_depths c_straightSize c_slantwiseSize_89 c_land_laid c_land_head c_land_fieldCount c_land_innerCount c_lengths c_slantwises_81 c_straights c_land_kinds)) rfl (fun H locs hW => ?_)
        have hW9 := hW
        cases h
        exact ret _ _ _ 92 hW9 (dd dX8_reach 50 rfl)
  refine lv_aload_n (pc := 0) hx hb (dd dX8_reach 0 rfl) rfl (lv_at hl 0 rfl) ?_
  refine rGet (pc := 1) M hW 0 1 iU8 rfl rfl (by decide) (uw1 113 rfl rfl) rfl (dd dX8_reach 1 rfl) ?_
  refine lv_iload_n (pc := 4) hx hb (dd dX8_reach 2 rfl) rfl (lv_at hl 1 rfl) ?_
  refine lv_iload_n (pc := 5) hx hb (dd dX8_reach 3 rfl) rfl (lv_at hl 2 rfl) ?_
  obtain ⟨hi, h⟩ := ck_ex h
  obtain ⟨c_lengths_6, ec_lengths_6, h⟩ := nm_ex h
  refine rIast (pc := 6) M hW 2 rfl hi ec_lengths_6 (ws' := (w_X8_reach g a_t a_land a_lengths a_slantwises a_straights a_land_kinds a_land_nears a_land_depths c_straightSize c_slantwiseSize c_land_laid c_land_head c_land_fieldCount c_land_innerCount c_lengths_6 c_slantwises c_straights c_land_kinds)) rfl (dd dX8_reach 4 rfl) (fun H locs hW => ?_)
  refine lv_aload_n (pc := 7) hx hb (dd dX8_reach 5 rfl) rfl (lv_at hl 0 rfl) ?_
  refine rGet (pc := 8) M hW 0 0 iU8 rfl rfl (by decide) (uw1 112 rfl rfl) rfl (dd dX8_reach 6 rfl) ?_
  refine rGet (pc := 11) M hW 1 0 iU0 rfl rfl (by decide) (uw1 75 rfl rfl) rfl (dd dX8_reach 7 rfl) ?_
  refine lv_iload_n (pc := 14) hx hb (dd dX8_reach 8 rfl) rfl (lv_at hl 1 rfl) ?_
  obtain ⟨hi, h⟩ := ck_ex h
  refine rIald (pc := 15) M hW 5 rfl hi (dd dX8_reach 9 rfl) ?_
  refine lv_iconst (pc := 16) (v := 1) hx hb (dd dX8_reach 10 rfl) (by decide) ?_
  refine lv_icmp_eq (pc := 17) (tgt := 21) hx hb (dd dX8_reach 11 rfl) (by decide) (fun hc => ?_) (fun hc => ?_)
  · have h := it_t hc h
    refine lv_iload_n (pc := 21) hx hb (dd dX8_reach 13 rfl) rfl (lv_at hl 3 rfl) ?_
    refine lv_if_eq (pc := 22) (tgt := 58) hx hb (dd dX8_reach 14 rfl) (by decide) (fun hc => ?_) (fun hc => ?_)
    · have h := it_t hc h
      exact J58 _ _ _ _ _ _ _ _ h hW (lv_sub hl [0, 1, 3] rfl)
    · have h := it_f hc h
      refine lv_aload_n (pc := 25) hx hb (dd dX8_reach 15 rfl) rfl (lv_at hl 0 rfl) ?_
      refine rGet (pc := 26) M hW 0 4 iU8 rfl rfl (by decide) (uw1 118 rfl rfl) rfl (dd dX8_reach 16 rfl) ?_
      refine lv_sipush (pc := 29) (v := 1200) hx hb (dd dX8_reach 17 rfl) (by decide) ?_
      refine lv_icmp_ge (pc := 32) (tgt := 58) hx hb (dd dX8_reach 18 rfl) (by decide) (fun hc => ?_) (fun hc => ?_)
      · have h := it_t hc h
        exact J58 _ _ _ _ _ _ _ _ h hW (lv_sub hl [0, 1, 3] rfl)
      · have h := it_f hc h
        refine lv_aload_n (pc := 35) hx hb (dd dX8_reach 19 rfl) rfl (lv_at hl 0 rfl) ?_
        refine rGet (pc := 36) M hW 0 2 iU8 rfl rfl (by decide) (uw1 116 rfl rfl) rfl (dd dX8_reach 20 rfl) ?_
        refine lv_aload_n (pc := 39) hx hb (dd dX8_reach 21 rfl) rfl (lv_at hl 0 rfl) ?_
        refine rGet (pc := 40) M hW 0 4 iU8 rfl rfl (by decide) (uw1 118 rfl rfl) rfl (dd dX8_reach 22 rfl) ?_
        refine lv_iload_n (pc := 43) hx hb (dd dX8_reach 23 rfl) rfl (lv_at hl 1 rfl) ?_
        obtain ⟨hi, h⟩ := ck_ex h
        obtain ⟨c_straights_44, ec_straights_44, h⟩ := nm_ex h
        refine rIast (pc := 44) M hW 4 rfl hi ec_straights_44 (ws' := (w_X8_reach g a_t a_land a_lengths a_slantwises a_straights a_land_kinds a_land_nears a_land_depths c_straightSize c_slantwiseSize c_land_laid c_land_head c_land_fieldCount c_land_innerCount c_lengths_6 c_slantwises c_straights_44 c_land_kinds)) rfl (dd dX8_reach 24 rfl) (fun H locs hW => ?_)
        refine lv_aload_n (pc := 45) hx hb (dd dX8_reach 25 rfl) rfl (lv_at hl 0 rfl) ?_
        refine lv_dup (pc := 46) hx hb (dd dX8_reach 26 rfl) rfl ?_
        refine rGet (pc := 47) M hW 0 4 iU8 rfl rfl (by decide) (uw1 118 rfl rfl) rfl (dd dX8_reach 27 rfl) ?_
        refine lv_iconst (pc := 50) (v := 1) hx hb (dd dX8_reach 28 rfl) (by decide) ?_
        refine lv_iadd (pc := 51) hx hb (dd dX8_reach 29 rfl) ?_
        obtain ⟨c_straightSize_52, ec_straightSize_52, h⟩ := nm_ex h
        refine rTopi (pc := 52) ec_straightSize_52 ?_
        refine rPut (pc := 52) M hW 0 4 tyX8 tyX8_ok nmX8 iU8 rfl rfl (by decide) (uw1 118 rfl rfl) rfl rfl rfl (Nat.le_of_ble_eq_true rfl) (dd dX8_reach 30 rfl) (ws' := (w_X8_reach g a_t a_land a_lengths a_slantwises a_straights a_land_kinds a_land_nears a_land_depths c_straightSize_52 c_slantwiseSize c_land_laid c_land_head c_land_fieldCount c_land_innerCount c_lengths_6 c_slantwises c_straights_44 c_land_kinds)) rfl (fun H locs hW => ?_)
        refine lv_goto (pc := 55) (tgt := 92) hx hb (dd dX8_reach 31 rfl) (by decide) ?_
        have hW9 := hW
        cases h
        exact ret _ _ _ 92 hW9 (dd dX8_reach 50 rfl)
  · have h := it_f hc h
    have hW9 := hW
    cases h
    exact ret _ _ _ 20 hW9 (dd dX8_reach 12 rfl)
abbrev w_X8_stepFrom (g : G9) (a_t a_land a_lengths a_slantwises a_straights a_land_kinds a_land_nears a_land_depths : Nat) (c_straightSize c_slantwiseSize c_land_laid c_land_head c_land_fieldCount c_land_innerCount : Int32) (c_lengths c_slantwises c_straights c_land_kinds c_land_nears : Ar) : va_W := [ob a_t 8 [.ref a_land, .ref a_lengths, .ref a_straights, .ref a_slantwises, .int c_straightSize, .int c_slantwiseSize], ob a_land 0 [.ref a_land_kinds, .ref a_land_nears, .ref a_land_depths, .int c_land_laid, .int c_land_head, .int c_land_fieldCount, .int c_land_innerCount], ia g a_lengths 1200 c_lengths, ia g a_slantwises 1200 c_slantwises, ia g a_straights 1200 c_straights, ia g a_land_kinds 1200 c_land_kinds, ia g a_land_nears 1200 c_land_nears]
noncomputable def X8_stepFrom_b33_104 (c_straightSize c_slantwiseSize : Int32) (c_lengths c_slantwises c_straights : Ar) (v1 v2 v3 v4 v5 : Int32) : Option ((Int32 × Int32 × Ar × Ar × Ar × Int32) ⊕ (Int32 × Int32 × Ar × Ar × Ar)) :=
  nm (v5 + 1) fun v5_104 => some (.inl (c_straightSize, c_slantwiseSize, c_lengths, c_slantwises, c_straights, v5_104))
noncomputable def X8_stepFrom_b33_101 (c_straightSize c_slantwiseSize : Int32) (c_lengths c_slantwises c_straights c_land_kinds : Ar) (v1 v2 v3 v4 v5 k1 k2 k3 : Int32) : Option ((Int32 × Int32 × Ar × Ar × Ar × Int32) ⊕ (Int32 × Int32 × Ar × Ar × Ar)) :=
  bnd (X8_reach c_straightSize c_slantwiseSize c_lengths c_slantwises c_straights c_land_kinds k1 k2 k3) <| un5 fun c_straightSize_101 c_slantwiseSize_101 c_lengths_101 c_slantwises_101 c_straights_101 => X8_stepFrom_b33_104 c_straightSize_101 c_slantwiseSize_101 c_lengths_101 c_slantwises_101 c_straights_101 v1 v2 v3 v4 v5
noncomputable def X8_stepFrom_b33_71 (c_straightSize c_slantwiseSize : Int32) (c_lengths c_slantwises c_straights c_land_kinds : Ar) (v1 v2 v3 v4 v5 v6 k0 : Int32) : Option ((Int32 × Int32 × Ar × Ar × Ar × Int32) ⊕ (Int32 × Int32 × Ar × Ar × Ar)) :=
  ck (ix v6 1200) <| if (ag c_lengths v6) ≤ k0 then (X8_stepFrom_b33_104 c_straightSize c_slantwiseSize c_lengths c_slantwises c_straights v1 v2 v3 v4 v5) else (if 4 ≤ v5 then (X8_stepFrom_b33_101 c_straightSize c_slantwiseSize c_lengths c_slantwises c_straights c_land_kinds v1 v2 v3 v4 v5 v6 k0 0) else (X8_stepFrom_b33_101 c_straightSize c_slantwiseSize c_lengths c_slantwises c_straights c_land_kinds v1 v2 v3 v4 v5 v6 k0 1))
noncomputable def X8_stepFrom_L33 (c_land_kinds : Ar) (v1 v2 v3 v4 c_straightSize c_slantwiseSize : Int32) (c_lengths c_slantwises c_straights : Ar) (v5 : Int32) : Option ((Int32 × Int32 × Ar × Ar × Ar × Int32) ⊕ (Int32 × Int32 × Ar × Ar × Ar)) :=
  if 8 ≤ v5 then (some (.inr (c_straightSize, c_slantwiseSize, c_lengths, c_slantwises, c_straights))) else (if ((v2 >>> (v5 &&& 31)) &&& 1) = 0 then (X8_stepFrom_b33_104 c_straightSize c_slantwiseSize c_lengths c_slantwises c_straights v1 v2 v3 v4 v5) else (ck (ix v5 8) <| nm ((v1 + (ag stepA v5))) fun v6_57 => if 4 ≤ v5 then (X8_stepFrom_b33_71 c_straightSize c_slantwiseSize c_lengths c_slantwises c_straights c_land_kinds v1 v2 v3 v4 v5 v6_57 v4) else (X8_stepFrom_b33_71 c_straightSize c_slantwiseSize c_lengths c_slantwises c_straights c_land_kinds v1 v2 v3 v4 v5 v6_57 v3)))
noncomputable def X8_stepFrom (c_straightSize c_slantwiseSize : Int32) (c_lengths c_slantwises c_straights c_land_kinds c_land_nears : Ar) (v1 : Int32) : Option (Int32 × Int32 × Ar × Ar × Ar) :=
  ck (ix v1 1200) <| nm ((ag c_land_nears v1)) fun v2_9 => ck (ix v1 1200) <| nm (((ag c_lengths v1) + 5)) fun v3_18 => ck (ix v1 1200) <| nm (((ag c_lengths v1) + 7)) fun v4_28 => bnd (whileV (fun st => X8_stepFrom_L33 c_land_kinds v1 v2_9 v3_18 v4_28 st.1 st.2.1 st.2.2.1 st.2.2.2.1 st.2.2.2.2.1 st.2.2.2.2.2) (c_straightSize, c_slantwiseSize, c_lengths, c_slantwises, c_straights, 0)) <| (un5 fun c_straightSize_110 c_slantwiseSize_110 c_lengths_110 c_slantwises_110 c_straights_110 => some (c_straightSize_110, c_slantwiseSize_110, c_lengths_110, c_slantwises_110, c_straights_110))
set_option maxHeartbeats 4000000 in
set_option maxRecDepth 100000 in
theorem t_X8_stepFrom (l : Launch) (g : G9) (a_t a_land a_lengths a_slantwises a_straights a_land_kinds a_land_nears a_land_depths : Nat) (c_straightSize c_slantwiseSize c_land_laid c_land_head c_land_fieldCount c_land_innerCount : Int32) (c_lengths c_slantwises c_straights c_land_kinds c_land_nears : Ar) (v1 o_straightSize o_slantwiseSize : Int32) (o_lengths o_slantwises o_straights : Ar) (h : X8_stepFrom c_straightSize c_slantwiseSize c_lengths c_slantwises c_straights c_land_kinds c_land_nears v1 = some (o_straightSize, o_slantwiseSize, o_lengths, o_slantwises, o_straights)) : CtV l g yX8_stepFrom cX8_stepFrom 8 1 23 [.ref a_t, .int v1] (w_X8_stepFrom g a_t a_land a_lengths a_slantwises a_straights a_land_kinds a_land_nears a_land_depths c_straightSize c_slantwiseSize c_land_laid c_land_head c_land_fieldCount c_land_innerCount c_lengths c_slantwises c_straights c_land_kinds c_land_nears) (w_X8_stepFrom g a_t a_land a_lengths a_slantwises a_straights a_land_kinds a_land_nears a_land_depths o_straightSize o_slantwiseSize c_land_laid c_land_head c_land_fieldCount c_land_innerCount o_lengths o_slantwises o_straights c_land_kinds c_land_nears) := by
  refine startV (by decide) (Nat.le_of_ble_eq_true rfl) ?_
  intro p e s m below meth c A Q ls args M hW hl ret
  have hx := M.1
  have hb := M.2.1
  have hown := M.2.2.2.1
  have hu := M.2.2.2.2.1
  have hl : lv_has ls 8 [(0, .ref a_t), (1, .int v1)] := hl
  unfold X8_stepFrom at h
  obtain ⟨H, eH⟩ : ∃ z, z = s.heap := ⟨_, rfl⟩
  obtain ⟨locs, eL⟩ : ∃ z, z = ([] : List Loc) := ⟨_, rfl⟩
  rw [← eL] at hW ⊢
  suffices hS9 : WD g s A (w_X8_stepFrom g a_t a_land a_lengths a_slantwises a_straights a_land_kinds a_land_nears a_land_depths c_straightSize c_slantwiseSize c_land_laid c_land_head c_land_fieldCount c_land_innerCount c_lengths c_slantwises c_straights c_land_kinds c_land_nears) H locs → W p l e (rm9 1 23) s m args below meth c H locs 0 0 Q (F0 m 0 ls []) by
    rw [← eH] at hW ⊢
    exact hS9 hW
  clear hW eH eL
  intro hW
  refine lv_aload_n (pc := 0) hx hb (dd dX8_stepFrom_p0 0 rfl) rfl (lv_at hl 0 rfl) ?_
  refine rGet (pc := 1) M hW 0 0 iU8 rfl rfl (by decide) (uw1 112 rfl rfl) rfl (dd dX8_stepFrom_p0 1 rfl) ?_
  refine rGet (pc := 4) M hW 1 1 iU0 rfl rfl (by decide) (uw1 79 rfl rfl) rfl (dd dX8_stepFrom_p0 2 rfl) ?_
  refine lv_iload_n (pc := 7) hx hb (dd dX8_stepFrom_p0 3 rfl) rfl (lv_at hl 1 rfl) ?_
  obtain ⟨hi, h⟩ := ck_ex h
  refine rIald (pc := 8) M hW 6 rfl hi (dd dX8_stepFrom_p0 4 rfl) ?_
  obtain ⟨v2_9, ev2_9, h⟩ := nm_ex h
  refine rTopi (pc := 9) ev2_9 ?_
  refine lv_istore_n (pc := 9) (lv' := [(2, .int v2_9), (0, .ref a_t), (1, .int v1)]) hx hb (dd dX8_stepFrom_p0 5 rfl) rfl hl (by decide) rfl (fun ls hl => ?_)
  refine lv_aload_n (pc := 10) hx hb (dd dX8_stepFrom_p0 6 rfl) rfl (lv_at hl 1 rfl) ?_
  refine rGet (pc := 11) M hW 0 1 iU8 rfl rfl (by decide) (uw1 113 rfl rfl) rfl (dd dX8_stepFrom_p0 7 rfl) ?_
  refine lv_iload_n (pc := 14) hx hb (dd dX8_stepFrom_p0 8 rfl) rfl (lv_at hl 2 rfl) ?_
  obtain ⟨hi, h⟩ := ck_ex h
  refine rIald (pc := 15) M hW 2 rfl hi (dd dX8_stepFrom_p0 9 rfl) ?_
  refine lv_iconst (pc := 16) (v := 5) hx hb (dd dX8_stepFrom_p0 10 rfl) (by decide) ?_
  refine lv_iadd (pc := 17) hx hb (dd dX8_stepFrom_p0 11 rfl) ?_
  obtain ⟨v3_18, ev3_18, h⟩ := nm_ex h
  refine rTopi (pc := 18) ev3_18 ?_
  refine lv_istore_n (pc := 18) (lv' := [(3, .int v3_18), (2, .int v2_9), (0, .ref a_t), (1, .int v1)]) hx hb (dd dX8_stepFrom_p0 12 rfl) rfl hl (by decide) rfl (fun ls hl => ?_)
  refine lv_aload_n (pc := 19) hx hb (dd dX8_stepFrom_p0 13 rfl) rfl (lv_at hl 2 rfl) ?_
  refine rGet (pc := 20) M hW 0 1 iU8 rfl rfl (by decide) (uw1 113 rfl rfl) rfl (dd dX8_stepFrom_p0 14 rfl) ?_
  refine lv_iload_n (pc := 23) hx hb (dd dX8_stepFrom_p0 15 rfl) rfl (lv_at hl 3 rfl) ?_
  obtain ⟨hi, h⟩ := ck_ex h
  refine rIald (pc := 24) M hW 2 rfl hi (dd dX8_stepFrom_p0 16 rfl) ?_
  refine lv_bipush (pc := 25) (v := 7) hx hb (dd dX8_stepFrom_p0 17 rfl) (by decide) ?_
  refine lv_iadd (pc := 27) hx hb (dd dX8_stepFrom_p0 18 rfl) ?_
  obtain ⟨v4_28, ev4_28, h⟩ := nm_ex h
  refine rTopi (pc := 28) ev4_28 ?_
  refine lv_istore (pc := 28) (lv' := [(4, .int v4_28), (3, .int v3_18), (2, .int v2_9), (0, .ref a_t), (1, .int v1)]) hx hb (dd dX8_stepFrom_p0 19 rfl) hl (by decide) rfl (fun ls hl => ?_)
  refine lv_iconst (pc := 30) (v := 0) hx hb (dd dX8_stepFrom_p0 20 rfl) (by decide) ?_
  refine lv_istore (pc := 31) (lv' := [(5, .int 0), (4, .int v4_28), (3, .int v3_18), (2, .int v2_9), (0, .ref a_t), (1, .int v1)]) hx hb (dd dX8_stepFrom_p0 21 rfl) hl (by decide) rfl (fun ls hl => ?_)
  obtain ⟨ex, hw, h⟩ := bnd_ex h
  refine loopW (fun st => ∀ (H : Heap) (locs : List Loc) (ls : Array Slot), WD g s A (w_X8_stepFrom g a_t a_land a_lengths a_slantwises a_straights a_land_kinds a_land_nears a_land_depths (st.1) (st.2.1) c_land_laid c_land_head c_land_fieldCount c_land_innerCount (st.2.2.1) (st.2.2.2.1) (st.2.2.2.2.1) c_land_kinds c_land_nears) H locs → lv_has ls 8 [(0, .ref a_t), (1, .int v1), (2, .int v2_9), (3, .int v3_18), (4, .int v4_28), (5, .int (st.2.2.2.2.2))] → W p l e (rm9 1 23) s m args below meth c H locs 0 0 Q (F0 m 33 ls [])) (fun (ex : (Int32 × Int32 × Ar × Ar × Ar)) => ∀ (H : Heap) (locs : List Loc) (ls : Array Slot), WD g s A (w_X8_stepFrom g a_t a_land a_lengths a_slantwises a_straights a_land_kinds a_land_nears a_land_depths (ex.1) (ex.2.1) c_land_laid c_land_head c_land_fieldCount c_land_innerCount (ex.2.2.1) (ex.2.2.2.1) (ex.2.2.2.2) c_land_kinds c_land_nears) H locs → lv_has ls 8 [] → W p l e (rm9 1 23) s m args below meth c H locs 0 0 Q (F0 m 110 ls [])) ?_ hw ?_ H locs ls hW (lv_sub hl [4, 5, 3, 2, 1, 0] rfl)
  · rintro ⟨c_straightSize, c_slantwiseSize, c_lengths, c_slantwises, c_straights, v5⟩ o hb9 hk H locs ls hW hl
    have h : X8_stepFrom_L33 c_land_kinds v1 v2_9 v3_18 v4_28 c_straightSize c_slantwiseSize c_lengths c_slantwises c_straights v5 = some o := hb9
    clear hb9
    unfold X8_stepFrom_L33 at h
    have J104 : ∀ (c_straightSize c_slantwiseSize : Int32) (c_lengths c_slantwises c_straights : Ar) (v5 : Int32) (H : Heap) (locs : List Loc) (ls : Array Slot), X8_stepFrom_b33_104 c_straightSize c_slantwiseSize c_lengths c_slantwises c_straights v1 v2_9 v3_18 v4_28 v5 = some o → WD g s A (w_X8_stepFrom g a_t a_land a_lengths a_slantwises a_straights a_land_kinds a_land_nears a_land_depths c_straightSize c_slantwiseSize c_land_laid c_land_head c_land_fieldCount c_land_innerCount c_lengths c_slantwises c_straights c_land_kinds c_land_nears) H locs → lv_has ls 8 [(0, .ref a_t), (1, .int v1), (2, .int v2_9), (3, .int v3_18), (4, .int v4_28), (5, .int v5)] → W p l e (rm9 1 23) s m args below meth c H locs 0 0 Q (F0 m 104 ls []) := by
      intro c_straightSize c_slantwiseSize c_lengths c_slantwises c_straights v5 H locs ls h hW hl
      unfold X8_stepFrom_b33_104 at h
      obtain ⟨v5_104, ev5_104, h⟩ := nm_ex h
      refine lv_iinc (pc := 104) (v := v5_104) (lv' := [(5, .int v5_104), (0, .ref a_t), (1, .int v1), (2, .int v2_9), (3, .int v3_18), (4, .int v4_28)]) hx hb (dd dX8_stepFrom_p1 0 rfl) hl (k := 5) rfl (by rw [ev5_104]; rfl) (by decide) rfl (fun ls hl => ?_)
      refine lv_goto (pc := 107) (tgt := 33) hx hb (dd dX8_stepFrom_p1 1 rfl) (by decide) ?_
      obtain rfl := Option.some.inj h
      exact hk _ _ _ hW (lv_sub hl [1, 2, 3, 4, 5, 0] rfl)
    have J101 : ∀ (c_straightSize c_slantwiseSize : Int32) (c_lengths c_slantwises c_straights : Ar) (v5 k1 k2 k3 : Int32) (H : Heap) (locs : List Loc) (ls : Array Slot), X8_stepFrom_b33_101 c_straightSize c_slantwiseSize c_lengths c_slantwises c_straights c_land_kinds v1 v2_9 v3_18 v4_28 v5 k1 k2 k3 = some o → WD g s A (w_X8_stepFrom g a_t a_land a_lengths a_slantwises a_straights a_land_kinds a_land_nears a_land_depths c_straightSize c_slantwiseSize c_land_laid c_land_head c_land_fieldCount c_land_innerCount c_lengths c_slantwises c_straights c_land_kinds c_land_nears) H locs → lv_has ls 8 [(0, .ref a_t), (1, .int v1), (2, .int v2_9), (3, .int v3_18), (4, .int v4_28), (5, .int v5)] → W p l e (rm9 1 23) s m args below meth c H locs 0 0 Q (F0 m 101 ls [.int k3, .int k2, .int k1, .ref a_t]) := by
      intro c_straightSize c_slantwiseSize c_lengths c_slantwises c_straights v5 k1 k2 k3 H locs ls h hW hl
      unfold X8_stepFrom_b33_101 at h
      obtain ⟨⟨c_straightSize_101, c_slantwiseSize_101, c_lengths_101, c_slantwises_101, c_straights_101⟩, hr, h⟩ := bnd_ex h
      have h := un5_at h
      refine callVV (pc := 101) (na := 3) (As := [.int k1, .int k2, .int k3]) (rest := []) (ws2 := (w_X8_stepFrom g a_t a_land a_lengths a_slantwises a_straights a_land_kinds a_land_nears a_land_depths c_straightSize_101 c_slantwiseSize_101 c_land_laid c_land_head c_land_fieldCount c_land_innerCount c_lengths_101 c_slantwises_101 c_straights_101 c_land_kinds c_land_nears)) M hl.1 hW (t_X8_reach l g a_t a_land a_lengths a_slantwises a_straights a_land_kinds a_land_nears a_land_depths c_straightSize c_slantwiseSize c_land_laid c_land_head c_land_fieldCount c_land_innerCount c_lengths c_slantwises c_straights c_land_kinds k1 k2 k3 c_straightSize_101 c_slantwiseSize_101 c_lengths_101 c_slantwises_101 c_straights_101 hr) rfl [0, 1, 2, 3, 4, 5] [6] [1, 2, 3, 4, 5, 6, 0] rfl rfl rfl rfl rfl rfl rfl 0 8 rfl rfl rfl (uw3 238 rfl rfl) (uw3 235 rfl rfl) (uw3 237 rfl rfl) (uwp 24 rfl rfl) (uw1 6 rfl rfl) ⟨by decide, by decide, by decide⟩ rfl ⟨by decide, by decide⟩ (Nat.le_of_ble_eq_true rfl) ⟨Nat.zero_le _, Nat.zero_le _⟩ (dd dX8_stepFrom_p0 59 rfl) (fun H locs hW => ?_)
      exact J104 _ _ _ _ _ _ _ _ _ h hW (lv_sub hl [0, 1, 2, 3, 4, 5] rfl)
    have J71 : ∀ (c_straightSize c_slantwiseSize : Int32) (c_lengths c_slantwises c_straights : Ar) (v5 v6 k0 : Int32) (H : Heap) (locs : List Loc) (ls : Array Slot), X8_stepFrom_b33_71 c_straightSize c_slantwiseSize c_lengths c_slantwises c_straights c_land_kinds v1 v2_9 v3_18 v4_28 v5 v6 k0 = some o → WD g s A (w_X8_stepFrom g a_t a_land a_lengths a_slantwises a_straights a_land_kinds a_land_nears a_land_depths c_straightSize c_slantwiseSize c_land_laid c_land_head c_land_fieldCount c_land_innerCount c_lengths c_slantwises c_straights c_land_kinds c_land_nears) H locs → lv_has ls 8 [(0, .ref a_t), (1, .int v1), (2, .int v2_9), (3, .int v3_18), (4, .int v4_28), (5, .int v5), (6, .int v6)] → W p l e (rm9 1 23) s m args below meth c H locs 0 0 Q (F0 m 71 ls [.int k0]) := by
      intro c_straightSize c_slantwiseSize c_lengths c_slantwises c_straights v5 v6 k0 H locs ls h hW hl
      unfold X8_stepFrom_b33_71 at h
      refine lv_istore (pc := 71) (lv' := [(7, .int k0), (0, .ref a_t), (1, .int v1), (2, .int v2_9), (3, .int v3_18), (4, .int v4_28), (5, .int v5), (6, .int v6)]) hx hb (dd dX8_stepFrom_p0 43 rfl) hl (by decide) rfl (fun ls hl => ?_)
      refine lv_iload (pc := 73) hx hb (dd dX8_stepFrom_p0 44 rfl) (lv_at hl 0 rfl) ?_
      refine lv_aload_n (pc := 75) hx hb (dd dX8_stepFrom_p0 45 rfl) rfl (lv_at hl 1 rfl) ?_
      refine rGet (pc := 76) M hW 0 1 iU8 rfl rfl (by decide) (uw1 113 rfl rfl) rfl (dd dX8_stepFrom_p0 46 rfl) ?_
      refine lv_iload (pc := 79) hx hb (dd dX8_stepFrom_p0 47 rfl) (lv_at hl 7 rfl) ?_
      obtain ⟨hi, h⟩ := ck_ex h
      refine rIald (pc := 81) M hW 2 rfl hi (dd dX8_stepFrom_p0 48 rfl) ?_
      refine lv_icmp_ge (pc := 82) (tgt := 104) hx hb (dd dX8_stepFrom_p0 49 rfl) (by decide) (fun hc => ?_) (fun hc => ?_)
      · have h := it_t hc h
        exact J104 _ _ _ _ _ _ _ _ _ h hW (lv_sub hl [1, 2, 3, 4, 5, 6] rfl)
      · have h := it_f hc h
        refine lv_aload_n (pc := 85) hx hb (dd dX8_stepFrom_p0 50 rfl) rfl (lv_at hl 1 rfl) ?_
        refine lv_iload (pc := 86) hx hb (dd dX8_stepFrom_p0 51 rfl) (lv_at hl 7 rfl) ?_
        refine lv_iload (pc := 88) hx hb (dd dX8_stepFrom_p0 52 rfl) (lv_at hl 0 rfl) ?_
        refine lv_iload (pc := 90) hx hb (dd dX8_stepFrom_p0 53 rfl) (lv_at hl 6 rfl) ?_
        refine lv_iconst (pc := 92) (v := 4) hx hb (dd dX8_stepFrom_p0 54 rfl) (by decide) ?_
        refine lv_icmp_ge (pc := 93) (tgt := 100) hx hb (dd dX8_stepFrom_p0 55 rfl) (by decide) (fun hc => ?_) (fun hc => ?_)
        · have h := it_t hc h
          refine lv_iconst (pc := 100) (v := 0) hx hb (dd dX8_stepFrom_p0 58 rfl) (by decide) ?_
          exact J101 _ _ _ _ _ _ _ _ _ _ _ _ h hW (lv_sub hl [1, 2, 3, 4, 5, 6] rfl)
        · have h := it_f hc h
          refine lv_iconst (pc := 96) (v := 1) hx hb (dd dX8_stepFrom_p0 56 rfl) (by decide) ?_
          refine lv_goto (pc := 97) (tgt := 101) hx hb (dd dX8_stepFrom_p0 57 rfl) (by decide) ?_
          exact J101 _ _ _ _ _ _ _ _ _ _ _ _ h hW (lv_sub hl [1, 2, 3, 4, 5, 6] rfl)
    refine lv_iload (pc := 33) hx hb (dd dX8_stepFrom_p0 22 rfl) (lv_at hl 5 rfl) ?_
    refine lv_bipush (pc := 35) (v := 8) hx hb (dd dX8_stepFrom_p0 23 rfl) (by decide) ?_
    refine lv_icmp_ge (pc := 37) (tgt := 110) hx hb (dd dX8_stepFrom_p0 24 rfl) (by decide) (fun hc => ?_) (fun hc => ?_)
    · have h := it_t hc h
      obtain rfl := Option.some.inj h
      exact hk _ _ _ hW (lv_sub hl [] rfl)
    · have h := it_f hc h
      refine lv_iload_n (pc := 40) hx hb (dd dX8_stepFrom_p0 25 rfl) rfl (lv_at hl 2 rfl) ?_
      refine lv_iload (pc := 41) hx hb (dd dX8_stepFrom_p0 26 rfl) (lv_at hl 5 rfl) ?_
      refine lv_ishr (pc := 43) hx hb (dd dX8_stepFrom_p0 27 rfl) ?_
      refine lv_iconst (pc := 44) (v := 1) hx hb (dd dX8_stepFrom_p0 28 rfl) (by decide) ?_
      refine lv_iand (pc := 45) hx hb (dd dX8_stepFrom_p0 29 rfl) ?_
      refine lv_if_eq (pc := 46) (tgt := 104) hx hb (dd dX8_stepFrom_p0 30 rfl) (by decide) (fun hc => ?_) (fun hc => ?_)
      · have h := it_t hc h
        exact J104 _ _ _ _ _ _ _ _ _ h hW (lv_sub hl [0, 1, 2, 3, 4, 5] rfl)
      · have h := it_f hc h
        refine lv_iload_n (pc := 49) hx hb (dd dX8_stepFrom_p0 31 rfl) rfl (lv_at hl 1 rfl) ?_
        refine rStepsN (pc := 50) M hW M.2.2.2.2.2.2.2.1.2.2.2.2.2.2 (dd dX8_stepFrom_p0 32 rfl) ?_
        refine lv_iload (pc := 53) hx hb (dd dX8_stepFrom_p0 33 rfl) (lv_at hl 5 rfl) ?_
        obtain ⟨hi, h⟩ := ck_ex h
        refine rStep (pc := 55) M hW hi (dd dX8_stepFrom_p0 34 rfl) ?_
        refine lv_iadd (pc := 56) hx hb (dd dX8_stepFrom_p0 35 rfl) ?_
        obtain ⟨v6_57, ev6_57, h⟩ := nm_ex h
        refine rTopi (pc := 57) ev6_57 ?_
        refine lv_istore (pc := 57) (lv' := [(6, .int v6_57), (0, .ref a_t), (1, .int v1), (2, .int v2_9), (3, .int v3_18), (4, .int v4_28), (5, .int v5)]) hx hb (dd dX8_stepFrom_p0 36 rfl) hl (by decide) rfl (fun ls hl => ?_)
        refine lv_iload (pc := 59) hx hb (dd dX8_stepFrom_p0 37 rfl) (lv_at hl 6 rfl) ?_
        refine lv_iconst (pc := 61) (v := 4) hx hb (dd dX8_stepFrom_p0 38 rfl) (by decide) ?_
        refine lv_icmp_ge (pc := 62) (tgt := 69) hx hb (dd dX8_stepFrom_p0 39 rfl) (by decide) (fun hc => ?_) (fun hc => ?_)
        · have h := it_t hc h
          refine lv_iload (pc := 69) hx hb (dd dX8_stepFrom_p0 42 rfl) (lv_at hl 5 rfl) ?_
          exact J71 _ _ _ _ _ _ _ _ _ _ _ h hW (lv_sub hl [1, 2, 3, 4, 5, 6, 0] rfl)
        · have h := it_f hc h
          refine lv_iload_n (pc := 65) hx hb (dd dX8_stepFrom_p0 40 rfl) rfl (lv_at hl 4 rfl) ?_
          refine lv_goto (pc := 66) (tgt := 71) hx hb (dd dX8_stepFrom_p0 41 rfl) (by decide) ?_
          exact J71 _ _ _ _ _ _ _ _ _ _ _ h hW (lv_sub hl [1, 2, 3, 4, 5, 6, 0] rfl)
  · obtain ⟨c_straightSize_110, c_slantwiseSize_110, c_lengths_110, c_slantwises_110, c_straights_110⟩ := ex
    have h := un5_at h
    intro H locs ls hW hl
    have hW9 := hW
    cases h
    exact ret _ _ _ 110 hW9 (dd dX8_stepFrom_p1 2 rfl)
abbrev w_X8_measureFrom (g : G9) (a_t a_land a_lengths a_slantwises a_straights a_land_kinds a_land_nears a_land_depths : Nat) (c_straightSize c_slantwiseSize c_land_laid c_land_head c_land_fieldCount c_land_innerCount : Int32) (c_lengths c_slantwises c_straights c_land_kinds c_land_nears : Ar) : va_W := [ob a_t 8 [.ref a_land, .ref a_lengths, .ref a_straights, .ref a_slantwises, .int c_straightSize, .int c_slantwiseSize], ob a_land 0 [.ref a_land_kinds, .ref a_land_nears, .ref a_land_depths, .int c_land_laid, .int c_land_head, .int c_land_fieldCount, .int c_land_innerCount], ia g a_lengths 1200 c_lengths, ia g a_slantwises 1200 c_slantwises, ia g a_straights 1200 c_straights, ia g a_land_kinds 1200 c_land_kinds, ia g a_land_nears 1200 c_land_nears]
noncomputable def X8_measureFrom_b38_153 (c_straightSize c_slantwiseSize : Int32) (c_lengths c_slantwises c_straights : Ar) (v2 v3 v4 : Int32) : Option ((Int32 × Int32 × Ar × Ar × Ar × Int32 × Int32 × Int32) ⊕ ((Int32 × Int32 × Ar × Ar × Ar) ⊕ (Int32 × Int32 × Ar × Ar × Ar))) :=
  nm (v4 + 1) fun v4_153 => some (.inl (c_straightSize, c_slantwiseSize, c_lengths, c_slantwises, c_straights, v2, v3, v4_153))
noncomputable def X8_measureFrom_b38_140 (c_straightSize c_slantwiseSize : Int32) (c_lengths c_slantwises c_straights c_land_kinds c_land_nears : Ar) (v2 v3 v4 : Int32) : Option ((Int32 × Int32 × Ar × Ar × Ar × Int32 × Int32 × Int32) ⊕ ((Int32 × Int32 × Ar × Ar × Ar) ⊕ (Int32 × Int32 × Ar × Ar × Ar))) :=
  ck (ix v3 1200) <| bnd (X8_stepFrom c_straightSize c_slantwiseSize c_lengths c_slantwises c_straights c_land_kinds c_land_nears (ag c_slantwises v3)) <| un5 fun c_straightSize_147 c_slantwiseSize_147 c_lengths_147 c_slantwises_147 c_straights_147 => nm (v3 + 1) fun v3_150 => X8_measureFrom_b38_153 c_straightSize_147 c_slantwiseSize_147 c_lengths_147 c_slantwises_147 c_straights_147 v2 v3_150 v4
noncomputable def X8_measureFrom_b38_124 (c_straightSize c_slantwiseSize : Int32) (c_lengths c_slantwises c_straights c_land_kinds c_land_nears : Ar) (v2 v3 v4 : Int32) : Option ((Int32 × Int32 × Ar × Ar × Ar × Int32 × Int32 × Int32) ⊕ ((Int32 × Int32 × Ar × Ar × Ar) ⊕ (Int32 × Int32 × Ar × Ar × Ar))) :=
  ck (ix v2 1200) <| bnd (X8_stepFrom c_straightSize c_slantwiseSize c_lengths c_slantwises c_straights c_land_kinds c_land_nears (ag c_straights v2)) <| un5 fun c_straightSize_131 c_slantwiseSize_131 c_lengths_131 c_slantwises_131 c_straights_131 => nm (v2 + 1) fun v2_134 => X8_measureFrom_b38_153 c_straightSize_131 c_slantwiseSize_131 c_lengths_131 c_slantwises_131 c_straights_131 v2_134 v3 v4
noncomputable def X8_measureFrom_b38_89 (c_straightSize c_slantwiseSize : Int32) (c_lengths c_slantwises c_straights c_land_kinds c_land_nears : Ar) (v2 v3 v4 v5 v6 : Int32) : Option ((Int32 × Int32 × Ar × Ar × Ar × Int32 × Int32 × Int32) ⊕ ((Int32 × Int32 × Ar × Ar × Ar) ⊕ (Int32 × Int32 × Ar × Ar × Ar))) :=
  if v5 = 0 then (X8_measureFrom_b38_140 c_straightSize c_slantwiseSize c_lengths c_slantwises c_straights c_land_kinds c_land_nears v2 v3 v4) else (if v6 = 0 then (X8_measureFrom_b38_124 c_straightSize c_slantwiseSize c_lengths c_slantwises c_straights c_land_kinds c_land_nears v2 v3 v4) else (ck (ix v2 1200) <| ck (ix (ag c_straights v2) 1200) <| ck (ix v3 1200) <| ck (ix (ag c_slantwises v3) 1200) <| if (ag c_lengths (ag c_slantwises v3)) < (ag c_lengths (ag c_straights v2)) then (X8_measureFrom_b38_140 c_straightSize c_slantwiseSize c_lengths c_slantwises c_straights c_land_kinds c_land_nears v2 v3 v4) else (X8_measureFrom_b38_124 c_straightSize c_slantwiseSize c_lengths c_slantwises c_straights c_land_kinds c_land_nears v2 v3 v4)))
noncomputable def X8_measureFrom_b38_74 (c_straightSize c_slantwiseSize : Int32) (c_lengths c_slantwises c_straights c_land_kinds c_land_nears : Ar) (v2 v3 v4 v5 k0 : Int32) : Option ((Int32 × Int32 × Ar × Ar × Ar × Int32 × Int32 × Int32) ⊕ ((Int32 × Int32 × Ar × Ar × Ar) ⊕ (Int32 × Int32 × Ar × Ar × Ar))) :=
  if v5 = 0 then (if k0 = 0 then (some (.inr (.inr ((c_straightSize, c_slantwiseSize, c_lengths, c_slantwises, c_straights))))) else (X8_measureFrom_b38_89 c_straightSize c_slantwiseSize c_lengths c_slantwises c_straights c_land_kinds c_land_nears v2 v3 v4 v5 k0)) else (X8_measureFrom_b38_89 c_straightSize c_slantwiseSize c_lengths c_slantwises c_straights c_land_kinds c_land_nears v2 v3 v4 v5 k0)
noncomputable def X8_measureFrom_b38_59 (c_straightSize c_slantwiseSize : Int32) (c_lengths c_slantwises c_straights c_land_kinds c_land_nears : Ar) (v2 v3 v4 k0 : Int32) : Option ((Int32 × Int32 × Ar × Ar × Ar × Int32 × Int32 × Int32) ⊕ ((Int32 × Int32 × Ar × Ar × Ar) ⊕ (Int32 × Int32 × Ar × Ar × Ar))) :=
  if c_slantwiseSize ≤ v3 then (X8_measureFrom_b38_74 c_straightSize c_slantwiseSize c_lengths c_slantwises c_straights c_land_kinds c_land_nears v2 v3 v4 k0 0) else (X8_measureFrom_b38_74 c_straightSize c_slantwiseSize c_lengths c_slantwises c_straights c_land_kinds c_land_nears v2 v3 v4 k0 1)
noncomputable def X8_measureFrom_L38 (c_land_kinds c_land_nears : Ar) (c_straightSize c_slantwiseSize : Int32) (c_lengths c_slantwises c_straights : Ar) (v2 v3 v4 : Int32) : Option ((Int32 × Int32 × Ar × Ar × Ar × Int32 × Int32 × Int32) ⊕ ((Int32 × Int32 × Ar × Ar × Ar) ⊕ (Int32 × Int32 × Ar × Ar × Ar))) :=
  if 2400 ≤ v4 then (some (.inr (.inl (c_straightSize, c_slantwiseSize, c_lengths, c_slantwises, c_straights)))) else (if c_straightSize ≤ v2 then (X8_measureFrom_b38_59 c_straightSize c_slantwiseSize c_lengths c_slantwises c_straights c_land_kinds c_land_nears v2 v3 v4 0) else (X8_measureFrom_b38_59 c_straightSize c_slantwiseSize c_lengths c_slantwises c_straights c_land_kinds c_land_nears v2 v3 v4 1))
noncomputable def X8_measureFrom (c_straightSize c_slantwiseSize : Int32) (c_lengths c_slantwises c_straights c_land_kinds c_land_nears : Ar) (v1 : Int32) : Option (Int32 × Int32 × Ar × Ar × Ar) :=
  bnd (J7_fill_53178 1200 c_lengths 1000000) <| fun c_lengths_6 => ck (ix v1 1200) <| nm (au c_lengths_6 v1 0) fun c_lengths_25 => bnd (X8_stepFrom 0 0 c_lengths_25 c_slantwises c_straights c_land_kinds c_land_nears v1) <| un5 fun c_straightSize_28 c_slantwiseSize_28 c_lengths_28 c_slantwises_28 c_straights_28 => bnd (whileV (fun st => X8_measureFrom_L38 c_land_kinds c_land_nears st.1 st.2.1 st.2.2.1 st.2.2.2.1 st.2.2.2.2.1 st.2.2.2.2.2.1 st.2.2.2.2.2.2.1 st.2.2.2.2.2.2.2) (c_straightSize_28, c_slantwiseSize_28, c_lengths_28, c_slantwises_28, c_straights_28, 0, 0, 0)) <| (Sum.elim (un5 fun c_straightSize_159 c_slantwiseSize_159 c_lengths_159 c_slantwises_159 c_straights_159 => some (c_straightSize_159, c_slantwiseSize_159, c_lengths_159, c_slantwises_159, c_straights_159)) (un5 fun c_straightSize_86 c_slantwiseSize_86 c_lengths_86 c_slantwises_86 c_straights_86 => some (c_straightSize_86, c_slantwiseSize_86, c_lengths_86, c_slantwises_86, c_straights_86)))
set_option maxHeartbeats 4000000 in
set_option maxRecDepth 100000 in
theorem t_X8_measureFrom (l : Launch) (g : G9) (a_t a_land a_lengths a_slantwises a_straights a_land_kinds a_land_nears a_land_depths : Nat) (c_straightSize c_slantwiseSize c_land_laid c_land_head c_land_fieldCount c_land_innerCount : Int32) (c_lengths c_slantwises c_straights c_land_kinds c_land_nears : Ar) (v1 o_straightSize o_slantwiseSize : Int32) (o_lengths o_slantwises o_straights : Ar) (h : X8_measureFrom c_straightSize c_slantwiseSize c_lengths c_slantwises c_straights c_land_kinds c_land_nears v1 = some (o_straightSize, o_slantwiseSize, o_lengths, o_slantwises, o_straights)) : CtV l g yX8_measureFrom cX8_measureFrom 7 2 50 [.ref a_t, .int v1] (w_X8_measureFrom g a_t a_land a_lengths a_slantwises a_straights a_land_kinds a_land_nears a_land_depths c_straightSize c_slantwiseSize c_land_laid c_land_head c_land_fieldCount c_land_innerCount c_lengths c_slantwises c_straights c_land_kinds c_land_nears) (w_X8_measureFrom g a_t a_land a_lengths a_slantwises a_straights a_land_kinds a_land_nears a_land_depths o_straightSize o_slantwiseSize c_land_laid c_land_head c_land_fieldCount c_land_innerCount o_lengths o_slantwises o_straights c_land_kinds c_land_nears) := by
  refine startV (by decide) (Nat.le_of_ble_eq_true rfl) ?_
  intro p e s m below meth c A Q ls args M hW hl ret
  have hx := M.1
  have hb := M.2.1
  have hown := M.2.2.2.1
  have hu := M.2.2.2.2.1
  have hl : lv_has ls 7 [(0, .ref a_t), (1, .int v1)] := hl
  unfold X8_measureFrom at h
  obtain ⟨H, eH⟩ : ∃ z, z = s.heap := ⟨_, rfl⟩
  obtain ⟨locs, eL⟩ : ∃ z, z = ([] : List Loc) := ⟨_, rfl⟩
  rw [← eL] at hW ⊢
  suffices hS9 : WD g s A (w_X8_measureFrom g a_t a_land a_lengths a_slantwises a_straights a_land_kinds a_land_nears a_land_depths c_straightSize c_slantwiseSize c_land_laid c_land_head c_land_fieldCount c_land_innerCount c_lengths c_slantwises c_straights c_land_kinds c_land_nears) H locs → W p l e (rm9 2 50) s m args below meth c H locs 0 0 Q (F0 m 0 ls []) by
    rw [← eH] at hW ⊢
    exact hS9 hW
  clear hW eH eL
  intro hW
  refine lv_aload_n (pc := 0) hx hb (dd dX8_measureFrom_p0 0 rfl) rfl (lv_at hl 0 rfl) ?_
  refine rGet (pc := 1) M hW 0 1 iU8 rfl rfl (by decide) (uw1 113 rfl rfl) rfl (dd dX8_measureFrom_p0 1 rfl) ?_
  refine lv_ldc (pc := 4) (v := 1000000) hx hb hown (hu _ (uw3 228 rfl rfl)) (dd dX8_measureFrom_p0 2 rfl) ?_
  obtain ⟨c_lengths_6, hr, h⟩ := bnd_ex h
  refine callSV (pc := 6) (na := 2) (As := [.ref a_lengths, .int 1000000]) (rest := []) (ws2 := (w_X8_measureFrom g a_t a_land a_lengths a_slantwises a_straights a_land_kinds a_land_nears a_land_depths c_straightSize c_slantwiseSize c_land_laid c_land_head c_land_fieldCount c_land_innerCount c_lengths_6 c_slantwises c_straights c_land_kinds c_land_nears)) M hl.1 hW (t_J7_fill_53178 l g a_lengths 1200 c_lengths 1000000 c_lengths_6 hr) [2] [0, 1, 3, 4, 5, 6] [0, 1, 6, 2, 3, 4, 5] rfl rfl rfl rfl rfl rfl rfl (uw2 20 rfl rfl) (uw3 229 rfl rfl) (uw2 19 rfl rfl) (uw1 12 rfl rfl) ⟨by decide, by decide, by decide⟩ rfl ⟨by decide, by decide⟩ (Nat.le_of_ble_eq_true rfl) ⟨Nat.zero_le _, Nat.zero_le _⟩ (dd dX8_measureFrom_p0 3 rfl) (fun H locs hW => ?_)
  refine lv_aload_n (pc := 9) hx hb (dd dX8_measureFrom_p0 4 rfl) rfl (lv_at hl 0 rfl) ?_
  refine lv_iconst (pc := 10) (v := 0) hx hb (dd dX8_measureFrom_p0 5 rfl) (by decide) ?_
  refine rPut (pc := 11) M hW 0 4 tyX8 tyX8_ok nmX8 iU8 rfl rfl (by decide) (uw1 118 rfl rfl) rfl rfl rfl (Nat.le_of_ble_eq_true rfl) (dd dX8_measureFrom_p0 6 rfl) (ws' := (w_X8_measureFrom g a_t a_land a_lengths a_slantwises a_straights a_land_kinds a_land_nears a_land_depths 0 c_slantwiseSize c_land_laid c_land_head c_land_fieldCount c_land_innerCount c_lengths_6 c_slantwises c_straights c_land_kinds c_land_nears)) rfl (fun H locs hW => ?_)
  refine lv_aload_n (pc := 14) hx hb (dd dX8_measureFrom_p0 7 rfl) rfl (lv_at hl 0 rfl) ?_
  refine lv_iconst (pc := 15) (v := 0) hx hb (dd dX8_measureFrom_p0 8 rfl) (by decide) ?_
  refine rPut (pc := 16) M hW 0 5 tyX8 tyX8_ok nmX8 iU8 rfl rfl (by decide) (uw1 119 rfl rfl) rfl rfl rfl (Nat.le_of_ble_eq_true rfl) (dd dX8_measureFrom_p0 9 rfl) (ws' := (w_X8_measureFrom g a_t a_land a_lengths a_slantwises a_straights a_land_kinds a_land_nears a_land_depths 0 0 c_land_laid c_land_head c_land_fieldCount c_land_innerCount c_lengths_6 c_slantwises c_straights c_land_kinds c_land_nears)) rfl (fun H locs hW => ?_)
  refine lv_aload_n (pc := 19) hx hb (dd dX8_measureFrom_p0 10 rfl) rfl (lv_at hl 0 rfl) ?_
  refine rGet (pc := 20) M hW 0 1 iU8 rfl rfl (by decide) (uw1 113 rfl rfl) rfl (dd dX8_measureFrom_p0 11 rfl) ?_
  refine lv_iload_n (pc := 23) hx hb (dd dX8_measureFrom_p0 12 rfl) rfl (lv_at hl 1 rfl) ?_
  refine lv_iconst (pc := 24) (v := 0) hx hb (dd dX8_measureFrom_p0 13 rfl) (by decide) ?_
  obtain ⟨hi, h⟩ := ck_ex h
  obtain ⟨c_lengths_25, ec_lengths_25, h⟩ := nm_ex h
  refine rIast (pc := 25) M hW 2 rfl hi ec_lengths_25 (ws' := (w_X8_measureFrom g a_t a_land a_lengths a_slantwises a_straights a_land_kinds a_land_nears a_land_depths 0 0 c_land_laid c_land_head c_land_fieldCount c_land_innerCount c_lengths_25 c_slantwises c_straights c_land_kinds c_land_nears)) rfl (dd dX8_measureFrom_p0 14 rfl) (fun H locs hW => ?_)
  refine lv_aload_n (pc := 26) hx hb (dd dX8_measureFrom_p0 15 rfl) rfl (lv_at hl 0 rfl) ?_
  refine lv_iload_n (pc := 27) hx hb (dd dX8_measureFrom_p0 16 rfl) rfl (lv_at hl 1 rfl) ?_
  obtain ⟨⟨c_straightSize_28, c_slantwiseSize_28, c_lengths_28, c_slantwises_28, c_straights_28⟩, hr, h⟩ := bnd_ex h
  have h := un5_at h
  refine callVV (pc := 28) (na := 1) (As := [.int v1]) (rest := []) (ws2 := (w_X8_measureFrom g a_t a_land a_lengths a_slantwises a_straights a_land_kinds a_land_nears a_land_depths c_straightSize_28 c_slantwiseSize_28 c_land_laid c_land_head c_land_fieldCount c_land_innerCount c_lengths_28 c_slantwises_28 c_straights_28 c_land_kinds c_land_nears)) M hl.1 hW (t_X8_stepFrom l g a_t a_land a_lengths a_slantwises a_straights a_land_kinds a_land_nears a_land_depths 0 0 c_land_laid c_land_head c_land_fieldCount c_land_innerCount c_lengths_25 c_slantwises c_straights c_land_kinds c_land_nears v1 c_straightSize_28 c_slantwiseSize_28 c_lengths_28 c_slantwises_28 c_straights_28 hr) rfl [0, 1, 2, 3, 4, 5, 6] [] [0, 1, 2, 3, 4, 5, 6] rfl rfl rfl rfl rfl rfl rfl 0 8 rfl rfl rfl (uw3 233 rfl rfl) (uw3 230 rfl rfl) (uw3 232 rfl rfl) (uwp 23 rfl rfl) (uw1 6 rfl rfl) ⟨by decide, by decide, by decide⟩ rfl ⟨by decide, by decide⟩ (Nat.le_of_ble_eq_true rfl) ⟨Nat.zero_le _, Nat.zero_le _⟩ (dd dX8_measureFrom_p0 17 rfl) (fun H locs hW => ?_)
  refine lv_iconst (pc := 31) (v := 0) hx hb (dd dX8_measureFrom_p0 18 rfl) (by decide) ?_
  refine lv_istore_n (pc := 32) (lv' := [(2, .int 0), (0, .ref a_t), (1, .int v1)]) hx hb (dd dX8_measureFrom_p0 19 rfl) rfl hl (by decide) rfl (fun ls hl => ?_)
  refine lv_iconst (pc := 33) (v := 0) hx hb (dd dX8_measureFrom_p0 20 rfl) (by decide) ?_
  refine lv_istore_n (pc := 34) (lv' := [(3, .int 0), (2, .int 0), (0, .ref a_t), (1, .int v1)]) hx hb (dd dX8_measureFrom_p0 21 rfl) rfl hl (by decide) rfl (fun ls hl => ?_)
  refine lv_iconst (pc := 35) (v := 0) hx hb (dd dX8_measureFrom_p0 22 rfl) (by decide) ?_
  refine lv_istore (pc := 36) (lv' := [(4, .int 0), (3, .int 0), (2, .int 0), (0, .ref a_t), (1, .int v1)]) hx hb (dd dX8_measureFrom_p0 23 rfl) hl (by decide) rfl (fun ls hl => ?_)
  obtain ⟨ex, hw, h⟩ := bnd_ex h
  refine loopW (fun st => ∀ (H : Heap) (locs : List Loc) (ls : Array Slot), WD g s A (w_X8_measureFrom g a_t a_land a_lengths a_slantwises a_straights a_land_kinds a_land_nears a_land_depths (st.1) (st.2.1) c_land_laid c_land_head c_land_fieldCount c_land_innerCount (st.2.2.1) (st.2.2.2.1) (st.2.2.2.2.1) c_land_kinds c_land_nears) H locs → lv_has ls 7 [(0, .ref a_t), (2, .int (st.2.2.2.2.2.1)), (3, .int (st.2.2.2.2.2.2.1)), (4, .int (st.2.2.2.2.2.2.2))] → W p l e (rm9 2 50) s m args below meth c H locs 0 0 Q (F0 m 38 ls [])) (Sum.elim (fun (ex : (Int32 × Int32 × Ar × Ar × Ar)) => ∀ (H : Heap) (locs : List Loc) (ls : Array Slot), WD g s A (w_X8_measureFrom g a_t a_land a_lengths a_slantwises a_straights a_land_kinds a_land_nears a_land_depths (ex.1) (ex.2.1) c_land_laid c_land_head c_land_fieldCount c_land_innerCount (ex.2.2.1) (ex.2.2.2.1) (ex.2.2.2.2) c_land_kinds c_land_nears) H locs → lv_has ls 7 [] → W p l e (rm9 2 50) s m args below meth c H locs 0 0 Q (F0 m 159 ls [])) (fun (ex : (Int32 × Int32 × Ar × Ar × Ar)) => ∀ (H : Heap) (locs : List Loc) (ls : Array Slot), WD g s A (w_X8_measureFrom g a_t a_land a_lengths a_slantwises a_straights a_land_kinds a_land_nears a_land_depths (ex.1) (ex.2.1) c_land_laid c_land_head c_land_fieldCount c_land_innerCount (ex.2.2.1) (ex.2.2.2.1) (ex.2.2.2.2) c_land_kinds c_land_nears) H locs → lv_has ls 7 [] → W p l e (rm9 2 50) s m args below meth c H locs 0 0 Q (F0 m 86 ls []))) ?_ hw ?_ H locs ls hW (lv_sub hl [3, 2, 1, 0] rfl)
  · rintro ⟨c_straightSize, c_slantwiseSize, c_lengths, c_slantwises, c_straights, v2, v3, v4⟩ o hb9 hk H locs ls hW hl
    have h : X8_measureFrom_L38 c_land_kinds c_land_nears c_straightSize c_slantwiseSize c_lengths c_slantwises c_straights v2 v3 v4 = some o := hb9
    clear hb9
    unfold X8_measureFrom_L38 at h
    have J153 : ∀ (c_straightSize c_slantwiseSize : Int32) (c_lengths c_slantwises c_straights : Ar) (v2 v3 v4 : Int32) (H : Heap) (locs : List Loc) (ls : Array Slot), X8_measureFrom_b38_153 c_straightSize c_slantwiseSize c_lengths c_slantwises c_straights v2 v3 v4 = some o → WD g s A (w_X8_measureFrom g a_t a_land a_lengths a_slantwises a_straights a_land_kinds a_land_nears a_land_depths c_straightSize c_slantwiseSize c_land_laid c_land_head c_land_fieldCount c_land_innerCount c_lengths c_slantwises c_straights c_land_kinds c_land_nears) H locs → lv_has ls 7 [(0, .ref a_t), (2, .int v2), (3, .int v3), (4, .int v4)] → W p l e (rm9 2 50) s m args below meth c H locs 0 0 Q (F0 m 153 ls []) := by
      intro c_straightSize c_slantwiseSize c_lengths c_slantwises c_straights v2 v3 v4 H locs ls h hW hl
      unfold X8_measureFrom_b38_153 at h
      obtain ⟨v4_153, ev4_153, h⟩ := nm_ex h
      refine lv_iinc (pc := 153) (v := v4_153) (lv' := [(4, .int v4_153), (0, .ref a_t), (2, .int v2), (3, .int v3)]) hx hb (dd dX8_measureFrom_p1 22 rfl) hl (k := 3) rfl (by rw [ev4_153]; rfl) (by decide) rfl (fun ls hl => ?_)
      refine lv_goto (pc := 156) (tgt := 38) hx hb (dd dX8_measureFrom_p1 23 rfl) (by decide) ?_
      obtain rfl := Option.some.inj h
      exact hk _ _ _ hW (lv_sub hl [1, 2, 3, 0] rfl)
    have J140 : ∀ (c_straightSize c_slantwiseSize : Int32) (c_lengths c_slantwises c_straights : Ar) (v2 v3 v4 : Int32) (H : Heap) (locs : List Loc) (ls : Array Slot), X8_measureFrom_b38_140 c_straightSize c_slantwiseSize c_lengths c_slantwises c_straights c_land_kinds c_land_nears v2 v3 v4 = some o → WD g s A (w_X8_measureFrom g a_t a_land a_lengths a_slantwises a_straights a_land_kinds a_land_nears a_land_depths c_straightSize c_slantwiseSize c_land_laid c_land_head c_land_fieldCount c_land_innerCount c_lengths c_slantwises c_straights c_land_kinds c_land_nears) H locs → lv_has ls 7 [(0, .ref a_t), (2, .int v2), (3, .int v3), (4, .int v4)] → W p l e (rm9 2 50) s m args below meth c H locs 0 0 Q (F0 m 140 ls []) := by
      intro c_straightSize c_slantwiseSize c_lengths c_slantwises c_straights v2 v3 v4 H locs ls h hW hl
      unfold X8_measureFrom_b38_140 at h
      refine lv_aload_n (pc := 140) hx hb (dd dX8_measureFrom_p1 15 rfl) rfl (lv_at hl 0 rfl) ?_
      refine lv_aload_n (pc := 141) hx hb (dd dX8_measureFrom_p1 16 rfl) rfl (lv_at hl 0 rfl) ?_
      refine rGet (pc := 142) M hW 0 3 iU8 rfl rfl (by decide) (uw1 117 rfl rfl) rfl (dd dX8_measureFrom_p1 17 rfl) ?_
      refine lv_iload_n (pc := 145) hx hb (dd dX8_measureFrom_p1 18 rfl) rfl (lv_at hl 2 rfl) ?_
      obtain ⟨hi, h⟩ := ck_ex h
      refine rIald (pc := 146) M hW 3 rfl hi (dd dX8_measureFrom_p1 19 rfl) ?_
      obtain ⟨⟨c_straightSize_147, c_slantwiseSize_147, c_lengths_147, c_slantwises_147, c_straights_147⟩, hr, h⟩ := bnd_ex h
      have h := un5_at h
      refine callVV (pc := 147) (na := 1) (As := [.int (ag c_slantwises v3)]) (rest := []) (ws2 := (w_X8_measureFrom g a_t a_land a_lengths a_slantwises a_straights a_land_kinds a_land_nears a_land_depths c_straightSize_147 c_slantwiseSize_147 c_land_laid c_land_head c_land_fieldCount c_land_innerCount c_lengths_147 c_slantwises_147 c_straights_147 c_land_kinds c_land_nears)) M hl.1 hW (t_X8_stepFrom l g a_t a_land a_lengths a_slantwises a_straights a_land_kinds a_land_nears a_land_depths c_straightSize c_slantwiseSize c_land_laid c_land_head c_land_fieldCount c_land_innerCount c_lengths c_slantwises c_straights c_land_kinds c_land_nears (ag c_slantwises v3) c_straightSize_147 c_slantwiseSize_147 c_lengths_147 c_slantwises_147 c_straights_147 hr) rfl [0, 1, 2, 3, 4, 5, 6] [] [0, 1, 2, 3, 4, 5, 6] rfl rfl rfl rfl rfl rfl rfl 0 8 rfl rfl rfl (uw3 233 rfl rfl) (uw3 230 rfl rfl) (uw3 232 rfl rfl) (uwp 23 rfl rfl) (uw1 6 rfl rfl) ⟨by decide, by decide, by decide⟩ rfl ⟨by decide, by decide⟩ (Nat.le_of_ble_eq_true rfl) ⟨Nat.zero_le _, Nat.zero_le _⟩ (dd dX8_measureFrom_p1 20 rfl) (fun H locs hW => ?_)
      obtain ⟨v3_150, ev3_150, h⟩ := nm_ex h
      refine lv_iinc (pc := 150) (v := v3_150) (lv' := [(3, .int v3_150), (0, .ref a_t), (2, .int v2), (4, .int v4)]) hx hb (dd dX8_measureFrom_p1 21 rfl) hl (k := 2) rfl (by rw [ev3_150]; rfl) (by decide) rfl (fun ls hl => ?_)
      exact J153 _ _ _ _ _ _ _ _ _ _ _ h hW (lv_sub hl [1, 2, 0, 3] rfl)
    have J124 : ∀ (c_straightSize c_slantwiseSize : Int32) (c_lengths c_slantwises c_straights : Ar) (v2 v3 v4 : Int32) (H : Heap) (locs : List Loc) (ls : Array Slot), X8_measureFrom_b38_124 c_straightSize c_slantwiseSize c_lengths c_slantwises c_straights c_land_kinds c_land_nears v2 v3 v4 = some o → WD g s A (w_X8_measureFrom g a_t a_land a_lengths a_slantwises a_straights a_land_kinds a_land_nears a_land_depths c_straightSize c_slantwiseSize c_land_laid c_land_head c_land_fieldCount c_land_innerCount c_lengths c_slantwises c_straights c_land_kinds c_land_nears) H locs → lv_has ls 7 [(0, .ref a_t), (2, .int v2), (3, .int v3), (4, .int v4)] → W p l e (rm9 2 50) s m args below meth c H locs 0 0 Q (F0 m 124 ls []) := by
      intro c_straightSize c_slantwiseSize c_lengths c_slantwises c_straights v2 v3 v4 H locs ls h hW hl
      unfold X8_measureFrom_b38_124 at h
      refine lv_aload_n (pc := 124) hx hb (dd dX8_measureFrom_p1 7 rfl) rfl (lv_at hl 0 rfl) ?_
      refine lv_aload_n (pc := 125) hx hb (dd dX8_measureFrom_p1 8 rfl) rfl (lv_at hl 0 rfl) ?_
      refine rGet (pc := 126) M hW 0 2 iU8 rfl rfl (by decide) (uw1 116 rfl rfl) rfl (dd dX8_measureFrom_p1 9 rfl) ?_
      refine lv_iload_n (pc := 129) hx hb (dd dX8_measureFrom_p1 10 rfl) rfl (lv_at hl 1 rfl) ?_
      obtain ⟨hi, h⟩ := ck_ex h
      refine rIald (pc := 130) M hW 4 rfl hi (dd dX8_measureFrom_p1 11 rfl) ?_
      obtain ⟨⟨c_straightSize_131, c_slantwiseSize_131, c_lengths_131, c_slantwises_131, c_straights_131⟩, hr, h⟩ := bnd_ex h
      have h := un5_at h
      refine callVV (pc := 131) (na := 1) (As := [.int (ag c_straights v2)]) (rest := []) (ws2 := (w_X8_measureFrom g a_t a_land a_lengths a_slantwises a_straights a_land_kinds a_land_nears a_land_depths c_straightSize_131 c_slantwiseSize_131 c_land_laid c_land_head c_land_fieldCount c_land_innerCount c_lengths_131 c_slantwises_131 c_straights_131 c_land_kinds c_land_nears)) M hl.1 hW (t_X8_stepFrom l g a_t a_land a_lengths a_slantwises a_straights a_land_kinds a_land_nears a_land_depths c_straightSize c_slantwiseSize c_land_laid c_land_head c_land_fieldCount c_land_innerCount c_lengths c_slantwises c_straights c_land_kinds c_land_nears (ag c_straights v2) c_straightSize_131 c_slantwiseSize_131 c_lengths_131 c_slantwises_131 c_straights_131 hr) rfl [0, 1, 2, 3, 4, 5, 6] [] [0, 1, 2, 3, 4, 5, 6] rfl rfl rfl rfl rfl rfl rfl 0 8 rfl rfl rfl (uw3 233 rfl rfl) (uw3 230 rfl rfl) (uw3 232 rfl rfl) (uwp 23 rfl rfl) (uw1 6 rfl rfl) ⟨by decide, by decide, by decide⟩ rfl ⟨by decide, by decide⟩ (Nat.le_of_ble_eq_true rfl) ⟨Nat.zero_le _, Nat.zero_le _⟩ (dd dX8_measureFrom_p1 12 rfl) (fun H locs hW => ?_)
      obtain ⟨v2_134, ev2_134, h⟩ := nm_ex h
      refine lv_iinc (pc := 134) (v := v2_134) (lv' := [(2, .int v2_134), (0, .ref a_t), (3, .int v3), (4, .int v4)]) hx hb (dd dX8_measureFrom_p1 13 rfl) hl (k := 1) rfl (by rw [ev2_134]; rfl) (by decide) rfl (fun ls hl => ?_)
      refine lv_goto (pc := 137) (tgt := 153) hx hb (dd dX8_measureFrom_p1 14 rfl) (by decide) ?_
      exact J153 _ _ _ _ _ _ _ _ _ _ _ h hW (lv_sub hl [1, 0, 2, 3] rfl)
    have J89 : ∀ (c_straightSize c_slantwiseSize : Int32) (c_lengths c_slantwises c_straights : Ar) (v2 v3 v4 v5 v6 : Int32) (H : Heap) (locs : List Loc) (ls : Array Slot), X8_measureFrom_b38_89 c_straightSize c_slantwiseSize c_lengths c_slantwises c_straights c_land_kinds c_land_nears v2 v3 v4 v5 v6 = some o → WD g s A (w_X8_measureFrom g a_t a_land a_lengths a_slantwises a_straights a_land_kinds a_land_nears a_land_depths c_straightSize c_slantwiseSize c_land_laid c_land_head c_land_fieldCount c_land_innerCount c_lengths c_slantwises c_straights c_land_kinds c_land_nears) H locs → lv_has ls 7 [(0, .ref a_t), (2, .int v2), (3, .int v3), (4, .int v4), (5, .int v5), (6, .int v6)] → W p l e (rm9 2 50) s m args below meth c H locs 0 0 Q (F0 m 89 ls []) := by
      intro c_straightSize c_slantwiseSize c_lengths c_slantwises c_straights v2 v3 v4 v5 v6 H locs ls h hW hl
      unfold X8_measureFrom_b38_89 at h
      refine lv_iload (pc := 89) hx hb (dd dX8_measureFrom_p0 48 rfl) (lv_at hl 4 rfl) ?_
      refine lv_if_eq (pc := 91) (tgt := 140) hx hb (dd dX8_measureFrom_p0 49 rfl) (by decide) (fun hc => ?_) (fun hc => ?_)
      · have h := it_t hc h
        exact J140 _ _ _ _ _ _ _ _ _ _ _ h hW (lv_sub hl [0, 1, 2, 3] rfl)
      · have h := it_f hc h
        refine lv_iload (pc := 94) hx hb (dd dX8_measureFrom_p0 50 rfl) (lv_at hl 5 rfl) ?_
        refine lv_if_eq (pc := 96) (tgt := 124) hx hb (dd dX8_measureFrom_p0 51 rfl) (by decide) (fun hc => ?_) (fun hc => ?_)
        · have h := it_t hc h
          exact J124 _ _ _ _ _ _ _ _ _ _ _ h hW (lv_sub hl [0, 1, 2, 3] rfl)
        · have h := it_f hc h
          refine lv_aload_n (pc := 99) hx hb (dd dX8_measureFrom_p0 52 rfl) rfl (lv_at hl 0 rfl) ?_
          refine rGet (pc := 100) M hW 0 1 iU8 rfl rfl (by decide) (uw1 113 rfl rfl) rfl (dd dX8_measureFrom_p0 53 rfl) ?_
          refine lv_aload_n (pc := 103) hx hb (dd dX8_measureFrom_p0 54 rfl) rfl (lv_at hl 0 rfl) ?_
          refine rGet (pc := 104) M hW 0 2 iU8 rfl rfl (by decide) (uw1 116 rfl rfl) rfl (dd dX8_measureFrom_p0 55 rfl) ?_
          refine lv_iload_n (pc := 107) hx hb (dd dX8_measureFrom_p0 56 rfl) rfl (lv_at hl 1 rfl) ?_
          obtain ⟨hi, h⟩ := ck_ex h
          refine rIald (pc := 108) M hW 4 rfl hi (dd dX8_measureFrom_p0 57 rfl) ?_
          obtain ⟨hi, h⟩ := ck_ex h
          refine rIald (pc := 109) M hW 2 rfl hi (dd dX8_measureFrom_p0 58 rfl) ?_
          refine lv_aload_n (pc := 110) hx hb (dd dX8_measureFrom_p0 59 rfl) rfl (lv_at hl 0 rfl) ?_
          refine rGet (pc := 111) M hW 0 1 iU8 rfl rfl (by decide) (uw1 113 rfl rfl) rfl (dd dX8_measureFrom_p1 0 rfl) ?_
          refine lv_aload_n (pc := 114) hx hb (dd dX8_measureFrom_p1 1 rfl) rfl (lv_at hl 0 rfl) ?_
          refine rGet (pc := 115) M hW 0 3 iU8 rfl rfl (by decide) (uw1 117 rfl rfl) rfl (dd dX8_measureFrom_p1 2 rfl) ?_
          refine lv_iload_n (pc := 118) hx hb (dd dX8_measureFrom_p1 3 rfl) rfl (lv_at hl 2 rfl) ?_
          obtain ⟨hi, h⟩ := ck_ex h
          refine rIald (pc := 119) M hW 3 rfl hi (dd dX8_measureFrom_p1 4 rfl) ?_
          obtain ⟨hi, h⟩ := ck_ex h
          refine rIald (pc := 120) M hW 2 rfl hi (dd dX8_measureFrom_p1 5 rfl) ?_
          refine lv_icmp_gt (pc := 121) (tgt := 140) hx hb (dd dX8_measureFrom_p1 6 rfl) (by decide) (fun hc => ?_) (fun hc => ?_)
          · have h := it_t hc h
            exact J140 _ _ _ _ _ _ _ _ _ _ _ h hW (lv_sub hl [0, 1, 2, 3] rfl)
          · have h := it_f hc h
            exact J124 _ _ _ _ _ _ _ _ _ _ _ h hW (lv_sub hl [0, 1, 2, 3] rfl)
    have J74 : ∀ (c_straightSize c_slantwiseSize : Int32) (c_lengths c_slantwises c_straights : Ar) (v2 v3 v4 v5 k0 : Int32) (H : Heap) (locs : List Loc) (ls : Array Slot), X8_measureFrom_b38_74 c_straightSize c_slantwiseSize c_lengths c_slantwises c_straights c_land_kinds c_land_nears v2 v3 v4 v5 k0 = some o → WD g s A (w_X8_measureFrom g a_t a_land a_lengths a_slantwises a_straights a_land_kinds a_land_nears a_land_depths c_straightSize c_slantwiseSize c_land_laid c_land_head c_land_fieldCount c_land_innerCount c_lengths c_slantwises c_straights c_land_kinds c_land_nears) H locs → lv_has ls 7 [(0, .ref a_t), (2, .int v2), (3, .int v3), (4, .int v4), (5, .int v5)] → W p l e (rm9 2 50) s m args below meth c H locs 0 0 Q (F0 m 74 ls [.int k0]) := by
      intro c_straightSize c_slantwiseSize c_lengths c_slantwises c_straights v2 v3 v4 v5 k0 H locs ls h hW hl
      unfold X8_measureFrom_b38_74 at h
      refine lv_istore (pc := 74) (lv' := [(6, .int k0), (0, .ref a_t), (2, .int v2), (3, .int v3), (4, .int v4), (5, .int v5)]) hx hb (dd dX8_measureFrom_p0 42 rfl) hl (by decide) rfl (fun ls hl => ?_)
      refine lv_iload (pc := 76) hx hb (dd dX8_measureFrom_p0 43 rfl) (lv_at hl 5 rfl) ?_
      refine lv_if_ne (pc := 78) (tgt := 89) hx hb (dd dX8_measureFrom_p0 44 rfl) (by decide) (fun hc => ?_) (fun hc => ?_)
      · have h := it_f hc h
        exact J89 _ _ _ _ _ _ _ _ _ _ _ _ _ h hW (lv_sub hl [1, 2, 3, 4, 5, 0] rfl)
      · have h := it_t hc h
        refine lv_iload (pc := 81) hx hb (dd dX8_measureFrom_p0 45 rfl) (lv_at hl 0 rfl) ?_
        refine lv_if_ne (pc := 83) (tgt := 89) hx hb (dd dX8_measureFrom_p0 46 rfl) (by decide) (fun hc => ?_) (fun hc => ?_)
        · have h := it_f hc h
          exact J89 _ _ _ _ _ _ _ _ _ _ _ _ _ h hW (lv_sub hl [1, 2, 3, 4, 5, 0] rfl)
        · have h := it_t hc h
          obtain rfl := Option.some.inj h
          exact hk _ _ _ hW (lv_sub hl [] rfl)
    have J59 : ∀ (c_straightSize c_slantwiseSize : Int32) (c_lengths c_slantwises c_straights : Ar) (v2 v3 v4 k0 : Int32) (H : Heap) (locs : List Loc) (ls : Array Slot), X8_measureFrom_b38_59 c_straightSize c_slantwiseSize c_lengths c_slantwises c_straights c_land_kinds c_land_nears v2 v3 v4 k0 = some o → WD g s A (w_X8_measureFrom g a_t a_land a_lengths a_slantwises a_straights a_land_kinds a_land_nears a_land_depths c_straightSize c_slantwiseSize c_land_laid c_land_head c_land_fieldCount c_land_innerCount c_lengths c_slantwises c_straights c_land_kinds c_land_nears) H locs → lv_has ls 7 [(0, .ref a_t), (2, .int v2), (3, .int v3), (4, .int v4)] → W p l e (rm9 2 50) s m args below meth c H locs 0 0 Q (F0 m 59 ls [.int k0]) := by
      intro c_straightSize c_slantwiseSize c_lengths c_slantwises c_straights v2 v3 v4 k0 H locs ls h hW hl
      unfold X8_measureFrom_b38_59 at h
      refine lv_istore (pc := 59) (lv' := [(5, .int k0), (0, .ref a_t), (2, .int v2), (3, .int v3), (4, .int v4)]) hx hb (dd dX8_measureFrom_p0 34 rfl) hl (by decide) rfl (fun ls hl => ?_)
      refine lv_iload_n (pc := 61) hx hb (dd dX8_measureFrom_p0 35 rfl) rfl (lv_at hl 3 rfl) ?_
      refine lv_aload_n (pc := 62) hx hb (dd dX8_measureFrom_p0 36 rfl) rfl (lv_at hl 1 rfl) ?_
      refine rGet (pc := 63) M hW 0 5 iU8 rfl rfl (by decide) (uw1 119 rfl rfl) rfl (dd dX8_measureFrom_p0 37 rfl) ?_
      refine lv_icmp_ge (pc := 66) (tgt := 73) hx hb (dd dX8_measureFrom_p0 38 rfl) (by decide) (fun hc => ?_) (fun hc => ?_)
      · have h := it_t hc h
        refine lv_iconst (pc := 73) (v := 0) hx hb (dd dX8_measureFrom_p0 41 rfl) (by decide) ?_
        exact J74 _ _ _ _ _ _ _ _ _ _ _ _ _ h hW (lv_sub hl [1, 2, 3, 4, 0] rfl)
      · have h := it_f hc h
        refine lv_iconst (pc := 69) (v := 1) hx hb (dd dX8_measureFrom_p0 39 rfl) (by decide) ?_
        refine lv_goto (pc := 70) (tgt := 74) hx hb (dd dX8_measureFrom_p0 40 rfl) (by decide) ?_
        exact J74 _ _ _ _ _ _ _ _ _ _ _ _ _ h hW (lv_sub hl [1, 2, 3, 4, 0] rfl)
    refine lv_iload (pc := 38) hx hb (dd dX8_measureFrom_p0 24 rfl) (lv_at hl 3 rfl) ?_
    refine lv_sipush (pc := 40) (v := 2400) hx hb (dd dX8_measureFrom_p0 25 rfl) (by decide) ?_
    refine lv_icmp_ge (pc := 43) (tgt := 159) hx hb (dd dX8_measureFrom_p0 26 rfl) (by decide) (fun hc => ?_) (fun hc => ?_)
    · have h := it_t hc h
      obtain rfl := Option.some.inj h
      exact hk _ _ _ hW (lv_sub hl [] rfl)
    · have h := it_f hc h
      refine lv_iload_n (pc := 46) hx hb (dd dX8_measureFrom_p0 27 rfl) rfl (lv_at hl 1 rfl) ?_
      refine lv_aload_n (pc := 47) hx hb (dd dX8_measureFrom_p0 28 rfl) rfl (lv_at hl 0 rfl) ?_
      refine rGet (pc := 48) M hW 0 4 iU8 rfl rfl (by decide) (uw1 118 rfl rfl) rfl (dd dX8_measureFrom_p0 29 rfl) ?_
      refine lv_icmp_ge (pc := 51) (tgt := 58) hx hb (dd dX8_measureFrom_p0 30 rfl) (by decide) (fun hc => ?_) (fun hc => ?_)
      · have h := it_t hc h
        refine lv_iconst (pc := 58) (v := 0) hx hb (dd dX8_measureFrom_p0 33 rfl) (by decide) ?_
        exact J59 _ _ _ _ _ _ _ _ _ _ _ _ h hW (lv_sub hl [0, 1, 2, 3] rfl)
      · have h := it_f hc h
        refine lv_iconst (pc := 54) (v := 1) hx hb (dd dX8_measureFrom_p0 31 rfl) (by decide) ?_
        refine lv_goto (pc := 55) (tgt := 59) hx hb (dd dX8_measureFrom_p0 32 rfl) (by decide) ?_
        exact J59 _ _ _ _ _ _ _ _ _ _ _ _ h hW (lv_sub hl [0, 1, 2, 3] rfl)
  · rcases ex with ⟨c_straightSize_159, c_slantwiseSize_159, c_lengths_159, c_slantwises_159, c_straights_159⟩ | ⟨c_straightSize_86, c_slantwiseSize_86, c_lengths_86, c_slantwises_86, c_straights_86⟩
    · intro H locs ls hW hl
      have h := sE_l h
      have h := un5_at h
      have hW9 := hW
      cases h
      exact ret _ _ _ 159 hW9 (dd dX8_measureFrom_p1 24 rfl)
    · intro H locs ls hW hl
      have h := sE_r h
      have h := un5_at h
      refine lv_goto (pc := 86) (tgt := 159) hx hb (dd dX8_measureFrom_p0 47 rfl) (by decide) ?_
      have hW9 := hW
      cases h
      exact ret _ _ _ 159 hW9 (dd dX8_measureFrom_p1 24 rfl)
abbrev w_X7_learn (g : G9) (a_t a_known a_lengths a_rows a_ways a_rows_ends a_ways_land a_ways_lengths a_ways_slantwises a_ways_straights a_ways_land_kinds a_ways_land_nears a_rows_strips a_rows_alongs a_rows_numbers a_rows_sorted a_rows_spare a_rows_tally a_rows_squares a_rows_starts a_ways_land_depths : Nat) (c_known c_lengths : Ar) (c_rows_there c_rows_size c_ways_straightSize c_ways_slantwiseSize : Int32) (c_rows_ends : Ar) (c_ways_land_laid c_ways_land_head c_ways_land_fieldCount c_ways_land_innerCount : Int32) (c_ways_lengths c_ways_slantwises c_ways_straights c_ways_land_kinds c_ways_land_nears : Ar) : va_W := [ob a_t 7 [.ref a_ways, .ref a_rows, .ref a_lengths, .ref a_known], za g a_known 120 c_known, ia g a_lengths 14400 c_lengths, ob a_rows 6 [.ref a_ways_land, .ref a_rows_strips, .ref a_rows_alongs, .ref a_rows_numbers, .ref a_rows_sorted, .ref a_rows_spare, .ref a_rows_tally, .ref a_rows_squares, .ref a_rows_starts, .ref a_rows_ends, .int c_rows_there, .int c_rows_size], ob a_ways 8 [.ref a_ways_land, .ref a_ways_lengths, .ref a_ways_straights, .ref a_ways_slantwises, .int c_ways_straightSize, .int c_ways_slantwiseSize], ia g a_rows_ends 120 c_rows_ends, ob a_ways_land 0 [.ref a_ways_land_kinds, .ref a_ways_land_nears, .ref a_ways_land_depths, .int c_ways_land_laid, .int c_ways_land_head, .int c_ways_land_fieldCount, .int c_ways_land_innerCount], ia g a_ways_lengths 1200 c_ways_lengths, ia g a_ways_slantwises 1200 c_ways_slantwises, ia g a_ways_straights 1200 c_ways_straights, ia g a_ways_land_kinds 1200 c_ways_land_kinds, ia g a_ways_land_nears 1200 c_ways_land_nears]
noncomputable def X7_learn_L28 (c_rows_size : Int32) (c_rows_ends c_ways_lengths : Ar) (v1 : Int32) (c_lengths : Ar) (v2 : Int32) : Option ((Ar × Int32) ⊕ Ar) :=
  if (2 * c_rows_size) ≤ v2 then (some (.inr c_lengths)) else (ck (ix v2 120) <| ck (ix (ag c_rows_ends v2) 1200) <| ck (ix ((120 * v1) + v2) 14400) <| nm (au c_lengths ((120 * v1) + v2) (ag c_ways_lengths (ag c_rows_ends v2))) fun c_lengths_68 => nm (v2 + 1) fun v2_69 => some (.inl (c_lengths_68, v2_69)))
noncomputable def X7_learn (c_known c_lengths : Ar) (c_rows_size c_ways_straightSize c_ways_slantwiseSize : Int32) (c_rows_ends c_ways_lengths c_ways_slantwises c_ways_straights c_ways_land_kinds c_ways_land_nears : Ar) (v1 : Int32) : Option (Ar × Ar × Int32 × Int32 × Ar × Ar × Ar) :=
  ck (ix v1 120) <| if (ag c_known v1) = 0 then (ck (ix v1 120) <| bnd (X8_measureFrom c_ways_straightSize c_ways_slantwiseSize c_ways_lengths c_ways_slantwises c_ways_straights c_ways_land_kinds c_ways_land_nears (ag c_rows_ends v1)) <| un5 fun c_ways_straightSize_23 c_ways_slantwiseSize_23 c_ways_lengths_23 c_ways_slantwises_23 c_ways_straights_23 => bnd (whileV (fun st => X7_learn_L28 c_rows_size c_rows_ends c_ways_lengths_23 v1 st.1 st.2) (c_lengths, 0)) <| (fun c_lengths_75 => ck (ix v1 120) <| nm (au c_known v1 (vp_nar .boolean 1)) fun c_known_81 => some (c_known_81, c_lengths_75, c_ways_straightSize_23, c_ways_slantwiseSize_23, c_ways_lengths_23, c_ways_slantwises_23, c_ways_straights_23))) else (some (c_known, c_lengths, c_ways_straightSize, c_ways_slantwiseSize, c_ways_lengths, c_ways_slantwises, c_ways_straights))
set_option maxHeartbeats 4000000 in
set_option maxRecDepth 100000 in
theorem t_X7_learn (l : Launch) (g : G9) (a_t a_known a_lengths a_rows a_ways a_rows_ends a_ways_land a_ways_lengths a_ways_slantwises a_ways_straights a_ways_land_kinds a_ways_land_nears a_rows_strips a_rows_alongs a_rows_numbers a_rows_sorted a_rows_spare a_rows_tally a_rows_squares a_rows_starts a_ways_land_depths : Nat) (c_known c_lengths : Ar) (c_rows_there c_rows_size c_ways_straightSize c_ways_slantwiseSize : Int32) (c_rows_ends : Ar) (c_ways_land_laid c_ways_land_head c_ways_land_fieldCount c_ways_land_innerCount : Int32) (c_ways_lengths c_ways_slantwises c_ways_straights c_ways_land_kinds c_ways_land_nears : Ar) (v1 : Int32) (o_known o_lengths : Ar) (o_ways_straightSize o_ways_slantwiseSize : Int32) (o_ways_lengths o_ways_slantwises o_ways_straights : Ar) (h : X7_learn c_known c_lengths c_rows_size c_ways_straightSize c_ways_slantwiseSize c_rows_ends c_ways_lengths c_ways_slantwises c_ways_straights c_ways_land_kinds c_ways_land_nears v1 = some (o_known, o_lengths, o_ways_straightSize, o_ways_slantwiseSize, o_ways_lengths, o_ways_slantwises, o_ways_straights)) : CtV l g yX7_learn cX7_learn 3 3 76 [.ref a_t, .int v1] (w_X7_learn g a_t a_known a_lengths a_rows a_ways a_rows_ends a_ways_land a_ways_lengths a_ways_slantwises a_ways_straights a_ways_land_kinds a_ways_land_nears a_rows_strips a_rows_alongs a_rows_numbers a_rows_sorted a_rows_spare a_rows_tally a_rows_squares a_rows_starts a_ways_land_depths c_known c_lengths c_rows_there c_rows_size c_ways_straightSize c_ways_slantwiseSize c_rows_ends c_ways_land_laid c_ways_land_head c_ways_land_fieldCount c_ways_land_innerCount c_ways_lengths c_ways_slantwises c_ways_straights c_ways_land_kinds c_ways_land_nears) (w_X7_learn g a_t a_known a_lengths a_rows a_ways a_rows_ends a_ways_land a_ways_lengths a_ways_slantwises a_ways_straights a_ways_land_kinds a_ways_land_nears a_rows_strips a_rows_alongs a_rows_numbers a_rows_sorted a_rows_spare a_rows_tally a_rows_squares a_rows_starts a_ways_land_depths o_known o_lengths c_rows_there c_rows_size o_ways_straightSize o_ways_slantwiseSize c_rows_ends c_ways_land_laid c_ways_land_head c_ways_land_fieldCount c_ways_land_innerCount o_ways_lengths o_ways_slantwises o_ways_straights c_ways_land_kinds c_ways_land_nears) := by
  refine startV (by decide) (Nat.le_of_ble_eq_true rfl) ?_
  intro p e s m below meth c A Q ls args M hW hl ret
  have hx := M.1
  have hb := M.2.1
  have hown := M.2.2.2.1
  have hu := M.2.2.2.2.1
  have hl : lv_has ls 3 [(0, .ref a_t), (1, .int v1)] := hl
  unfold X7_learn at h
  obtain ⟨H, eH⟩ : ∃ z, z = s.heap := ⟨_, rfl⟩
  obtain ⟨locs, eL⟩ : ∃ z, z = ([] : List Loc) := ⟨_, rfl⟩
  rw [← eL] at hW ⊢
  suffices hS9 : WD g s A (w_X7_learn g a_t a_known a_lengths a_rows a_ways a_rows_ends a_ways_land a_ways_lengths a_ways_slantwises a_ways_straights a_ways_land_kinds a_ways_land_nears a_rows_strips a_rows_alongs a_rows_numbers a_rows_sorted a_rows_spare a_rows_tally a_rows_squares a_rows_starts a_ways_land_depths c_known c_lengths c_rows_there c_rows_size c_ways_straightSize c_ways_slantwiseSize c_rows_ends c_ways_land_laid c_ways_land_head c_ways_land_fieldCount c_ways_land_innerCount c_ways_lengths c_ways_slantwises c_ways_straights c_ways_land_kinds c_ways_land_nears) H locs → W p l e (rm9 3 76) s m args below meth c H locs 0 0 Q (F0 m 0 ls []) by
    rw [← eH] at hW ⊢
    exact hS9 hW
  clear hW eH eL
  intro hW
  refine lv_aload_n (pc := 0) hx hb (dd dX7_learn 0 rfl) rfl (lv_at hl 0 rfl) ?_
  refine rGet (pc := 1) M hW 0 3 iU7 rfl rfl (by decide) (uw1 195 rfl rfl) rfl (dd dX7_learn 1 rfl) ?_
  refine lv_iload_n (pc := 4) hx hb (dd dX7_learn 2 rfl) rfl (lv_at hl 1 rfl) ?_
  obtain ⟨hi, h⟩ := ck_ex h
  refine rZald (pc := 5) M hW 1 rfl hi (dd dX7_learn 3 rfl) ?_
  refine lv_if_eq (pc := 6) (tgt := 10) hx hb (dd dX7_learn 4 rfl) (by decide) (fun hc => ?_) (fun hc => ?_)
  · have h := it_t hc h
    refine lv_aload_n (pc := 10) hx hb (dd dX7_learn 6 rfl) rfl (lv_at hl 0 rfl) ?_
    refine rGet (pc := 11) M hW 0 0 iU7 rfl rfl (by decide) (uw1 192 rfl rfl) rfl (dd dX7_learn 7 rfl) ?_
    refine lv_aload_n (pc := 14) hx hb (dd dX7_learn 8 rfl) rfl (lv_at hl 0 rfl) ?_
    refine rGet (pc := 15) M hW 0 1 iU7 rfl rfl (by decide) (uw1 193 rfl rfl) rfl (dd dX7_learn 9 rfl) ?_
    refine rGet (pc := 18) M hW 3 9 iU6 rfl rfl (by decide) (uw1 154 rfl rfl) rfl (dd dX7_learn 10 rfl) ?_
    refine lv_iload_n (pc := 21) hx hb (dd dX7_learn 11 rfl) rfl (lv_at hl 1 rfl) ?_
    obtain ⟨hi, h⟩ := ck_ex h
    refine rIald (pc := 22) M hW 5 rfl hi (dd dX7_learn 12 rfl) ?_
    obtain ⟨⟨c_ways_straightSize_23, c_ways_slantwiseSize_23, c_ways_lengths_23, c_ways_slantwises_23, c_ways_straights_23⟩, hr, h⟩ := bnd_ex h
    have h := un5_at h
    refine callVV (pc := 23) (na := 1) (As := [.int (ag c_rows_ends v1)]) (rest := []) (ws2 := (w_X7_learn g a_t a_known a_lengths a_rows a_ways a_rows_ends a_ways_land a_ways_lengths a_ways_slantwises a_ways_straights a_ways_land_kinds a_ways_land_nears a_rows_strips a_rows_alongs a_rows_numbers a_rows_sorted a_rows_spare a_rows_tally a_rows_squares a_rows_starts a_ways_land_depths c_known c_lengths c_rows_there c_rows_size c_ways_straightSize_23 c_ways_slantwiseSize_23 c_rows_ends c_ways_land_laid c_ways_land_head c_ways_land_fieldCount c_ways_land_innerCount c_ways_lengths_23 c_ways_slantwises_23 c_ways_straights_23 c_ways_land_kinds c_ways_land_nears)) M hl.1 hW (t_X8_measureFrom l g a_ways a_ways_land a_ways_lengths a_ways_slantwises a_ways_straights a_ways_land_kinds a_ways_land_nears a_ways_land_depths c_ways_straightSize c_ways_slantwiseSize c_ways_land_laid c_ways_land_head c_ways_land_fieldCount c_ways_land_innerCount c_ways_lengths c_ways_slantwises c_ways_straights c_ways_land_kinds c_ways_land_nears (ag c_rows_ends v1) c_ways_straightSize_23 c_ways_slantwiseSize_23 c_ways_lengths_23 c_ways_slantwises_23 c_ways_straights_23 hr) rfl [4, 6, 7, 8, 9, 10, 11] [0, 1, 2, 3, 5] [0, 1, 2, 3, 5, 4, 6, 7, 8, 9, 10, 11] rfl rfl rfl rfl rfl rfl rfl 4 8 rfl rfl rfl (uw3 227 rfl rfl) (uw4 15 rfl rfl) (uw3 225 rfl rfl) (uw3 226 rfl rfl) (uw1 6 rfl rfl) ⟨by decide, by decide, by decide⟩ rfl ⟨by decide, by decide⟩ (Nat.le_of_ble_eq_true rfl) ⟨Nat.zero_le _, Nat.zero_le _⟩ (dd dX7_learn 13 rfl) (fun H locs hW => ?_)
    refine lv_iconst (pc := 26) (v := 0) hx hb (dd dX7_learn 14 rfl) (by decide) ?_
    refine lv_istore_n (pc := 27) (lv' := [(2, .int 0), (0, .ref a_t), (1, .int v1)]) hx hb (dd dX7_learn 15 rfl) rfl hl (by decide) rfl (fun ls hl => ?_)
    obtain ⟨ex, hw, h⟩ := bnd_ex h
    refine loopW (fun st => ∀ (H : Heap) (locs : List Loc) (ls : Array Slot), WD g s A (w_X7_learn g a_t a_known a_lengths a_rows a_ways a_rows_ends a_ways_land a_ways_lengths a_ways_slantwises a_ways_straights a_ways_land_kinds a_ways_land_nears a_rows_strips a_rows_alongs a_rows_numbers a_rows_sorted a_rows_spare a_rows_tally a_rows_squares a_rows_starts a_ways_land_depths c_known (st.1) c_rows_there c_rows_size c_ways_straightSize_23 c_ways_slantwiseSize_23 c_rows_ends c_ways_land_laid c_ways_land_head c_ways_land_fieldCount c_ways_land_innerCount c_ways_lengths_23 c_ways_slantwises_23 c_ways_straights_23 c_ways_land_kinds c_ways_land_nears) H locs → lv_has ls 3 [(0, .ref a_t), (1, .int v1), (2, .int (st.2))] → W p l e (rm9 3 76) s m args below meth c H locs 0 0 Q (F0 m 28 ls [])) (fun (ex : Ar) => ∀ (H : Heap) (locs : List Loc) (ls : Array Slot), WD g s A (w_X7_learn g a_t a_known a_lengths a_rows a_ways a_rows_ends a_ways_land a_ways_lengths a_ways_slantwises a_ways_straights a_ways_land_kinds a_ways_land_nears a_rows_strips a_rows_alongs a_rows_numbers a_rows_sorted a_rows_spare a_rows_tally a_rows_squares a_rows_starts a_ways_land_depths c_known ex c_rows_there c_rows_size c_ways_straightSize_23 c_ways_slantwiseSize_23 c_rows_ends c_ways_land_laid c_ways_land_head c_ways_land_fieldCount c_ways_land_innerCount c_ways_lengths_23 c_ways_slantwises_23 c_ways_straights_23 c_ways_land_kinds c_ways_land_nears) H locs → lv_has ls 3 [(0, .ref a_t), (1, .int v1)] → W p l e (rm9 3 76) s m args below meth c H locs 0 0 Q (F0 m 75 ls [])) ?_ hw ?_ H locs ls hW (lv_sub hl [1, 2, 0] rfl)
    · rintro ⟨c_lengths, v2⟩ o hb9 hk H locs ls hW hl
      have h : X7_learn_L28 c_rows_size c_rows_ends c_ways_lengths_23 v1 c_lengths v2 = some o := hb9
      clear hb9
      unfold X7_learn_L28 at h
      refine lv_iload_n (pc := 28) hx hb (dd dX7_learn 16 rfl) rfl (lv_at hl 2 rfl) ?_
      refine lv_iconst (pc := 29) (v := 2) hx hb (dd dX7_learn 17 rfl) (by decide) ?_
      refine lv_aload_n (pc := 30) hx hb (dd dX7_learn 18 rfl) rfl (lv_at hl 0 rfl) ?_
      refine rGet (pc := 31) M hW 0 1 iU7 rfl rfl (by decide) (uw1 193 rfl rfl) rfl (dd dX7_learn 19 rfl) ?_
      refine rGet (pc := 34) M hW 3 11 iU6 rfl rfl (by decide) (uw1 159 rfl rfl) rfl (dd dX7_learn 20 rfl) ?_
      refine lv_imul (pc := 37) hx hb (dd dX7_learn 21 rfl) ?_
      refine lv_icmp_ge (pc := 38) (tgt := 75) hx hb (dd dX7_learn 22 rfl) (by decide) (fun hc => ?_) (fun hc => ?_)
      · have h := it_t hc h
        obtain rfl := Option.some.inj h
        exact hk _ _ _ hW (lv_sub hl [0, 1] rfl)
      · have h := it_f hc h
        refine lv_aload_n (pc := 41) hx hb (dd dX7_learn 23 rfl) rfl (lv_at hl 0 rfl) ?_
        refine rGet (pc := 42) M hW 0 2 iU7 rfl rfl (by decide) (uw1 194 rfl rfl) rfl (dd dX7_learn 24 rfl) ?_
        refine lv_bipush (pc := 45) (v := 120) hx hb (dd dX7_learn 25 rfl) (by decide) ?_
        refine lv_iload_n (pc := 47) hx hb (dd dX7_learn 26 rfl) rfl (lv_at hl 1 rfl) ?_
        refine lv_imul (pc := 48) hx hb (dd dX7_learn 27 rfl) ?_
        refine lv_iload_n (pc := 49) hx hb (dd dX7_learn 28 rfl) rfl (lv_at hl 2 rfl) ?_
        refine lv_iadd (pc := 50) hx hb (dd dX7_learn 29 rfl) ?_
        refine lv_aload_n (pc := 51) hx hb (dd dX7_learn 30 rfl) rfl (lv_at hl 0 rfl) ?_
        refine rGet (pc := 52) M hW 0 0 iU7 rfl rfl (by decide) (uw1 192 rfl rfl) rfl (dd dX7_learn 31 rfl) ?_
        refine rGet (pc := 55) M hW 4 1 iU8 rfl rfl (by decide) (uw1 114 rfl rfl) rfl (dd dX7_learn 32 rfl) ?_
        refine lv_aload_n (pc := 58) hx hb (dd dX7_learn 33 rfl) rfl (lv_at hl 0 rfl) ?_
        refine rGet (pc := 59) M hW 0 1 iU7 rfl rfl (by decide) (uw1 193 rfl rfl) rfl (dd dX7_learn 34 rfl) ?_
        refine rGet (pc := 62) M hW 3 9 iU6 rfl rfl (by decide) (uw1 154 rfl rfl) rfl (dd dX7_learn 35 rfl) ?_
        refine lv_iload_n (pc := 65) hx hb (dd dX7_learn 36 rfl) rfl (lv_at hl 2 rfl) ?_
        obtain ⟨hi, h⟩ := ck_ex h
        refine rIald (pc := 66) M hW 5 rfl hi (dd dX7_learn 37 rfl) ?_
        obtain ⟨hi, h⟩ := ck_ex h
        refine rIald (pc := 67) M hW 7 rfl hi (dd dX7_learn 38 rfl) ?_
        obtain ⟨hi, h⟩ := ck_ex h
        obtain ⟨c_lengths_68, ec_lengths_68, h⟩ := nm_ex h
        refine rIast (pc := 68) M hW 2 rfl hi ec_lengths_68 (ws' := (w_X7_learn g a_t a_known a_lengths a_rows a_ways a_rows_ends a_ways_land a_ways_lengths a_ways_slantwises a_ways_straights a_ways_land_kinds a_ways_land_nears a_rows_strips a_rows_alongs a_rows_numbers a_rows_sorted a_rows_spare a_rows_tally a_rows_squares a_rows_starts a_ways_land_depths c_known c_lengths_68 c_rows_there c_rows_size c_ways_straightSize_23 c_ways_slantwiseSize_23 c_rows_ends c_ways_land_laid c_ways_land_head c_ways_land_fieldCount c_ways_land_innerCount c_ways_lengths_23 c_ways_slantwises_23 c_ways_straights_23 c_ways_land_kinds c_ways_land_nears)) rfl (dd dX7_learn 39 rfl) (fun H locs hW => ?_)
        obtain ⟨v2_69, ev2_69, h⟩ := nm_ex h
        refine lv_iinc (pc := 69) (v := v2_69) (lv' := [(2, .int v2_69), (0, .ref a_t), (1, .int v1)]) hx hb (dd dX7_learn 40 rfl) hl (k := 2) rfl (by rw [ev2_69]; rfl) (by decide) rfl (fun ls hl => ?_)
        refine lv_goto (pc := 72) (tgt := 28) hx hb (dd dX7_learn 41 rfl) (by decide) ?_
        obtain rfl := Option.some.inj h
        exact hk _ _ _ hW (lv_sub hl [1, 2, 0] rfl)
    · obtain ⟨c_lengths_75, e9⟩ : ∃ z, z = ex := ⟨_, rfl⟩
      subst e9
      intro H locs ls hW hl
      refine lv_aload_n (pc := 75) hx hb (dd dX7_learn 42 rfl) rfl (lv_at hl 0 rfl) ?_
      refine rGet (pc := 76) M hW 0 3 iU7 rfl rfl (by decide) (uw1 195 rfl rfl) rfl (dd dX7_learn 43 rfl) ?_
      refine lv_iload_n (pc := 79) hx hb (dd dX7_learn 44 rfl) rfl (lv_at hl 1 rfl) ?_
      refine lv_iconst (pc := 80) (v := 1) hx hb (dd dX7_learn 45 rfl) (by decide) ?_
      obtain ⟨hi, h⟩ := ck_ex h
      obtain ⟨c_known_81, ec_known_81, h⟩ := nm_ex h
      refine rZast (pc := 81) M hW 1 rfl hi ec_known_81 (ws' := (w_X7_learn g a_t a_known a_lengths a_rows a_ways a_rows_ends a_ways_land a_ways_lengths a_ways_slantwises a_ways_straights a_ways_land_kinds a_ways_land_nears a_rows_strips a_rows_alongs a_rows_numbers a_rows_sorted a_rows_spare a_rows_tally a_rows_squares a_rows_starts a_ways_land_depths c_known_81 c_lengths_75 c_rows_there c_rows_size c_ways_straightSize_23 c_ways_slantwiseSize_23 c_rows_ends c_ways_land_laid c_ways_land_head c_ways_land_fieldCount c_ways_land_innerCount c_ways_lengths_23 c_ways_slantwises_23 c_ways_straights_23 c_ways_land_kinds c_ways_land_nears)) rfl (dd dX7_learn 46 rfl) (fun H locs hW => ?_)
      have hW9 := hW
      cases h
      exact ret _ _ _ 82 hW9 (dd dX7_learn 47 rfl)
  · have h := it_f hc h
    have hW9 := hW
    cases h
    exact ret _ _ _ 9 hW9 (dd dX7_learn 5 rfl)
abbrev w_X7_learnAll (g : G9) (a_t a_known a_lengths a_rows a_ways a_rows_ends a_ways_land a_ways_lengths a_ways_slantwises a_ways_straights a_ways_land_kinds a_ways_land_nears a_rows_strips a_rows_alongs a_rows_numbers a_rows_sorted a_rows_spare a_rows_tally a_rows_squares a_rows_starts a_ways_land_depths : Nat) (c_known c_lengths : Ar) (c_rows_there c_rows_size c_ways_straightSize c_ways_slantwiseSize : Int32) (c_rows_ends : Ar) (c_ways_land_laid c_ways_land_head c_ways_land_fieldCount c_ways_land_innerCount : Int32) (c_ways_lengths c_ways_slantwises c_ways_straights c_ways_land_kinds c_ways_land_nears : Ar) : va_W := [ob a_t 7 [.ref a_ways, .ref a_rows, .ref a_lengths, .ref a_known], za g a_known 120 c_known, ia g a_lengths 14400 c_lengths, ob a_rows 6 [.ref a_ways_land, .ref a_rows_strips, .ref a_rows_alongs, .ref a_rows_numbers, .ref a_rows_sorted, .ref a_rows_spare, .ref a_rows_tally, .ref a_rows_squares, .ref a_rows_starts, .ref a_rows_ends, .int c_rows_there, .int c_rows_size], ob a_ways 8 [.ref a_ways_land, .ref a_ways_lengths, .ref a_ways_straights, .ref a_ways_slantwises, .int c_ways_straightSize, .int c_ways_slantwiseSize], ia g a_rows_ends 120 c_rows_ends, ob a_ways_land 0 [.ref a_ways_land_kinds, .ref a_ways_land_nears, .ref a_ways_land_depths, .int c_ways_land_laid, .int c_ways_land_head, .int c_ways_land_fieldCount, .int c_ways_land_innerCount], ia g a_ways_lengths 1200 c_ways_lengths, ia g a_ways_slantwises 1200 c_ways_slantwises, ia g a_ways_straights 1200 c_ways_straights, ia g a_ways_land_kinds 1200 c_ways_land_kinds, ia g a_ways_land_nears 1200 c_ways_land_nears]
noncomputable def X7_learnAll_L2 (c_rows_size : Int32) (c_rows_ends c_ways_land_kinds c_ways_land_nears c_known c_lengths : Ar) (c_ways_straightSize c_ways_slantwiseSize : Int32) (c_ways_lengths c_ways_slantwises c_ways_straights : Ar) (v1 : Int32) : Option ((Ar × Ar × Int32 × Int32 × Ar × Ar × Ar × Int32) ⊕ (Ar × Ar × Int32 × Int32 × Ar × Ar × Ar)) :=
  if (2 * c_rows_size) ≤ v1 then (some (.inr (c_known, c_lengths, c_ways_straightSize, c_ways_slantwiseSize, c_ways_lengths, c_ways_slantwises, c_ways_straights))) else (bnd (X7_learn c_known c_lengths c_rows_size c_ways_straightSize c_ways_slantwiseSize c_rows_ends c_ways_lengths c_ways_slantwises c_ways_straights c_ways_land_kinds c_ways_land_nears v1) <| un7 fun c_known_17 c_lengths_17 c_ways_straightSize_17 c_ways_slantwiseSize_17 c_ways_lengths_17 c_ways_slantwises_17 c_ways_straights_17 => nm (v1 + 1) fun v1_20 => some (.inl (c_known_17, c_lengths_17, c_ways_straightSize_17, c_ways_slantwiseSize_17, c_ways_lengths_17, c_ways_slantwises_17, c_ways_straights_17, v1_20)))
noncomputable def X7_learnAll (c_known c_lengths : Ar) (c_rows_size c_ways_straightSize c_ways_slantwiseSize : Int32) (c_rows_ends c_ways_lengths c_ways_slantwises c_ways_straights c_ways_land_kinds c_ways_land_nears : Ar) : Option (Ar × Ar × Int32 × Int32 × Ar × Ar × Ar) :=
  bnd (whileV (fun st => X7_learnAll_L2 c_rows_size c_rows_ends c_ways_land_kinds c_ways_land_nears st.1 st.2.1 st.2.2.1 st.2.2.2.1 st.2.2.2.2.1 st.2.2.2.2.2.1 st.2.2.2.2.2.2.1 st.2.2.2.2.2.2.2) (c_known, c_lengths, c_ways_straightSize, c_ways_slantwiseSize, c_ways_lengths, c_ways_slantwises, c_ways_straights, 0)) <| (un7 fun c_known_26 c_lengths_26 c_ways_straightSize_26 c_ways_slantwiseSize_26 c_ways_lengths_26 c_ways_slantwises_26 c_ways_straights_26 => some (c_known_26, c_lengths_26, c_ways_straightSize_26, c_ways_slantwiseSize_26, c_ways_lengths_26, c_ways_slantwises_26, c_ways_straights_26))
set_option maxHeartbeats 4000000 in
set_option maxRecDepth 100000 in
theorem t_X7_learnAll (l : Launch) (g : G9) (a_t a_known a_lengths a_rows a_ways a_rows_ends a_ways_land a_ways_lengths a_ways_slantwises a_ways_straights a_ways_land_kinds a_ways_land_nears a_rows_strips a_rows_alongs a_rows_numbers a_rows_sorted a_rows_spare a_rows_tally a_rows_squares a_rows_starts a_ways_land_depths : Nat) (c_known c_lengths : Ar) (c_rows_there c_rows_size c_ways_straightSize c_ways_slantwiseSize : Int32) (c_rows_ends : Ar) (c_ways_land_laid c_ways_land_head c_ways_land_fieldCount c_ways_land_innerCount : Int32) (c_ways_lengths c_ways_slantwises c_ways_straights c_ways_land_kinds c_ways_land_nears o_known o_lengths : Ar) (o_ways_straightSize o_ways_slantwiseSize : Int32) (o_ways_lengths o_ways_slantwises o_ways_straights : Ar) (h : X7_learnAll c_known c_lengths c_rows_size c_ways_straightSize c_ways_slantwiseSize c_rows_ends c_ways_lengths c_ways_slantwises c_ways_straights c_ways_land_kinds c_ways_land_nears = some (o_known, o_lengths, o_ways_straightSize, o_ways_slantwiseSize, o_ways_lengths, o_ways_slantwises, o_ways_straights)) : CtV l g yX7_learnAll cX7_learnAll 2 4 98 [.ref a_t] (w_X7_learnAll g a_t a_known a_lengths a_rows a_ways a_rows_ends a_ways_land a_ways_lengths a_ways_slantwises a_ways_straights a_ways_land_kinds a_ways_land_nears a_rows_strips a_rows_alongs a_rows_numbers a_rows_sorted a_rows_spare a_rows_tally a_rows_squares a_rows_starts a_ways_land_depths c_known c_lengths c_rows_there c_rows_size c_ways_straightSize c_ways_slantwiseSize c_rows_ends c_ways_land_laid c_ways_land_head c_ways_land_fieldCount c_ways_land_innerCount c_ways_lengths c_ways_slantwises c_ways_straights c_ways_land_kinds c_ways_land_nears) (w_X7_learnAll g a_t a_known a_lengths a_rows a_ways a_rows_ends a_ways_land a_ways_lengths a_ways_slantwises a_ways_straights a_ways_land_kinds a_ways_land_nears a_rows_strips a_rows_alongs a_rows_numbers a_rows_sorted a_rows_spare a_rows_tally a_rows_squares a_rows_starts a_ways_land_depths o_known o_lengths c_rows_there c_rows_size o_ways_straightSize o_ways_slantwiseSize c_rows_ends c_ways_land_laid c_ways_land_head c_ways_land_fieldCount c_ways_land_innerCount o_ways_lengths o_ways_slantwises o_ways_straights c_ways_land_kinds c_ways_land_nears) := by
  refine startV (by decide) (Nat.le_of_ble_eq_true rfl) ?_
  intro p e s m below meth c A Q ls args M hW hl ret
  have hx := M.1
  have hb := M.2.1
  have hown := M.2.2.2.1
  have hu := M.2.2.2.2.1
  have hl : lv_has ls 2 [(0, .ref a_t)] := hl
  unfold X7_learnAll at h
  obtain ⟨H, eH⟩ : ∃ z, z = s.heap := ⟨_, rfl⟩
  obtain ⟨locs, eL⟩ : ∃ z, z = ([] : List Loc) := ⟨_, rfl⟩
  rw [← eL] at hW ⊢
  suffices hS9 : WD g s A (w_X7_learnAll g a_t a_known a_lengths a_rows a_ways a_rows_ends a_ways_land a_ways_lengths a_ways_slantwises a_ways_straights a_ways_land_kinds a_ways_land_nears a_rows_strips a_rows_alongs a_rows_numbers a_rows_sorted a_rows_spare a_rows_tally a_rows_squares a_rows_starts a_ways_land_depths c_known c_lengths c_rows_there c_rows_size c_ways_straightSize c_ways_slantwiseSize c_rows_ends c_ways_land_laid c_ways_land_head c_ways_land_fieldCount c_ways_land_innerCount c_ways_lengths c_ways_slantwises c_ways_straights c_ways_land_kinds c_ways_land_nears) H locs → W p l e (rm9 4 98) s m args below meth c H locs 0 0 Q (F0 m 0 ls []) by
    rw [← eH] at hW ⊢
    exact hS9 hW
  clear hW eH eL
  intro hW
  refine lv_iconst (pc := 0) (v := 0) hx hb (dd dX7_learnAll 0 rfl) (by decide) ?_
  refine lv_istore_n (pc := 1) (lv' := [(1, .int 0), (0, .ref a_t)]) hx hb (dd dX7_learnAll 1 rfl) rfl hl (by decide) rfl (fun ls hl => ?_)
  obtain ⟨ex, hw, h⟩ := bnd_ex h
  refine loopW (fun st => ∀ (H : Heap) (locs : List Loc) (ls : Array Slot), WD g s A (w_X7_learnAll g a_t a_known a_lengths a_rows a_ways a_rows_ends a_ways_land a_ways_lengths a_ways_slantwises a_ways_straights a_ways_land_kinds a_ways_land_nears a_rows_strips a_rows_alongs a_rows_numbers a_rows_sorted a_rows_spare a_rows_tally a_rows_squares a_rows_starts a_ways_land_depths (st.1) (st.2.1) c_rows_there c_rows_size (st.2.2.1) (st.2.2.2.1) c_rows_ends c_ways_land_laid c_ways_land_head c_ways_land_fieldCount c_ways_land_innerCount (st.2.2.2.2.1) (st.2.2.2.2.2.1) (st.2.2.2.2.2.2.1) c_ways_land_kinds c_ways_land_nears) H locs → lv_has ls 2 [(0, .ref a_t), (1, .int (st.2.2.2.2.2.2.2))] → W p l e (rm9 4 98) s m args below meth c H locs 0 0 Q (F0 m 2 ls [])) (fun (ex : (Ar × Ar × Int32 × Int32 × Ar × Ar × Ar)) => ∀ (H : Heap) (locs : List Loc) (ls : Array Slot), WD g s A (w_X7_learnAll g a_t a_known a_lengths a_rows a_ways a_rows_ends a_ways_land a_ways_lengths a_ways_slantwises a_ways_straights a_ways_land_kinds a_ways_land_nears a_rows_strips a_rows_alongs a_rows_numbers a_rows_sorted a_rows_spare a_rows_tally a_rows_squares a_rows_starts a_ways_land_depths (ex.1) (ex.2.1) c_rows_there c_rows_size (ex.2.2.1) (ex.2.2.2.1) c_rows_ends c_ways_land_laid c_ways_land_head c_ways_land_fieldCount c_ways_land_innerCount (ex.2.2.2.2.1) (ex.2.2.2.2.2.1) (ex.2.2.2.2.2.2) c_ways_land_kinds c_ways_land_nears) H locs → lv_has ls 2 [] → W p l e (rm9 4 98) s m args below meth c H locs 0 0 Q (F0 m 26 ls [])) ?_ hw ?_ H locs ls hW (lv_sub hl [1, 0] rfl)
  · rintro ⟨c_known, c_lengths, c_ways_straightSize, c_ways_slantwiseSize, c_ways_lengths, c_ways_slantwises, c_ways_straights, v1⟩ o hb9 hk H locs ls hW hl
    have h : X7_learnAll_L2 c_rows_size c_rows_ends c_ways_land_kinds c_ways_land_nears c_known c_lengths c_ways_straightSize c_ways_slantwiseSize c_ways_lengths c_ways_slantwises c_ways_straights v1 = some o := hb9
    clear hb9
    unfold X7_learnAll_L2 at h
    refine lv_iload_n (pc := 2) hx hb (dd dX7_learnAll 2 rfl) rfl (lv_at hl 1 rfl) ?_
    refine lv_iconst (pc := 3) (v := 2) hx hb (dd dX7_learnAll 3 rfl) (by decide) ?_
    refine lv_aload_n (pc := 4) hx hb (dd dX7_learnAll 4 rfl) rfl (lv_at hl 0 rfl) ?_
    refine rGet (pc := 5) M hW 0 1 iU7 rfl rfl (by decide) (uw1 193 rfl rfl) rfl (dd dX7_learnAll 5 rfl) ?_
    refine rGet (pc := 8) M hW 3 11 iU6 rfl rfl (by decide) (uw1 159 rfl rfl) rfl (dd dX7_learnAll 6 rfl) ?_
    refine lv_imul (pc := 11) hx hb (dd dX7_learnAll 7 rfl) ?_
    refine lv_icmp_ge (pc := 12) (tgt := 26) hx hb (dd dX7_learnAll 8 rfl) (by decide) (fun hc => ?_) (fun hc => ?_)
    · have h := it_t hc h
      obtain rfl := Option.some.inj h
      exact hk _ _ _ hW (lv_sub hl [] rfl)
    · have h := it_f hc h
      refine lv_aload_n (pc := 15) hx hb (dd dX7_learnAll 9 rfl) rfl (lv_at hl 0 rfl) ?_
      refine lv_iload_n (pc := 16) hx hb (dd dX7_learnAll 10 rfl) rfl (lv_at hl 1 rfl) ?_
      obtain ⟨⟨c_known_17, c_lengths_17, c_ways_straightSize_17, c_ways_slantwiseSize_17, c_ways_lengths_17, c_ways_slantwises_17, c_ways_straights_17⟩, hr, h⟩ := bnd_ex h
      have h := un7_at h
      refine callVV (pc := 17) (na := 1) (As := [.int v1]) (rest := []) (ws2 := (w_X7_learnAll g a_t a_known a_lengths a_rows a_ways a_rows_ends a_ways_land a_ways_lengths a_ways_slantwises a_ways_straights a_ways_land_kinds a_ways_land_nears a_rows_strips a_rows_alongs a_rows_numbers a_rows_sorted a_rows_spare a_rows_tally a_rows_squares a_rows_starts a_ways_land_depths c_known_17 c_lengths_17 c_rows_there c_rows_size c_ways_straightSize_17 c_ways_slantwiseSize_17 c_rows_ends c_ways_land_laid c_ways_land_head c_ways_land_fieldCount c_ways_land_innerCount c_ways_lengths_17 c_ways_slantwises_17 c_ways_straights_17 c_ways_land_kinds c_ways_land_nears)) M hl.1 hW (t_X7_learn l g a_t a_known a_lengths a_rows a_ways a_rows_ends a_ways_land a_ways_lengths a_ways_slantwises a_ways_straights a_ways_land_kinds a_ways_land_nears a_rows_strips a_rows_alongs a_rows_numbers a_rows_sorted a_rows_spare a_rows_tally a_rows_squares a_rows_starts a_ways_land_depths c_known c_lengths c_rows_there c_rows_size c_ways_straightSize c_ways_slantwiseSize c_rows_ends c_ways_land_laid c_ways_land_head c_ways_land_fieldCount c_ways_land_innerCount c_ways_lengths c_ways_slantwises c_ways_straights c_ways_land_kinds c_ways_land_nears v1 c_known_17 c_lengths_17 c_ways_straightSize_17 c_ways_slantwiseSize_17 c_ways_lengths_17 c_ways_slantwises_17 c_ways_straights_17 hr) rfl [0, 1, 2, 3, 4, 5, 6, 7, 8, 9, 10, 11] [] [0, 1, 2, 3, 4, 5, 6, 7, 8, 9, 10, 11] rfl rfl rfl rfl rfl rfl rfl 0 7 rfl rfl rfl (uw4 14 rfl rfl) (uw4 31 rfl rfl) (uw4 12 rfl rfl) (uw4 13 rfl rfl) (uw1 8 rfl rfl) ⟨by decide, by decide, by decide⟩ rfl ⟨by decide, by decide⟩ (Nat.le_of_ble_eq_true rfl) ⟨Nat.zero_le _, Nat.zero_le _⟩ (dd dX7_learnAll 11 rfl) (fun H locs hW => ?_)
      obtain ⟨v1_20, ev1_20, h⟩ := nm_ex h
      refine lv_iinc (pc := 20) (v := v1_20) (lv' := [(1, .int v1_20), (0, .ref a_t)]) hx hb (dd dX7_learnAll 12 rfl) hl (k := 1) rfl (by rw [ev1_20]; rfl) (by decide) rfl (fun ls hl => ?_)
      refine lv_goto (pc := 23) (tgt := 2) hx hb (dd dX7_learnAll 13 rfl) (by decide) ?_
      obtain rfl := Option.some.inj h
      exact hk _ _ _ hW (lv_sub hl [1, 0] rfl)
  · obtain ⟨c_known_26, c_lengths_26, c_ways_straightSize_26, c_ways_slantwiseSize_26, c_ways_lengths_26, c_ways_slantwises_26, c_ways_straights_26⟩ := ex
    have h := un7_at h
    intro H locs ls hW hl
    have hW9 := hW
    cases h
    exact ret _ _ _ 26 hW9 (dd dX7_learnAll 14 rfl)
abbrev w_X7_length (g : G9) (a_t a_lengths a_ways a_rows a_known : Nat) (c_lengths : Ar) : va_W := [ob a_t 7 [.ref a_ways, .ref a_rows, .ref a_lengths, .ref a_known], ia g a_lengths 14400 c_lengths]
noncomputable def X7_length (c_lengths : Ar) (v1 v2 : Int32) : Option Int32 :=
  ck (ix ((120 * v1) + v2) 14400) <| some (ag c_lengths ((120 * v1) + v2))
set_option maxHeartbeats 4000000 in
set_option maxRecDepth 100000 in
theorem t_X7_length (l : Launch) (g : G9) (a_t a_lengths a_ways a_rows a_known : Nat) (c_lengths : Ar) (v1 v2 r0 : Int32) (h : X7_length c_lengths v1 v2 = some r0) : CtI l g yX7_length cX7_length 3 .int 0 0 [.ref a_t, .int v1, .int v2] (w_X7_length g a_t a_lengths a_ways a_rows a_known c_lengths) r0 (w_X7_length g a_t a_lengths a_ways a_rows a_known c_lengths) := by
  refine startI (by decide) (Nat.le_of_ble_eq_true rfl) ?_
  intro p e s m below meth c A Q ls args M hW hl ret
  have hx := M.1
  have hb := M.2.1
  have hown := M.2.2.2.1
  have hu := M.2.2.2.2.1
  have hl : lv_has ls 3 [(0, .ref a_t), (1, .int v1), (2, .int v2)] := hl
  unfold X7_length at h
  obtain ⟨H, eH⟩ : ∃ z, z = s.heap := ⟨_, rfl⟩
  obtain ⟨locs, eL⟩ : ∃ z, z = ([] : List Loc) := ⟨_, rfl⟩
  rw [← eL] at hW ⊢
  suffices hS9 : WD g s A (w_X7_length g a_t a_lengths a_ways a_rows a_known c_lengths) H locs → W p l e (rm9 0 0) s m args below meth c H locs 0 0 Q (F0 m 0 ls []) by
    rw [← eH] at hW ⊢
    exact hS9 hW
  clear hW eH eL
  intro hW
  refine lv_aload_n (pc := 0) hx hb (dd dX7_length 0 rfl) rfl (lv_at hl 0 rfl) ?_
  refine rGet (pc := 1) M hW 0 2 iU7 rfl rfl (by decide) (uw1 194 rfl rfl) rfl (dd dX7_length 1 rfl) ?_
  refine lv_bipush (pc := 4) (v := 120) hx hb (dd dX7_length 2 rfl) (by decide) ?_
  refine lv_iload_n (pc := 6) hx hb (dd dX7_length 3 rfl) rfl (lv_at hl 1 rfl) ?_
  refine lv_imul (pc := 7) hx hb (dd dX7_length 4 rfl) ?_
  refine lv_iload_n (pc := 8) hx hb (dd dX7_length 5 rfl) rfl (lv_at hl 2 rfl) ?_
  refine lv_iadd (pc := 9) hx hb (dd dX7_length 6 rfl) ?_
  obtain ⟨hi, h⟩ := ck_ex h
  refine rIald (pc := 10) M hW 1 rfl hi (dd dX7_length 7 rfl) ?_
  have hW9 := hW
  cases h
  exact ret _ _ _ 11 hW9 rfl (dd dX7_length 8 rfl)
abbrev w_X7_leastFrom (g : G9) (a_t a_lengths a_rows a_ways a_known a_ways_land a_rows_strips a_rows_alongs a_rows_numbers a_rows_sorted a_rows_spare a_rows_tally a_rows_squares a_rows_starts a_rows_ends : Nat) (c_lengths : Ar) (c_rows_there c_rows_size : Int32) : va_W := [ob a_t 7 [.ref a_ways, .ref a_rows, .ref a_lengths, .ref a_known], ia g a_lengths 14400 c_lengths, ob a_rows 6 [.ref a_ways_land, .ref a_rows_strips, .ref a_rows_alongs, .ref a_rows_numbers, .ref a_rows_sorted, .ref a_rows_spare, .ref a_rows_tally, .ref a_rows_squares, .ref a_rows_starts, .ref a_rows_ends, .int c_rows_there, .int c_rows_size]]
noncomputable def X7_leastFrom_b5_38 (v1 v2 v3 : Int32) : Option ((Int32 × Int32) ⊕ Int32) :=
  nm (v3 + 1) fun v3_38 => some (.inl (v2, v3_38))
noncomputable def X7_leastFrom_L5 (c_lengths : Ar) (c_rows_size v1 v2 v3 : Int32) : Option ((Int32 × Int32) ⊕ Int32) :=
  if (2 * c_rows_size) ≤ v3 then (some (.inr v2)) else (if (v3 / 2) = (v1 / 2) then (X7_leastFrom_b5_38 v1 v2 v3) else (bnd (X7_length c_lengths v1 v3) <| fun r_31 => nm ((mn v2 r_31)) fun v2_37 => X7_leastFrom_b5_38 v1 v2_37 v3))
noncomputable def X7_leastFrom (c_lengths : Ar) (c_rows_size v1 : Int32) : Option Int32 :=
  bnd (whileV (fun st => X7_leastFrom_L5 c_lengths c_rows_size v1 st.1 st.2) (1000000, 0)) <| (fun v2_44 => some v2_44)
set_option maxHeartbeats 4000000 in
set_option maxRecDepth 100000 in
theorem t_X7_leastFrom (l : Launch) (g : G9) (a_t a_lengths a_rows a_ways a_known a_ways_land a_rows_strips a_rows_alongs a_rows_numbers a_rows_sorted a_rows_spare a_rows_tally a_rows_squares a_rows_starts a_rows_ends : Nat) (c_lengths : Ar) (c_rows_there c_rows_size v1 r0 : Int32) (h : X7_leastFrom c_lengths c_rows_size v1 = some r0) : CtI l g yX7_leastFrom cX7_leastFrom 4 .int 1 22 [.ref a_t, .int v1] (w_X7_leastFrom g a_t a_lengths a_rows a_ways a_known a_ways_land a_rows_strips a_rows_alongs a_rows_numbers a_rows_sorted a_rows_spare a_rows_tally a_rows_squares a_rows_starts a_rows_ends c_lengths c_rows_there c_rows_size) r0 (w_X7_leastFrom g a_t a_lengths a_rows a_ways a_known a_ways_land a_rows_strips a_rows_alongs a_rows_numbers a_rows_sorted a_rows_spare a_rows_tally a_rows_squares a_rows_starts a_rows_ends c_lengths c_rows_there c_rows_size) := by
  refine startI (by decide) (Nat.le_of_ble_eq_true rfl) ?_
  intro p e s m below meth c A Q ls args M hW hl ret
  have hx := M.1
  have hb := M.2.1
  have hown := M.2.2.2.1
  have hu := M.2.2.2.2.1
  have hl : lv_has ls 4 [(0, .ref a_t), (1, .int v1)] := hl
  unfold X7_leastFrom at h
  obtain ⟨H, eH⟩ : ∃ z, z = s.heap := ⟨_, rfl⟩
  obtain ⟨locs, eL⟩ : ∃ z, z = ([] : List Loc) := ⟨_, rfl⟩
  rw [← eL] at hW ⊢
  suffices hS9 : WD g s A (w_X7_leastFrom g a_t a_lengths a_rows a_ways a_known a_ways_land a_rows_strips a_rows_alongs a_rows_numbers a_rows_sorted a_rows_spare a_rows_tally a_rows_squares a_rows_starts a_rows_ends c_lengths c_rows_there c_rows_size) H locs → W p l e (rm9 1 22) s m args below meth c H locs 0 0 Q (F0 m 0 ls []) by
    rw [← eH] at hW ⊢
    exact hS9 hW
  clear hW eH eL
  intro hW
  refine lv_ldc (pc := 0) (v := 1000000) hx hb hown (hu _ (uw4 107 rfl rfl)) (dd dX7_leastFrom 0 rfl) ?_
  refine lv_istore_n (pc := 2) (lv' := [(2, .int 1000000), (0, .ref a_t), (1, .int v1)]) hx hb (dd dX7_leastFrom 1 rfl) rfl hl (by decide) rfl (fun ls hl => ?_)
  refine lv_iconst (pc := 3) (v := 0) hx hb (dd dX7_leastFrom 2 rfl) (by decide) ?_
  refine lv_istore_n (pc := 4) (lv' := [(3, .int 0), (2, .int 1000000), (0, .ref a_t), (1, .int v1)]) hx hb (dd dX7_leastFrom 3 rfl) rfl hl (by decide) rfl (fun ls hl => ?_)
  obtain ⟨ex, hw, h⟩ := bnd_ex h
  refine loopW (fun st => ∀ (H : Heap) (locs : List Loc) (ls : Array Slot), WD g s A (w_X7_leastFrom g a_t a_lengths a_rows a_ways a_known a_ways_land a_rows_strips a_rows_alongs a_rows_numbers a_rows_sorted a_rows_spare a_rows_tally a_rows_squares a_rows_starts a_rows_ends c_lengths c_rows_there c_rows_size) H locs → lv_has ls 4 [(0, .ref a_t), (1, .int v1), (2, .int (st.1)), (3, .int (st.2))] → W p l e (rm9 1 22) s m args below meth c H locs 0 0 Q (F0 m 5 ls [])) (fun (ex : Int32) => ∀ (H : Heap) (locs : List Loc) (ls : Array Slot), WD g s A (w_X7_leastFrom g a_t a_lengths a_rows a_ways a_known a_ways_land a_rows_strips a_rows_alongs a_rows_numbers a_rows_sorted a_rows_spare a_rows_tally a_rows_squares a_rows_starts a_rows_ends c_lengths c_rows_there c_rows_size) H locs → lv_has ls 4 [(2, .int ex)] → W p l e (rm9 1 22) s m args below meth c H locs 0 0 Q (F0 m 44 ls [])) ?_ hw ?_ H locs ls hW (lv_sub hl [2, 3, 1, 0] rfl)
  · rintro ⟨v2, v3⟩ o hb9 hk H locs ls hW hl
    have h : X7_leastFrom_L5 c_lengths c_rows_size v1 v2 v3 = some o := hb9
    clear hb9
    unfold X7_leastFrom_L5 at h
    have J38 : ∀ (v2 v3 : Int32) (H : Heap) (locs : List Loc) (ls : Array Slot), X7_leastFrom_b5_38 v1 v2 v3 = some o → WD g s A (w_X7_leastFrom g a_t a_lengths a_rows a_ways a_known a_ways_land a_rows_strips a_rows_alongs a_rows_numbers a_rows_sorted a_rows_spare a_rows_tally a_rows_squares a_rows_starts a_rows_ends c_lengths c_rows_there c_rows_size) H locs → lv_has ls 4 [(0, .ref a_t), (1, .int v1), (2, .int v2), (3, .int v3)] → W p l e (rm9 1 22) s m args below meth c H locs 0 0 Q (F0 m 38 ls []) := by
      intro v2 v3 H locs ls h hW hl
      unfold X7_leastFrom_b5_38 at h
      obtain ⟨v3_38, ev3_38, h⟩ := nm_ex h
      refine lv_iinc (pc := 38) (v := v3_38) (lv' := [(3, .int v3_38), (0, .ref a_t), (1, .int v1), (2, .int v2)]) hx hb (dd dX7_leastFrom 25 rfl) hl (k := 3) rfl (by rw [ev3_38]; rfl) (by decide) rfl (fun ls hl => ?_)
      refine lv_goto (pc := 41) (tgt := 5) hx hb (dd dX7_leastFrom 26 rfl) (by decide) ?_
      obtain rfl := Option.some.inj h
      exact hk _ _ _ hW (lv_sub hl [1, 2, 3, 0] rfl)
    refine lv_iload_n (pc := 5) hx hb (dd dX7_leastFrom 4 rfl) rfl (lv_at hl 3 rfl) ?_
    refine lv_iconst (pc := 6) (v := 2) hx hb (dd dX7_leastFrom 5 rfl) (by decide) ?_
    refine lv_aload_n (pc := 7) hx hb (dd dX7_leastFrom 6 rfl) rfl (lv_at hl 0 rfl) ?_
    refine rGet (pc := 8) M hW 0 1 iU7 rfl rfl (by decide) (uw1 193 rfl rfl) rfl (dd dX7_leastFrom 7 rfl) ?_
    refine rGet (pc := 11) M hW 2 11 iU6 rfl rfl (by decide) (uw1 159 rfl rfl) rfl (dd dX7_leastFrom 8 rfl) ?_
    refine lv_imul (pc := 14) hx hb (dd dX7_leastFrom 9 rfl) ?_
    refine lv_icmp_ge (pc := 15) (tgt := 44) hx hb (dd dX7_leastFrom 10 rfl) (by decide) (fun hc => ?_) (fun hc => ?_)
    · have h := it_t hc h
      obtain rfl := Option.some.inj h
      exact hk _ _ _ hW (lv_sub hl [2] rfl)
    · have h := it_f hc h
      refine lv_iload_n (pc := 18) hx hb (dd dX7_leastFrom 11 rfl) rfl (lv_at hl 3 rfl) ?_
      refine lv_iconst (pc := 19) (v := 2) hx hb (dd dX7_leastFrom 12 rfl) (by decide) ?_
      refine lv_idiv (pc := 20) hx hb (dd dX7_leastFrom 13 rfl) (by decide) ?_
      refine lv_iload_n (pc := 21) hx hb (dd dX7_leastFrom 14 rfl) rfl (lv_at hl 1 rfl) ?_
      refine lv_iconst (pc := 22) (v := 2) hx hb (dd dX7_leastFrom 15 rfl) (by decide) ?_
      refine lv_idiv (pc := 23) hx hb (dd dX7_leastFrom 16 rfl) (by decide) ?_
      refine lv_icmp_eq (pc := 24) (tgt := 38) hx hb (dd dX7_leastFrom 17 rfl) (by decide) (fun hc => ?_) (fun hc => ?_)
      · have h := it_t hc h
        exact J38 _ _ _ _ _ h hW (lv_sub hl [0, 1, 2, 3] rfl)
      · have h := it_f hc h
        refine lv_iload_n (pc := 27) hx hb (dd dX7_leastFrom 18 rfl) rfl (lv_at hl 2 rfl) ?_
        refine lv_aload_n (pc := 28) hx hb (dd dX7_leastFrom 19 rfl) rfl (lv_at hl 0 rfl) ?_
        refine lv_iload_n (pc := 29) hx hb (dd dX7_leastFrom 20 rfl) rfl (lv_at hl 1 rfl) ?_
        refine lv_iload_n (pc := 30) hx hb (dd dX7_leastFrom 21 rfl) rfl (lv_at hl 3 rfl) ?_
        obtain ⟨r_31, hr, h⟩ := bnd_ex h
        refine callVI (pc := 31) (na := 2) (As := [.int v1, .int v3]) (rest := [.int v2]) (ws2 := (w_X7_leastFrom g a_t a_lengths a_rows a_ways a_known a_ways_land a_rows_strips a_rows_alongs a_rows_numbers a_rows_sorted a_rows_spare a_rows_tally a_rows_squares a_rows_starts a_rows_ends c_lengths c_rows_there c_rows_size)) M hl.1 hW (t_X7_length l g a_t a_lengths a_ways a_rows a_known c_lengths v1 v3 r_31 hr) rfl [0, 1] [2] [1, 2, 0] rfl rfl rfl rfl rfl rfl rfl 0 7 rfl rfl rfl (uw4 19 rfl rfl) (uw4 108 rfl rfl) (uw4 17 rfl rfl) (uw4 18 rfl rfl) (uw1 8 rfl rfl) ⟨by decide, by decide, by decide⟩ rfl ⟨by decide, by decide⟩ (Nat.le_of_ble_eq_true rfl) ⟨Nat.zero_le _, Nat.zero_le _⟩ (dd dX7_leastFrom 22 rfl) (fun H locs hW => ?_)
        refine rMin (pc := 34) M hl.1 (uw4 109 rfl rfl) (uw3 97 rfl rfl) (uw1 4 rfl rfl) (uw3 98 rfl rfl) ⟨by decide, by decide⟩ (Nat.le_of_ble_eq_true rfl) ⟨Nat.zero_le _, Nat.zero_le _⟩ (dd dX7_leastFrom 23 rfl) ?_
        obtain ⟨v2_37, ev2_37, h⟩ := nm_ex h
        refine rTopi (pc := 37) ev2_37 ?_
        refine lv_istore_n (pc := 37) (lv' := [(2, .int v2_37), (0, .ref a_t), (1, .int v1), (3, .int v3)]) hx hb (dd dX7_leastFrom 24 rfl) rfl hl (by decide) rfl (fun ls hl => ?_)
        exact J38 _ _ _ _ _ h hW (lv_sub hl [1, 2, 0, 3] rfl)
  · obtain ⟨v2_44, e9⟩ : ∃ z, z = ex := ⟨_, rfl⟩
    subst e9
    intro H locs ls hW hl
    refine lv_iload_n (pc := 44) hx hb (dd dX7_leastFrom 27 rfl) rfl (lv_at hl 0 rfl) ?_
    have hW9 := hW
    cases h
    exact ret _ _ _ 45 hW9 rfl (dd dX7_leastFrom 28 rfl)
abbrev w_X7_leastOfAll (g : G9) (a_t a_lengths a_rows a_ways a_known a_ways_land a_rows_strips a_rows_alongs a_rows_numbers a_rows_sorted a_rows_spare a_rows_tally a_rows_squares a_rows_starts a_rows_ends : Nat) (c_lengths : Ar) (c_rows_there c_rows_size : Int32) : va_W := [ob a_t 7 [.ref a_ways, .ref a_rows, .ref a_lengths, .ref a_known], ia g a_lengths 14400 c_lengths, ob a_rows 6 [.ref a_ways_land, .ref a_rows_strips, .ref a_rows_alongs, .ref a_rows_numbers, .ref a_rows_sorted, .ref a_rows_spare, .ref a_rows_tally, .ref a_rows_squares, .ref a_rows_starts, .ref a_rows_ends, .int c_rows_there, .int c_rows_size]]
noncomputable def X7_leastOfAll_L19 (c_lengths : Ar) (c_rows_size v1 v2 v3 : Int32) : Option ((Int32 × Int32 × Int32) ⊕ ((Int32 × Int32) ⊕ Unit)) :=
  if c_rows_size ≤ v3 then (some (.inr (.inl (v1, v2)))) else (bnd (X7_leastFrom c_lengths c_rows_size (2 * v3)) <| fun r_34 => bnd (X7_leastFrom c_lengths c_rows_size ((2 * v3) + 1)) <| fun r_43 => nm ((mn r_34 r_43)) fun v4_49 => if v4_49 < 1000000 then (nm ((v1 + v4_49)) fun v1_65 => nm ((mx v2 v4_49)) fun v2_72 => nm (v3 + 1) fun v3_73 => some (.inl (v1_65, v2_72, v3_73))) else (some (.inr (.inr (())))))
noncomputable def X7_leastOfAll (c_lengths : Ar) (c_rows_size : Int32) : Option Int32 :=
  if 2 ≤ c_rows_size then (bnd (whileV (fun st => X7_leastOfAll_L19 c_lengths c_rows_size st.1 st.2.1 st.2.2) (0, 0, 0)) <| (Sum.elim (un2 fun v1_79 v2_79 => some (v1_79 - v2_79)) (fun (_ : Unit) => some 1000000))) else (some 0)
set_option maxHeartbeats 4000000 in
set_option maxRecDepth 100000 in
theorem t_X7_leastOfAll (l : Launch) (g : G9) (a_t a_lengths a_rows a_ways a_known a_ways_land a_rows_strips a_rows_alongs a_rows_numbers a_rows_sorted a_rows_spare a_rows_tally a_rows_squares a_rows_starts a_rows_ends : Nat) (c_lengths : Ar) (c_rows_there c_rows_size r0 : Int32) (h : X7_leastOfAll c_lengths c_rows_size = some r0) : CtI l g yX7_leastOfAll cX7_leastOfAll 5 .int 2 45 [.ref a_t] (w_X7_leastOfAll g a_t a_lengths a_rows a_ways a_known a_ways_land a_rows_strips a_rows_alongs a_rows_numbers a_rows_sorted a_rows_spare a_rows_tally a_rows_squares a_rows_starts a_rows_ends c_lengths c_rows_there c_rows_size) r0 (w_X7_leastOfAll g a_t a_lengths a_rows a_ways a_known a_ways_land a_rows_strips a_rows_alongs a_rows_numbers a_rows_sorted a_rows_spare a_rows_tally a_rows_squares a_rows_starts a_rows_ends c_lengths c_rows_there c_rows_size) := by
  refine startI (by decide) (Nat.le_of_ble_eq_true rfl) ?_
  intro p e s m below meth c A Q ls args M hW hl ret
  have hx := M.1
  have hb := M.2.1
  have hown := M.2.2.2.1
  have hu := M.2.2.2.2.1
  have hl : lv_has ls 5 [(0, .ref a_t)] := hl
  unfold X7_leastOfAll at h
  obtain ⟨H, eH⟩ : ∃ z, z = s.heap := ⟨_, rfl⟩
  obtain ⟨locs, eL⟩ : ∃ z, z = ([] : List Loc) := ⟨_, rfl⟩
  rw [← eL] at hW ⊢
  suffices hS9 : WD g s A (w_X7_leastOfAll g a_t a_lengths a_rows a_ways a_known a_ways_land a_rows_strips a_rows_alongs a_rows_numbers a_rows_sorted a_rows_spare a_rows_tally a_rows_squares a_rows_starts a_rows_ends c_lengths c_rows_there c_rows_size) H locs → W p l e (rm9 2 45) s m args below meth c H locs 0 0 Q (F0 m 0 ls []) by
    rw [← eH] at hW ⊢
    exact hS9 hW
  clear hW eH eL
  intro hW
  refine lv_aload_n (pc := 0) hx hb (dd dX7_leastOfAll 0 rfl) rfl (lv_at hl 0 rfl) ?_
  refine rGet (pc := 1) M hW 0 1 iU7 rfl rfl (by decide) (uw1 193 rfl rfl) rfl (dd dX7_leastOfAll 1 rfl) ?_
  refine rGet (pc := 4) M hW 2 11 iU6 rfl rfl (by decide) (uw1 159 rfl rfl) rfl (dd dX7_leastOfAll 2 rfl) ?_
  refine lv_iconst (pc := 7) (v := 2) hx hb (dd dX7_leastOfAll 3 rfl) (by decide) ?_
  refine lv_icmp_ge (pc := 8) (tgt := 13) hx hb (dd dX7_leastOfAll 4 rfl) (by decide) (fun hc => ?_) (fun hc => ?_)
  · have h := it_t hc h
    refine lv_iconst (pc := 13) (v := 0) hx hb (dd dX7_leastOfAll 7 rfl) (by decide) ?_
    refine lv_istore_n (pc := 14) (lv' := [(1, .int 0), (0, .ref a_t)]) hx hb (dd dX7_leastOfAll 8 rfl) rfl hl (by decide) rfl (fun ls hl => ?_)
    refine lv_iconst (pc := 15) (v := 0) hx hb (dd dX7_leastOfAll 9 rfl) (by decide) ?_
    refine lv_istore_n (pc := 16) (lv' := [(2, .int 0), (1, .int 0), (0, .ref a_t)]) hx hb (dd dX7_leastOfAll 10 rfl) rfl hl (by decide) rfl (fun ls hl => ?_)
    refine lv_iconst (pc := 17) (v := 0) hx hb (dd dX7_leastOfAll 11 rfl) (by decide) ?_
    refine lv_istore_n (pc := 18) (lv' := [(3, .int 0), (2, .int 0), (1, .int 0), (0, .ref a_t)]) hx hb (dd dX7_leastOfAll 12 rfl) rfl hl (by decide) rfl (fun ls hl => ?_)
    obtain ⟨ex, hw, h⟩ := bnd_ex h
    refine loopW (fun st => ∀ (H : Heap) (locs : List Loc) (ls : Array Slot), WD g s A (w_X7_leastOfAll g a_t a_lengths a_rows a_ways a_known a_ways_land a_rows_strips a_rows_alongs a_rows_numbers a_rows_sorted a_rows_spare a_rows_tally a_rows_squares a_rows_starts a_rows_ends c_lengths c_rows_there c_rows_size) H locs → lv_has ls 5 [(0, .ref a_t), (1, .int (st.1)), (2, .int (st.2.1)), (3, .int (st.2.2))] → W p l e (rm9 2 45) s m args below meth c H locs 0 0 Q (F0 m 19 ls [])) (Sum.elim (fun (ex : (Int32 × Int32)) => ∀ (H : Heap) (locs : List Loc) (ls : Array Slot), WD g s A (w_X7_leastOfAll g a_t a_lengths a_rows a_ways a_known a_ways_land a_rows_strips a_rows_alongs a_rows_numbers a_rows_sorted a_rows_spare a_rows_tally a_rows_squares a_rows_starts a_rows_ends c_lengths c_rows_there c_rows_size) H locs → lv_has ls 5 [(1, .int (ex.1)), (2, .int (ex.2))] → W p l e (rm9 2 45) s m args below meth c H locs 0 0 Q (F0 m 79 ls [])) (fun (ex : Unit) => ∀ (H : Heap) (locs : List Loc) (ls : Array Slot), WD g s A (w_X7_leastOfAll g a_t a_lengths a_rows a_ways a_known a_ways_land a_rows_strips a_rows_alongs a_rows_numbers a_rows_sorted a_rows_spare a_rows_tally a_rows_squares a_rows_starts a_rows_ends c_lengths c_rows_there c_rows_size) H locs → lv_has ls 5 [] → W p l e (rm9 2 45) s m args below meth c H locs 0 0 Q (F0 m 58 ls []))) ?_ hw ?_ H locs ls hW (lv_sub hl [3, 2, 1, 0] rfl)
    · rintro ⟨v1, v2, v3⟩ o hb9 hk H locs ls hW hl
      have h : X7_leastOfAll_L19 c_lengths c_rows_size v1 v2 v3 = some o := hb9
      clear hb9
      unfold X7_leastOfAll_L19 at h
      refine lv_iload_n (pc := 19) hx hb (dd dX7_leastOfAll 13 rfl) rfl (lv_at hl 3 rfl) ?_
      refine lv_aload_n (pc := 20) hx hb (dd dX7_leastOfAll 14 rfl) rfl (lv_at hl 0 rfl) ?_
      refine rGet (pc := 21) M hW 0 1 iU7 rfl rfl (by decide) (uw1 193 rfl rfl) rfl (dd dX7_leastOfAll 15 rfl) ?_
      refine rGet (pc := 24) M hW 2 11 iU6 rfl rfl (by decide) (uw1 159 rfl rfl) rfl (dd dX7_leastOfAll 16 rfl) ?_
      refine lv_icmp_ge (pc := 27) (tgt := 79) hx hb (dd dX7_leastOfAll 17 rfl) (by decide) (fun hc => ?_) (fun hc => ?_)
      · have h := it_t hc h
        obtain rfl := Option.some.inj h
        exact hk _ _ _ hW (lv_sub hl [1, 2] rfl)
      · have h := it_f hc h
        refine lv_aload_n (pc := 30) hx hb (dd dX7_leastOfAll 18 rfl) rfl (lv_at hl 0 rfl) ?_
        refine lv_iconst (pc := 31) (v := 2) hx hb (dd dX7_leastOfAll 19 rfl) (by decide) ?_
        refine lv_iload_n (pc := 32) hx hb (dd dX7_leastOfAll 20 rfl) rfl (lv_at hl 3 rfl) ?_
        refine lv_imul (pc := 33) hx hb (dd dX7_leastOfAll 21 rfl) ?_
        obtain ⟨r_34, hr, h⟩ := bnd_ex h
        refine callVI (pc := 34) (na := 1) (As := [.int (2 * v3)]) (rest := []) (ws2 := (w_X7_leastOfAll g a_t a_lengths a_rows a_ways a_known a_ways_land a_rows_strips a_rows_alongs a_rows_numbers a_rows_sorted a_rows_spare a_rows_tally a_rows_squares a_rows_starts a_rows_ends c_lengths c_rows_there c_rows_size)) M hl.1 hW (t_X7_leastFrom l g a_t a_lengths a_rows a_ways a_known a_ways_land a_rows_strips a_rows_alongs a_rows_numbers a_rows_sorted a_rows_spare a_rows_tally a_rows_squares a_rows_starts a_rows_ends c_lengths c_rows_there c_rows_size (2 * v3) r_34 hr) rfl [0, 1, 2] [] [0, 1, 2] rfl rfl rfl rfl rfl rfl rfl 0 7 rfl rfl rfl (uw4 106 rfl rfl) (uw4 103 rfl rfl) (uw4 105 rfl rfl) (uwp 34 rfl rfl) (uw1 8 rfl rfl) ⟨by decide, by decide, by decide⟩ rfl ⟨by decide, by decide⟩ (Nat.le_of_ble_eq_true rfl) ⟨Nat.zero_le _, Nat.zero_le _⟩ (dd dX7_leastOfAll 22 rfl) (fun H locs hW => ?_)
        refine lv_aload_n (pc := 37) hx hb (dd dX7_leastOfAll 23 rfl) rfl (lv_at hl 0 rfl) ?_
        refine lv_iconst (pc := 38) (v := 2) hx hb (dd dX7_leastOfAll 24 rfl) (by decide) ?_
        refine lv_iload_n (pc := 39) hx hb (dd dX7_leastOfAll 25 rfl) rfl (lv_at hl 3 rfl) ?_
        refine lv_imul (pc := 40) hx hb (dd dX7_leastOfAll 26 rfl) ?_
        refine lv_iconst (pc := 41) (v := 1) hx hb (dd dX7_leastOfAll 27 rfl) (by decide) ?_
        refine lv_iadd (pc := 42) hx hb (dd dX7_leastOfAll 28 rfl) ?_
        obtain ⟨r_43, hr, h⟩ := bnd_ex h
        refine callVI (pc := 43) (na := 1) (As := [.int ((2 * v3) + 1)]) (rest := [.int r_34]) (ws2 := (w_X7_leastOfAll g a_t a_lengths a_rows a_ways a_known a_ways_land a_rows_strips a_rows_alongs a_rows_numbers a_rows_sorted a_rows_spare a_rows_tally a_rows_squares a_rows_starts a_rows_ends c_lengths c_rows_there c_rows_size)) M hl.1 hW (t_X7_leastFrom l g a_t a_lengths a_rows a_ways a_known a_ways_land a_rows_strips a_rows_alongs a_rows_numbers a_rows_sorted a_rows_spare a_rows_tally a_rows_squares a_rows_starts a_rows_ends c_lengths c_rows_there c_rows_size ((2 * v3) + 1) r_43 hr) rfl [0, 1, 2] [] [0, 1, 2] rfl rfl rfl rfl rfl rfl rfl 0 7 rfl rfl rfl (uw4 106 rfl rfl) (uw4 103 rfl rfl) (uw4 105 rfl rfl) (uwp 34 rfl rfl) (uw1 8 rfl rfl) ⟨by decide, by decide, by decide⟩ rfl ⟨by decide, by decide⟩ (Nat.le_of_ble_eq_true rfl) ⟨Nat.zero_le _, Nat.zero_le _⟩ (dd dX7_leastOfAll 29 rfl) (fun H locs hW => ?_)
        refine rMin (pc := 46) M hl.1 (uw4 109 rfl rfl) (uw3 97 rfl rfl) (uw1 4 rfl rfl) (uw3 98 rfl rfl) ⟨by decide, by decide⟩ (Nat.le_of_ble_eq_true rfl) ⟨Nat.zero_le _, Nat.zero_le _⟩ (dd dX7_leastOfAll 30 rfl) ?_
        obtain ⟨v4_49, ev4_49, h⟩ := nm_ex h
        refine rTopi (pc := 49) ev4_49 ?_
        refine lv_istore (pc := 49) (lv' := [(4, .int v4_49), (0, .ref a_t), (1, .int v1), (2, .int v2), (3, .int v3)]) hx hb (dd dX7_leastOfAll 31 rfl) hl (by decide) rfl (fun ls hl => ?_)
        refine lv_iload (pc := 51) hx hb (dd dX7_leastOfAll 32 rfl) (lv_at hl 0 rfl) ?_
        refine lv_ldc (pc := 53) (v := 1000000) hx hb hown (hu _ (uw4 107 rfl rfl)) (dd dX7_leastOfAll 33 rfl) ?_
        refine lv_icmp_lt (pc := 55) (tgt := 61) hx hb (dd dX7_leastOfAll 34 rfl) (by decide) (fun hc => ?_) (fun hc => ?_)
        · have h := it_t hc h
          refine lv_iload_n (pc := 61) hx hb (dd dX7_leastOfAll 37 rfl) rfl (lv_at hl 2 rfl) ?_
          refine lv_iload (pc := 62) hx hb (dd dX7_leastOfAll 38 rfl) (lv_at hl 0 rfl) ?_
          refine lv_iadd (pc := 64) hx hb (dd dX7_leastOfAll 39 rfl) ?_
          obtain ⟨v1_65, ev1_65, h⟩ := nm_ex h
          refine rTopi (pc := 65) ev1_65 ?_
          refine lv_istore_n (pc := 65) (lv' := [(1, .int v1_65), (4, .int v4_49), (0, .ref a_t), (2, .int v2), (3, .int v3)]) hx hb (dd dX7_leastOfAll 40 rfl) rfl hl (by decide) rfl (fun ls hl => ?_)
          refine lv_iload_n (pc := 66) hx hb (dd dX7_leastOfAll 41 rfl) rfl (lv_at hl 3 rfl) ?_
          refine lv_iload (pc := 67) hx hb (dd dX7_leastOfAll 42 rfl) (lv_at hl 1 rfl) ?_
          refine rMax (pc := 69) M hl.1 (uw4 110 rfl rfl) (uw1 44 rfl rfl) (uw1 4 rfl rfl) (uw1 45 rfl rfl) ⟨by decide, by decide⟩ (Nat.le_of_ble_eq_true rfl) ⟨Nat.zero_le _, Nat.zero_le _⟩ (dd dX7_leastOfAll 43 rfl) ?_
          obtain ⟨v2_72, ev2_72, h⟩ := nm_ex h
          refine rTopi (pc := 72) ev2_72 ?_
          refine lv_istore_n (pc := 72) (lv' := [(2, .int v2_72), (1, .int v1_65), (4, .int v4_49), (0, .ref a_t), (3, .int v3)]) hx hb (dd dX7_leastOfAll 44 rfl) rfl hl (by decide) rfl (fun ls hl => ?_)
          obtain ⟨v3_73, ev3_73, h⟩ := nm_ex h
          refine lv_iinc (pc := 73) (v := v3_73) (lv' := [(3, .int v3_73), (2, .int v2_72), (1, .int v1_65), (4, .int v4_49), (0, .ref a_t)]) hx hb (dd dX7_leastOfAll 45 rfl) hl (k := 4) rfl (by rw [ev3_73]; rfl) (by decide) rfl (fun ls hl => ?_)
          refine lv_goto (pc := 76) (tgt := 19) hx hb (dd dX7_leastOfAll 46 rfl) (by decide) ?_
          obtain rfl := Option.some.inj h
          exact hk _ _ _ hW (lv_sub hl [4, 2, 1, 0] rfl)
        · have h := it_f hc h
          obtain rfl := Option.some.inj h
          exact hk _ _ _ hW (lv_sub hl [] rfl)
    · rcases ex with ⟨v1_79, v2_79⟩ | _
      · intro H locs ls hW hl
        have h := sE_l h
        have h := un2_at h
        refine lv_iload_n (pc := 79) hx hb (dd dX7_leastOfAll 47 rfl) rfl (lv_at hl 0 rfl) ?_
        refine lv_iload_n (pc := 80) hx hb (dd dX7_leastOfAll 48 rfl) rfl (lv_at hl 1 rfl) ?_
        refine lv_isub (pc := 81) hx hb (dd dX7_leastOfAll 49 rfl) ?_
        have hW9 := hW
        cases h
        exact ret _ _ _ 82 hW9 rfl (dd dX7_leastOfAll 50 rfl)
      · intro H locs ls hW hl
        have h := sE_r h
        refine lv_ldc (pc := 58) (v := 1000000) hx hb hown (hu _ (uw4 107 rfl rfl)) (dd dX7_leastOfAll 35 rfl) ?_
        have hW9 := hW
        cases h
        exact ret _ _ _ 60 hW9 rfl (dd dX7_leastOfAll 36 rfl)
  · have h := it_f hc h
    refine lv_iconst (pc := 11) (v := 0) hx hb (dd dX7_leastOfAll 5 rfl) (by decide) ?_
    have hW9 := hW
    cases h
    exact ret _ _ _ 12 hW9 rfl (dd dX7_leastOfAll 6 rfl)
abbrev w_X7_forget (g : G9) (a_t a_known a_ways a_rows a_lengths : Nat) (c_known : Ar) : va_W := [ob a_t 7 [.ref a_ways, .ref a_rows, .ref a_lengths, .ref a_known], za g a_known 120 c_known]
noncomputable def X7_forget_L2 (c_known : Ar) (v1 : Int32) : Option ((Ar × Int32) ⊕ Ar) :=
  if 120 ≤ v1 then (some (.inr c_known)) else (ck (ix v1 120) <| nm (au c_known v1 (vp_nar .boolean 0)) fun c_known_14 => nm (v1 + 1) fun v1_15 => some (.inl (c_known_14, v1_15)))
noncomputable def X7_forget (c_known : Ar) : Option Ar :=
  bnd (whileV (fun st => X7_forget_L2  st.1 st.2) (c_known, 0)) <| (fun c_known_21 => some c_known_21)
set_option maxHeartbeats 4000000 in
set_option maxRecDepth 100000 in
theorem t_X7_forget (l : Launch) (g : G9) (a_t a_known a_ways a_rows a_lengths : Nat) (c_known o_known : Ar) (h : X7_forget c_known = some o_known) : CtV l g yX7_forget cX7_forget 2 0 0 [.ref a_t] (w_X7_forget g a_t a_known a_ways a_rows a_lengths c_known) (w_X7_forget g a_t a_known a_ways a_rows a_lengths o_known) := by
  refine startV (by decide) (Nat.le_of_ble_eq_true rfl) ?_
  intro p e s m below meth c A Q ls args M hW hl ret
  have hx := M.1
  have hb := M.2.1
  have hown := M.2.2.2.1
  have hu := M.2.2.2.2.1
  have hl : lv_has ls 2 [(0, .ref a_t)] := hl
  unfold X7_forget at h
  obtain ⟨H, eH⟩ : ∃ z, z = s.heap := ⟨_, rfl⟩
  obtain ⟨locs, eL⟩ : ∃ z, z = ([] : List Loc) := ⟨_, rfl⟩
  rw [← eL] at hW ⊢
  suffices hS9 : WD g s A (w_X7_forget g a_t a_known a_ways a_rows a_lengths c_known) H locs → W p l e (rm9 0 0) s m args below meth c H locs 0 0 Q (F0 m 0 ls []) by
    rw [← eH] at hW ⊢
    exact hS9 hW
  clear hW eH eL
  intro hW
  refine lv_iconst (pc := 0) (v := 0) hx hb (dd dX7_forget 0 rfl) (by decide) ?_
  refine lv_istore_n (pc := 1) (lv' := [(1, .int 0), (0, .ref a_t)]) hx hb (dd dX7_forget 1 rfl) rfl hl (by decide) rfl (fun ls hl => ?_)
  obtain ⟨ex, hw, h⟩ := bnd_ex h
  refine loopW (fun st => ∀ (H : Heap) (locs : List Loc) (ls : Array Slot), WD g s A (w_X7_forget g a_t a_known a_ways a_rows a_lengths (st.1)) H locs → lv_has ls 2 [(0, .ref a_t), (1, .int (st.2))] → W p l e (rm9 0 0) s m args below meth c H locs 0 0 Q (F0 m 2 ls [])) (fun (ex : Ar) => ∀ (H : Heap) (locs : List Loc) (ls : Array Slot), WD g s A (w_X7_forget g a_t a_known a_ways a_rows a_lengths ex) H locs → lv_has ls 2 [] → W p l e (rm9 0 0) s m args below meth c H locs 0 0 Q (F0 m 21 ls [])) ?_ hw ?_ H locs ls hW (lv_sub hl [1, 0] rfl)
  · rintro ⟨c_known, v1⟩ o hb9 hk H locs ls hW hl
    have h : X7_forget_L2  c_known v1 = some o := hb9
    clear hb9
    unfold X7_forget_L2 at h
    refine lv_iload_n (pc := 2) hx hb (dd dX7_forget 2 rfl) rfl (lv_at hl 1 rfl) ?_
    refine lv_bipush (pc := 3) (v := 120) hx hb (dd dX7_forget 3 rfl) (by decide) ?_
    refine lv_icmp_ge (pc := 5) (tgt := 21) hx hb (dd dX7_forget 4 rfl) (by decide) (fun hc => ?_) (fun hc => ?_)
    · have h := it_t hc h
      obtain rfl := Option.some.inj h
      exact hk _ _ _ hW (lv_sub hl [] rfl)
    · have h := it_f hc h
      refine lv_aload_n (pc := 8) hx hb (dd dX7_forget 5 rfl) rfl (lv_at hl 0 rfl) ?_
      refine rGet (pc := 9) M hW 0 3 iU7 rfl rfl (by decide) (uw1 195 rfl rfl) rfl (dd dX7_forget 6 rfl) ?_
      refine lv_iload_n (pc := 12) hx hb (dd dX7_forget 7 rfl) rfl (lv_at hl 1 rfl) ?_
      refine lv_iconst (pc := 13) (v := 0) hx hb (dd dX7_forget 8 rfl) (by decide) ?_
      obtain ⟨hi, h⟩ := ck_ex h
      obtain ⟨c_known_14, ec_known_14, h⟩ := nm_ex h
      refine rZast (pc := 14) M hW 1 rfl hi ec_known_14 (ws' := (w_X7_forget g a_t a_known a_ways a_rows a_lengths c_known_14)) rfl (dd dX7_forget 9 rfl) (fun H locs hW => ?_)
      obtain ⟨v1_15, ev1_15, h⟩ := nm_ex h
      refine lv_iinc (pc := 15) (v := v1_15) (lv' := [(1, .int v1_15), (0, .ref a_t)]) hx hb (dd dX7_forget 10 rfl) hl (k := 1) rfl (by rw [ev1_15]; rfl) (by decide) rfl (fun ls hl => ?_)
      refine lv_goto (pc := 18) (tgt := 2) hx hb (dd dX7_forget 11 rfl) (by decide) ?_
      obtain rfl := Option.some.inj h
      exact hk _ _ _ hW (lv_sub hl [1, 0] rfl)
  · obtain ⟨c_known_21, e9⟩ : ∃ z, z = ex := ⟨_, rfl⟩
    subst e9
    intro H locs ls hW hl
    have hW9 := hW
    cases h
    exact ret _ _ _ 21 hW9 (dd dX7_forget 12 rfl)
abbrev w_X5_cornerAfter (g : G9) (a_t a_corners a_corners_firsts a_corners_seconds : Nat) (c_corners_size : Int32) : va_W := [ob a_t 5 [.ref a_corners], ob a_corners 1 [.ref a_corners_firsts, .ref a_corners_seconds, .int c_corners_size]]
noncomputable def X5_cornerAfter (c_corners_size v1 : Int32) : Option Int32 :=
  if c_corners_size ≤ (v1 + 1) then (some 0) else (some (v1 + 1))
set_option maxHeartbeats 4000000 in
set_option maxRecDepth 100000 in
theorem t_X5_cornerAfter (l : Launch) (g : G9) (a_t a_corners a_corners_firsts a_corners_seconds : Nat) (c_corners_size v1 r0 : Int32) (h : X5_cornerAfter c_corners_size v1 = some r0) : CtI l g yX5_cornerAfter cX5_cornerAfter 2 .int 0 0 [.ref a_t, .int v1] (w_X5_cornerAfter g a_t a_corners a_corners_firsts a_corners_seconds c_corners_size) r0 (w_X5_cornerAfter g a_t a_corners a_corners_firsts a_corners_seconds c_corners_size) := by
  refine startI (by decide) (Nat.le_of_ble_eq_true rfl) ?_
  intro p e s m below meth c A Q ls args M hW hl ret
  have hx := M.1
  have hb := M.2.1
  have hown := M.2.2.2.1
  have hu := M.2.2.2.2.1
  have hl : lv_has ls 2 [(0, .ref a_t), (1, .int v1)] := hl
  unfold X5_cornerAfter at h
  obtain ⟨H, eH⟩ : ∃ z, z = s.heap := ⟨_, rfl⟩
  obtain ⟨locs, eL⟩ : ∃ z, z = ([] : List Loc) := ⟨_, rfl⟩
  rw [← eL] at hW ⊢
  suffices hS9 : WD g s A (w_X5_cornerAfter g a_t a_corners a_corners_firsts a_corners_seconds c_corners_size) H locs → W p l e (rm9 0 0) s m args below meth c H locs 0 0 Q (F0 m 0 ls []) by
    rw [← eH] at hW ⊢
    exact hS9 hW
  clear hW eH eL
  intro hW
  refine lv_iload_n (pc := 0) hx hb (dd dX5_cornerAfter 0 rfl) rfl (lv_at hl 1 rfl) ?_
  refine lv_iconst (pc := 1) (v := 1) hx hb (dd dX5_cornerAfter 1 rfl) (by decide) ?_
  refine lv_iadd (pc := 2) hx hb (dd dX5_cornerAfter 2 rfl) ?_
  refine lv_aload_n (pc := 3) hx hb (dd dX5_cornerAfter 3 rfl) rfl (lv_at hl 0 rfl) ?_
  refine rGet (pc := 4) M hW 0 0 iU5 rfl rfl (by decide) (uw1 63 rfl rfl) rfl (dd dX5_cornerAfter 4 rfl) ?_
  refine rGet (pc := 7) M hW 1 2 iU1 rfl rfl (by decide) (uw1 53 rfl rfl) rfl (dd dX5_cornerAfter 5 rfl) ?_
  refine lv_icmp_ge (pc := 10) (tgt := 19) hx hb (dd dX5_cornerAfter 6 rfl) (by decide) (fun hc => ?_) (fun hc => ?_)
  · have h := it_t hc h
    refine lv_iconst (pc := 19) (v := 0) hx hb (dd dX5_cornerAfter 11 rfl) (by decide) ?_
    have hW9 := hW
    cases h
    exact ret _ _ _ 20 hW9 rfl (dd dX5_cornerAfter 12 rfl)
  · have h := it_f hc h
    refine lv_iload_n (pc := 13) hx hb (dd dX5_cornerAfter 7 rfl) rfl (lv_at hl 1 rfl) ?_
    refine lv_iconst (pc := 14) (v := 1) hx hb (dd dX5_cornerAfter 8 rfl) (by decide) ?_
    refine lv_iadd (pc := 15) hx hb (dd dX5_cornerAfter 9 rfl) ?_
    refine lv_goto (pc := 16) (tgt := 20) hx hb (dd dX5_cornerAfter 10 rfl) (by decide) ?_
    have hW9 := hW
    cases h
    exact ret _ _ _ 20 hW9 rfl (dd dX5_cornerAfter 12 rfl)
abbrev w_X5_isLeftOfSide (g : G9) (a_t a_corners a_corners_firsts a_corners_seconds : Nat) (c_corners_size : Int32) (c_corners_firsts c_corners_seconds : Ar) : va_W := [ob a_t 5 [.ref a_corners], ob a_corners 1 [.ref a_corners_firsts, .ref a_corners_seconds, .int c_corners_size], ia g a_corners_firsts 12 c_corners_firsts, ia g a_corners_seconds 12 c_corners_seconds]
noncomputable def X5_isLeftOfSide_b45 (c_corners_firsts : Ar) (v1 v2 v3 v4 v5 v6 k0 k1 : Int32) : Option Int32 :=
  if k0 = k1 then (some 0) else (nm ((v6 - v5)) fun v7_55 => ck (ix v3 12) <| nm (((((2 * v1) + 1) - (2 * (ag c_corners_firsts v3))) * v7_55)) fun v8_77 => ck (ix v4 12) <| ck (ix v3 12) <| nm (((((2 * v2) + 1) - (2 * v5)) * ((ag c_corners_firsts v4) - (ag c_corners_firsts v3)))) fun v9_110 => if v7_55 ≤ 0 then (if v8_77 ≤ v9_110 then (some 0) else (some 1)) else (if v9_110 ≤ v8_77 then (some 0) else (some 1)))
noncomputable def X5_isLeftOfSide_b34 (c_corners_firsts : Ar) (v1 v2 v3 v4 v5 v6 k0 : Int32) : Option Int32 :=
  if v6 ≤ v2 then (X5_isLeftOfSide_b45 c_corners_firsts v1 v2 v3 v4 v5 v6 k0 0) else (X5_isLeftOfSide_b45 c_corners_firsts v1 v2 v3 v4 v5 v6 k0 1)
noncomputable def X5_isLeftOfSide (c_corners_firsts c_corners_seconds : Ar) (v1 v2 v3 v4 : Int32) : Option Int32 :=
  ck (ix v3 12) <| nm ((ag c_corners_seconds v3)) fun v5_9 => ck (ix v4 12) <| nm ((ag c_corners_seconds v4)) fun v6_21 => if v5_9 ≤ v2 then (X5_isLeftOfSide_b34 c_corners_firsts v1 v2 v3 v4 v5_9 v6_21 0) else (X5_isLeftOfSide_b34 c_corners_firsts v1 v2 v3 v4 v5_9 v6_21 1)
set_option maxHeartbeats 4000000 in
set_option maxRecDepth 100000 in
theorem t_X5_isLeftOfSide (l : Launch) (g : G9) (a_t a_corners a_corners_firsts a_corners_seconds : Nat) (c_corners_size : Int32) (c_corners_firsts c_corners_seconds : Ar) (v1 v2 v3 v4 r0 : Int32) (h : X5_isLeftOfSide c_corners_firsts c_corners_seconds v1 v2 v3 v4 = some r0) : CtI l g yX5_isLeftOfSide cX5_isLeftOfSide 10 .boolean 0 0 [.ref a_t, .int v1, .int v2, .int v3, .int v4] (w_X5_isLeftOfSide g a_t a_corners a_corners_firsts a_corners_seconds c_corners_size c_corners_firsts c_corners_seconds) r0 (w_X5_isLeftOfSide g a_t a_corners a_corners_firsts a_corners_seconds c_corners_size c_corners_firsts c_corners_seconds) := by
  refine startI (by decide) (Nat.le_of_ble_eq_true rfl) ?_
  intro p e s m below meth c A Q ls args M hW hl ret
  have hx := M.1
  have hb := M.2.1
  have hown := M.2.2.2.1
  have hu := M.2.2.2.2.1
  have hl : lv_has ls 10 [(0, .ref a_t), (1, .int v1), (2, .int v2), (3, .int v3), (4, .int v4)] := hl
  unfold X5_isLeftOfSide at h
  obtain ⟨H, eH⟩ : ∃ z, z = s.heap := ⟨_, rfl⟩
  obtain ⟨locs, eL⟩ : ∃ z, z = ([] : List Loc) := ⟨_, rfl⟩
  rw [← eL] at hW ⊢
  suffices hS9 : WD g s A (w_X5_isLeftOfSide g a_t a_corners a_corners_firsts a_corners_seconds c_corners_size c_corners_firsts c_corners_seconds) H locs → W p l e (rm9 0 0) s m args below meth c H locs 0 0 Q (F0 m 0 ls []) by
    rw [← eH] at hW ⊢
    exact hS9 hW
  clear hW eH eL
  intro hW
  have J45 : ∀ (v5 v6 k0 k1 : Int32) (H : Heap) (locs : List Loc) (ls : Array Slot), X5_isLeftOfSide_b45 c_corners_firsts v1 v2 v3 v4 v5 v6 k0 k1 = some r0 → WD g s A (w_X5_isLeftOfSide g a_t a_corners a_corners_firsts a_corners_seconds c_corners_size c_corners_firsts c_corners_seconds) H locs → lv_has ls 10 [(0, .ref a_t), (1, .int v1), (2, .int v2), (3, .int v3), (4, .int v4), (5, .int v5), (6, .int v6)] → W p l e (rm9 0 0) s m args below meth c H locs 0 0 Q (F0 m 45 ls [.int k1, .int k0]) := by
    intro v5 v6 k0 k1 H locs ls h hW hl
    unfold X5_isLeftOfSide_b45 at h
    refine lv_icmp_ne (pc := 45) (tgt := 50) hx hb (dd dX5_isLeftOfSide_p0 24 rfl) (by decide) (fun hc => ?_) (fun hc => ?_)
    · have h := it_f hc h
      refine lv_iload (pc := 50) hx hb (dd dX5_isLeftOfSide_p0 27 rfl) (lv_at hl 6 rfl) ?_
      refine lv_iload (pc := 52) hx hb (dd dX5_isLeftOfSide_p0 28 rfl) (lv_at hl 5 rfl) ?_
      refine lv_isub (pc := 54) hx hb (dd dX5_isLeftOfSide_p0 29 rfl) ?_
      obtain ⟨v7_55, ev7_55, h⟩ := nm_ex h
      refine rTopi (pc := 55) ev7_55 ?_
      refine lv_istore (pc := 55) (lv' := [(7, .int v7_55), (0, .ref a_t), (1, .int v1), (2, .int v2), (3, .int v3), (4, .int v4), (5, .int v5), (6, .int v6)]) hx hb (dd dX5_isLeftOfSide_p0 30 rfl) hl (by decide) rfl (fun ls hl => ?_)
      refine lv_iconst (pc := 57) (v := 2) hx hb (dd dX5_isLeftOfSide_p0 31 rfl) (by decide) ?_
      refine lv_iload_n (pc := 58) hx hb (dd dX5_isLeftOfSide_p0 32 rfl) rfl (lv_at hl 2 rfl) ?_
      refine lv_imul (pc := 59) hx hb (dd dX5_isLeftOfSide_p0 33 rfl) ?_
      refine lv_iconst (pc := 60) (v := 1) hx hb (dd dX5_isLeftOfSide_p0 34 rfl) (by decide) ?_
      refine lv_iadd (pc := 61) hx hb (dd dX5_isLeftOfSide_p0 35 rfl) ?_
      refine lv_iconst (pc := 62) (v := 2) hx hb (dd dX5_isLeftOfSide_p0 36 rfl) (by decide) ?_
      refine lv_aload_n (pc := 63) hx hb (dd dX5_isLeftOfSide_p0 37 rfl) rfl (lv_at hl 1 rfl) ?_
      refine rGet (pc := 64) M hW 0 0 iU5 rfl rfl (by decide) (uw1 63 rfl rfl) rfl (dd dX5_isLeftOfSide_p0 38 rfl) ?_
      refine rGet (pc := 67) M hW 1 0 iU1 rfl rfl (by decide) (uw1 47 rfl rfl) rfl (dd dX5_isLeftOfSide_p0 39 rfl) ?_
      refine lv_iload_n (pc := 70) hx hb (dd dX5_isLeftOfSide_p0 40 rfl) rfl (lv_at hl 4 rfl) ?_
      obtain ⟨hi, h⟩ := ck_ex h
      refine rIald (pc := 71) M hW 2 rfl hi (dd dX5_isLeftOfSide_p0 41 rfl) ?_
      refine lv_imul (pc := 72) hx hb (dd dX5_isLeftOfSide_p0 42 rfl) ?_
      refine lv_isub (pc := 73) hx hb (dd dX5_isLeftOfSide_p0 43 rfl) ?_
      refine lv_iload (pc := 74) hx hb (dd dX5_isLeftOfSide_p0 44 rfl) (lv_at hl 0 rfl) ?_
      refine lv_imul (pc := 76) hx hb (dd dX5_isLeftOfSide_p0 45 rfl) ?_
      obtain ⟨v8_77, ev8_77, h⟩ := nm_ex h
      refine rTopi (pc := 77) ev8_77 ?_
      refine lv_istore (pc := 77) (lv' := [(8, .int v8_77), (7, .int v7_55), (0, .ref a_t), (1, .int v1), (2, .int v2), (3, .int v3), (4, .int v4), (5, .int v5), (6, .int v6)]) hx hb (dd dX5_isLeftOfSide_p0 46 rfl) hl (by decide) rfl (fun ls hl => ?_)
      refine lv_iconst (pc := 79) (v := 2) hx hb (dd dX5_isLeftOfSide_p0 47 rfl) (by decide) ?_
      refine lv_iload_n (pc := 80) hx hb (dd dX5_isLeftOfSide_p0 48 rfl) rfl (lv_at hl 4 rfl) ?_
      refine lv_imul (pc := 81) hx hb (dd dX5_isLeftOfSide_p0 49 rfl) ?_
      refine lv_iconst (pc := 82) (v := 1) hx hb (dd dX5_isLeftOfSide_p0 50 rfl) (by decide) ?_
      refine lv_iadd (pc := 83) hx hb (dd dX5_isLeftOfSide_p0 51 rfl) ?_
      refine lv_iconst (pc := 84) (v := 2) hx hb (dd dX5_isLeftOfSide_p0 52 rfl) (by decide) ?_
      refine lv_iload (pc := 85) hx hb (dd dX5_isLeftOfSide_p0 53 rfl) (lv_at hl 7 rfl) ?_
      refine lv_imul (pc := 87) hx hb (dd dX5_isLeftOfSide_p0 54 rfl) ?_
      refine lv_isub (pc := 88) hx hb (dd dX5_isLeftOfSide_p0 55 rfl) ?_
      refine lv_aload_n (pc := 89) hx hb (dd dX5_isLeftOfSide_p0 56 rfl) rfl (lv_at hl 2 rfl) ?_
      refine rGet (pc := 90) M hW 0 0 iU5 rfl rfl (by decide) (uw1 63 rfl rfl) rfl (dd dX5_isLeftOfSide_p0 57 rfl) ?_
      refine rGet (pc := 93) M hW 1 0 iU1 rfl rfl (by decide) (uw1 47 rfl rfl) rfl (dd dX5_isLeftOfSide_p0 58 rfl) ?_
      refine lv_iload (pc := 96) hx hb (dd dX5_isLeftOfSide_p0 59 rfl) (lv_at hl 6 rfl) ?_
      obtain ⟨hi, h⟩ := ck_ex h
      refine rIald (pc := 98) M hW 2 rfl hi (dd dX5_isLeftOfSide_p1 0 rfl) ?_
      refine lv_aload_n (pc := 99) hx hb (dd dX5_isLeftOfSide_p1 1 rfl) rfl (lv_at hl 2 rfl) ?_
      refine rGet (pc := 100) M hW 0 0 iU5 rfl rfl (by decide) (uw1 63 rfl rfl) rfl (dd dX5_isLeftOfSide_p1 2 rfl) ?_
      refine rGet (pc := 103) M hW 1 0 iU1 rfl rfl (by decide) (uw1 47 rfl rfl) rfl (dd dX5_isLeftOfSide_p1 3 rfl) ?_
      refine lv_iload_n (pc := 106) hx hb (dd dX5_isLeftOfSide_p1 4 rfl) rfl (lv_at hl 5 rfl) ?_
      obtain ⟨hi, h⟩ := ck_ex h
      refine rIald (pc := 107) M hW 2 rfl hi (dd dX5_isLeftOfSide_p1 5 rfl) ?_
      refine lv_isub (pc := 108) hx hb (dd dX5_isLeftOfSide_p1 6 rfl) ?_
      refine lv_imul (pc := 109) hx hb (dd dX5_isLeftOfSide_p1 7 rfl) ?_
      obtain ⟨v9_110, ev9_110, h⟩ := nm_ex h
      refine rTopi (pc := 110) ev9_110 ?_
      refine lv_istore (pc := 110) (lv' := [(9, .int v9_110), (8, .int v8_77), (7, .int v7_55), (0, .ref a_t), (1, .int v1), (2, .int v2), (3, .int v3), (4, .int v4), (5, .int v5), (6, .int v6)]) hx hb (dd dX5_isLeftOfSide_p1 8 rfl) hl (by decide) rfl (fun ls hl => ?_)
      refine lv_iload (pc := 112) hx hb (dd dX5_isLeftOfSide_p1 9 rfl) (lv_at hl 2 rfl) ?_
      refine lv_if_le (pc := 114) (tgt := 132) hx hb (dd dX5_isLeftOfSide_p1 10 rfl) (by decide) (fun hc => ?_) (fun hc => ?_)
      · have h := it_t hc h
        refine lv_iload (pc := 132) hx hb (dd dX5_isLeftOfSide_p1 18 rfl) (lv_at hl 1 rfl) ?_
        refine lv_iload (pc := 134) hx hb (dd dX5_isLeftOfSide_p1 19 rfl) (lv_at hl 0 rfl) ?_
        refine lv_icmp_le (pc := 136) (tgt := 143) hx hb (dd dX5_isLeftOfSide_p1 20 rfl) (by decide) (fun hc => ?_) (fun hc => ?_)
        · have h := it_t hc h
          refine lv_iconst (pc := 143) (v := 0) hx hb (dd dX5_isLeftOfSide_p1 23 rfl) (by decide) ?_
          have hW9 := hW
          cases h
          exact ret _ _ _ 144 hW9 rfl (dd dX5_isLeftOfSide_p1 24 rfl)
        · have h := it_f hc h
          refine lv_iconst (pc := 139) (v := 1) hx hb (dd dX5_isLeftOfSide_p1 21 rfl) (by decide) ?_
          refine lv_goto (pc := 140) (tgt := 144) hx hb (dd dX5_isLeftOfSide_p1 22 rfl) (by decide) ?_
          have hW9 := hW
          cases h
          exact ret _ _ _ 144 hW9 rfl (dd dX5_isLeftOfSide_p1 24 rfl)
      · have h := it_f hc h
        refine lv_iload (pc := 117) hx hb (dd dX5_isLeftOfSide_p1 11 rfl) (lv_at hl 1 rfl) ?_
        refine lv_iload (pc := 119) hx hb (dd dX5_isLeftOfSide_p1 12 rfl) (lv_at hl 0 rfl) ?_
        refine lv_icmp_ge (pc := 121) (tgt := 128) hx hb (dd dX5_isLeftOfSide_p1 13 rfl) (by decide) (fun hc => ?_) (fun hc => ?_)
        · have h := it_t hc h
          refine lv_iconst (pc := 128) (v := 0) hx hb (dd dX5_isLeftOfSide_p1 16 rfl) (by decide) ?_
          refine lv_goto (pc := 129) (tgt := 144) hx hb (dd dX5_isLeftOfSide_p1 17 rfl) (by decide) ?_
          have hW9 := hW
          cases h
          exact ret _ _ _ 144 hW9 rfl (dd dX5_isLeftOfSide_p1 24 rfl)
        · have h := it_f hc h
          refine lv_iconst (pc := 124) (v := 1) hx hb (dd dX5_isLeftOfSide_p1 14 rfl) (by decide) ?_
          refine lv_goto (pc := 125) (tgt := 144) hx hb (dd dX5_isLeftOfSide_p1 15 rfl) (by decide) ?_
          have hW9 := hW
          cases h
          exact ret _ _ _ 144 hW9 rfl (dd dX5_isLeftOfSide_p1 24 rfl)
    · have h := it_t hc h
      refine lv_iconst (pc := 48) (v := 0) hx hb (dd dX5_isLeftOfSide_p0 25 rfl) (by decide) ?_
      have hW9 := hW
      cases h
      exact ret _ _ _ 49 hW9 rfl (dd dX5_isLeftOfSide_p0 26 rfl)
  have J34 : ∀ (v5 v6 k0 : Int32) (H : Heap) (locs : List Loc) (ls : Array Slot), X5_isLeftOfSide_b34 c_corners_firsts v1 v2 v3 v4 v5 v6 k0 = some r0 → WD g s A (w_X5_isLeftOfSide g a_t a_corners a_corners_firsts a_corners_seconds c_corners_size c_corners_firsts c_corners_seconds) H locs → lv_has ls 10 [(0, .ref a_t), (1, .int v1), (2, .int v2), (3, .int v3), (4, .int v4), (5, .int v5), (6, .int v6)] → W p l e (rm9 0 0) s m args below meth c H locs 0 0 Q (F0 m 34 ls [.int k0]) := by
    intro v5 v6 k0 H locs ls h hW hl
    unfold X5_isLeftOfSide_b34 at h
    refine lv_iload (pc := 34) hx hb (dd dX5_isLeftOfSide_p0 18 rfl) (lv_at hl 6 rfl) ?_
    refine lv_iload_n (pc := 36) hx hb (dd dX5_isLeftOfSide_p0 19 rfl) rfl (lv_at hl 2 rfl) ?_
    refine lv_icmp_le (pc := 37) (tgt := 44) hx hb (dd dX5_isLeftOfSide_p0 20 rfl) (by decide) (fun hc => ?_) (fun hc => ?_)
    · have h := it_t hc h
      refine lv_iconst (pc := 44) (v := 0) hx hb (dd dX5_isLeftOfSide_p0 23 rfl) (by decide) ?_
      exact J45 _ _ _ _ _ _ _ h hW (lv_sub hl [0, 1, 2, 3, 4, 5, 6] rfl)
    · have h := it_f hc h
      refine lv_iconst (pc := 40) (v := 1) hx hb (dd dX5_isLeftOfSide_p0 21 rfl) (by decide) ?_
      refine lv_goto (pc := 41) (tgt := 45) hx hb (dd dX5_isLeftOfSide_p0 22 rfl) (by decide) ?_
      exact J45 _ _ _ _ _ _ _ h hW (lv_sub hl [0, 1, 2, 3, 4, 5, 6] rfl)
  refine lv_aload_n (pc := 0) hx hb (dd dX5_isLeftOfSide_p0 0 rfl) rfl (lv_at hl 0 rfl) ?_
  refine rGet (pc := 1) M hW 0 0 iU5 rfl rfl (by decide) (uw1 63 rfl rfl) rfl (dd dX5_isLeftOfSide_p0 1 rfl) ?_
  refine rGet (pc := 4) M hW 1 1 iU1 rfl rfl (by decide) (uw1 50 rfl rfl) rfl (dd dX5_isLeftOfSide_p0 2 rfl) ?_
  refine lv_iload_n (pc := 7) hx hb (dd dX5_isLeftOfSide_p0 3 rfl) rfl (lv_at hl 3 rfl) ?_
  obtain ⟨hi, h⟩ := ck_ex h
  refine rIald (pc := 8) M hW 3 rfl hi (dd dX5_isLeftOfSide_p0 4 rfl) ?_
  obtain ⟨v5_9, ev5_9, h⟩ := nm_ex h
  refine rTopi (pc := 9) ev5_9 ?_
  refine lv_istore (pc := 9) (lv' := [(5, .int v5_9), (0, .ref a_t), (1, .int v1), (2, .int v2), (3, .int v3), (4, .int v4)]) hx hb (dd dX5_isLeftOfSide_p0 5 rfl) hl (by decide) rfl (fun ls hl => ?_)
  refine lv_aload_n (pc := 11) hx hb (dd dX5_isLeftOfSide_p0 6 rfl) rfl (lv_at hl 1 rfl) ?_
  refine rGet (pc := 12) M hW 0 0 iU5 rfl rfl (by decide) (uw1 63 rfl rfl) rfl (dd dX5_isLeftOfSide_p0 7 rfl) ?_
  refine rGet (pc := 15) M hW 1 1 iU1 rfl rfl (by decide) (uw1 50 rfl rfl) rfl (dd dX5_isLeftOfSide_p0 8 rfl) ?_
  refine lv_iload (pc := 18) hx hb (dd dX5_isLeftOfSide_p0 9 rfl) (lv_at hl 5 rfl) ?_
  obtain ⟨hi, h⟩ := ck_ex h
  refine rIald (pc := 20) M hW 3 rfl hi (dd dX5_isLeftOfSide_p0 10 rfl) ?_
  obtain ⟨v6_21, ev6_21, h⟩ := nm_ex h
  refine rTopi (pc := 21) ev6_21 ?_
  refine lv_istore (pc := 21) (lv' := [(6, .int v6_21), (5, .int v5_9), (0, .ref a_t), (1, .int v1), (2, .int v2), (3, .int v3), (4, .int v4)]) hx hb (dd dX5_isLeftOfSide_p0 11 rfl) hl (by decide) rfl (fun ls hl => ?_)
  refine lv_iload (pc := 23) hx hb (dd dX5_isLeftOfSide_p0 12 rfl) (lv_at hl 1 rfl) ?_
  refine lv_iload_n (pc := 25) hx hb (dd dX5_isLeftOfSide_p0 13 rfl) rfl (lv_at hl 4 rfl) ?_
  refine lv_icmp_le (pc := 26) (tgt := 33) hx hb (dd dX5_isLeftOfSide_p0 14 rfl) (by decide) (fun hc => ?_) (fun hc => ?_)
  · have h := it_t hc h
    refine lv_iconst (pc := 33) (v := 0) hx hb (dd dX5_isLeftOfSide_p0 17 rfl) (by decide) ?_
    exact J34 _ _ _ _ _ _ h hW (lv_sub hl [2, 3, 4, 5, 6, 1, 0] rfl)
  · have h := it_f hc h
    refine lv_iconst (pc := 29) (v := 1) hx hb (dd dX5_isLeftOfSide_p0 15 rfl) (by decide) ?_
    refine lv_goto (pc := 30) (tgt := 34) hx hb (dd dX5_isLeftOfSide_p0 16 rfl) (by decide) ?_
    exact J34 _ _ _ _ _ _ h hW (lv_sub hl [2, 3, 4, 5, 6, 1, 0] rfl)
abbrev w_X5_holds (g : G9) (a_t a_corners a_corners_firsts a_corners_seconds : Nat) (c_corners_size : Int32) (c_corners_firsts c_corners_seconds : Ar) : va_W := [ob a_t 5 [.ref a_corners], ob a_corners 1 [.ref a_corners_firsts, .ref a_corners_seconds, .int c_corners_size], ia g a_corners_firsts 12 c_corners_firsts, ia g a_corners_seconds 12 c_corners_seconds]
noncomputable def X5_holds_b18_57 (v1 v2 v3 v4 : Int32) : Option ((Int32 × Int32) ⊕ Int32) :=
  nm (v4 + 1) fun v4_57 => some (.inl (v3, v4_57))
noncomputable def X5_holds_b18_56 (v1 v2 v4 k0 : Int32) : Option ((Int32 × Int32) ⊕ Int32) :=
  X5_holds_b18_57 v1 v2 k0 v4
noncomputable def X5_holds_L18 (c_corners_size : Int32) (c_corners_firsts c_corners_seconds : Ar) (v1 v2 v3 v4 : Int32) : Option ((Int32 × Int32) ⊕ Int32) :=
  if c_corners_size ≤ v4 then (some (.inr v3)) else (bnd (X5_cornerAfter c_corners_size v4) <| fun r_38 => bnd (X5_isLeftOfSide c_corners_firsts c_corners_seconds v1 v2 v4 r_38) <| fun r_41 => if r_41 = 0 then (X5_holds_b18_57 v1 v2 v3 v4) else (if v3 = 0 then (X5_holds_b18_56 v1 v2 v4 1) else (X5_holds_b18_56 v1 v2 v4 0)))
noncomputable def X5_holds (c_corners_size : Int32) (c_corners_firsts c_corners_seconds : Ar) (v1 v2 : Int32) : Option Int32 :=
  if 3 ≤ c_corners_size then (bnd (whileV (fun st => X5_holds_L18 c_corners_size c_corners_firsts c_corners_seconds v1 v2 st.1 st.2) (0, 0)) <| (fun v3_63 => ck (bl v3_63) <| some v3_63)) else (some 0)
set_option maxHeartbeats 4000000 in
set_option maxRecDepth 100000 in
theorem t_X5_holds (l : Launch) (g : G9) (a_t a_corners a_corners_firsts a_corners_seconds : Nat) (c_corners_size : Int32) (c_corners_firsts c_corners_seconds : Ar) (v1 v2 r0 : Int32) (h : X5_holds c_corners_size c_corners_firsts c_corners_seconds v1 v2 = some r0) : CtI l g yX5_holds cX5_holds 5 .boolean 1 29 [.ref a_t, .int v1, .int v2] (w_X5_holds g a_t a_corners a_corners_firsts a_corners_seconds c_corners_size c_corners_firsts c_corners_seconds) r0 (w_X5_holds g a_t a_corners a_corners_firsts a_corners_seconds c_corners_size c_corners_firsts c_corners_seconds) := by
  refine startI (by decide) (Nat.le_of_ble_eq_true rfl) ?_
  intro p e s m below meth c A Q ls args M hW hl ret
  have hx := M.1
  have hb := M.2.1
  have hown := M.2.2.2.1
  have hu := M.2.2.2.2.1
  have hl : lv_has ls 5 [(0, .ref a_t), (1, .int v1), (2, .int v2)] := hl
  unfold X5_holds at h
  obtain ⟨H, eH⟩ : ∃ z, z = s.heap := ⟨_, rfl⟩
  obtain ⟨locs, eL⟩ : ∃ z, z = ([] : List Loc) := ⟨_, rfl⟩
  rw [← eL] at hW ⊢
  suffices hS9 : WD g s A (w_X5_holds g a_t a_corners a_corners_firsts a_corners_seconds c_corners_size c_corners_firsts c_corners_seconds) H locs → W p l e (rm9 1 29) s m args below meth c H locs 0 0 Q (F0 m 0 ls []) by
    rw [← eH] at hW ⊢
    exact hS9 hW
  clear hW eH eL
  intro hW
  refine lv_aload_n (pc := 0) hx hb (dd dX5_holds 0 rfl) rfl (lv_at hl 0 rfl) ?_
  refine rGet (pc := 1) M hW 0 0 iU5 rfl rfl (by decide) (uw1 63 rfl rfl) rfl (dd dX5_holds 1 rfl) ?_
  refine rGet (pc := 4) M hW 1 2 iU1 rfl rfl (by decide) (uw1 53 rfl rfl) rfl (dd dX5_holds 2 rfl) ?_
  refine lv_iconst (pc := 7) (v := 3) hx hb (dd dX5_holds 3 rfl) (by decide) ?_
  refine lv_icmp_ge (pc := 8) (tgt := 13) hx hb (dd dX5_holds 4 rfl) (by decide) (fun hc => ?_) (fun hc => ?_)
  · have h := it_t hc h
    refine lv_iconst (pc := 13) (v := 0) hx hb (dd dX5_holds 7 rfl) (by decide) ?_
    refine lv_istore_n (pc := 14) (lv' := [(3, .int 0), (0, .ref a_t), (1, .int v1), (2, .int v2)]) hx hb (dd dX5_holds 8 rfl) rfl hl (by decide) rfl (fun ls hl => ?_)
    refine lv_iconst (pc := 15) (v := 0) hx hb (dd dX5_holds 9 rfl) (by decide) ?_
    refine lv_istore (pc := 16) (lv' := [(4, .int 0), (3, .int 0), (0, .ref a_t), (1, .int v1), (2, .int v2)]) hx hb (dd dX5_holds 10 rfl) hl (by decide) rfl (fun ls hl => ?_)
    obtain ⟨ex, hw, h⟩ := bnd_ex h
    refine loopW (fun st => ∀ (H : Heap) (locs : List Loc) (ls : Array Slot), WD g s A (w_X5_holds g a_t a_corners a_corners_firsts a_corners_seconds c_corners_size c_corners_firsts c_corners_seconds) H locs → lv_has ls 5 [(0, .ref a_t), (1, .int v1), (2, .int v2), (3, .int (st.1)), (4, .int (st.2))] → W p l e (rm9 1 29) s m args below meth c H locs 0 0 Q (F0 m 18 ls [])) (fun (ex : Int32) => ∀ (H : Heap) (locs : List Loc) (ls : Array Slot), WD g s A (w_X5_holds g a_t a_corners a_corners_firsts a_corners_seconds c_corners_size c_corners_firsts c_corners_seconds) H locs → lv_has ls 5 [(3, .int ex)] → W p l e (rm9 1 29) s m args below meth c H locs 0 0 Q (F0 m 63 ls [])) ?_ hw ?_ H locs ls hW (lv_sub hl [2, 3, 4, 1, 0] rfl)
    · rintro ⟨v3, v4⟩ o hb9 hk H locs ls hW hl
      have h : X5_holds_L18 c_corners_size c_corners_firsts c_corners_seconds v1 v2 v3 v4 = some o := hb9
      clear hb9
      unfold X5_holds_L18 at h
      have J57 : ∀ (v3 v4 : Int32) (H : Heap) (locs : List Loc) (ls : Array Slot), X5_holds_b18_57 v1 v2 v3 v4 = some o → WD g s A (w_X5_holds g a_t a_corners a_corners_firsts a_corners_seconds c_corners_size c_corners_firsts c_corners_seconds) H locs → lv_has ls 5 [(0, .ref a_t), (1, .int v1), (2, .int v2), (3, .int v3), (4, .int v4)] → W p l e (rm9 1 29) s m args below meth c H locs 0 0 Q (F0 m 57 ls []) := by
        intro v3 v4 H locs ls h hW hl
        unfold X5_holds_b18_57 at h
        obtain ⟨v4_57, ev4_57, h⟩ := nm_ex h
        refine lv_iinc (pc := 57) (v := v4_57) (lv' := [(4, .int v4_57), (0, .ref a_t), (1, .int v1), (2, .int v2), (3, .int v3)]) hx hb (dd dX5_holds 31 rfl) hl (k := 4) rfl (by rw [ev4_57]; rfl) (by decide) rfl (fun ls hl => ?_)
        refine lv_goto (pc := 60) (tgt := 18) hx hb (dd dX5_holds 32 rfl) (by decide) ?_
        obtain rfl := Option.some.inj h
        exact hk _ _ _ hW (lv_sub hl [1, 2, 3, 4, 0] rfl)
      have J56 : ∀ (v4 k0 : Int32) (H : Heap) (locs : List Loc) (ls : Array Slot), X5_holds_b18_56 v1 v2 v4 k0 = some o → WD g s A (w_X5_holds g a_t a_corners a_corners_firsts a_corners_seconds c_corners_size c_corners_firsts c_corners_seconds) H locs → lv_has ls 5 [(0, .ref a_t), (1, .int v1), (2, .int v2), (4, .int v4)] → W p l e (rm9 1 29) s m args below meth c H locs 0 0 Q (F0 m 56 ls [.int k0]) := by
        intro v4 k0 H locs ls h hW hl
        unfold X5_holds_b18_56 at h
        refine lv_istore_n (pc := 56) (lv' := [(3, .int k0), (0, .ref a_t), (1, .int v1), (2, .int v2), (4, .int v4)]) hx hb (dd dX5_holds 30 rfl) rfl hl (by decide) rfl (fun ls hl => ?_)
        exact J57 _ _ _ _ _ h hW (lv_sub hl [1, 2, 3, 0, 4] rfl)
      refine lv_iload (pc := 18) hx hb (dd dX5_holds 11 rfl) (lv_at hl 4 rfl) ?_
      refine lv_aload_n (pc := 20) hx hb (dd dX5_holds 12 rfl) rfl (lv_at hl 0 rfl) ?_
      refine rGet (pc := 21) M hW 0 0 iU5 rfl rfl (by decide) (uw1 63 rfl rfl) rfl (dd dX5_holds 13 rfl) ?_
      refine rGet (pc := 24) M hW 1 2 iU1 rfl rfl (by decide) (uw1 53 rfl rfl) rfl (dd dX5_holds 14 rfl) ?_
      refine lv_icmp_ge (pc := 27) (tgt := 63) hx hb (dd dX5_holds 15 rfl) (by decide) (fun hc => ?_) (fun hc => ?_)
      · have h := it_t hc h
        obtain rfl := Option.some.inj h
        exact hk _ _ _ hW (lv_sub hl [3] rfl)
      · have h := it_f hc h
        refine lv_aload_n (pc := 30) hx hb (dd dX5_holds 16 rfl) rfl (lv_at hl 0 rfl) ?_
        refine lv_iload_n (pc := 31) hx hb (dd dX5_holds 17 rfl) rfl (lv_at hl 1 rfl) ?_
        refine lv_iload_n (pc := 32) hx hb (dd dX5_holds 18 rfl) rfl (lv_at hl 2 rfl) ?_
        refine lv_iload (pc := 33) hx hb (dd dX5_holds 19 rfl) (lv_at hl 4 rfl) ?_
        refine lv_aload_n (pc := 35) hx hb (dd dX5_holds 20 rfl) rfl (lv_at hl 0 rfl) ?_
        refine lv_iload (pc := 36) hx hb (dd dX5_holds 21 rfl) (lv_at hl 4 rfl) ?_
        obtain ⟨r_38, hr, h⟩ := bnd_ex h
        refine callVI (pc := 38) (na := 1) (As := [.int v4]) (rest := [.int v4, .int v2, .int v1, .ref a_t]) (ws2 := (w_X5_holds g a_t a_corners a_corners_firsts a_corners_seconds c_corners_size c_corners_firsts c_corners_seconds)) M hl.1 hW (t_X5_cornerAfter l g a_t a_corners a_corners_firsts a_corners_seconds c_corners_size v4 r_38 hr) rfl [0, 1] [2, 3] [2, 3, 0, 1] rfl rfl rfl rfl rfl rfl rfl 0 5 rfl rfl rfl (uw3 35 rfl rfl) (uw3 32 rfl rfl) (uw3 34 rfl rfl) (uwp 4 rfl rfl) (uw1 2 rfl rfl) ⟨by decide, by decide, by decide⟩ rfl ⟨by decide, by decide⟩ (Nat.le_of_ble_eq_true rfl) ⟨Nat.zero_le _, Nat.zero_le _⟩ (dd dX5_holds 22 rfl) (fun H locs hW => ?_)
        obtain ⟨r_41, hr, h⟩ := bnd_ex h
        refine callVI (pc := 41) (na := 4) (As := [.int v1, .int v2, .int v4, .int r_38]) (rest := []) (ws2 := (w_X5_holds g a_t a_corners a_corners_firsts a_corners_seconds c_corners_size c_corners_firsts c_corners_seconds)) M hl.1 hW (t_X5_isLeftOfSide l g a_t a_corners a_corners_firsts a_corners_seconds c_corners_size c_corners_firsts c_corners_seconds v1 v2 v4 r_38 r_41 hr) rfl [0, 1, 2, 3] [] [0, 1, 2, 3] rfl rfl rfl rfl rfl rfl rfl 0 5 rfl rfl rfl (uw3 66 rfl rfl) (uw3 63 rfl rfl) (uw3 65 rfl rfl) (uwp 7 rfl rfl) (uw1 2 rfl rfl) ⟨by decide, by decide, by decide⟩ rfl ⟨by decide, by decide⟩ (Nat.le_of_ble_eq_true rfl) ⟨Nat.zero_le _, Nat.zero_le _⟩ (dd dX5_holds 23 rfl) (fun H locs hW => ?_)
        refine lv_if_eq (pc := 44) (tgt := 57) hx hb (dd dX5_holds 24 rfl) (by decide) (fun hc => ?_) (fun hc => ?_)
        · have h := it_t hc h
          exact J57 _ _ _ _ _ h hW (lv_sub hl [0, 1, 2, 3, 4] rfl)
        · have h := it_f hc h
          refine lv_iload_n (pc := 47) hx hb (dd dX5_holds 25 rfl) rfl (lv_at hl 3 rfl) ?_
          refine lv_if_ne (pc := 48) (tgt := 55) hx hb (dd dX5_holds 26 rfl) (by decide) (fun hc => ?_) (fun hc => ?_)
          · have h := it_f hc h
            refine lv_iconst (pc := 55) (v := 0) hx hb (dd dX5_holds 29 rfl) (by decide) ?_
            exact J56 _ _ _ _ _ h hW (lv_sub hl [0, 1, 2, 4] rfl)
          · have h := it_t hc h
            refine lv_iconst (pc := 51) (v := 1) hx hb (dd dX5_holds 27 rfl) (by decide) ?_
            refine lv_goto (pc := 52) (tgt := 56) hx hb (dd dX5_holds 28 rfl) (by decide) ?_
            exact J56 _ _ _ _ _ h hW (lv_sub hl [0, 1, 2, 4] rfl)
    · obtain ⟨v3_63, e9⟩ : ∃ z, z = ex := ⟨_, rfl⟩
      subst e9
      intro H locs ls hW hl
      refine lv_iload_n (pc := 63) hx hb (dd dX5_holds 33 rfl) rfl (lv_at hl 0 rfl) ?_
      obtain ⟨hi9, h⟩ := ck_ex h
      have hW9 := hW
      cases h
      exact ret _ _ _ 64 hW9 (bl_nar hi9) (dd dX5_holds 34 rfl)
  · have h := it_f hc h
    refine lv_iconst (pc := 11) (v := 0) hx hb (dd dX5_holds 5 rfl) (by decide) ?_
    have hW9 := hW
    cases h
    exact ret _ _ _ 12 hW9 rfl (dd dX5_holds 6 rfl)
abbrev w_X0_isField (g : G9) (a_p1 a_t a_p1_0 a_p1_1 a_p1_2 a_p1_3 a_p1_0_corners a_p1_1_corners a_p1_2_corners a_p1_3_corners a_p1_0_corners_firsts a_p1_0_corners_seconds a_p1_1_corners_firsts a_p1_1_corners_seconds a_p1_2_corners_firsts a_p1_2_corners_seconds a_p1_3_corners_firsts a_p1_3_corners_seconds a_kinds a_nears a_depths : Nat) (c_laid c_head c_fieldCount c_innerCount c_p1_0_corners_size c_p1_1_corners_size c_p1_2_corners_size c_p1_3_corners_size : Int32) (c_p1_0_corners_firsts c_p1_0_corners_seconds c_p1_1_corners_firsts c_p1_1_corners_seconds c_p1_2_corners_firsts c_p1_2_corners_seconds c_p1_3_corners_firsts c_p1_3_corners_seconds : Ar) : va_W := [ra g a_p1 4 (rg a_p1_0 a_p1_1 a_p1_2 a_p1_3), ob a_t 0 [.ref a_kinds, .ref a_nears, .ref a_depths, .int c_laid, .int c_head, .int c_fieldCount, .int c_innerCount], ob a_p1_0 5 [.ref a_p1_0_corners], ob a_p1_1 5 [.ref a_p1_1_corners], ob a_p1_2 5 [.ref a_p1_2_corners], ob a_p1_3 5 [.ref a_p1_3_corners], ob a_p1_0_corners 1 [.ref a_p1_0_corners_firsts, .ref a_p1_0_corners_seconds, .int c_p1_0_corners_size], ob a_p1_1_corners 1 [.ref a_p1_1_corners_firsts, .ref a_p1_1_corners_seconds, .int c_p1_1_corners_size], ob a_p1_2_corners 1 [.ref a_p1_2_corners_firsts, .ref a_p1_2_corners_seconds, .int c_p1_2_corners_size], ob a_p1_3_corners 1 [.ref a_p1_3_corners_firsts, .ref a_p1_3_corners_seconds, .int c_p1_3_corners_size], ia g a_p1_0_corners_firsts 12 c_p1_0_corners_firsts, ia g a_p1_0_corners_seconds 12 c_p1_0_corners_seconds, ia g a_p1_1_corners_firsts 12 c_p1_1_corners_firsts, ia g a_p1_1_corners_seconds 12 c_p1_1_corners_seconds, ia g a_p1_2_corners_firsts 12 c_p1_2_corners_firsts, ia g a_p1_2_corners_seconds 12 c_p1_2_corners_seconds, ia g a_p1_3_corners_firsts 12 c_p1_3_corners_firsts, ia g a_p1_3_corners_seconds 12 c_p1_3_corners_seconds]
noncomputable def X0_isField_L22 (c_p1_0_corners_size c_p1_1_corners_size c_p1_2_corners_size c_p1_3_corners_size : Int32) (c_p1_0_corners_firsts c_p1_0_corners_seconds c_p1_1_corners_firsts c_p1_1_corners_seconds c_p1_2_corners_firsts c_p1_2_corners_seconds c_p1_3_corners_firsts c_p1_3_corners_seconds : Ar) (v2 v3 v4 : Int32) : Option (Int32 ⊕ (Unit ⊕ Unit)) :=
  if (nI 4) ≤ v4 then (some (.inr (.inl ()))) else (if v4 = 0 then (bnd (X5_holds c_p1_0_corners_size c_p1_0_corners_firsts c_p1_0_corners_seconds v2 v3) <| fun r_35 => if r_35 = 0 then (nm (v4 + 1) fun v4_43 => some (.inl v4_43)) else (some (.inr (.inr (()))))) else (if v4 = 1 then (bnd (X5_holds c_p1_1_corners_size c_p1_1_corners_firsts c_p1_1_corners_seconds v2 v3) <| fun r_35 => if r_35 = 0 then (nm (v4 + 1) fun v4_43 => some (.inl v4_43)) else (some (.inr (.inr (()))))) else (if v4 = 2 then (bnd (X5_holds c_p1_2_corners_size c_p1_2_corners_firsts c_p1_2_corners_seconds v2 v3) <| fun r_35 => if r_35 = 0 then (nm (v4 + 1) fun v4_43 => some (.inl v4_43)) else (some (.inr (.inr (()))))) else (if v4 = 3 then (bnd (X5_holds c_p1_3_corners_size c_p1_3_corners_firsts c_p1_3_corners_seconds v2 v3) <| fun r_35 => if r_35 = 0 then (nm (v4 + 1) fun v4_43 => some (.inl v4_43)) else (some (.inr (.inr (()))))) else none))))
noncomputable def X0_isField (c_p1_0_corners_size c_p1_1_corners_size c_p1_2_corners_size c_p1_3_corners_size : Int32) (c_p1_0_corners_firsts c_p1_0_corners_seconds c_p1_1_corners_firsts c_p1_1_corners_seconds c_p1_2_corners_firsts c_p1_2_corners_seconds c_p1_3_corners_firsts c_p1_3_corners_seconds : Ar) (v2 v3 : Int32) : Option Int32 :=
  if (nI 4) < 1 then (some 0) else (bnd (X5_holds c_p1_0_corners_size c_p1_0_corners_firsts c_p1_0_corners_seconds v2 v3) <| fun r_11 => if r_11 = 0 then (some 0) else (bnd (whileV (fun st => X0_isField_L22 c_p1_0_corners_size c_p1_1_corners_size c_p1_2_corners_size c_p1_3_corners_size c_p1_0_corners_firsts c_p1_0_corners_seconds c_p1_1_corners_firsts c_p1_1_corners_seconds c_p1_2_corners_firsts c_p1_2_corners_seconds c_p1_3_corners_firsts c_p1_3_corners_seconds v2 v3 st) 1) <| (Sum.elim (fun (_ : Unit) => some 1) (fun (_ : Unit) => some 0))))
set_option maxHeartbeats 4000000 in
set_option maxRecDepth 100000 in
theorem t_X0_isField (l : Launch) (g : G9) (a_p1 a_t a_p1_0 a_p1_1 a_p1_2 a_p1_3 a_p1_0_corners a_p1_1_corners a_p1_2_corners a_p1_3_corners a_p1_0_corners_firsts a_p1_0_corners_seconds a_p1_1_corners_firsts a_p1_1_corners_seconds a_p1_2_corners_firsts a_p1_2_corners_seconds a_p1_3_corners_firsts a_p1_3_corners_seconds a_kinds a_nears a_depths : Nat) (c_laid c_head c_fieldCount c_innerCount c_p1_0_corners_size c_p1_1_corners_size c_p1_2_corners_size c_p1_3_corners_size : Int32) (c_p1_0_corners_firsts c_p1_0_corners_seconds c_p1_1_corners_firsts c_p1_1_corners_seconds c_p1_2_corners_firsts c_p1_2_corners_seconds c_p1_3_corners_firsts c_p1_3_corners_seconds : Ar) (v2 v3 r0 : Int32) (h : X0_isField c_p1_0_corners_size c_p1_1_corners_size c_p1_2_corners_size c_p1_3_corners_size c_p1_0_corners_firsts c_p1_0_corners_seconds c_p1_1_corners_firsts c_p1_1_corners_seconds c_p1_2_corners_firsts c_p1_2_corners_seconds c_p1_3_corners_firsts c_p1_3_corners_seconds v2 v3 = some r0) : CtI l g yX0_isField cX0_isField 5 .boolean 2 53 [.ref a_t, .ref a_p1, .int v2, .int v3] (w_X0_isField g a_p1 a_t a_p1_0 a_p1_1 a_p1_2 a_p1_3 a_p1_0_corners a_p1_1_corners a_p1_2_corners a_p1_3_corners a_p1_0_corners_firsts a_p1_0_corners_seconds a_p1_1_corners_firsts a_p1_1_corners_seconds a_p1_2_corners_firsts a_p1_2_corners_seconds a_p1_3_corners_firsts a_p1_3_corners_seconds a_kinds a_nears a_depths c_laid c_head c_fieldCount c_innerCount c_p1_0_corners_size c_p1_1_corners_size c_p1_2_corners_size c_p1_3_corners_size c_p1_0_corners_firsts c_p1_0_corners_seconds c_p1_1_corners_firsts c_p1_1_corners_seconds c_p1_2_corners_firsts c_p1_2_corners_seconds c_p1_3_corners_firsts c_p1_3_corners_seconds) r0 (w_X0_isField g a_p1 a_t a_p1_0 a_p1_1 a_p1_2 a_p1_3 a_p1_0_corners a_p1_1_corners a_p1_2_corners a_p1_3_corners a_p1_0_corners_firsts a_p1_0_corners_seconds a_p1_1_corners_firsts a_p1_1_corners_seconds a_p1_2_corners_firsts a_p1_2_corners_seconds a_p1_3_corners_firsts a_p1_3_corners_seconds a_kinds a_nears a_depths c_laid c_head c_fieldCount c_innerCount c_p1_0_corners_size c_p1_1_corners_size c_p1_2_corners_size c_p1_3_corners_size c_p1_0_corners_firsts c_p1_0_corners_seconds c_p1_1_corners_firsts c_p1_1_corners_seconds c_p1_2_corners_firsts c_p1_2_corners_seconds c_p1_3_corners_firsts c_p1_3_corners_seconds) := by
  refine startI (by decide) (Nat.le_of_ble_eq_true rfl) ?_
  intro p e s m below meth c A Q ls args M hW hl ret
  have hx := M.1
  have hb := M.2.1
  have hown := M.2.2.2.1
  have hu := M.2.2.2.2.1
  have hl : lv_has ls 5 [(0, .ref a_t), (1, .ref a_p1), (2, .int v2), (3, .int v3)] := hl
  unfold X0_isField at h
  obtain ⟨H, eH⟩ : ∃ z, z = s.heap := ⟨_, rfl⟩
  obtain ⟨locs, eL⟩ : ∃ z, z = ([] : List Loc) := ⟨_, rfl⟩
  rw [← eL] at hW ⊢
  suffices hS9 : WD g s A (w_X0_isField g a_p1 a_t a_p1_0 a_p1_1 a_p1_2 a_p1_3 a_p1_0_corners a_p1_1_corners a_p1_2_corners a_p1_3_corners a_p1_0_corners_firsts a_p1_0_corners_seconds a_p1_1_corners_firsts a_p1_1_corners_seconds a_p1_2_corners_firsts a_p1_2_corners_seconds a_p1_3_corners_firsts a_p1_3_corners_seconds a_kinds a_nears a_depths c_laid c_head c_fieldCount c_innerCount c_p1_0_corners_size c_p1_1_corners_size c_p1_2_corners_size c_p1_3_corners_size c_p1_0_corners_firsts c_p1_0_corners_seconds c_p1_1_corners_firsts c_p1_1_corners_seconds c_p1_2_corners_firsts c_p1_2_corners_seconds c_p1_3_corners_firsts c_p1_3_corners_seconds) H locs → W p l e (rm9 2 53) s m args below meth c H locs 0 0 Q (F0 m 0 ls []) by
    rw [← eH] at hW ⊢
    exact hS9 hW
  clear hW eH eL
  intro hW
  refine lv_aload_n (pc := 0) hx hb (dd dX0_isField 0 rfl) rfl (lv_at hl 1 rfl) ?_
  refine rAlenR (pc := 1) M hW 0 rfl (dd dX0_isField 1 rfl) ?_
  refine lv_iconst (pc := 2) (v := 1) hx hb (dd dX0_isField 2 rfl) (by decide) ?_
  refine lv_icmp_lt (pc := 3) (tgt := 17) hx hb (dd dX0_isField 3 rfl) (by decide) (fun hc => ?_) (fun hc => ?_)
  · have h := it_t hc h
    refine lv_iconst (pc := 17) (v := 0) hx hb (dd dX0_isField 11 rfl) (by decide) ?_
    have hW9 := hW
    cases h
    exact ret _ _ _ 18 hW9 rfl (dd dX0_isField 12 rfl)
  · have h := it_f hc h
    refine lv_aload_n (pc := 6) hx hb (dd dX0_isField 4 rfl) rfl (lv_at hl 1 rfl) ?_
    refine lv_iconst (pc := 7) (v := 0) hx hb (dd dX0_isField 5 rfl) (by decide) ?_
    refine rAald (pc := 8) M hW 0 (v := .ref a_p1_0) rfl (by decide) rfl (dd dX0_isField 6 rfl) ?_
    refine lv_iload_n (pc := 9) hx hb (dd dX0_isField 7 rfl) rfl (lv_at hl 2 rfl) ?_
    refine lv_iload_n (pc := 10) hx hb (dd dX0_isField 8 rfl) rfl (lv_at hl 3 rfl) ?_
    obtain ⟨r_11, hr, h⟩ := bnd_ex h
    refine callVI (pc := 11) (na := 2) (As := [.int v2, .int v3]) (rest := []) (ws2 := (w_X0_isField g a_p1 a_t a_p1_0 a_p1_1 a_p1_2 a_p1_3 a_p1_0_corners a_p1_1_corners a_p1_2_corners a_p1_3_corners a_p1_0_corners_firsts a_p1_0_corners_seconds a_p1_1_corners_firsts a_p1_1_corners_seconds a_p1_2_corners_firsts a_p1_2_corners_seconds a_p1_3_corners_firsts a_p1_3_corners_seconds a_kinds a_nears a_depths c_laid c_head c_fieldCount c_innerCount c_p1_0_corners_size c_p1_1_corners_size c_p1_2_corners_size c_p1_3_corners_size c_p1_0_corners_firsts c_p1_0_corners_seconds c_p1_1_corners_firsts c_p1_1_corners_seconds c_p1_2_corners_firsts c_p1_2_corners_seconds c_p1_3_corners_firsts c_p1_3_corners_seconds)) M hl.1 hW (t_X5_holds l g a_p1_0 a_p1_0_corners a_p1_0_corners_firsts a_p1_0_corners_seconds c_p1_0_corners_size c_p1_0_corners_firsts c_p1_0_corners_seconds v2 v3 r_11 hr) rfl [2, 6, 10, 11] [0, 1, 3, 4, 5, 7, 8, 9, 12, 13, 14, 15, 16, 17] [0, 1, 14, 2, 3, 4, 15, 5, 6, 7, 16, 17, 8, 9, 10, 11, 12, 13] rfl rfl rfl rfl rfl rfl rfl 2 5 rfl rfl rfl (uw3 62 rfl rfl) (uw3 59 rfl rfl) (uw3 60 rfl rfl) (uw3 61 rfl rfl) (uw1 2 rfl rfl) ⟨by decide, by decide, by decide⟩ rfl ⟨by decide, by decide⟩ (Nat.le_of_ble_eq_true rfl) ⟨Nat.zero_le _, Nat.zero_le _⟩ (dd dX0_isField 9 rfl) (fun H locs hW => ?_)
    refine lv_if_ne (pc := 14) (tgt := 19) hx hb (dd dX0_isField 10 rfl) (by decide) (fun hc => ?_) (fun hc => ?_)
    · have h := it_f hc h
      refine lv_iconst (pc := 19) (v := 1) hx hb (dd dX0_isField 13 rfl) (by decide) ?_
      refine lv_istore (pc := 20) (lv' := [(4, .int 1), (0, .ref a_t), (1, .ref a_p1), (2, .int v2), (3, .int v3)]) hx hb (dd dX0_isField 14 rfl) hl (by decide) rfl (fun ls hl => ?_)
      obtain ⟨ex, hw, h⟩ := bnd_ex h
      refine loopW (fun st => ∀ (H : Heap) (locs : List Loc) (ls : Array Slot), WD g s A (w_X0_isField g a_p1 a_t a_p1_0 a_p1_1 a_p1_2 a_p1_3 a_p1_0_corners a_p1_1_corners a_p1_2_corners a_p1_3_corners a_p1_0_corners_firsts a_p1_0_corners_seconds a_p1_1_corners_firsts a_p1_1_corners_seconds a_p1_2_corners_firsts a_p1_2_corners_seconds a_p1_3_corners_firsts a_p1_3_corners_seconds a_kinds a_nears a_depths c_laid c_head c_fieldCount c_innerCount c_p1_0_corners_size c_p1_1_corners_size c_p1_2_corners_size c_p1_3_corners_size c_p1_0_corners_firsts c_p1_0_corners_seconds c_p1_1_corners_firsts c_p1_1_corners_seconds c_p1_2_corners_firsts c_p1_2_corners_seconds c_p1_3_corners_firsts c_p1_3_corners_seconds) H locs → lv_has ls 5 [(1, .ref a_p1), (2, .int v2), (3, .int v3), (4, .int st)] → W p l e (rm9 2 53) s m args below meth c H locs 0 0 Q (F0 m 22 ls [])) (Sum.elim (fun (ex : Unit) => ∀ (H : Heap) (locs : List Loc) (ls : Array Slot), WD g s A (w_X0_isField g a_p1 a_t a_p1_0 a_p1_1 a_p1_2 a_p1_3 a_p1_0_corners a_p1_1_corners a_p1_2_corners a_p1_3_corners a_p1_0_corners_firsts a_p1_0_corners_seconds a_p1_1_corners_firsts a_p1_1_corners_seconds a_p1_2_corners_firsts a_p1_2_corners_seconds a_p1_3_corners_firsts a_p1_3_corners_seconds a_kinds a_nears a_depths c_laid c_head c_fieldCount c_innerCount c_p1_0_corners_size c_p1_1_corners_size c_p1_2_corners_size c_p1_3_corners_size c_p1_0_corners_firsts c_p1_0_corners_seconds c_p1_1_corners_firsts c_p1_1_corners_seconds c_p1_2_corners_firsts c_p1_2_corners_seconds c_p1_3_corners_firsts c_p1_3_corners_seconds) H locs → lv_has ls 5 [] → W p l e (rm9 2 53) s m args below meth c H locs 0 0 Q (F0 m 49 ls [])) (fun (ex : Unit) => ∀ (H : Heap) (locs : List Loc) (ls : Array Slot), WD g s A (w_X0_isField g a_p1 a_t a_p1_0 a_p1_1 a_p1_2 a_p1_3 a_p1_0_corners a_p1_1_corners a_p1_2_corners a_p1_3_corners a_p1_0_corners_firsts a_p1_0_corners_seconds a_p1_1_corners_firsts a_p1_1_corners_seconds a_p1_2_corners_firsts a_p1_2_corners_seconds a_p1_3_corners_firsts a_p1_3_corners_seconds a_kinds a_nears a_depths c_laid c_head c_fieldCount c_innerCount c_p1_0_corners_size c_p1_1_corners_size c_p1_2_corners_size c_p1_3_corners_size c_p1_0_corners_firsts c_p1_0_corners_seconds c_p1_1_corners_firsts c_p1_1_corners_seconds c_p1_2_corners_firsts c_p1_2_corners_seconds c_p1_3_corners_firsts c_p1_3_corners_seconds) H locs → lv_has ls 5 [] → W p l e (rm9 2 53) s m args below meth c H locs 0 0 Q (F0 m 41 ls []))) ?_ hw ?_ H locs ls hW (lv_sub hl [2, 3, 4, 0] rfl)
      · rintro v4 o hb9 hk H locs ls hW hl
        have h : X0_isField_L22 c_p1_0_corners_size c_p1_1_corners_size c_p1_2_corners_size c_p1_3_corners_size c_p1_0_corners_firsts c_p1_0_corners_seconds c_p1_1_corners_firsts c_p1_1_corners_seconds c_p1_2_corners_firsts c_p1_2_corners_seconds c_p1_3_corners_firsts c_p1_3_corners_seconds v2 v3 v4 = some o := hb9
        clear hb9
        unfold X0_isField_L22 at h
        refine lv_iload (pc := 22) hx hb (dd dX0_isField 15 rfl) (lv_at hl 3 rfl) ?_
        refine lv_aload_n (pc := 24) hx hb (dd dX0_isField 16 rfl) rfl (lv_at hl 0 rfl) ?_
        refine rAlenR (pc := 25) M hW 0 rfl (dd dX0_isField 17 rfl) ?_
        refine lv_icmp_ge (pc := 26) (tgt := 49) hx hb (dd dX0_isField 18 rfl) (by decide) (fun hc => ?_) (fun hc => ?_)
        · have h := it_t hc h
          obtain rfl := Option.some.inj h
          exact hk _ _ _ hW (lv_sub hl [] rfl)
        · have h := it_f hc h
          refine lv_aload_n (pc := 29) hx hb (dd dX0_isField 19 rfl) rfl (lv_at hl 0 rfl) ?_
          refine lv_iload (pc := 30) hx hb (dd dX0_isField 20 rfl) (lv_at hl 3 rfl) ?_
          by_cases hc : v4 = 0
          · have h := it_t hc h
            refine rAald (pc := 32) M hW 0 (v := .ref a_p1_0) rfl (by rw [hc]; decide) (by rw [hc]; rfl) (dd dX0_isField 21 rfl) ?_
            refine lv_iload_n (pc := 33) hx hb (dd dX0_isField 22 rfl) rfl (lv_at hl 1 rfl) ?_
            refine lv_iload_n (pc := 34) hx hb (dd dX0_isField 23 rfl) rfl (lv_at hl 2 rfl) ?_
            obtain ⟨r_35, hr, h⟩ := bnd_ex h
            refine callVI (pc := 35) (na := 2) (As := [.int v2, .int v3]) (rest := []) (ws2 := (w_X0_isField g a_p1 a_t a_p1_0 a_p1_1 a_p1_2 a_p1_3 a_p1_0_corners a_p1_1_corners a_p1_2_corners a_p1_3_corners a_p1_0_corners_firsts a_p1_0_corners_seconds a_p1_1_corners_firsts a_p1_1_corners_seconds a_p1_2_corners_firsts a_p1_2_corners_seconds a_p1_3_corners_firsts a_p1_3_corners_seconds a_kinds a_nears a_depths c_laid c_head c_fieldCount c_innerCount c_p1_0_corners_size c_p1_1_corners_size c_p1_2_corners_size c_p1_3_corners_size c_p1_0_corners_firsts c_p1_0_corners_seconds c_p1_1_corners_firsts c_p1_1_corners_seconds c_p1_2_corners_firsts c_p1_2_corners_seconds c_p1_3_corners_firsts c_p1_3_corners_seconds)) M hl.1 hW (t_X5_holds l g a_p1_0 a_p1_0_corners a_p1_0_corners_firsts a_p1_0_corners_seconds c_p1_0_corners_size c_p1_0_corners_firsts c_p1_0_corners_seconds v2 v3 r_35 hr) rfl [2, 6, 10, 11] [0, 1, 3, 4, 5, 7, 8, 9, 12, 13, 14, 15, 16, 17] [0, 1, 14, 2, 3, 4, 15, 5, 6, 7, 16, 17, 8, 9, 10, 11, 12, 13] rfl rfl rfl rfl rfl rfl rfl 2 5 rfl rfl rfl (uw3 62 rfl rfl) (uw3 59 rfl rfl) (uw3 60 rfl rfl) (uw3 61 rfl rfl) (uw1 2 rfl rfl) ⟨by decide, by decide, by decide⟩ rfl ⟨by decide, by decide⟩ (Nat.le_of_ble_eq_true rfl) ⟨Nat.zero_le _, Nat.zero_le _⟩ (dd dX0_isField 24 rfl) (fun H locs hW => ?_)
            refine lv_if_eq (pc := 38) (tgt := 43) hx hb (dd dX0_isField 25 rfl) (by decide) (fun hc => ?_) (fun hc => ?_)
            · have h := it_t hc h
              obtain ⟨v4_43, ev4_43, h⟩ := nm_ex h
              refine lv_iinc (pc := 43) (v := v4_43) (lv' := [(4, .int v4_43), (1, .ref a_p1), (2, .int v2), (3, .int v3)]) hx hb (dd dX0_isField 28 rfl) hl (k := 3) rfl (by rw [ev4_43]; rfl) (by decide) rfl (fun ls hl => ?_)
              refine lv_goto (pc := 46) (tgt := 22) hx hb (dd dX0_isField 29 rfl) (by decide) ?_
              obtain rfl := Option.some.inj h
              exact hk _ _ _ hW (lv_sub hl [1, 2, 3, 0] rfl)
            · have h := it_f hc h
              obtain rfl := Option.some.inj h
              exact hk _ _ _ hW (lv_sub hl [] rfl)
          have h := it_f hc h
          by_cases hc : v4 = 1
          · have h := it_t hc h
            refine rAald (pc := 32) M hW 0 (v := .ref a_p1_1) rfl (by rw [hc]; decide) (by rw [hc]; rfl) (dd dX0_isField 21 rfl) ?_
            refine lv_iload_n (pc := 33) hx hb (dd dX0_isField 22 rfl) rfl (lv_at hl 1 rfl) ?_
            refine lv_iload_n (pc := 34) hx hb (dd dX0_isField 23 rfl) rfl (lv_at hl 2 rfl) ?_
            obtain ⟨r_35, hr, h⟩ := bnd_ex h
            refine callVI (pc := 35) (na := 2) (As := [.int v2, .int v3]) (rest := []) (ws2 := (w_X0_isField g a_p1 a_t a_p1_0 a_p1_1 a_p1_2 a_p1_3 a_p1_0_corners a_p1_1_corners a_p1_2_corners a_p1_3_corners a_p1_0_corners_firsts a_p1_0_corners_seconds a_p1_1_corners_firsts a_p1_1_corners_seconds a_p1_2_corners_firsts a_p1_2_corners_seconds a_p1_3_corners_firsts a_p1_3_corners_seconds a_kinds a_nears a_depths c_laid c_head c_fieldCount c_innerCount c_p1_0_corners_size c_p1_1_corners_size c_p1_2_corners_size c_p1_3_corners_size c_p1_0_corners_firsts c_p1_0_corners_seconds c_p1_1_corners_firsts c_p1_1_corners_seconds c_p1_2_corners_firsts c_p1_2_corners_seconds c_p1_3_corners_firsts c_p1_3_corners_seconds)) M hl.1 hW (t_X5_holds l g a_p1_1 a_p1_1_corners a_p1_1_corners_firsts a_p1_1_corners_seconds c_p1_1_corners_size c_p1_1_corners_firsts c_p1_1_corners_seconds v2 v3 r_35 hr) rfl [3, 7, 12, 13] [0, 1, 2, 4, 5, 6, 8, 9, 10, 11, 14, 15, 16, 17] [0, 1, 2, 14, 3, 4, 5, 15, 6, 7, 8, 9, 16, 17, 10, 11, 12, 13] rfl rfl rfl rfl rfl rfl rfl 3 5 rfl rfl rfl (uw3 62 rfl rfl) (uw3 59 rfl rfl) (uw3 60 rfl rfl) (uw3 61 rfl rfl) (uw1 2 rfl rfl) ⟨by decide, by decide, by decide⟩ rfl ⟨by decide, by decide⟩ (Nat.le_of_ble_eq_true rfl) ⟨Nat.zero_le _, Nat.zero_le _⟩ (dd dX0_isField 24 rfl) (fun H locs hW => ?_)
            refine lv_if_eq (pc := 38) (tgt := 43) hx hb (dd dX0_isField 25 rfl) (by decide) (fun hc => ?_) (fun hc => ?_)
            · have h := it_t hc h
              obtain ⟨v4_43, ev4_43, h⟩ := nm_ex h
              refine lv_iinc (pc := 43) (v := v4_43) (lv' := [(4, .int v4_43), (1, .ref a_p1), (2, .int v2), (3, .int v3)]) hx hb (dd dX0_isField 28 rfl) hl (k := 3) rfl (by rw [ev4_43]; rfl) (by decide) rfl (fun ls hl => ?_)
              refine lv_goto (pc := 46) (tgt := 22) hx hb (dd dX0_isField 29 rfl) (by decide) ?_
              obtain rfl := Option.some.inj h
              exact hk _ _ _ hW (lv_sub hl [1, 2, 3, 0] rfl)
            · have h := it_f hc h
              obtain rfl := Option.some.inj h
              exact hk _ _ _ hW (lv_sub hl [] rfl)
          have h := it_f hc h
          by_cases hc : v4 = 2
          · have h := it_t hc h
            refine rAald (pc := 32) M hW 0 (v := .ref a_p1_2) rfl (by rw [hc]; decide) (by rw [hc]; rfl) (dd dX0_isField 21 rfl) ?_
            refine lv_iload_n (pc := 33) hx hb (dd dX0_isField 22 rfl) rfl (lv_at hl 1 rfl) ?_
            refine lv_iload_n (pc := 34) hx hb (dd dX0_isField 23 rfl) rfl (lv_at hl 2 rfl) ?_
            obtain ⟨r_35, hr, h⟩ := bnd_ex h
            refine callVI (pc := 35) (na := 2) (As := [.int v2, .int v3]) (rest := []) (ws2 := (w_X0_isField g a_p1 a_t a_p1_0 a_p1_1 a_p1_2 a_p1_3 a_p1_0_corners a_p1_1_corners a_p1_2_corners a_p1_3_corners a_p1_0_corners_firsts a_p1_0_corners_seconds a_p1_1_corners_firsts a_p1_1_corners_seconds a_p1_2_corners_firsts a_p1_2_corners_seconds a_p1_3_corners_firsts a_p1_3_corners_seconds a_kinds a_nears a_depths c_laid c_head c_fieldCount c_innerCount c_p1_0_corners_size c_p1_1_corners_size c_p1_2_corners_size c_p1_3_corners_size c_p1_0_corners_firsts c_p1_0_corners_seconds c_p1_1_corners_firsts c_p1_1_corners_seconds c_p1_2_corners_firsts c_p1_2_corners_seconds c_p1_3_corners_firsts c_p1_3_corners_seconds)) M hl.1 hW (t_X5_holds l g a_p1_2 a_p1_2_corners a_p1_2_corners_firsts a_p1_2_corners_seconds c_p1_2_corners_size c_p1_2_corners_firsts c_p1_2_corners_seconds v2 v3 r_35 hr) rfl [4, 8, 14, 15] [0, 1, 2, 3, 5, 6, 7, 9, 10, 11, 12, 13, 16, 17] [0, 1, 2, 3, 14, 4, 5, 6, 15, 7, 8, 9, 10, 11, 16, 17, 12, 13] rfl rfl rfl rfl rfl rfl rfl 4 5 rfl rfl rfl (uw3 62 rfl rfl) (uw3 59 rfl rfl) (uw3 60 rfl rfl) (uw3 61 rfl rfl) (uw1 2 rfl rfl) ⟨by decide, by decide, by decide⟩ rfl ⟨by decide, by decide⟩ (Nat.le_of_ble_eq_true rfl) ⟨Nat.zero_le _, Nat.zero_le _⟩ (dd dX0_isField 24 rfl) (fun H locs hW => ?_)
            refine lv_if_eq (pc := 38) (tgt := 43) hx hb (dd dX0_isField 25 rfl) (by decide) (fun hc => ?_) (fun hc => ?_)
            · have h := it_t hc h
              obtain ⟨v4_43, ev4_43, h⟩ := nm_ex h
              refine lv_iinc (pc := 43) (v := v4_43) (lv' := [(4, .int v4_43), (1, .ref a_p1), (2, .int v2), (3, .int v3)]) hx hb (dd dX0_isField 28 rfl) hl (k := 3) rfl (by rw [ev4_43]; rfl) (by decide) rfl (fun ls hl => ?_)
              refine lv_goto (pc := 46) (tgt := 22) hx hb (dd dX0_isField 29 rfl) (by decide) ?_
              obtain rfl := Option.some.inj h
              exact hk _ _ _ hW (lv_sub hl [1, 2, 3, 0] rfl)
            · have h := it_f hc h
              obtain rfl := Option.some.inj h
              exact hk _ _ _ hW (lv_sub hl [] rfl)
          have h := it_f hc h
          by_cases hc : v4 = 3
          · have h := it_t hc h
            refine rAald (pc := 32) M hW 0 (v := .ref a_p1_3) rfl (by rw [hc]; decide) (by rw [hc]; rfl) (dd dX0_isField 21 rfl) ?_
            refine lv_iload_n (pc := 33) hx hb (dd dX0_isField 22 rfl) rfl (lv_at hl 1 rfl) ?_
            refine lv_iload_n (pc := 34) hx hb (dd dX0_isField 23 rfl) rfl (lv_at hl 2 rfl) ?_
            obtain ⟨r_35, hr, h⟩ := bnd_ex h
            refine callVI (pc := 35) (na := 2) (As := [.int v2, .int v3]) (rest := []) (ws2 := (w_X0_isField g a_p1 a_t a_p1_0 a_p1_1 a_p1_2 a_p1_3 a_p1_0_corners a_p1_1_corners a_p1_2_corners a_p1_3_corners a_p1_0_corners_firsts a_p1_0_corners_seconds a_p1_1_corners_firsts a_p1_1_corners_seconds a_p1_2_corners_firsts a_p1_2_corners_seconds a_p1_3_corners_firsts a_p1_3_corners_seconds a_kinds a_nears a_depths c_laid c_head c_fieldCount c_innerCount c_p1_0_corners_size c_p1_1_corners_size c_p1_2_corners_size c_p1_3_corners_size c_p1_0_corners_firsts c_p1_0_corners_seconds c_p1_1_corners_firsts c_p1_1_corners_seconds c_p1_2_corners_firsts c_p1_2_corners_seconds c_p1_3_corners_firsts c_p1_3_corners_seconds)) M hl.1 hW (t_X5_holds l g a_p1_3 a_p1_3_corners a_p1_3_corners_firsts a_p1_3_corners_seconds c_p1_3_corners_size c_p1_3_corners_firsts c_p1_3_corners_seconds v2 v3 r_35 hr) rfl [5, 9, 16, 17] [0, 1, 2, 3, 4, 6, 7, 8, 10, 11, 12, 13, 14, 15] [0, 1, 2, 3, 4, 14, 5, 6, 7, 15, 8, 9, 10, 11, 12, 13, 16, 17] rfl rfl rfl rfl rfl rfl rfl 5 5 rfl rfl rfl (uw3 62 rfl rfl) (uw3 59 rfl rfl) (uw3 60 rfl rfl) (uw3 61 rfl rfl) (uw1 2 rfl rfl) ⟨by decide, by decide, by decide⟩ rfl ⟨by decide, by decide⟩ (Nat.le_of_ble_eq_true rfl) ⟨Nat.zero_le _, Nat.zero_le _⟩ (dd dX0_isField 24 rfl) (fun H locs hW => ?_)
            refine lv_if_eq (pc := 38) (tgt := 43) hx hb (dd dX0_isField 25 rfl) (by decide) (fun hc => ?_) (fun hc => ?_)
            · have h := it_t hc h
              obtain ⟨v4_43, ev4_43, h⟩ := nm_ex h
              refine lv_iinc (pc := 43) (v := v4_43) (lv' := [(4, .int v4_43), (1, .ref a_p1), (2, .int v2), (3, .int v3)]) hx hb (dd dX0_isField 28 rfl) hl (k := 3) rfl (by rw [ev4_43]; rfl) (by decide) rfl (fun ls hl => ?_)
              refine lv_goto (pc := 46) (tgt := 22) hx hb (dd dX0_isField 29 rfl) (by decide) ?_
              obtain rfl := Option.some.inj h
              exact hk _ _ _ hW (lv_sub hl [1, 2, 3, 0] rfl)
            · have h := it_f hc h
              obtain rfl := Option.some.inj h
              exact hk _ _ _ hW (lv_sub hl [] rfl)
          have h := it_f hc h
          cases h
      · rcases ex with _ | _
        · intro H locs ls hW hl
          have h := sE_l h
          refine lv_iconst (pc := 49) (v := 1) hx hb (dd dX0_isField 30 rfl) (by decide) ?_
          have hW9 := hW
          cases h
          exact ret _ _ _ 50 hW9 rfl (dd dX0_isField 31 rfl)
        · intro H locs ls hW hl
          have h := sE_r h
          refine lv_iconst (pc := 41) (v := 0) hx hb (dd dX0_isField 26 rfl) (by decide) ?_
          have hW9 := hW
          cases h
          exact ret _ _ _ 42 hW9 rfl (dd dX0_isField 27 rfl)
    · have h := it_t hc h
      refine lv_iconst (pc := 17) (v := 0) hx hb (dd dX0_isField 11 rfl) (by decide) ?_
      have hW9 := hW
      cases h
      exact ret _ _ _ 18 hW9 rfl (dd dX0_isField 12 rfl)
abbrev w_X0_markField (g : G9) (a_p1 a_t a_p1_0 a_p1_1 a_p1_2 a_p1_3 a_kinds a_p1_0_corners a_p1_1_corners a_p1_2_corners a_p1_3_corners a_p1_0_corners_firsts a_p1_0_corners_seconds a_p1_1_corners_firsts a_p1_1_corners_seconds a_p1_2_corners_firsts a_p1_2_corners_seconds a_p1_3_corners_firsts a_p1_3_corners_seconds a_nears a_depths : Nat) (c_laid c_head c_fieldCount c_innerCount : Int32) (c_kinds : Ar) (c_p1_0_corners_size c_p1_1_corners_size c_p1_2_corners_size c_p1_3_corners_size : Int32) (c_p1_0_corners_firsts c_p1_0_corners_seconds c_p1_1_corners_firsts c_p1_1_corners_seconds c_p1_2_corners_firsts c_p1_2_corners_seconds c_p1_3_corners_firsts c_p1_3_corners_seconds : Ar) : va_W := [ra g a_p1 4 (rg a_p1_0 a_p1_1 a_p1_2 a_p1_3), ob a_t 0 [.ref a_kinds, .ref a_nears, .ref a_depths, .int c_laid, .int c_head, .int c_fieldCount, .int c_innerCount], ob a_p1_0 5 [.ref a_p1_0_corners], ob a_p1_1 5 [.ref a_p1_1_corners], ob a_p1_2 5 [.ref a_p1_2_corners], ob a_p1_3 5 [.ref a_p1_3_corners], ia g a_kinds 1200 c_kinds, ob a_p1_0_corners 1 [.ref a_p1_0_corners_firsts, .ref a_p1_0_corners_seconds, .int c_p1_0_corners_size], ob a_p1_1_corners 1 [.ref a_p1_1_corners_firsts, .ref a_p1_1_corners_seconds, .int c_p1_1_corners_size], ob a_p1_2_corners 1 [.ref a_p1_2_corners_firsts, .ref a_p1_2_corners_seconds, .int c_p1_2_corners_size], ob a_p1_3_corners 1 [.ref a_p1_3_corners_firsts, .ref a_p1_3_corners_seconds, .int c_p1_3_corners_size], ia g a_p1_0_corners_firsts 12 c_p1_0_corners_firsts, ia g a_p1_0_corners_seconds 12 c_p1_0_corners_seconds, ia g a_p1_1_corners_firsts 12 c_p1_1_corners_firsts, ia g a_p1_1_corners_seconds 12 c_p1_1_corners_seconds, ia g a_p1_2_corners_firsts 12 c_p1_2_corners_firsts, ia g a_p1_2_corners_seconds 12 c_p1_2_corners_seconds, ia g a_p1_3_corners_firsts 12 c_p1_3_corners_firsts, ia g a_p1_3_corners_seconds 12 c_p1_3_corners_seconds]
noncomputable def X0_markField_b7_57 (c_fieldCount : Int32) (c_kinds : Ar) (v2 : Int32) : Option ((Int32 × Ar × Int32) ⊕ (Int32 × Ar)) :=
  nm (v2 + 1) fun v2_57 => some (.inl (c_fieldCount, c_kinds, v2_57))
noncomputable def X0_markField_b7_42 (c_fieldCount : Int32) (c_kinds : Ar) (v2 v3 k1 k2 : Int32) : Option ((Int32 × Ar × Int32) ⊕ (Int32 × Ar)) :=
  ck (ix k1 1200) <| nm (au c_kinds k1 k2) fun c_kinds_42 => if v3 = 0 then (X0_markField_b7_57 c_fieldCount c_kinds_42 v2) else (nm ((c_fieldCount + 1)) fun c_fieldCount_54 => X0_markField_b7_57 c_fieldCount_54 c_kinds_42 v2)
noncomputable def X0_markField_L7 (c_p1_0_corners_size c_p1_1_corners_size c_p1_2_corners_size c_p1_3_corners_size : Int32) (c_p1_0_corners_firsts c_p1_0_corners_seconds c_p1_1_corners_firsts c_p1_1_corners_seconds c_p1_2_corners_firsts c_p1_2_corners_seconds c_p1_3_corners_firsts c_p1_3_corners_seconds : Ar) (c_fieldCount : Int32) (c_kinds : Ar) (v2 : Int32) : Option ((Int32 × Ar × Int32) ⊕ (Int32 × Ar)) :=
  if 1200 ≤ v2 then (some (.inr (c_fieldCount, c_kinds))) else (bnd (X0_isField c_p1_0_corners_size c_p1_1_corners_size c_p1_2_corners_size c_p1_3_corners_size c_p1_0_corners_firsts c_p1_0_corners_seconds c_p1_1_corners_firsts c_p1_1_corners_seconds c_p1_2_corners_firsts c_p1_2_corners_seconds c_p1_3_corners_firsts c_p1_3_corners_seconds (v2 - v2 / 40 * 40) (v2 / 40)) <| fun r_24 => if r_24 = 0 then (X0_markField_b7_42 c_fieldCount c_kinds v2 r_24 v2 0) else (X0_markField_b7_42 c_fieldCount c_kinds v2 r_24 v2 2))
noncomputable def X0_markField (c_fieldCount : Int32) (c_kinds : Ar) (c_p1_0_corners_size c_p1_1_corners_size c_p1_2_corners_size c_p1_3_corners_size : Int32) (c_p1_0_corners_firsts c_p1_0_corners_seconds c_p1_1_corners_firsts c_p1_1_corners_seconds c_p1_2_corners_firsts c_p1_2_corners_seconds c_p1_3_corners_firsts c_p1_3_corners_seconds : Ar) : Option (Int32 × Ar) :=
  bnd (whileV (fun st => X0_markField_L7 c_p1_0_corners_size c_p1_1_corners_size c_p1_2_corners_size c_p1_3_corners_size c_p1_0_corners_firsts c_p1_0_corners_seconds c_p1_1_corners_firsts c_p1_1_corners_seconds c_p1_2_corners_firsts c_p1_2_corners_seconds c_p1_3_corners_firsts c_p1_3_corners_seconds st.1 st.2.1 st.2.2) (0, c_kinds, 0)) <| (un2 fun c_fieldCount_63 c_kinds_63 => some (c_fieldCount_63, c_kinds_63))
set_option maxHeartbeats 4000000 in
set_option maxRecDepth 100000 in
theorem t_X0_markField (l : Launch) (g : G9) (a_p1 a_t a_p1_0 a_p1_1 a_p1_2 a_p1_3 a_kinds a_p1_0_corners a_p1_1_corners a_p1_2_corners a_p1_3_corners a_p1_0_corners_firsts a_p1_0_corners_seconds a_p1_1_corners_firsts a_p1_1_corners_seconds a_p1_2_corners_firsts a_p1_2_corners_seconds a_p1_3_corners_firsts a_p1_3_corners_seconds a_nears a_depths : Nat) (c_laid c_head c_fieldCount c_innerCount : Int32) (c_kinds : Ar) (c_p1_0_corners_size c_p1_1_corners_size c_p1_2_corners_size c_p1_3_corners_size : Int32) (c_p1_0_corners_firsts c_p1_0_corners_seconds c_p1_1_corners_firsts c_p1_1_corners_seconds c_p1_2_corners_firsts c_p1_2_corners_seconds c_p1_3_corners_firsts c_p1_3_corners_seconds : Ar) (o_fieldCount : Int32) (o_kinds : Ar) (h : X0_markField c_fieldCount c_kinds c_p1_0_corners_size c_p1_1_corners_size c_p1_2_corners_size c_p1_3_corners_size c_p1_0_corners_firsts c_p1_0_corners_seconds c_p1_1_corners_firsts c_p1_1_corners_seconds c_p1_2_corners_firsts c_p1_2_corners_seconds c_p1_3_corners_firsts c_p1_3_corners_seconds = some (o_fieldCount, o_kinds)) : CtV l g yX0_markField cX0_markField 4 3 77 [.ref a_t, .ref a_p1] (w_X0_markField g a_p1 a_t a_p1_0 a_p1_1 a_p1_2 a_p1_3 a_kinds a_p1_0_corners a_p1_1_corners a_p1_2_corners a_p1_3_corners a_p1_0_corners_firsts a_p1_0_corners_seconds a_p1_1_corners_firsts a_p1_1_corners_seconds a_p1_2_corners_firsts a_p1_2_corners_seconds a_p1_3_corners_firsts a_p1_3_corners_seconds a_nears a_depths c_laid c_head c_fieldCount c_innerCount c_kinds c_p1_0_corners_size c_p1_1_corners_size c_p1_2_corners_size c_p1_3_corners_size c_p1_0_corners_firsts c_p1_0_corners_seconds c_p1_1_corners_firsts c_p1_1_corners_seconds c_p1_2_corners_firsts c_p1_2_corners_seconds c_p1_3_corners_firsts c_p1_3_corners_seconds) (w_X0_markField g a_p1 a_t a_p1_0 a_p1_1 a_p1_2 a_p1_3 a_kinds a_p1_0_corners a_p1_1_corners a_p1_2_corners a_p1_3_corners a_p1_0_corners_firsts a_p1_0_corners_seconds a_p1_1_corners_firsts a_p1_1_corners_seconds a_p1_2_corners_firsts a_p1_2_corners_seconds a_p1_3_corners_firsts a_p1_3_corners_seconds a_nears a_depths c_laid c_head o_fieldCount c_innerCount o_kinds c_p1_0_corners_size c_p1_1_corners_size c_p1_2_corners_size c_p1_3_corners_size c_p1_0_corners_firsts c_p1_0_corners_seconds c_p1_1_corners_firsts c_p1_1_corners_seconds c_p1_2_corners_firsts c_p1_2_corners_seconds c_p1_3_corners_firsts c_p1_3_corners_seconds) := by
  refine startV (by decide) (Nat.le_of_ble_eq_true rfl) ?_
  intro p e s m below meth c A Q ls args M hW hl ret
  have hx := M.1
  have hb := M.2.1
  have hown := M.2.2.2.1
  have hu := M.2.2.2.2.1
  have hl : lv_has ls 4 [(0, .ref a_t), (1, .ref a_p1)] := hl
  unfold X0_markField at h
  obtain ⟨H, eH⟩ : ∃ z, z = s.heap := ⟨_, rfl⟩
  obtain ⟨locs, eL⟩ : ∃ z, z = ([] : List Loc) := ⟨_, rfl⟩
  rw [← eL] at hW ⊢
  suffices hS9 : WD g s A (w_X0_markField g a_p1 a_t a_p1_0 a_p1_1 a_p1_2 a_p1_3 a_kinds a_p1_0_corners a_p1_1_corners a_p1_2_corners a_p1_3_corners a_p1_0_corners_firsts a_p1_0_corners_seconds a_p1_1_corners_firsts a_p1_1_corners_seconds a_p1_2_corners_firsts a_p1_2_corners_seconds a_p1_3_corners_firsts a_p1_3_corners_seconds a_nears a_depths c_laid c_head c_fieldCount c_innerCount c_kinds c_p1_0_corners_size c_p1_1_corners_size c_p1_2_corners_size c_p1_3_corners_size c_p1_0_corners_firsts c_p1_0_corners_seconds c_p1_1_corners_firsts c_p1_1_corners_seconds c_p1_2_corners_firsts c_p1_2_corners_seconds c_p1_3_corners_firsts c_p1_3_corners_seconds) H locs → W p l e (rm9 3 77) s m args below meth c H locs 0 0 Q (F0 m 0 ls []) by
    rw [← eH] at hW ⊢
    exact hS9 hW
  clear hW eH eL
  intro hW
  refine lv_aload_n (pc := 0) hx hb (dd dX0_markField 0 rfl) rfl (lv_at hl 0 rfl) ?_
  refine lv_iconst (pc := 1) (v := 0) hx hb (dd dX0_markField 1 rfl) (by decide) ?_
  refine rPut (pc := 2) M hW 1 5 tyX0 tyX0_ok nmX0 iU0 rfl rfl (by decide) (uw1 86 rfl rfl) rfl rfl rfl (Nat.le_of_ble_eq_true rfl) (dd dX0_markField 2 rfl) (ws' := (w_X0_markField g a_p1 a_t a_p1_0 a_p1_1 a_p1_2 a_p1_3 a_kinds a_p1_0_corners a_p1_1_corners a_p1_2_corners a_p1_3_corners a_p1_0_corners_firsts a_p1_0_corners_seconds a_p1_1_corners_firsts a_p1_1_corners_seconds a_p1_2_corners_firsts a_p1_2_corners_seconds a_p1_3_corners_firsts a_p1_3_corners_seconds a_nears a_depths c_laid c_head 0 c_innerCount c_kinds c_p1_0_corners_size c_p1_1_corners_size c_p1_2_corners_size c_p1_3_corners_size c_p1_0_corners_firsts c_p1_0_corners_seconds c_p1_1_corners_firsts c_p1_1_corners_seconds c_p1_2_corners_firsts c_p1_2_corners_seconds c_p1_3_corners_firsts c_p1_3_corners_seconds)) rfl (fun H locs hW => ?_)
  refine lv_iconst (pc := 5) (v := 0) hx hb (dd dX0_markField 3 rfl) (by decide) ?_
  refine lv_istore_n (pc := 6) (lv' := [(2, .int 0), (0, .ref a_t), (1, .ref a_p1)]) hx hb (dd dX0_markField 4 rfl) rfl hl (by decide) rfl (fun ls hl => ?_)
  obtain ⟨ex, hw, h⟩ := bnd_ex h
  refine loopW (fun st => ∀ (H : Heap) (locs : List Loc) (ls : Array Slot), WD g s A (w_X0_markField g a_p1 a_t a_p1_0 a_p1_1 a_p1_2 a_p1_3 a_kinds a_p1_0_corners a_p1_1_corners a_p1_2_corners a_p1_3_corners a_p1_0_corners_firsts a_p1_0_corners_seconds a_p1_1_corners_firsts a_p1_1_corners_seconds a_p1_2_corners_firsts a_p1_2_corners_seconds a_p1_3_corners_firsts a_p1_3_corners_seconds a_nears a_depths c_laid c_head (st.1) c_innerCount (st.2.1) c_p1_0_corners_size c_p1_1_corners_size c_p1_2_corners_size c_p1_3_corners_size c_p1_0_corners_firsts c_p1_0_corners_seconds c_p1_1_corners_firsts c_p1_1_corners_seconds c_p1_2_corners_firsts c_p1_2_corners_seconds c_p1_3_corners_firsts c_p1_3_corners_seconds) H locs → lv_has ls 4 [(0, .ref a_t), (1, .ref a_p1), (2, .int (st.2.2))] → W p l e (rm9 3 77) s m args below meth c H locs 0 0 Q (F0 m 7 ls [])) (fun (ex : (Int32 × Ar)) => ∀ (H : Heap) (locs : List Loc) (ls : Array Slot), WD g s A (w_X0_markField g a_p1 a_t a_p1_0 a_p1_1 a_p1_2 a_p1_3 a_kinds a_p1_0_corners a_p1_1_corners a_p1_2_corners a_p1_3_corners a_p1_0_corners_firsts a_p1_0_corners_seconds a_p1_1_corners_firsts a_p1_1_corners_seconds a_p1_2_corners_firsts a_p1_2_corners_seconds a_p1_3_corners_firsts a_p1_3_corners_seconds a_nears a_depths c_laid c_head (ex.1) c_innerCount (ex.2) c_p1_0_corners_size c_p1_1_corners_size c_p1_2_corners_size c_p1_3_corners_size c_p1_0_corners_firsts c_p1_0_corners_seconds c_p1_1_corners_firsts c_p1_1_corners_seconds c_p1_2_corners_firsts c_p1_2_corners_seconds c_p1_3_corners_firsts c_p1_3_corners_seconds) H locs → lv_has ls 4 [] → W p l e (rm9 3 77) s m args below meth c H locs 0 0 Q (F0 m 63 ls [])) ?_ hw ?_ H locs ls hW (lv_sub hl [1, 2, 0] rfl)
  · rintro ⟨c_fieldCount, c_kinds, v2⟩ o hb9 hk H locs ls hW hl
    have h : X0_markField_L7 c_p1_0_corners_size c_p1_1_corners_size c_p1_2_corners_size c_p1_3_corners_size c_p1_0_corners_firsts c_p1_0_corners_seconds c_p1_1_corners_firsts c_p1_1_corners_seconds c_p1_2_corners_firsts c_p1_2_corners_seconds c_p1_3_corners_firsts c_p1_3_corners_seconds c_fieldCount c_kinds v2 = some o := hb9
    clear hb9
    unfold X0_markField_L7 at h
    have J57 : ∀ (c_fieldCount : Int32) (c_kinds : Ar) (v2 : Int32) (H : Heap) (locs : List Loc) (ls : Array Slot), X0_markField_b7_57 c_fieldCount c_kinds v2 = some o → WD g s A (w_X0_markField g a_p1 a_t a_p1_0 a_p1_1 a_p1_2 a_p1_3 a_kinds a_p1_0_corners a_p1_1_corners a_p1_2_corners a_p1_3_corners a_p1_0_corners_firsts a_p1_0_corners_seconds a_p1_1_corners_firsts a_p1_1_corners_seconds a_p1_2_corners_firsts a_p1_2_corners_seconds a_p1_3_corners_firsts a_p1_3_corners_seconds a_nears a_depths c_laid c_head c_fieldCount c_innerCount c_kinds c_p1_0_corners_size c_p1_1_corners_size c_p1_2_corners_size c_p1_3_corners_size c_p1_0_corners_firsts c_p1_0_corners_seconds c_p1_1_corners_firsts c_p1_1_corners_seconds c_p1_2_corners_firsts c_p1_2_corners_seconds c_p1_3_corners_firsts c_p1_3_corners_seconds) H locs → lv_has ls 4 [(0, .ref a_t), (1, .ref a_p1), (2, .int v2)] → W p l e (rm9 3 77) s m args below meth c H locs 0 0 Q (F0 m 57 ls []) := by
      intro c_fieldCount c_kinds v2 H locs ls h hW hl
      unfold X0_markField_b7_57 at h
      obtain ⟨v2_57, ev2_57, h⟩ := nm_ex h
      refine lv_iinc (pc := 57) (v := v2_57) (lv' := [(2, .int v2_57), (0, .ref a_t), (1, .ref a_p1)]) hx hb (dd dX0_markField 35 rfl) hl (k := 2) rfl (by rw [ev2_57]; rfl) (by decide) rfl (fun ls hl => ?_)
      refine lv_goto (pc := 60) (tgt := 7) hx hb (dd dX0_markField 36 rfl) (by decide) ?_
      obtain rfl := Option.some.inj h
      exact hk _ _ _ hW (lv_sub hl [1, 2, 0] rfl)
    have J42 : ∀ (c_fieldCount : Int32) (c_kinds : Ar) (v2 v3 k1 k2 : Int32) (H : Heap) (locs : List Loc) (ls : Array Slot), X0_markField_b7_42 c_fieldCount c_kinds v2 v3 k1 k2 = some o → WD g s A (w_X0_markField g a_p1 a_t a_p1_0 a_p1_1 a_p1_2 a_p1_3 a_kinds a_p1_0_corners a_p1_1_corners a_p1_2_corners a_p1_3_corners a_p1_0_corners_firsts a_p1_0_corners_seconds a_p1_1_corners_firsts a_p1_1_corners_seconds a_p1_2_corners_firsts a_p1_2_corners_seconds a_p1_3_corners_firsts a_p1_3_corners_seconds a_nears a_depths c_laid c_head c_fieldCount c_innerCount c_kinds c_p1_0_corners_size c_p1_1_corners_size c_p1_2_corners_size c_p1_3_corners_size c_p1_0_corners_firsts c_p1_0_corners_seconds c_p1_1_corners_firsts c_p1_1_corners_seconds c_p1_2_corners_firsts c_p1_2_corners_seconds c_p1_3_corners_firsts c_p1_3_corners_seconds) H locs → lv_has ls 4 [(0, .ref a_t), (1, .ref a_p1), (2, .int v2), (3, .int v3)] → W p l e (rm9 3 77) s m args below meth c H locs 0 0 Q (F0 m 42 ls [.int k2, .int k1, .ref a_kinds]) := by
      intro c_fieldCount c_kinds v2 v3 k1 k2 H locs ls h hW hl
      unfold X0_markField_b7_42 at h
      obtain ⟨hi, h⟩ := ck_ex h
      obtain ⟨c_kinds_42, ec_kinds_42, h⟩ := nm_ex h
      refine rIast (pc := 42) M hW 6 rfl hi ec_kinds_42 (ws' := (w_X0_markField g a_p1 a_t a_p1_0 a_p1_1 a_p1_2 a_p1_3 a_kinds a_p1_0_corners a_p1_1_corners a_p1_2_corners a_p1_3_corners a_p1_0_corners_firsts a_p1_0_corners_seconds a_p1_1_corners_firsts a_p1_1_corners_seconds a_p1_2_corners_firsts a_p1_2_corners_seconds a_p1_3_corners_firsts a_p1_3_corners_seconds a_nears a_depths c_laid c_head c_fieldCount c_innerCount c_kinds_42 c_p1_0_corners_size c_p1_1_corners_size c_p1_2_corners_size c_p1_3_corners_size c_p1_0_corners_firsts c_p1_0_corners_seconds c_p1_1_corners_firsts c_p1_1_corners_seconds c_p1_2_corners_firsts c_p1_2_corners_seconds c_p1_3_corners_firsts c_p1_3_corners_seconds)) rfl (dd dX0_markField 26 rfl) (fun H locs hW => ?_)
      refine lv_iload_n (pc := 43) hx hb (dd dX0_markField 27 rfl) rfl (lv_at hl 3 rfl) ?_
      refine lv_if_eq (pc := 44) (tgt := 57) hx hb (dd dX0_markField 28 rfl) (by decide) (fun hc => ?_) (fun hc => ?_)
      · have h := it_t hc h
        exact J57 _ _ _ _ _ _ h hW (lv_sub hl [0, 1, 2] rfl)
      · have h := it_f hc h
        refine lv_aload_n (pc := 47) hx hb (dd dX0_markField 29 rfl) rfl (lv_at hl 0 rfl) ?_
        refine lv_dup (pc := 48) hx hb (dd dX0_markField 30 rfl) rfl ?_
        refine rGet (pc := 49) M hW 1 5 iU0 rfl rfl (by decide) (uw1 86 rfl rfl) rfl (dd dX0_markField 31 rfl) ?_
        refine lv_iconst (pc := 52) (v := 1) hx hb (dd dX0_markField 32 rfl) (by decide) ?_
        refine lv_iadd (pc := 53) hx hb (dd dX0_markField 33 rfl) ?_
        obtain ⟨c_fieldCount_54, ec_fieldCount_54, h⟩ := nm_ex h
        refine rTopi (pc := 54) ec_fieldCount_54 ?_
        refine rPut (pc := 54) M hW 1 5 tyX0 tyX0_ok nmX0 iU0 rfl rfl (by decide) (uw1 86 rfl rfl) rfl rfl rfl (Nat.le_of_ble_eq_true rfl) (dd dX0_markField 34 rfl) (ws' := (w_X0_markField g a_p1 a_t a_p1_0 a_p1_1 a_p1_2 a_p1_3 a_kinds a_p1_0_corners a_p1_1_corners a_p1_2_corners a_p1_3_corners a_p1_0_corners_firsts a_p1_0_corners_seconds a_p1_1_corners_firsts a_p1_1_corners_seconds a_p1_2_corners_firsts a_p1_2_corners_seconds a_p1_3_corners_firsts a_p1_3_corners_seconds a_nears a_depths c_laid c_head c_fieldCount_54 c_innerCount c_kinds_42 c_p1_0_corners_size c_p1_1_corners_size c_p1_2_corners_size c_p1_3_corners_size c_p1_0_corners_firsts c_p1_0_corners_seconds c_p1_1_corners_firsts c_p1_1_corners_seconds c_p1_2_corners_firsts c_p1_2_corners_seconds c_p1_3_corners_firsts c_p1_3_corners_seconds)) rfl (fun H locs hW => ?_)
        exact J57 _ _ _ _ _ _ h hW (lv_sub hl [0, 1, 2] rfl)
    refine lv_iload_n (pc := 7) hx hb (dd dX0_markField 5 rfl) rfl (lv_at hl 2 rfl) ?_
    refine lv_sipush (pc := 8) (v := 1200) hx hb (dd dX0_markField 6 rfl) (by decide) ?_
    refine lv_icmp_ge (pc := 11) (tgt := 63) hx hb (dd dX0_markField 7 rfl) (by decide) (fun hc => ?_) (fun hc => ?_)
    · have h := it_t hc h
      obtain rfl := Option.some.inj h
      exact hk _ _ _ hW (lv_sub hl [] rfl)
    · have h := it_f hc h
      refine lv_aload_n (pc := 14) hx hb (dd dX0_markField 8 rfl) rfl (lv_at hl 0 rfl) ?_
      refine lv_aload_n (pc := 15) hx hb (dd dX0_markField 9 rfl) rfl (lv_at hl 1 rfl) ?_
      refine lv_iload_n (pc := 16) hx hb (dd dX0_markField 10 rfl) rfl (lv_at hl 2 rfl) ?_
      refine lv_bipush (pc := 17) (v := 40) hx hb (dd dX0_markField 11 rfl) (by decide) ?_
      refine lv_irem (pc := 19) hx hb (dd dX0_markField 12 rfl) (by decide) ?_
      refine lv_iload_n (pc := 20) hx hb (dd dX0_markField 13 rfl) rfl (lv_at hl 2 rfl) ?_
      refine lv_bipush (pc := 21) (v := 40) hx hb (dd dX0_markField 14 rfl) (by decide) ?_
      refine lv_idiv (pc := 23) hx hb (dd dX0_markField 15 rfl) (by decide) ?_
      obtain ⟨r_24, hr, h⟩ := bnd_ex h
      refine callVI (pc := 24) (na := 3) (As := [.ref a_p1, .int (v2 - v2 / 40 * 40), .int (v2 / 40)]) (rest := []) (ws2 := (w_X0_markField g a_p1 a_t a_p1_0 a_p1_1 a_p1_2 a_p1_3 a_kinds a_p1_0_corners a_p1_1_corners a_p1_2_corners a_p1_3_corners a_p1_0_corners_firsts a_p1_0_corners_seconds a_p1_1_corners_firsts a_p1_1_corners_seconds a_p1_2_corners_firsts a_p1_2_corners_seconds a_p1_3_corners_firsts a_p1_3_corners_seconds a_nears a_depths c_laid c_head c_fieldCount c_innerCount c_kinds c_p1_0_corners_size c_p1_1_corners_size c_p1_2_corners_size c_p1_3_corners_size c_p1_0_corners_firsts c_p1_0_corners_seconds c_p1_1_corners_firsts c_p1_1_corners_seconds c_p1_2_corners_firsts c_p1_2_corners_seconds c_p1_3_corners_firsts c_p1_3_corners_seconds)) M hl.1 hW (t_X0_isField l g a_p1 a_t a_p1_0 a_p1_1 a_p1_2 a_p1_3 a_p1_0_corners a_p1_1_corners a_p1_2_corners a_p1_3_corners a_p1_0_corners_firsts a_p1_0_corners_seconds a_p1_1_corners_firsts a_p1_1_corners_seconds a_p1_2_corners_firsts a_p1_2_corners_seconds a_p1_3_corners_firsts a_p1_3_corners_seconds a_kinds a_nears a_depths c_laid c_head c_fieldCount c_innerCount c_p1_0_corners_size c_p1_1_corners_size c_p1_2_corners_size c_p1_3_corners_size c_p1_0_corners_firsts c_p1_0_corners_seconds c_p1_1_corners_firsts c_p1_1_corners_seconds c_p1_2_corners_firsts c_p1_2_corners_seconds c_p1_3_corners_firsts c_p1_3_corners_seconds (v2 - v2 / 40 * 40) (v2 / 40) r_24 hr) rfl [0, 1, 2, 3, 4, 5, 7, 8, 9, 10, 11, 12, 13, 14, 15, 16, 17, 18] [6] [1, 2, 3, 4, 5, 6, 0, 7, 8, 9, 10, 11, 12, 13, 14, 15, 16, 17, 18] rfl rfl rfl rfl rfl rfl rfl 1 0 rfl rfl rfl (uw3 58 rfl rfl) (uw3 55 rfl rfl) (uw3 57 rfl rfl) (uwp 6 rfl rfl) (uw1 5 rfl rfl) ⟨by decide, by decide, by decide⟩ rfl ⟨by decide, by decide⟩ (Nat.le_of_ble_eq_true rfl) ⟨Nat.zero_le _, Nat.zero_le _⟩ (dd dX0_markField 16 rfl) (fun H locs hW => ?_)
      refine lv_istore_n (pc := 27) (lv' := [(3, .int r_24), (0, .ref a_t), (1, .ref a_p1), (2, .int v2)]) hx hb (dd dX0_markField 17 rfl) rfl hl (by decide) rfl (fun ls hl => ?_)
      refine lv_aload_n (pc := 28) hx hb (dd dX0_markField 18 rfl) rfl (lv_at hl 1 rfl) ?_
      refine rGet (pc := 29) M hW 1 0 iU0 rfl rfl (by decide) (uw1 74 rfl rfl) rfl (dd dX0_markField 19 rfl) ?_
      refine lv_iload_n (pc := 32) hx hb (dd dX0_markField 20 rfl) rfl (lv_at hl 3 rfl) ?_
      refine lv_iload_n (pc := 33) hx hb (dd dX0_markField 21 rfl) rfl (lv_at hl 0 rfl) ?_
      refine lv_if_eq (pc := 34) (tgt := 41) hx hb (dd dX0_markField 22 rfl) (by decide) (fun hc => ?_) (fun hc => ?_)
      · have h := it_t hc h
        refine lv_iconst (pc := 41) (v := 0) hx hb (dd dX0_markField 25 rfl) (by decide) ?_
        exact J42 _ _ _ _ _ _ _ _ _ h hW (lv_sub hl [1, 2, 3, 0] rfl)
      · have h := it_f hc h
        refine lv_iconst (pc := 37) (v := 2) hx hb (dd dX0_markField 23 rfl) (by decide) ?_
        refine lv_goto (pc := 38) (tgt := 42) hx hb (dd dX0_markField 24 rfl) (by decide) ?_
        exact J42 _ _ _ _ _ _ _ _ _ h hW (lv_sub hl [1, 2, 3, 0] rfl)
  · obtain ⟨c_fieldCount_63, c_kinds_63⟩ := ex
    have h := un2_at h
    intro H locs ls hW hl
    have hW9 := hW
    cases h
    exact ret _ _ _ 63 hW9 (dd dX0_markField 37 rfl)
abbrev w_X0_isStep (g : G9) (a_t a_kinds a_nears a_depths : Nat) (c_laid c_head c_fieldCount c_innerCount : Int32) : va_W := [ob a_t 0 [.ref a_kinds, .ref a_nears, .ref a_depths, .int c_laid, .int c_head, .int c_fieldCount, .int c_innerCount]]
noncomputable def X0_isStep (v1 v2 : Int32) : Option Int32 :=
  if v2 < 0 then (some 0) else (if 1200 ≤ v2 then (some 0) else (if 1 < (ab ((v2 - v2 / 40 * 40) - (v1 - v1 / 40 * 40))) then (some 0) else (some 1)))
set_option maxHeartbeats 4000000 in
set_option maxRecDepth 100000 in
theorem t_X0_isStep (l : Launch) (g : G9) (a_t a_kinds a_nears a_depths : Nat) (c_laid c_head c_fieldCount c_innerCount v1 v2 r0 : Int32) (h : X0_isStep v1 v2 = some r0) : CtI l g yX0_isStep cX0_isStep 3 .boolean 1 22 [.ref a_t, .int v1, .int v2] (w_X0_isStep g a_t a_kinds a_nears a_depths c_laid c_head c_fieldCount c_innerCount) r0 (w_X0_isStep g a_t a_kinds a_nears a_depths c_laid c_head c_fieldCount c_innerCount) := by
  refine startI (by decide) (Nat.le_of_ble_eq_true rfl) ?_
  intro p e s m below meth c A Q ls args M hW hl ret
  have hx := M.1
  have hb := M.2.1
  have hown := M.2.2.2.1
  have hu := M.2.2.2.2.1
  have hl : lv_has ls 3 [(0, .ref a_t), (1, .int v1), (2, .int v2)] := hl
  unfold X0_isStep at h
  obtain ⟨H, eH⟩ : ∃ z, z = s.heap := ⟨_, rfl⟩
  obtain ⟨locs, eL⟩ : ∃ z, z = ([] : List Loc) := ⟨_, rfl⟩
  rw [← eL] at hW ⊢
  suffices hS9 : WD g s A (w_X0_isStep g a_t a_kinds a_nears a_depths c_laid c_head c_fieldCount c_innerCount) H locs → W p l e (rm9 1 22) s m args below meth c H locs 0 0 Q (F0 m 0 ls []) by
    rw [← eH] at hW ⊢
    exact hS9 hW
  clear hW eH eL
  intro hW
  refine lv_iload_n (pc := 0) hx hb (dd dX0_isStep 0 rfl) rfl (lv_at hl 2 rfl) ?_
  refine lv_if_lt (pc := 1) (tgt := 31) hx hb (dd dX0_isStep 1 rfl) (by decide) (fun hc => ?_) (fun hc => ?_)
  · have h := it_t hc h
    refine lv_iconst (pc := 31) (v := 0) hx hb (dd dX0_isStep 17 rfl) (by decide) ?_
    have hW9 := hW
    cases h
    exact ret _ _ _ 32 hW9 rfl (dd dX0_isStep 18 rfl)
  · have h := it_f hc h
    refine lv_iload_n (pc := 4) hx hb (dd dX0_isStep 2 rfl) rfl (lv_at hl 2 rfl) ?_
    refine lv_sipush (pc := 5) (v := 1200) hx hb (dd dX0_isStep 3 rfl) (by decide) ?_
    refine lv_icmp_ge (pc := 8) (tgt := 31) hx hb (dd dX0_isStep 4 rfl) (by decide) (fun hc => ?_) (fun hc => ?_)
    · have h := it_t hc h
      refine lv_iconst (pc := 31) (v := 0) hx hb (dd dX0_isStep 17 rfl) (by decide) ?_
      have hW9 := hW
      cases h
      exact ret _ _ _ 32 hW9 rfl (dd dX0_isStep 18 rfl)
    · have h := it_f hc h
      refine lv_iload_n (pc := 11) hx hb (dd dX0_isStep 5 rfl) rfl (lv_at hl 2 rfl) ?_
      refine lv_bipush (pc := 12) (v := 40) hx hb (dd dX0_isStep 6 rfl) (by decide) ?_
      refine lv_irem (pc := 14) hx hb (dd dX0_isStep 7 rfl) (by decide) ?_
      refine lv_iload_n (pc := 15) hx hb (dd dX0_isStep 8 rfl) rfl (lv_at hl 1 rfl) ?_
      refine lv_bipush (pc := 16) (v := 40) hx hb (dd dX0_isStep 9 rfl) (by decide) ?_
      refine lv_irem (pc := 18) hx hb (dd dX0_isStep 10 rfl) (by decide) ?_
      refine lv_isub (pc := 19) hx hb (dd dX0_isStep 11 rfl) ?_
      refine rAbs (pc := 20) M hl.1 (uw3 77 rfl rfl) (uw3 37 rfl rfl) (uw1 4 rfl rfl) (uw3 38 rfl rfl) ⟨by decide, by decide⟩ (Nat.le_of_ble_eq_true rfl) ⟨Nat.zero_le _, Nat.zero_le _⟩ (dd dX0_isStep 12 rfl) ?_
      refine lv_iconst (pc := 23) (v := 1) hx hb (dd dX0_isStep 13 rfl) (by decide) ?_
      refine lv_icmp_gt (pc := 24) (tgt := 31) hx hb (dd dX0_isStep 14 rfl) (by decide) (fun hc => ?_) (fun hc => ?_)
      · have h := it_t hc h
        refine lv_iconst (pc := 31) (v := 0) hx hb (dd dX0_isStep 17 rfl) (by decide) ?_
        have hW9 := hW
        cases h
        exact ret _ _ _ 32 hW9 rfl (dd dX0_isStep 18 rfl)
      · have h := it_f hc h
        refine lv_iconst (pc := 27) (v := 1) hx hb (dd dX0_isStep 15 rfl) (by decide) ?_
        refine lv_goto (pc := 28) (tgt := 32) hx hb (dd dX0_isStep 16 rfl) (by decide) ?_
        have hW9 := hW
        cases h
        exact ret _ _ _ 32 hW9 rfl (dd dX0_isStep 18 rfl)
abbrev w_X0_markNears (g : G9) (a_t a_kinds a_nears a_depths : Nat) (c_laid c_head c_fieldCount c_innerCount : Int32) (c_kinds c_nears : Ar) : va_W := [ob a_t 0 [.ref a_kinds, .ref a_nears, .ref a_depths, .int c_laid, .int c_head, .int c_fieldCount, .int c_innerCount], ia g a_kinds 1200 c_kinds, ia g a_nears 1200 c_nears]
noncomputable def X0_markNears_b18_66 (c_nears : Ar) (v1 v2 : Int32) : Option ((Ar × Int32) ⊕ Ar) :=
  nm (v2 + 1) fun v2_66 => some (.inl (c_nears, v2_66))
noncomputable def X0_markNears_L18 (c_kinds : Ar) (v1 : Int32) (c_nears : Ar) (v2 : Int32) : Option ((Ar × Int32) ⊕ Ar) :=
  if 8 ≤ v2 then (some (.inr c_nears)) else (ck (ix v2 8) <| bnd (X0_isStep v1 (v1 + (ag stepA v2))) <| fun r_33 => if r_33 = 0 then (X0_markNears_b18_66 c_nears v1 v2) else (ck (ix v2 8) <| ck (ix (v1 + (ag stepA v2)) 1200) <| if (ag c_kinds (v1 + (ag stepA v2))) = 0 then (X0_markNears_b18_66 c_nears v1 v2) else (ck (ix v1 1200) <| ck (ix v1 1200) <| nm (au c_nears v1 ((ag c_nears v1) ||| ((1 : Int32) <<< (v2 &&& 31)))) fun c_nears_65 => X0_markNears_b18_66 c_nears_65 v1 v2)))
noncomputable def X0_markNears_L2 (c_kinds c_nears : Ar) (v1 : Int32) : Option ((Ar × Int32) ⊕ Ar) :=
  if 1200 ≤ v1 then (some (.inr c_nears)) else (ck (ix v1 1200) <| nm (au c_nears v1 0) fun c_nears_15 => bnd (whileV (fun st => X0_markNears_L18 c_kinds v1 st.1 st.2) (c_nears_15, 0)) <| (fun c_nears_72 => nm (v1 + 1) fun v1_72 => some (.inl (c_nears_72, v1_72))))
noncomputable def X0_markNears (c_kinds c_nears : Ar) : Option Ar :=
  bnd (whileV (fun st => X0_markNears_L2 c_kinds st.1 st.2) (c_nears, 0)) <| (fun c_nears_78 => some c_nears_78)
set_option maxHeartbeats 4000000 in
set_option maxRecDepth 100000 in
theorem t_X0_markNears (l : Launch) (g : G9) (a_t a_kinds a_nears a_depths : Nat) (c_laid c_head c_fieldCount c_innerCount : Int32) (c_kinds c_nears o_nears : Ar) (h : X0_markNears c_kinds c_nears = some o_nears) : CtV l g yX0_markNears cX0_markNears 3 2 44 [.ref a_t] (w_X0_markNears g a_t a_kinds a_nears a_depths c_laid c_head c_fieldCount c_innerCount c_kinds c_nears) (w_X0_markNears g a_t a_kinds a_nears a_depths c_laid c_head c_fieldCount c_innerCount c_kinds o_nears) := by
  refine startV (by decide) (Nat.le_of_ble_eq_true rfl) ?_
  intro p e s m below meth c A Q ls args M hW hl ret
  have hx := M.1
  have hb := M.2.1
  have hown := M.2.2.2.1
  have hu := M.2.2.2.2.1
  have hl : lv_has ls 3 [(0, .ref a_t)] := hl
  unfold X0_markNears at h
  obtain ⟨H, eH⟩ : ∃ z, z = s.heap := ⟨_, rfl⟩
  obtain ⟨locs, eL⟩ : ∃ z, z = ([] : List Loc) := ⟨_, rfl⟩
  rw [← eL] at hW ⊢
  suffices hS9 : WD g s A (w_X0_markNears g a_t a_kinds a_nears a_depths c_laid c_head c_fieldCount c_innerCount c_kinds c_nears) H locs → W p l e (rm9 2 44) s m args below meth c H locs 0 0 Q (F0 m 0 ls []) by
    rw [← eH] at hW ⊢
    exact hS9 hW
  clear hW eH eL
  intro hW
  refine lv_iconst (pc := 0) (v := 0) hx hb (dd dX0_markNears 0 rfl) (by decide) ?_
  refine lv_istore_n (pc := 1) (lv' := [(1, .int 0), (0, .ref a_t)]) hx hb (dd dX0_markNears 1 rfl) rfl hl (by decide) rfl (fun ls hl => ?_)
  obtain ⟨ex, hw, h⟩ := bnd_ex h
  refine loopW (fun st => ∀ (H : Heap) (locs : List Loc) (ls : Array Slot), WD g s A (w_X0_markNears g a_t a_kinds a_nears a_depths c_laid c_head c_fieldCount c_innerCount c_kinds (st.1)) H locs → lv_has ls 3 [(0, .ref a_t), (1, .int (st.2))] → W p l e (rm9 2 44) s m args below meth c H locs 0 0 Q (F0 m 2 ls [])) (fun (ex : Ar) => ∀ (H : Heap) (locs : List Loc) (ls : Array Slot), WD g s A (w_X0_markNears g a_t a_kinds a_nears a_depths c_laid c_head c_fieldCount c_innerCount c_kinds ex) H locs → lv_has ls 3 [] → W p l e (rm9 2 44) s m args below meth c H locs 0 0 Q (F0 m 78 ls [])) ?_ hw ?_ H locs ls hW (lv_sub hl [1, 0] rfl)
  · rintro ⟨c_nears, v1⟩ o hb9 hk H locs ls hW hl
    have h : X0_markNears_L2 c_kinds c_nears v1 = some o := hb9
    clear hb9
    unfold X0_markNears_L2 at h
    refine lv_iload_n (pc := 2) hx hb (dd dX0_markNears 2 rfl) rfl (lv_at hl 1 rfl) ?_
    refine lv_sipush (pc := 3) (v := 1200) hx hb (dd dX0_markNears 3 rfl) (by decide) ?_
    refine lv_icmp_ge (pc := 6) (tgt := 78) hx hb (dd dX0_markNears 4 rfl) (by decide) (fun hc => ?_) (fun hc => ?_)
    · have h := it_t hc h
      obtain rfl := Option.some.inj h
      exact hk _ _ _ hW (lv_sub hl [] rfl)
    · have h := it_f hc h
      refine lv_aload_n (pc := 9) hx hb (dd dX0_markNears 5 rfl) rfl (lv_at hl 0 rfl) ?_
      refine rGet (pc := 10) M hW 0 1 iU0 rfl rfl (by decide) (uw1 78 rfl rfl) rfl (dd dX0_markNears 6 rfl) ?_
      refine lv_iload_n (pc := 13) hx hb (dd dX0_markNears 7 rfl) rfl (lv_at hl 1 rfl) ?_
      refine lv_iconst (pc := 14) (v := 0) hx hb (dd dX0_markNears 8 rfl) (by decide) ?_
      obtain ⟨hi, h⟩ := ck_ex h
      obtain ⟨c_nears_15, ec_nears_15, h⟩ := nm_ex h
      refine rIast (pc := 15) M hW 2 rfl hi ec_nears_15 (ws' := (w_X0_markNears g a_t a_kinds a_nears a_depths c_laid c_head c_fieldCount c_innerCount c_kinds c_nears_15)) rfl (dd dX0_markNears 9 rfl) (fun H locs hW => ?_)
      refine lv_iconst (pc := 16) (v := 0) hx hb (dd dX0_markNears 10 rfl) (by decide) ?_
      refine lv_istore_n (pc := 17) (lv' := [(2, .int 0), (0, .ref a_t), (1, .int v1)]) hx hb (dd dX0_markNears 11 rfl) rfl hl (by decide) rfl (fun ls hl => ?_)
      obtain ⟨ex, hw, h⟩ := bnd_ex h
      refine loopW (fun st => ∀ (H : Heap) (locs : List Loc) (ls : Array Slot), WD g s A (w_X0_markNears g a_t a_kinds a_nears a_depths c_laid c_head c_fieldCount c_innerCount c_kinds (st.1)) H locs → lv_has ls 3 [(0, .ref a_t), (1, .int v1), (2, .int (st.2))] → W p l e (rm9 2 44) s m args below meth c H locs 0 0 Q (F0 m 18 ls [])) (fun (ex : Ar) => ∀ (H : Heap) (locs : List Loc) (ls : Array Slot), WD g s A (w_X0_markNears g a_t a_kinds a_nears a_depths c_laid c_head c_fieldCount c_innerCount c_kinds ex) H locs → lv_has ls 3 [(0, .ref a_t), (1, .int v1)] → W p l e (rm9 2 44) s m args below meth c H locs 0 0 Q (F0 m 72 ls [])) ?_ hw ?_ H locs ls hW (lv_sub hl [1, 2, 0] rfl)
      · rintro ⟨c_nears, v2⟩ o hb9 hk H locs ls hW hl
        have h : X0_markNears_L18 c_kinds v1 c_nears v2 = some o := hb9
        clear hb9
        unfold X0_markNears_L18 at h
        have J66 : ∀ (c_nears : Ar) (v2 : Int32) (H : Heap) (locs : List Loc) (ls : Array Slot), X0_markNears_b18_66 c_nears v1 v2 = some o → WD g s A (w_X0_markNears g a_t a_kinds a_nears a_depths c_laid c_head c_fieldCount c_innerCount c_kinds c_nears) H locs → lv_has ls 3 [(0, .ref a_t), (1, .int v1), (2, .int v2)] → W p l e (rm9 2 44) s m args below meth c H locs 0 0 Q (F0 m 66 ls []) := by
          intro c_nears v2 H locs ls h hW hl
          unfold X0_markNears_b18_66 at h
          obtain ⟨v2_66, ev2_66, h⟩ := nm_ex h
          refine lv_iinc (pc := 66) (v := v2_66) (lv' := [(2, .int v2_66), (0, .ref a_t), (1, .int v1)]) hx hb (dd dX0_markNears 43 rfl) hl (k := 2) rfl (by rw [ev2_66]; rfl) (by decide) rfl (fun ls hl => ?_)
          refine lv_goto (pc := 69) (tgt := 18) hx hb (dd dX0_markNears 44 rfl) (by decide) ?_
          obtain rfl := Option.some.inj h
          exact hk _ _ _ hW (lv_sub hl [1, 2, 0] rfl)
        refine lv_iload_n (pc := 18) hx hb (dd dX0_markNears 12 rfl) rfl (lv_at hl 2 rfl) ?_
        refine lv_bipush (pc := 19) (v := 8) hx hb (dd dX0_markNears 13 rfl) (by decide) ?_
        refine lv_icmp_ge (pc := 21) (tgt := 72) hx hb (dd dX0_markNears 14 rfl) (by decide) (fun hc => ?_) (fun hc => ?_)
        · have h := it_t hc h
          obtain rfl := Option.some.inj h
          exact hk _ _ _ hW (lv_sub hl [0, 1] rfl)
        · have h := it_f hc h
          refine lv_aload_n (pc := 24) hx hb (dd dX0_markNears 15 rfl) rfl (lv_at hl 0 rfl) ?_
          refine lv_iload_n (pc := 25) hx hb (dd dX0_markNears 16 rfl) rfl (lv_at hl 1 rfl) ?_
          refine lv_iload_n (pc := 26) hx hb (dd dX0_markNears 17 rfl) rfl (lv_at hl 1 rfl) ?_
          refine rStepsN (pc := 27) M hW M.2.2.2.2.2.2.2.1.2.2.2.2.1 (dd dX0_markNears 18 rfl) ?_
          refine lv_iload_n (pc := 30) hx hb (dd dX0_markNears 19 rfl) rfl (lv_at hl 2 rfl) ?_
          obtain ⟨hi, h⟩ := ck_ex h
          refine rStep (pc := 31) M hW hi (dd dX0_markNears 20 rfl) ?_
          refine lv_iadd (pc := 32) hx hb (dd dX0_markNears 21 rfl) ?_
          obtain ⟨r_33, hr, h⟩ := bnd_ex h
          refine callVI (pc := 33) (na := 2) (As := [.int v1, .int (v1 + (ag stepA v2))]) (rest := []) (ws2 := (w_X0_markNears g a_t a_kinds a_nears a_depths c_laid c_head c_fieldCount c_innerCount c_kinds c_nears)) M hl.1 hW (t_X0_isStep l g a_t a_kinds a_nears a_depths c_laid c_head c_fieldCount c_innerCount v1 (v1 + (ag stepA v2)) r_33 hr) rfl [0] [1, 2] [2, 0, 1] rfl rfl rfl rfl rfl rfl rfl 0 0 rfl rfl rfl (uw3 76 rfl rfl) (uw3 73 rfl rfl) (uw3 75 rfl rfl) (uwp 9 rfl rfl) (uw1 5 rfl rfl) ⟨by decide, by decide, by decide⟩ rfl ⟨by decide, by decide⟩ (Nat.le_of_ble_eq_true rfl) ⟨Nat.zero_le _, Nat.zero_le _⟩ (dd dX0_markNears 22 rfl) (fun H locs hW => ?_)
          refine lv_if_eq (pc := 36) (tgt := 66) hx hb (dd dX0_markNears 23 rfl) (by decide) (fun hc => ?_) (fun hc => ?_)
          · have h := it_t hc h
            exact J66 _ _ _ _ _ h hW (lv_sub hl [0, 1, 2] rfl)
          · have h := it_f hc h
            refine lv_aload_n (pc := 39) hx hb (dd dX0_markNears 24 rfl) rfl (lv_at hl 0 rfl) ?_
            refine rGet (pc := 40) M hW 0 0 iU0 rfl rfl (by decide) (uw1 74 rfl rfl) rfl (dd dX0_markNears 25 rfl) ?_
            refine lv_iload_n (pc := 43) hx hb (dd dX0_markNears 26 rfl) rfl (lv_at hl 1 rfl) ?_
            refine rStepsN (pc := 44) M hW M.2.2.2.2.2.2.2.1.2.2.2.2.1 (dd dX0_markNears 27 rfl) ?_
            refine lv_iload_n (pc := 47) hx hb (dd dX0_markNears 28 rfl) rfl (lv_at hl 2 rfl) ?_
            obtain ⟨hi, h⟩ := ck_ex h
            refine rStep (pc := 48) M hW hi (dd dX0_markNears 29 rfl) ?_
            refine lv_iadd (pc := 49) hx hb (dd dX0_markNears 30 rfl) ?_
            obtain ⟨hi, h⟩ := ck_ex h
            refine rIald (pc := 50) M hW 1 rfl hi (dd dX0_markNears 31 rfl) ?_
            refine lv_if_eq (pc := 51) (tgt := 66) hx hb (dd dX0_markNears 32 rfl) (by decide) (fun hc => ?_) (fun hc => ?_)
            · have h := it_t hc h
              exact J66 _ _ _ _ _ h hW (lv_sub hl [0, 1, 2] rfl)
            · have h := it_f hc h
              refine lv_aload_n (pc := 54) hx hb (dd dX0_markNears 33 rfl) rfl (lv_at hl 0 rfl) ?_
              refine rGet (pc := 55) M hW 0 1 iU0 rfl rfl (by decide) (uw1 78 rfl rfl) rfl (dd dX0_markNears 34 rfl) ?_
              refine lv_iload_n (pc := 58) hx hb (dd dX0_markNears 35 rfl) rfl (lv_at hl 1 rfl) ?_
              refine lv_dup2_11 (pc := 59) hx hb (dd dX0_markNears 36 rfl) rfl rfl ?_
              obtain ⟨hi, h⟩ := ck_ex h
              refine rIald (pc := 60) M hW 2 rfl hi (dd dX0_markNears 37 rfl) ?_
              refine lv_iconst (pc := 61) (v := 1) hx hb (dd dX0_markNears 38 rfl) (by decide) ?_
              refine lv_iload_n (pc := 62) hx hb (dd dX0_markNears 39 rfl) rfl (lv_at hl 2 rfl) ?_
              refine lv_ishl (pc := 63) hx hb (dd dX0_markNears 40 rfl) ?_
              refine lv_ior (pc := 64) hx hb (dd dX0_markNears 41 rfl) ?_
              obtain ⟨hi, h⟩ := ck_ex h
              obtain ⟨c_nears_65, ec_nears_65, h⟩ := nm_ex h
              refine rIast (pc := 65) M hW 2 rfl hi ec_nears_65 (ws' := (w_X0_markNears g a_t a_kinds a_nears a_depths c_laid c_head c_fieldCount c_innerCount c_kinds c_nears_65)) rfl (dd dX0_markNears 42 rfl) (fun H locs hW => ?_)
              exact J66 _ _ _ _ _ h hW (lv_sub hl [0, 1, 2] rfl)
      · obtain ⟨c_nears_72, e9⟩ : ∃ z, z = ex := ⟨_, rfl⟩
        subst e9
        intro H locs ls hW hl
        obtain ⟨v1_72, ev1_72, h⟩ := nm_ex h
        refine lv_iinc (pc := 72) (v := v1_72) (lv' := [(1, .int v1_72), (0, .ref a_t)]) hx hb (dd dX0_markNears 45 rfl) hl (k := 1) rfl (by rw [ev1_72]; rfl) (by decide) rfl (fun ls hl => ?_)
        refine lv_goto (pc := 75) (tgt := 2) hx hb (dd dX0_markNears 46 rfl) (by decide) ?_
        obtain rfl := Option.some.inj h
        exact hk _ _ _ hW (lv_sub hl [1, 0] rfl)
  · obtain ⟨c_nears_78, e9⟩ : ∃ z, z = ex := ⟨_, rfl⟩
    subst e9
    intro H locs ls hW hl
    have hW9 := hW
    cases h
    exact ret _ _ _ 78 hW9 (dd dX0_markNears 47 rfl)
noncomputable def X9_isSquare (v0 v1 : Int32) : Option Int32 :=
  if v0 < 0 then (some 0) else (if 40 ≤ v0 then (some 0) else (if v1 < 0 then (some 0) else (if 30 ≤ v1 then (some 0) else (some 1))))
set_option maxHeartbeats 4000000 in
set_option maxRecDepth 100000 in
theorem t_X9_isSquare (l : Launch) (g : G9) (v0 v1 r0 : Int32) (h : X9_isSquare v0 v1 = some r0) : CtI l g yX9_isSquare cX9_isSquare 2 .boolean 0 0 [.int v0, .int v1] [] r0 [] := by
  refine startI (by decide) (Nat.le_of_ble_eq_true rfl) ?_
  intro p e s m below meth c A Q ls args M hW hl ret
  have hx := M.1
  have hb := M.2.1
  have hown := M.2.2.2.1
  have hu := M.2.2.2.2.1
  have hl : lv_has ls 2 [(0, .int v0), (1, .int v1)] := hl
  unfold X9_isSquare at h
  obtain ⟨H, eH⟩ : ∃ z, z = s.heap := ⟨_, rfl⟩
  obtain ⟨locs, eL⟩ : ∃ z, z = ([] : List Loc) := ⟨_, rfl⟩
  rw [← eL] at hW ⊢
  suffices hS9 : WD g s A [] H locs → W p l e (rm9 0 0) s m args below meth c H locs 0 0 Q (F0 m 0 ls []) by
    rw [← eH] at hW ⊢
    exact hS9 hW
  clear hW eH eL
  intro hW
  refine lv_iload_n (pc := 0) hx hb (dd dX9_isSquare 0 rfl) rfl (lv_at hl 0 rfl) ?_
  refine lv_if_lt (pc := 1) (tgt := 24) hx hb (dd dX9_isSquare 1 rfl) (by decide) (fun hc => ?_) (fun hc => ?_)
  · have h := it_t hc h
    refine lv_iconst (pc := 24) (v := 0) hx hb (dd dX9_isSquare 12 rfl) (by decide) ?_
    have hW9 := hW
    cases h
    exact ret _ _ _ 25 hW9 rfl (dd dX9_isSquare 13 rfl)
  · have h := it_f hc h
    refine lv_iload_n (pc := 4) hx hb (dd dX9_isSquare 2 rfl) rfl (lv_at hl 0 rfl) ?_
    refine lv_bipush (pc := 5) (v := 40) hx hb (dd dX9_isSquare 3 rfl) (by decide) ?_
    refine lv_icmp_ge (pc := 7) (tgt := 24) hx hb (dd dX9_isSquare 4 rfl) (by decide) (fun hc => ?_) (fun hc => ?_)
    · have h := it_t hc h
      refine lv_iconst (pc := 24) (v := 0) hx hb (dd dX9_isSquare 12 rfl) (by decide) ?_
      have hW9 := hW
      cases h
      exact ret _ _ _ 25 hW9 rfl (dd dX9_isSquare 13 rfl)
    · have h := it_f hc h
      refine lv_iload_n (pc := 10) hx hb (dd dX9_isSquare 5 rfl) rfl (lv_at hl 1 rfl) ?_
      refine lv_if_lt (pc := 11) (tgt := 24) hx hb (dd dX9_isSquare 6 rfl) (by decide) (fun hc => ?_) (fun hc => ?_)
      · have h := it_t hc h
        refine lv_iconst (pc := 24) (v := 0) hx hb (dd dX9_isSquare 12 rfl) (by decide) ?_
        have hW9 := hW
        cases h
        exact ret _ _ _ 25 hW9 rfl (dd dX9_isSquare 13 rfl)
      · have h := it_f hc h
        refine lv_iload_n (pc := 14) hx hb (dd dX9_isSquare 7 rfl) rfl (lv_at hl 1 rfl) ?_
        refine lv_bipush (pc := 15) (v := 30) hx hb (dd dX9_isSquare 8 rfl) (by decide) ?_
        refine lv_icmp_ge (pc := 17) (tgt := 24) hx hb (dd dX9_isSquare 9 rfl) (by decide) (fun hc => ?_) (fun hc => ?_)
        · have h := it_t hc h
          refine lv_iconst (pc := 24) (v := 0) hx hb (dd dX9_isSquare 12 rfl) (by decide) ?_
          have hW9 := hW
          cases h
          exact ret _ _ _ 25 hW9 rfl (dd dX9_isSquare 13 rfl)
        · have h := it_f hc h
          refine lv_iconst (pc := 20) (v := 1) hx hb (dd dX9_isSquare 10 rfl) (by decide) ?_
          refine lv_goto (pc := 21) (tgt := 25) hx hb (dd dX9_isSquare 11 rfl) (by decide) ?_
          have hW9 := hW
          cases h
          exact ret _ _ _ 25 hW9 rfl (dd dX9_isSquare 13 rfl)
noncomputable def X9_squareAt (v0 v1 : Int32) : Option Int32 :=
  some ((40 * v1) + v0)
set_option maxHeartbeats 4000000 in
set_option maxRecDepth 100000 in
theorem t_X9_squareAt (l : Launch) (g : G9) (v0 v1 r0 : Int32) (h : X9_squareAt v0 v1 = some r0) : CtI l g yX9_squareAt cX9_squareAt 2 .int 0 0 [.int v0, .int v1] [] r0 [] := by
  refine startI (by decide) (Nat.le_of_ble_eq_true rfl) ?_
  intro p e s m below meth c A Q ls args M hW hl ret
  have hx := M.1
  have hb := M.2.1
  have hown := M.2.2.2.1
  have hu := M.2.2.2.2.1
  have hl : lv_has ls 2 [(0, .int v0), (1, .int v1)] := hl
  unfold X9_squareAt at h
  obtain ⟨H, eH⟩ : ∃ z, z = s.heap := ⟨_, rfl⟩
  obtain ⟨locs, eL⟩ : ∃ z, z = ([] : List Loc) := ⟨_, rfl⟩
  rw [← eL] at hW ⊢
  suffices hS9 : WD g s A [] H locs → W p l e (rm9 0 0) s m args below meth c H locs 0 0 Q (F0 m 0 ls []) by
    rw [← eH] at hW ⊢
    exact hS9 hW
  clear hW eH eL
  intro hW
  refine lv_bipush (pc := 0) (v := 40) hx hb (dd dX9_squareAt 0 rfl) (by decide) ?_
  refine lv_iload_n (pc := 2) hx hb (dd dX9_squareAt 1 rfl) rfl (lv_at hl 1 rfl) ?_
  refine lv_imul (pc := 3) hx hb (dd dX9_squareAt 2 rfl) ?_
  refine lv_iload_n (pc := 4) hx hb (dd dX9_squareAt 3 rfl) rfl (lv_at hl 0 rfl) ?_
  refine lv_iadd (pc := 5) hx hb (dd dX9_squareAt 4 rfl) ?_
  have hW9 := hW
  cases h
  exact ret _ _ _ 6 hW9 rfl (dd dX9_squareAt 5 rfl)
abbrev w_X0_depthAt (g : G9) (a_t a_depths a_kinds a_nears : Nat) (c_laid c_head c_fieldCount c_innerCount : Int32) (c_depths : Ar) : va_W := [ob a_t 0 [.ref a_kinds, .ref a_nears, .ref a_depths, .int c_laid, .int c_head, .int c_fieldCount, .int c_innerCount], ia g a_depths 1200 c_depths]
noncomputable def X0_depthAt (c_depths : Ar) (v1 v2 : Int32) : Option Int32 :=
  bnd (X9_isSquare v1 v2) <| fun r_2 => if r_2 = 0 then (some 0) else (bnd (X9_squareAt v1 v2) <| fun r_14 => ck (ix r_14 1200) <| some (ag c_depths r_14))
set_option maxHeartbeats 4000000 in
set_option maxRecDepth 100000 in
theorem t_X0_depthAt (l : Launch) (g : G9) (a_t a_depths a_kinds a_nears : Nat) (c_laid c_head c_fieldCount c_innerCount : Int32) (c_depths : Ar) (v1 v2 r0 : Int32) (h : X0_depthAt c_depths v1 v2 = some r0) : CtI l g yX0_depthAt cX0_depthAt 3 .int 1 21 [.ref a_t, .int v1, .int v2] (w_X0_depthAt g a_t a_depths a_kinds a_nears c_laid c_head c_fieldCount c_innerCount c_depths) r0 (w_X0_depthAt g a_t a_depths a_kinds a_nears c_laid c_head c_fieldCount c_innerCount c_depths) := by
  refine startI (by decide) (Nat.le_of_ble_eq_true rfl) ?_
  intro p e s m below meth c A Q ls args M hW hl ret
  have hx := M.1
  have hb := M.2.1
  have hown := M.2.2.2.1
  have hu := M.2.2.2.2.1
  have hl : lv_has ls 3 [(0, .ref a_t), (1, .int v1), (2, .int v2)] := hl
  unfold X0_depthAt at h
  obtain ⟨H, eH⟩ : ∃ z, z = s.heap := ⟨_, rfl⟩
  obtain ⟨locs, eL⟩ : ∃ z, z = ([] : List Loc) := ⟨_, rfl⟩
  rw [← eL] at hW ⊢
  suffices hS9 : WD g s A (w_X0_depthAt g a_t a_depths a_kinds a_nears c_laid c_head c_fieldCount c_innerCount c_depths) H locs → W p l e (rm9 1 21) s m args below meth c H locs 0 0 Q (F0 m 0 ls []) by
    rw [← eH] at hW ⊢
    exact hS9 hW
  clear hW eH eL
  intro hW
  refine lv_iload_n (pc := 0) hx hb (dd dX0_depthAt 0 rfl) rfl (lv_at hl 1 rfl) ?_
  refine lv_iload_n (pc := 1) hx hb (dd dX0_depthAt 1 rfl) rfl (lv_at hl 2 rfl) ?_
  obtain ⟨r_2, hr, h⟩ := bnd_ex h
  refine callNI (pc := 2) (na := 2) (As := [.int v1, .int v2]) (rest := []) M hl.1 hW (t_X9_isSquare l g v1 v2 r_2 hr) (uw3 92 rfl rfl) M.2.2.2.2.2.2.2.1.2.2.1 (uw3 91 rfl rfl) (uw1 1 rfl rfl) ⟨by decide, by decide, by decide⟩ rfl ⟨by decide, by decide⟩ (Nat.le_of_ble_eq_true rfl) ⟨Nat.zero_le _, Nat.zero_le _⟩ (dd dX0_depthAt 2 rfl) (fun H locs hW => ?_)
  refine lv_if_eq (pc := 5) (tgt := 21) hx hb (dd dX0_depthAt 3 rfl) (by decide) (fun hc => ?_) (fun hc => ?_)
  · have h := it_t hc h
    refine lv_iconst (pc := 21) (v := 0) hx hb (dd dX0_depthAt 11 rfl) (by decide) ?_
    have hW9 := hW
    cases h
    exact ret _ _ _ 22 hW9 rfl (dd dX0_depthAt 12 rfl)
  · have h := it_f hc h
    refine lv_aload_n (pc := 8) hx hb (dd dX0_depthAt 4 rfl) rfl (lv_at hl 0 rfl) ?_
    refine rGet (pc := 9) M hW 0 2 iU0 rfl rfl (by decide) (uw1 81 rfl rfl) rfl (dd dX0_depthAt 5 rfl) ?_
    refine lv_iload_n (pc := 12) hx hb (dd dX0_depthAt 6 rfl) rfl (lv_at hl 1 rfl) ?_
    refine lv_iload_n (pc := 13) hx hb (dd dX0_depthAt 7 rfl) rfl (lv_at hl 2 rfl) ?_
    obtain ⟨r_14, hr, h⟩ := bnd_ex h
    refine callNI (pc := 14) (na := 2) (As := [.int v1, .int v2]) (rest := [.ref a_depths]) M hl.1 hW (t_X9_squareAt l g v1 v2 r_14 hr) (uw3 95 rfl rfl) M.2.2.2.2.2.2.2.1.2.2.2.1 (uw3 94 rfl rfl) (uw1 1 rfl rfl) ⟨by decide, by decide, by decide⟩ rfl ⟨by decide, by decide⟩ (Nat.le_of_ble_eq_true rfl) ⟨Nat.zero_le _, Nat.zero_le _⟩ (dd dX0_depthAt 8 rfl) (fun H locs hW => ?_)
    obtain ⟨hi, h⟩ := ck_ex h
    refine rIald (pc := 17) M hW 1 rfl hi (dd dX0_depthAt 9 rfl) ?_
    refine lv_goto (pc := 18) (tgt := 22) hx hb (dd dX0_depthAt 10 rfl) (by decide) ?_
    have hW9 := hW
    cases h
    exact ret _ _ _ 22 hW9 rfl (dd dX0_depthAt 12 rfl)
abbrev w_X0_leastDepth (g : G9) (a_t a_depths a_kinds a_nears : Nat) (c_laid c_head c_fieldCount c_innerCount : Int32) (c_depths : Ar) : va_W := [ob a_t 0 [.ref a_kinds, .ref a_nears, .ref a_depths, .int c_laid, .int c_head, .int c_fieldCount, .int c_innerCount], ia g a_depths 1200 c_depths]
noncomputable def X0_leastDepth_L13 (c_depths : Ar) (v1 v2 v3 v4 v5 : Int32) : Option ((Int32 × Int32) ⊕ Int32) :=
  if 1 < v5 then (some (.inr v4)) else (bnd (X0_depthAt c_depths (v1 + v5) (v2 + v3)) <| fun r_29 => nm ((mn v4 r_29)) fun v4_35 => nm (v5 + 1) fun v5_37 => some (.inl (v4_35, v5_37)))
noncomputable def X0_leastDepth (c_depths : Ar) (v1 v2 v3 : Int32) : Option Int32 :=
  bnd (X0_depthAt c_depths (v1 + v3) v2) <| fun r_5 => bnd (whileV (fun st => X0_leastDepth_L13 c_depths v1 v2 v3 st.1 st.2) (r_5, (-1))) <| (fun v4_43 => some v4_43)
set_option maxHeartbeats 4000000 in
set_option maxRecDepth 100000 in
theorem t_X0_leastDepth (l : Launch) (g : G9) (a_t a_depths a_kinds a_nears : Nat) (c_laid c_head c_fieldCount c_innerCount : Int32) (c_depths : Ar) (v1 v2 v3 r0 : Int32) (h : X0_leastDepth c_depths v1 v2 v3 = some r0) : CtI l g yX0_leastDepth cX0_leastDepth 6 .int 2 43 [.ref a_t, .int v1, .int v2, .int v3] (w_X0_leastDepth g a_t a_depths a_kinds a_nears c_laid c_head c_fieldCount c_innerCount c_depths) r0 (w_X0_leastDepth g a_t a_depths a_kinds a_nears c_laid c_head c_fieldCount c_innerCount c_depths) := by
  refine startI (by decide) (Nat.le_of_ble_eq_true rfl) ?_
  intro p e s m below meth c A Q ls args M hW hl ret
  have hx := M.1
  have hb := M.2.1
  have hown := M.2.2.2.1
  have hu := M.2.2.2.2.1
  have hl : lv_has ls 6 [(0, .ref a_t), (1, .int v1), (2, .int v2), (3, .int v3)] := hl
  unfold X0_leastDepth at h
  obtain ⟨H, eH⟩ : ∃ z, z = s.heap := ⟨_, rfl⟩
  obtain ⟨locs, eL⟩ : ∃ z, z = ([] : List Loc) := ⟨_, rfl⟩
  rw [← eL] at hW ⊢
  suffices hS9 : WD g s A (w_X0_leastDepth g a_t a_depths a_kinds a_nears c_laid c_head c_fieldCount c_innerCount c_depths) H locs → W p l e (rm9 2 43) s m args below meth c H locs 0 0 Q (F0 m 0 ls []) by
    rw [← eH] at hW ⊢
    exact hS9 hW
  clear hW eH eL
  intro hW
  refine lv_aload_n (pc := 0) hx hb (dd dX0_leastDepth 0 rfl) rfl (lv_at hl 0 rfl) ?_
  refine lv_iload_n (pc := 1) hx hb (dd dX0_leastDepth 1 rfl) rfl (lv_at hl 1 rfl) ?_
  refine lv_iload_n (pc := 2) hx hb (dd dX0_leastDepth 2 rfl) rfl (lv_at hl 3 rfl) ?_
  refine lv_iadd (pc := 3) hx hb (dd dX0_leastDepth 3 rfl) ?_
  refine lv_iload_n (pc := 4) hx hb (dd dX0_leastDepth 4 rfl) rfl (lv_at hl 2 rfl) ?_
  obtain ⟨r_5, hr, h⟩ := bnd_ex h
  refine callVI (pc := 5) (na := 2) (As := [.int (v1 + v3), .int v2]) (rest := []) (ws2 := (w_X0_leastDepth g a_t a_depths a_kinds a_nears c_laid c_head c_fieldCount c_innerCount c_depths)) M hl.1 hW (t_X0_depthAt l g a_t a_depths a_kinds a_nears c_laid c_head c_fieldCount c_innerCount c_depths (v1 + v3) v2 r_5 hr) rfl [0, 1] [] [0, 1] rfl rfl rfl rfl rfl rfl rfl 0 0 rfl rfl rfl (uw3 89 rfl rfl) (uw3 86 rfl rfl) (uw3 88 rfl rfl) (uwp 12 rfl rfl) (uw1 5 rfl rfl) ⟨by decide, by decide, by decide⟩ rfl ⟨by decide, by decide⟩ (Nat.le_of_ble_eq_true rfl) ⟨Nat.zero_le _, Nat.zero_le _⟩ (dd dX0_leastDepth 5 rfl) (fun H locs hW => ?_)
  refine lv_istore (pc := 8) (lv' := [(4, .int r_5), (0, .ref a_t), (1, .int v1), (2, .int v2), (3, .int v3)]) hx hb (dd dX0_leastDepth 6 rfl) hl (by decide) rfl (fun ls hl => ?_)
  refine lv_iconst (pc := 10) (v := (-1)) hx hb (dd dX0_leastDepth 7 rfl) (by decide) ?_
  refine lv_istore (pc := 11) (lv' := [(5, .int (-1)), (4, .int r_5), (0, .ref a_t), (1, .int v1), (2, .int v2), (3, .int v3)]) hx hb (dd dX0_leastDepth 8 rfl) hl (by decide) rfl (fun ls hl => ?_)
  obtain ⟨ex, hw, h⟩ := bnd_ex h
  refine loopW (fun st => ∀ (H : Heap) (locs : List Loc) (ls : Array Slot), WD g s A (w_X0_leastDepth g a_t a_depths a_kinds a_nears c_laid c_head c_fieldCount c_innerCount c_depths) H locs → lv_has ls 6 [(0, .ref a_t), (1, .int v1), (2, .int v2), (3, .int v3), (4, .int (st.1)), (5, .int (st.2))] → W p l e (rm9 2 43) s m args below meth c H locs 0 0 Q (F0 m 13 ls [])) (fun (ex : Int32) => ∀ (H : Heap) (locs : List Loc) (ls : Array Slot), WD g s A (w_X0_leastDepth g a_t a_depths a_kinds a_nears c_laid c_head c_fieldCount c_innerCount c_depths) H locs → lv_has ls 6 [(4, .int ex)] → W p l e (rm9 2 43) s m args below meth c H locs 0 0 Q (F0 m 43 ls [])) ?_ hw ?_ H locs ls hW (lv_sub hl [2, 3, 4, 5, 1, 0] rfl)
  · rintro ⟨v4, v5⟩ o hb9 hk H locs ls hW hl
    have h : X0_leastDepth_L13 c_depths v1 v2 v3 v4 v5 = some o := hb9
    clear hb9
    unfold X0_leastDepth_L13 at h
    refine lv_iload (pc := 13) hx hb (dd dX0_leastDepth 9 rfl) (lv_at hl 5 rfl) ?_
    refine lv_iconst (pc := 15) (v := 1) hx hb (dd dX0_leastDepth 10 rfl) (by decide) ?_
    refine lv_icmp_gt (pc := 16) (tgt := 43) hx hb (dd dX0_leastDepth 11 rfl) (by decide) (fun hc => ?_) (fun hc => ?_)
    · have h := it_t hc h
      obtain rfl := Option.some.inj h
      exact hk _ _ _ hW (lv_sub hl [4] rfl)
    · have h := it_f hc h
      refine lv_iload (pc := 19) hx hb (dd dX0_leastDepth 12 rfl) (lv_at hl 4 rfl) ?_
      refine lv_aload_n (pc := 21) hx hb (dd dX0_leastDepth 13 rfl) rfl (lv_at hl 0 rfl) ?_
      refine lv_iload_n (pc := 22) hx hb (dd dX0_leastDepth 14 rfl) rfl (lv_at hl 1 rfl) ?_
      refine lv_iload (pc := 23) hx hb (dd dX0_leastDepth 15 rfl) (lv_at hl 5 rfl) ?_
      refine lv_iadd (pc := 25) hx hb (dd dX0_leastDepth 16 rfl) ?_
      refine lv_iload_n (pc := 26) hx hb (dd dX0_leastDepth 17 rfl) rfl (lv_at hl 2 rfl) ?_
      refine lv_iload_n (pc := 27) hx hb (dd dX0_leastDepth 18 rfl) rfl (lv_at hl 3 rfl) ?_
      refine lv_iadd (pc := 28) hx hb (dd dX0_leastDepth 19 rfl) ?_
      obtain ⟨r_29, hr, h⟩ := bnd_ex h
      refine callVI (pc := 29) (na := 2) (As := [.int (v1 + v5), .int (v2 + v3)]) (rest := [.int v4]) (ws2 := (w_X0_leastDepth g a_t a_depths a_kinds a_nears c_laid c_head c_fieldCount c_innerCount c_depths)) M hl.1 hW (t_X0_depthAt l g a_t a_depths a_kinds a_nears c_laid c_head c_fieldCount c_innerCount c_depths (v1 + v5) (v2 + v3) r_29 hr) rfl [0, 1] [] [0, 1] rfl rfl rfl rfl rfl rfl rfl 0 0 rfl rfl rfl (uw3 89 rfl rfl) (uw3 86 rfl rfl) (uw3 88 rfl rfl) (uwp 12 rfl rfl) (uw1 5 rfl rfl) ⟨by decide, by decide, by decide⟩ rfl ⟨by decide, by decide⟩ (Nat.le_of_ble_eq_true rfl) ⟨Nat.zero_le _, Nat.zero_le _⟩ (dd dX0_leastDepth 20 rfl) (fun H locs hW => ?_)
      refine rMin (pc := 32) M hl.1 (uw3 96 rfl rfl) (uw3 97 rfl rfl) (uw1 4 rfl rfl) (uw3 98 rfl rfl) ⟨by decide, by decide⟩ (Nat.le_of_ble_eq_true rfl) ⟨Nat.zero_le _, Nat.zero_le _⟩ (dd dX0_leastDepth 21 rfl) ?_
      obtain ⟨v4_35, ev4_35, h⟩ := nm_ex h
      refine rTopi (pc := 35) ev4_35 ?_
      refine lv_istore (pc := 35) (lv' := [(4, .int v4_35), (0, .ref a_t), (1, .int v1), (2, .int v2), (3, .int v3), (5, .int v5)]) hx hb (dd dX0_leastDepth 22 rfl) hl (by decide) rfl (fun ls hl => ?_)
      obtain ⟨v5_37, ev5_37, h⟩ := nm_ex h
      refine lv_iinc (pc := 37) (v := v5_37) (lv' := [(5, .int v5_37), (4, .int v4_35), (0, .ref a_t), (1, .int v1), (2, .int v2), (3, .int v3)]) hx hb (dd dX0_leastDepth 23 rfl) hl (k := 5) rfl (by rw [ev5_37]; rfl) (by decide) rfl (fun ls hl => ?_)
      refine lv_goto (pc := 40) (tgt := 13) hx hb (dd dX0_leastDepth 24 rfl) (by decide) ?_
      obtain rfl := Option.some.inj h
      exact hk _ _ _ hW (lv_sub hl [2, 3, 4, 5, 1, 0] rfl)
  · obtain ⟨v4_43, e9⟩ : ∃ z, z = ex := ⟨_, rfl⟩
    subst e9
    intro H locs ls hW hl
    refine lv_iload (pc := 43) hx hb (dd dX0_leastDepth 25 rfl) (lv_at hl 0 rfl) ?_
    have hW9 := hW
    cases h
    exact ret _ _ _ 45 hW9 rfl (dd dX0_leastDepth 26 rfl)
abbrev w_X0_sound (g : G9) (a_t a_depths a_kinds a_nears : Nat) (c_laid c_head c_fieldCount c_innerCount : Int32) (c_depths c_kinds : Ar) : va_W := [ob a_t 0 [.ref a_kinds, .ref a_nears, .ref a_depths, .int c_laid, .int c_head, .int c_fieldCount, .int c_innerCount], ia g a_depths 1200 c_depths, ia g a_kinds 1200 c_kinds]
noncomputable def X0_sound_b2_42 (c_depths : Ar) (v1 k1 k2 : Int32) : Option ((Ar × Int32) ⊕ Ar) :=
  ck (ix k1 1200) <| nm (au c_depths k1 k2) fun c_depths_42 => nm (v1 + 1) fun v1_43 => some (.inl (c_depths_42, v1_43))
noncomputable def X0_sound_L2 (c_kinds c_depths : Ar) (v1 : Int32) : Option ((Ar × Int32) ⊕ Ar) :=
  if 1200 ≤ v1 then (some (.inr c_depths)) else (ck (ix v1 1200) <| if (ag c_kinds v1) = 0 then (X0_sound_b2_42 c_depths v1 v1 0) else (bnd (X0_leastDepth c_depths (v1 - v1 / 40 * 40) (v1 / 40) (-1)) <| fun r_38 => X0_sound_b2_42 c_depths v1 v1 (1 + r_38)))
noncomputable def X0_sound_b53_96 (c_depths : Ar) (v1 : Int32) : Option ((Ar × Int32) ⊕ Ar) :=
  nm (v1 + (-1)) fun v1_96 => some (.inl (c_depths, v1_96))
noncomputable def X0_sound_L53 (c_kinds c_depths : Ar) (v1 : Int32) : Option ((Ar × Int32) ⊕ Ar) :=
  if v1 < 0 then (some (.inr c_depths)) else (ck (ix v1 1200) <| if (ag c_kinds v1) = 0 then (X0_sound_b53_96 c_depths v1) else (ck (ix v1 1200) <| bnd (X0_leastDepth c_depths (v1 - v1 / 40 * 40) (v1 / 40) 1) <| fun r_88 => ck (ix v1 1200) <| nm (au c_depths v1 (mn (ag c_depths v1) (1 + r_88))) fun c_depths_95 => X0_sound_b53_96 c_depths_95 v1))
noncomputable def X0_sound (c_depths c_kinds : Ar) : Option Ar :=
  bnd (whileV (fun st => X0_sound_L2 c_kinds st.1 st.2) (c_depths, 0)) <| (fun c_depths_49 => bnd (whileV (fun st => X0_sound_L53 c_kinds st.1 st.2) (c_depths_49, 1199)) <| (fun c_depths_102 => some c_depths_102))
set_option maxHeartbeats 4000000 in
set_option maxRecDepth 100000 in
theorem t_X0_sound (l : Launch) (g : G9) (a_t a_depths a_kinds a_nears : Nat) (c_laid c_head c_fieldCount c_innerCount : Int32) (c_depths c_kinds o_depths : Ar) (h : X0_sound c_depths c_kinds = some o_depths) : CtV l g yX0_sound cX0_sound 2 3 68 [.ref a_t] (w_X0_sound g a_t a_depths a_kinds a_nears c_laid c_head c_fieldCount c_innerCount c_depths c_kinds) (w_X0_sound g a_t a_depths a_kinds a_nears c_laid c_head c_fieldCount c_innerCount o_depths c_kinds) := by
  refine startV (by decide) (Nat.le_of_ble_eq_true rfl) ?_
  intro p e s m below meth c A Q ls args M hW hl ret
  have hx := M.1
  have hb := M.2.1
  have hown := M.2.2.2.1
  have hu := M.2.2.2.2.1
  have hl : lv_has ls 2 [(0, .ref a_t)] := hl
  unfold X0_sound at h
  obtain ⟨H, eH⟩ : ∃ z, z = s.heap := ⟨_, rfl⟩
  obtain ⟨locs, eL⟩ : ∃ z, z = ([] : List Loc) := ⟨_, rfl⟩
  rw [← eL] at hW ⊢
  suffices hS9 : WD g s A (w_X0_sound g a_t a_depths a_kinds a_nears c_laid c_head c_fieldCount c_innerCount c_depths c_kinds) H locs → W p l e (rm9 3 68) s m args below meth c H locs 0 0 Q (F0 m 0 ls []) by
    rw [← eH] at hW ⊢
    exact hS9 hW
  clear hW eH eL
  intro hW
  refine lv_iconst (pc := 0) (v := 0) hx hb (dd dX0_sound_p0 0 rfl) (by decide) ?_
  refine lv_istore_n (pc := 1) (lv' := [(1, .int 0), (0, .ref a_t)]) hx hb (dd dX0_sound_p0 1 rfl) rfl hl (by decide) rfl (fun ls hl => ?_)
  obtain ⟨ex, hw, h⟩ := bnd_ex h
  refine loopW (fun st => ∀ (H : Heap) (locs : List Loc) (ls : Array Slot), WD g s A (w_X0_sound g a_t a_depths a_kinds a_nears c_laid c_head c_fieldCount c_innerCount (st.1) c_kinds) H locs → lv_has ls 2 [(0, .ref a_t), (1, .int (st.2))] → W p l e (rm9 3 68) s m args below meth c H locs 0 0 Q (F0 m 2 ls [])) (fun (ex : Ar) => ∀ (H : Heap) (locs : List Loc) (ls : Array Slot), WD g s A (w_X0_sound g a_t a_depths a_kinds a_nears c_laid c_head c_fieldCount c_innerCount ex c_kinds) H locs → lv_has ls 2 [(0, .ref a_t)] → W p l e (rm9 3 68) s m args below meth c H locs 0 0 Q (F0 m 49 ls [])) ?_ hw ?_ H locs ls hW (lv_sub hl [1, 0] rfl)
  · rintro ⟨c_depths, v1⟩ o hb9 hk H locs ls hW hl
    have h : X0_sound_L2 c_kinds c_depths v1 = some o := hb9
    clear hb9
    unfold X0_sound_L2 at h
    have J42 : ∀ (c_depths : Ar) (v1 k1 k2 : Int32) (H : Heap) (locs : List Loc) (ls : Array Slot), X0_sound_b2_42 c_depths v1 k1 k2 = some o → WD g s A (w_X0_sound g a_t a_depths a_kinds a_nears c_laid c_head c_fieldCount c_innerCount c_depths c_kinds) H locs → lv_has ls 2 [(0, .ref a_t), (1, .int v1)] → W p l e (rm9 3 68) s m args below meth c H locs 0 0 Q (F0 m 42 ls [.int k2, .int k1, .ref a_depths]) := by
      intro c_depths v1 k1 k2 H locs ls h hW hl
      unfold X0_sound_b2_42 at h
      obtain ⟨hi, h⟩ := ck_ex h
      obtain ⟨c_depths_42, ec_depths_42, h⟩ := nm_ex h
      refine rIast (pc := 42) M hW 1 rfl hi ec_depths_42 (ws' := (w_X0_sound g a_t a_depths a_kinds a_nears c_laid c_head c_fieldCount c_innerCount c_depths_42 c_kinds)) rfl (dd dX0_sound_p0 26 rfl) (fun H locs hW => ?_)
      obtain ⟨v1_43, ev1_43, h⟩ := nm_ex h
      refine lv_iinc (pc := 43) (v := v1_43) (lv' := [(1, .int v1_43), (0, .ref a_t)]) hx hb (dd dX0_sound_p0 27 rfl) hl (k := 1) rfl (by rw [ev1_43]; rfl) (by decide) rfl (fun ls hl => ?_)
      refine lv_goto (pc := 46) (tgt := 2) hx hb (dd dX0_sound_p0 28 rfl) (by decide) ?_
      obtain rfl := Option.some.inj h
      exact hk _ _ _ hW (lv_sub hl [1, 0] rfl)
    refine lv_iload_n (pc := 2) hx hb (dd dX0_sound_p0 2 rfl) rfl (lv_at hl 1 rfl) ?_
    refine lv_sipush (pc := 3) (v := 1200) hx hb (dd dX0_sound_p0 3 rfl) (by decide) ?_
    refine lv_icmp_ge (pc := 6) (tgt := 49) hx hb (dd dX0_sound_p0 4 rfl) (by decide) (fun hc => ?_) (fun hc => ?_)
    · have h := it_t hc h
      obtain rfl := Option.some.inj h
      exact hk _ _ _ hW (lv_sub hl [0] rfl)
    · have h := it_f hc h
      refine lv_aload_n (pc := 9) hx hb (dd dX0_sound_p0 5 rfl) rfl (lv_at hl 0 rfl) ?_
      refine rGet (pc := 10) M hW 0 2 iU0 rfl rfl (by decide) (uw1 81 rfl rfl) rfl (dd dX0_sound_p0 6 rfl) ?_
      refine lv_iload_n (pc := 13) hx hb (dd dX0_sound_p0 7 rfl) rfl (lv_at hl 1 rfl) ?_
      refine lv_aload_n (pc := 14) hx hb (dd dX0_sound_p0 8 rfl) rfl (lv_at hl 0 rfl) ?_
      refine rGet (pc := 15) M hW 0 0 iU0 rfl rfl (by decide) (uw1 74 rfl rfl) rfl (dd dX0_sound_p0 9 rfl) ?_
      refine lv_iload_n (pc := 18) hx hb (dd dX0_sound_p0 10 rfl) rfl (lv_at hl 1 rfl) ?_
      obtain ⟨hi, h⟩ := ck_ex h
      refine rIald (pc := 19) M hW 2 rfl hi (dd dX0_sound_p0 11 rfl) ?_
      refine lv_if_ne (pc := 20) (tgt := 27) hx hb (dd dX0_sound_p0 12 rfl) (by decide) (fun hc => ?_) (fun hc => ?_)
      · have h := it_f hc h
        refine lv_iconst (pc := 27) (v := 1) hx hb (dd dX0_sound_p0 15 rfl) (by decide) ?_
        refine lv_aload_n (pc := 28) hx hb (dd dX0_sound_p0 16 rfl) rfl (lv_at hl 0 rfl) ?_
        refine lv_iload_n (pc := 29) hx hb (dd dX0_sound_p0 17 rfl) rfl (lv_at hl 1 rfl) ?_
        refine lv_bipush (pc := 30) (v := 40) hx hb (dd dX0_sound_p0 18 rfl) (by decide) ?_
        refine lv_irem (pc := 32) hx hb (dd dX0_sound_p0 19 rfl) (by decide) ?_
        refine lv_iload_n (pc := 33) hx hb (dd dX0_sound_p0 20 rfl) rfl (lv_at hl 1 rfl) ?_
        refine lv_bipush (pc := 34) (v := 40) hx hb (dd dX0_sound_p0 21 rfl) (by decide) ?_
        refine lv_idiv (pc := 36) hx hb (dd dX0_sound_p0 22 rfl) (by decide) ?_
        refine lv_iconst (pc := 37) (v := (-1)) hx hb (dd dX0_sound_p0 23 rfl) (by decide) ?_
        obtain ⟨r_38, hr, h⟩ := bnd_ex h
        refine callVI (pc := 38) (na := 3) (As := [.int (v1 - v1 / 40 * 40), .int (v1 / 40), .int (-1)]) (rest := [.int 1, .int v1, .ref a_depths]) (ws2 := (w_X0_sound g a_t a_depths a_kinds a_nears c_laid c_head c_fieldCount c_innerCount c_depths c_kinds)) M hl.1 hW (t_X0_leastDepth l g a_t a_depths a_kinds a_nears c_laid c_head c_fieldCount c_innerCount c_depths (v1 - v1 / 40 * 40) (v1 / 40) (-1) r_38 hr) rfl [0, 1] [2] [1, 2, 0] rfl rfl rfl rfl rfl rfl rfl 0 0 rfl rfl rfl (uw3 85 rfl rfl) (uw3 82 rfl rfl) (uw3 84 rfl rfl) (uwp 11 rfl rfl) (uw1 5 rfl rfl) ⟨by decide, by decide, by decide⟩ rfl ⟨by decide, by decide⟩ (Nat.le_of_ble_eq_true rfl) ⟨Nat.zero_le _, Nat.zero_le _⟩ (dd dX0_sound_p0 24 rfl) (fun H locs hW => ?_)
        refine lv_iadd (pc := 41) hx hb (dd dX0_sound_p0 25 rfl) ?_
        exact J42 _ _ _ _ _ _ _ h hW (lv_sub hl [0, 1] rfl)
      · have h := it_t hc h
        refine lv_iconst (pc := 23) (v := 0) hx hb (dd dX0_sound_p0 13 rfl) (by decide) ?_
        refine lv_goto (pc := 24) (tgt := 42) hx hb (dd dX0_sound_p0 14 rfl) (by decide) ?_
        exact J42 _ _ _ _ _ _ _ h hW (lv_sub hl [0, 1] rfl)
  · obtain ⟨c_depths_49, e9⟩ : ∃ z, z = ex := ⟨_, rfl⟩
    subst e9
    intro H locs ls hW hl
    refine lv_sipush (pc := 49) (v := 1199) hx hb (dd dX0_sound_p0 29 rfl) (by decide) ?_
    refine lv_istore_n (pc := 52) (lv' := [(1, .int 1199), (0, .ref a_t)]) hx hb (dd dX0_sound_p0 30 rfl) rfl hl (by decide) rfl (fun ls hl => ?_)
    obtain ⟨ex, hw, h⟩ := bnd_ex h
    refine loopW (fun st => ∀ (H : Heap) (locs : List Loc) (ls : Array Slot), WD g s A (w_X0_sound g a_t a_depths a_kinds a_nears c_laid c_head c_fieldCount c_innerCount (st.1) c_kinds) H locs → lv_has ls 2 [(0, .ref a_t), (1, .int (st.2))] → W p l e (rm9 3 68) s m args below meth c H locs 0 0 Q (F0 m 53 ls [])) (fun (ex : Ar) => ∀ (H : Heap) (locs : List Loc) (ls : Array Slot), WD g s A (w_X0_sound g a_t a_depths a_kinds a_nears c_laid c_head c_fieldCount c_innerCount ex c_kinds) H locs → lv_has ls 2 [] → W p l e (rm9 3 68) s m args below meth c H locs 0 0 Q (F0 m 102 ls [])) ?_ hw ?_ H locs ls hW (lv_sub hl [1, 0] rfl)
    · rintro ⟨c_depths, v1⟩ o hb9 hk H locs ls hW hl
      have h : X0_sound_L53 c_kinds c_depths v1 = some o := hb9
      clear hb9
      unfold X0_sound_L53 at h
      have J96 : ∀ (c_depths : Ar) (v1 : Int32) (H : Heap) (locs : List Loc) (ls : Array Slot), X0_sound_b53_96 c_depths v1 = some o → WD g s A (w_X0_sound g a_t a_depths a_kinds a_nears c_laid c_head c_fieldCount c_innerCount c_depths c_kinds) H locs → lv_has ls 2 [(0, .ref a_t), (1, .int v1)] → W p l e (rm9 3 68) s m args below meth c H locs 0 0 Q (F0 m 96 ls []) := by
        intro c_depths v1 H locs ls h hW hl
        unfold X0_sound_b53_96 at h
        obtain ⟨v1_96, ev1_96, h⟩ := nm_ex h
        refine lv_iinc (pc := 96) (v := v1_96) (lv' := [(1, .int v1_96), (0, .ref a_t)]) hx hb (dd dX0_sound_p0 58 rfl) hl (k := 1) rfl (by rw [ev1_96]; rfl) (by decide) rfl (fun ls hl => ?_)
        refine lv_goto (pc := 99) (tgt := 53) hx hb (dd dX0_sound_p0 59 rfl) (by decide) ?_
        obtain rfl := Option.some.inj h
        exact hk _ _ _ hW (lv_sub hl [1, 0] rfl)
      refine lv_iload_n (pc := 53) hx hb (dd dX0_sound_p0 31 rfl) rfl (lv_at hl 1 rfl) ?_
      refine lv_if_lt (pc := 54) (tgt := 102) hx hb (dd dX0_sound_p0 32 rfl) (by decide) (fun hc => ?_) (fun hc => ?_)
      · have h := it_t hc h
        obtain rfl := Option.some.inj h
        exact hk _ _ _ hW (lv_sub hl [] rfl)
      · have h := it_f hc h
        refine lv_aload_n (pc := 57) hx hb (dd dX0_sound_p0 33 rfl) rfl (lv_at hl 0 rfl) ?_
        refine rGet (pc := 58) M hW 0 0 iU0 rfl rfl (by decide) (uw1 74 rfl rfl) rfl (dd dX0_sound_p0 34 rfl) ?_
        refine lv_iload_n (pc := 61) hx hb (dd dX0_sound_p0 35 rfl) rfl (lv_at hl 1 rfl) ?_
        obtain ⟨hi, h⟩ := ck_ex h
        refine rIald (pc := 62) M hW 2 rfl hi (dd dX0_sound_p0 36 rfl) ?_
        refine lv_if_eq (pc := 63) (tgt := 96) hx hb (dd dX0_sound_p0 37 rfl) (by decide) (fun hc => ?_) (fun hc => ?_)
        · have h := it_t hc h
          exact J96 _ _ _ _ _ h hW (lv_sub hl [0, 1] rfl)
        · have h := it_f hc h
          refine lv_aload_n (pc := 66) hx hb (dd dX0_sound_p0 38 rfl) rfl (lv_at hl 0 rfl) ?_
          refine rGet (pc := 67) M hW 0 2 iU0 rfl rfl (by decide) (uw1 81 rfl rfl) rfl (dd dX0_sound_p0 39 rfl) ?_
          refine lv_iload_n (pc := 70) hx hb (dd dX0_sound_p0 40 rfl) rfl (lv_at hl 1 rfl) ?_
          refine lv_aload_n (pc := 71) hx hb (dd dX0_sound_p0 41 rfl) rfl (lv_at hl 0 rfl) ?_
          refine rGet (pc := 72) M hW 0 2 iU0 rfl rfl (by decide) (uw1 81 rfl rfl) rfl (dd dX0_sound_p0 42 rfl) ?_
          refine lv_iload_n (pc := 75) hx hb (dd dX0_sound_p0 43 rfl) rfl (lv_at hl 1 rfl) ?_
          obtain ⟨hi, h⟩ := ck_ex h
          refine rIald (pc := 76) M hW 1 rfl hi (dd dX0_sound_p0 44 rfl) ?_
          refine lv_iconst (pc := 77) (v := 1) hx hb (dd dX0_sound_p0 45 rfl) (by decide) ?_
          refine lv_aload_n (pc := 78) hx hb (dd dX0_sound_p0 46 rfl) rfl (lv_at hl 0 rfl) ?_
          refine lv_iload_n (pc := 79) hx hb (dd dX0_sound_p0 47 rfl) rfl (lv_at hl 1 rfl) ?_
          refine lv_bipush (pc := 80) (v := 40) hx hb (dd dX0_sound_p0 48 rfl) (by decide) ?_
          refine lv_irem (pc := 82) hx hb (dd dX0_sound_p0 49 rfl) (by decide) ?_
          refine lv_iload_n (pc := 83) hx hb (dd dX0_sound_p0 50 rfl) rfl (lv_at hl 1 rfl) ?_
          refine lv_bipush (pc := 84) (v := 40) hx hb (dd dX0_sound_p0 51 rfl) (by decide) ?_
          refine lv_idiv (pc := 86) hx hb (dd dX0_sound_p0 52 rfl) (by decide) ?_
          refine lv_iconst (pc := 87) (v := 1) hx hb (dd dX0_sound_p0 53 rfl) (by decide) ?_
          obtain ⟨r_88, hr, h⟩ := bnd_ex h
          refine callVI (pc := 88) (na := 3) (As := [.int (v1 - v1 / 40 * 40), .int (v1 / 40), .int 1]) (rest := [.int 1, .int (ag c_depths v1), .int v1, .ref a_depths]) (ws2 := (w_X0_sound g a_t a_depths a_kinds a_nears c_laid c_head c_fieldCount c_innerCount c_depths c_kinds)) M hl.1 hW (t_X0_leastDepth l g a_t a_depths a_kinds a_nears c_laid c_head c_fieldCount c_innerCount c_depths (v1 - v1 / 40 * 40) (v1 / 40) 1 r_88 hr) rfl [0, 1] [2] [1, 2, 0] rfl rfl rfl rfl rfl rfl rfl 0 0 rfl rfl rfl (uw3 85 rfl rfl) (uw3 82 rfl rfl) (uw3 84 rfl rfl) (uwp 11 rfl rfl) (uw1 5 rfl rfl) ⟨by decide, by decide, by decide⟩ rfl ⟨by decide, by decide⟩ (Nat.le_of_ble_eq_true rfl) ⟨Nat.zero_le _, Nat.zero_le _⟩ (dd dX0_sound_p0 54 rfl) (fun H locs hW => ?_)
          refine lv_iadd (pc := 91) hx hb (dd dX0_sound_p0 55 rfl) ?_
          refine rMin (pc := 92) M hl.1 (uw3 96 rfl rfl) (uw3 97 rfl rfl) (uw1 4 rfl rfl) (uw3 98 rfl rfl) ⟨by decide, by decide⟩ (Nat.le_of_ble_eq_true rfl) ⟨Nat.zero_le _, Nat.zero_le _⟩ (dd dX0_sound_p0 56 rfl) ?_
          obtain ⟨hi, h⟩ := ck_ex h
          obtain ⟨c_depths_95, ec_depths_95, h⟩ := nm_ex h
          refine rIast (pc := 95) M hW 1 rfl hi ec_depths_95 (ws' := (w_X0_sound g a_t a_depths a_kinds a_nears c_laid c_head c_fieldCount c_innerCount c_depths_95 c_kinds)) rfl (dd dX0_sound_p0 57 rfl) (fun H locs hW => ?_)
          exact J96 _ _ _ _ _ h hW (lv_sub hl [0, 1] rfl)
    · obtain ⟨c_depths_102, e9⟩ : ∃ z, z = ex := ⟨_, rfl⟩
      subst e9
      intro H locs ls hW hl
      have hW9 := hW
      cases h
      exact ret _ _ _ 102 hW9 (dd dX0_sound_p1 0 rfl)
abbrev w_X0_markHead (g : G9) (a_t a_depths a_kinds a_nears : Nat) (c_laid c_head c_fieldCount c_innerCount : Int32) (c_depths c_kinds : Ar) : va_W := [ob a_t 0 [.ref a_kinds, .ref a_nears, .ref a_depths, .int c_laid, .int c_head, .int c_fieldCount, .int c_innerCount], ia g a_depths 1200 c_depths, ia g a_kinds 1200 c_kinds]
noncomputable def X0_markHead_b7_65 (c_innerCount : Int32) (c_kinds : Ar) (v1 : Int32) : Option ((Int32 × Ar × Int32) ⊕ (Int32 × Ar)) :=
  nm (v1 + 1) fun v1_65 => some (.inl (c_innerCount, c_kinds, v1_65))
noncomputable def X0_markHead_b7_46 (c_innerCount : Int32) (c_kinds : Ar) (v1 : Int32) : Option ((Int32 × Ar × Int32) ⊕ (Int32 × Ar)) :=
  ck (ix v1 1200) <| if (ag c_kinds v1) = 0 then (X0_markHead_b7_65 c_innerCount c_kinds v1) else (nm ((c_innerCount + 1)) fun c_innerCount_62 => X0_markHead_b7_65 c_innerCount_62 c_kinds v1)
noncomputable def X0_markHead_L7 (c_head : Int32) (c_depths : Ar) (c_innerCount : Int32) (c_kinds : Ar) (v1 : Int32) : Option ((Int32 × Ar × Int32) ⊕ (Int32 × Ar)) :=
  if 1200 ≤ v1 then (some (.inr (c_innerCount, c_kinds))) else (ck (ix v1 1200) <| if (ag c_kinds v1) = 0 then (X0_markHead_b7_46 c_innerCount c_kinds v1) else (ck (ix v1 1200) <| if c_head < (ag c_depths v1) then (X0_markHead_b7_46 c_innerCount c_kinds v1) else (ck (ix v1 1200) <| nm (au c_kinds v1 1) fun c_kinds_42 => X0_markHead_b7_65 c_innerCount c_kinds_42 v1)))
noncomputable def X0_markHead (c_head c_innerCount : Int32) (c_depths c_kinds : Ar) : Option (Int32 × Ar) :=
  bnd (whileV (fun st => X0_markHead_L7 c_head c_depths st.1 st.2.1 st.2.2) (0, c_kinds, 0)) <| (un2 fun c_innerCount_71 c_kinds_71 => some (c_innerCount_71, c_kinds_71))
set_option maxHeartbeats 4000000 in
set_option maxRecDepth 100000 in
theorem t_X0_markHead (l : Launch) (g : G9) (a_t a_depths a_kinds a_nears : Nat) (c_laid c_head c_fieldCount c_innerCount : Int32) (c_depths c_kinds : Ar) (o_innerCount : Int32) (o_kinds : Ar) (h : X0_markHead c_head c_innerCount c_depths c_kinds = some (o_innerCount, o_kinds)) : CtV l g yX0_markHead cX0_markHead 2 0 0 [.ref a_t] (w_X0_markHead g a_t a_depths a_kinds a_nears c_laid c_head c_fieldCount c_innerCount c_depths c_kinds) (w_X0_markHead g a_t a_depths a_kinds a_nears c_laid c_head c_fieldCount o_innerCount c_depths o_kinds) := by
  refine startV (by decide) (Nat.le_of_ble_eq_true rfl) ?_
  intro p e s m below meth c A Q ls args M hW hl ret
  have hx := M.1
  have hb := M.2.1
  have hown := M.2.2.2.1
  have hu := M.2.2.2.2.1
  have hl : lv_has ls 2 [(0, .ref a_t)] := hl
  unfold X0_markHead at h
  obtain ⟨H, eH⟩ : ∃ z, z = s.heap := ⟨_, rfl⟩
  obtain ⟨locs, eL⟩ : ∃ z, z = ([] : List Loc) := ⟨_, rfl⟩
  rw [← eL] at hW ⊢
  suffices hS9 : WD g s A (w_X0_markHead g a_t a_depths a_kinds a_nears c_laid c_head c_fieldCount c_innerCount c_depths c_kinds) H locs → W p l e (rm9 0 0) s m args below meth c H locs 0 0 Q (F0 m 0 ls []) by
    rw [← eH] at hW ⊢
    exact hS9 hW
  clear hW eH eL
  intro hW
  refine lv_aload_n (pc := 0) hx hb (dd dX0_markHead 0 rfl) rfl (lv_at hl 0 rfl) ?_
  refine lv_iconst (pc := 1) (v := 0) hx hb (dd dX0_markHead 1 rfl) (by decide) ?_
  refine rPut (pc := 2) M hW 0 6 tyX0 tyX0_ok nmX0 iU0 rfl rfl (by decide) (uw1 88 rfl rfl) rfl rfl rfl (Nat.le_of_ble_eq_true rfl) (dd dX0_markHead 2 rfl) (ws' := (w_X0_markHead g a_t a_depths a_kinds a_nears c_laid c_head c_fieldCount 0 c_depths c_kinds)) rfl (fun H locs hW => ?_)
  refine lv_iconst (pc := 5) (v := 0) hx hb (dd dX0_markHead 3 rfl) (by decide) ?_
  refine lv_istore_n (pc := 6) (lv' := [(1, .int 0), (0, .ref a_t)]) hx hb (dd dX0_markHead 4 rfl) rfl hl (by decide) rfl (fun ls hl => ?_)
  obtain ⟨ex, hw, h⟩ := bnd_ex h
  refine loopW (fun st => ∀ (H : Heap) (locs : List Loc) (ls : Array Slot), WD g s A (w_X0_markHead g a_t a_depths a_kinds a_nears c_laid c_head c_fieldCount (st.1) c_depths (st.2.1)) H locs → lv_has ls 2 [(0, .ref a_t), (1, .int (st.2.2))] → W p l e (rm9 0 0) s m args below meth c H locs 0 0 Q (F0 m 7 ls [])) (fun (ex : (Int32 × Ar)) => ∀ (H : Heap) (locs : List Loc) (ls : Array Slot), WD g s A (w_X0_markHead g a_t a_depths a_kinds a_nears c_laid c_head c_fieldCount (ex.1) c_depths (ex.2)) H locs → lv_has ls 2 [] → W p l e (rm9 0 0) s m args below meth c H locs 0 0 Q (F0 m 71 ls [])) ?_ hw ?_ H locs ls hW (lv_sub hl [1, 0] rfl)
  · rintro ⟨c_innerCount, c_kinds, v1⟩ o hb9 hk H locs ls hW hl
    have h : X0_markHead_L7 c_head c_depths c_innerCount c_kinds v1 = some o := hb9
    clear hb9
    unfold X0_markHead_L7 at h
    have J65 : ∀ (c_innerCount : Int32) (c_kinds : Ar) (v1 : Int32) (H : Heap) (locs : List Loc) (ls : Array Slot), X0_markHead_b7_65 c_innerCount c_kinds v1 = some o → WD g s A (w_X0_markHead g a_t a_depths a_kinds a_nears c_laid c_head c_fieldCount c_innerCount c_depths c_kinds) H locs → lv_has ls 2 [(0, .ref a_t), (1, .int v1)] → W p l e (rm9 0 0) s m args below meth c H locs 0 0 Q (F0 m 65 ls []) := by
      intro c_innerCount c_kinds v1 H locs ls h hW hl
      unfold X0_markHead_b7_65 at h
      obtain ⟨v1_65, ev1_65, h⟩ := nm_ex h
      refine lv_iinc (pc := 65) (v := v1_65) (lv' := [(1, .int v1_65), (0, .ref a_t)]) hx hb (dd dX0_markHead 37 rfl) hl (k := 1) rfl (by rw [ev1_65]; rfl) (by decide) rfl (fun ls hl => ?_)
      refine lv_goto (pc := 68) (tgt := 7) hx hb (dd dX0_markHead 38 rfl) (by decide) ?_
      obtain rfl := Option.some.inj h
      exact hk _ _ _ hW (lv_sub hl [1, 0] rfl)
    have J46 : ∀ (c_innerCount : Int32) (c_kinds : Ar) (v1 : Int32) (H : Heap) (locs : List Loc) (ls : Array Slot), X0_markHead_b7_46 c_innerCount c_kinds v1 = some o → WD g s A (w_X0_markHead g a_t a_depths a_kinds a_nears c_laid c_head c_fieldCount c_innerCount c_depths c_kinds) H locs → lv_has ls 2 [(0, .ref a_t), (1, .int v1)] → W p l e (rm9 0 0) s m args below meth c H locs 0 0 Q (F0 m 46 ls []) := by
      intro c_innerCount c_kinds v1 H locs ls h hW hl
      unfold X0_markHead_b7_46 at h
      refine lv_aload_n (pc := 46) hx hb (dd dX0_markHead 26 rfl) rfl (lv_at hl 0 rfl) ?_
      refine rGet (pc := 47) M hW 0 0 iU0 rfl rfl (by decide) (uw1 74 rfl rfl) rfl (dd dX0_markHead 27 rfl) ?_
      refine lv_iload_n (pc := 50) hx hb (dd dX0_markHead 28 rfl) rfl (lv_at hl 1 rfl) ?_
      obtain ⟨hi, h⟩ := ck_ex h
      refine rIald (pc := 51) M hW 2 rfl hi (dd dX0_markHead 29 rfl) ?_
      refine lv_if_eq (pc := 52) (tgt := 65) hx hb (dd dX0_markHead 30 rfl) (by decide) (fun hc => ?_) (fun hc => ?_)
      · have h := it_t hc h
        exact J65 _ _ _ _ _ _ h hW (lv_sub hl [0, 1] rfl)
      · have h := it_f hc h
        refine lv_aload_n (pc := 55) hx hb (dd dX0_markHead 31 rfl) rfl (lv_at hl 0 rfl) ?_
        refine lv_dup (pc := 56) hx hb (dd dX0_markHead 32 rfl) rfl ?_
        refine rGet (pc := 57) M hW 0 6 iU0 rfl rfl (by decide) (uw1 88 rfl rfl) rfl (dd dX0_markHead 33 rfl) ?_
        refine lv_iconst (pc := 60) (v := 1) hx hb (dd dX0_markHead 34 rfl) (by decide) ?_
        refine lv_iadd (pc := 61) hx hb (dd dX0_markHead 35 rfl) ?_
        obtain ⟨c_innerCount_62, ec_innerCount_62, h⟩ := nm_ex h
        refine rTopi (pc := 62) ec_innerCount_62 ?_
        refine rPut (pc := 62) M hW 0 6 tyX0 tyX0_ok nmX0 iU0 rfl rfl (by decide) (uw1 88 rfl rfl) rfl rfl rfl (Nat.le_of_ble_eq_true rfl) (dd dX0_markHead 36 rfl) (ws' := (w_X0_markHead g a_t a_depths a_kinds a_nears c_laid c_head c_fieldCount c_innerCount_62 c_depths c_kinds)) rfl (fun H locs hW => ?_)
        exact J65 _ _ _ _ _ _ h hW (lv_sub hl [0, 1] rfl)
    refine lv_iload_n (pc := 7) hx hb (dd dX0_markHead 5 rfl) rfl (lv_at hl 1 rfl) ?_
    refine lv_sipush (pc := 8) (v := 1200) hx hb (dd dX0_markHead 6 rfl) (by decide) ?_
    refine lv_icmp_ge (pc := 11) (tgt := 71) hx hb (dd dX0_markHead 7 rfl) (by decide) (fun hc => ?_) (fun hc => ?_)
    · have h := it_t hc h
      obtain rfl := Option.some.inj h
      exact hk _ _ _ hW (lv_sub hl [] rfl)
    · have h := it_f hc h
      refine lv_aload_n (pc := 14) hx hb (dd dX0_markHead 8 rfl) rfl (lv_at hl 0 rfl) ?_
      refine rGet (pc := 15) M hW 0 0 iU0 rfl rfl (by decide) (uw1 74 rfl rfl) rfl (dd dX0_markHead 9 rfl) ?_
      refine lv_iload_n (pc := 18) hx hb (dd dX0_markHead 10 rfl) rfl (lv_at hl 1 rfl) ?_
      obtain ⟨hi, h⟩ := ck_ex h
      refine rIald (pc := 19) M hW 2 rfl hi (dd dX0_markHead 11 rfl) ?_
      refine lv_if_eq (pc := 20) (tgt := 46) hx hb (dd dX0_markHead 12 rfl) (by decide) (fun hc => ?_) (fun hc => ?_)
      · have h := it_t hc h
        exact J46 _ _ _ _ _ _ h hW (lv_sub hl [0, 1] rfl)
      · have h := it_f hc h
        refine lv_aload_n (pc := 23) hx hb (dd dX0_markHead 13 rfl) rfl (lv_at hl 0 rfl) ?_
        refine rGet (pc := 24) M hW 0 2 iU0 rfl rfl (by decide) (uw1 81 rfl rfl) rfl (dd dX0_markHead 14 rfl) ?_
        refine lv_iload_n (pc := 27) hx hb (dd dX0_markHead 15 rfl) rfl (lv_at hl 1 rfl) ?_
        obtain ⟨hi, h⟩ := ck_ex h
        refine rIald (pc := 28) M hW 1 rfl hi (dd dX0_markHead 16 rfl) ?_
        refine lv_aload_n (pc := 29) hx hb (dd dX0_markHead 17 rfl) rfl (lv_at hl 0 rfl) ?_
        refine rGet (pc := 30) M hW 0 4 iU0 rfl rfl (by decide) (uw1 84 rfl rfl) rfl (dd dX0_markHead 18 rfl) ?_
        refine lv_icmp_gt (pc := 33) (tgt := 46) hx hb (dd dX0_markHead 19 rfl) (by decide) (fun hc => ?_) (fun hc => ?_)
        · have h := it_t hc h
          exact J46 _ _ _ _ _ _ h hW (lv_sub hl [0, 1] rfl)
        · have h := it_f hc h
          refine lv_aload_n (pc := 36) hx hb (dd dX0_markHead 20 rfl) rfl (lv_at hl 0 rfl) ?_
          refine rGet (pc := 37) M hW 0 0 iU0 rfl rfl (by decide) (uw1 74 rfl rfl) rfl (dd dX0_markHead 21 rfl) ?_
          refine lv_iload_n (pc := 40) hx hb (dd dX0_markHead 22 rfl) rfl (lv_at hl 1 rfl) ?_
          refine lv_iconst (pc := 41) (v := 1) hx hb (dd dX0_markHead 23 rfl) (by decide) ?_
          obtain ⟨hi, h⟩ := ck_ex h
          obtain ⟨c_kinds_42, ec_kinds_42, h⟩ := nm_ex h
          refine rIast (pc := 42) M hW 2 rfl hi ec_kinds_42 (ws' := (w_X0_markHead g a_t a_depths a_kinds a_nears c_laid c_head c_fieldCount c_innerCount c_depths c_kinds_42)) rfl (dd dX0_markHead 24 rfl) (fun H locs hW => ?_)
          refine lv_goto (pc := 43) (tgt := 65) hx hb (dd dX0_markHead 25 rfl) (by decide) ?_
          exact J65 _ _ _ _ _ _ h hW (lv_sub hl [0, 1] rfl)
  · obtain ⟨c_innerCount_71, c_kinds_71⟩ := ex
    have h := un2_at h
    intro H locs ls hW hl
    have hW9 := hW
    cases h
    exact ret _ _ _ 71 hW9 (dd dX0_markHead 39 rfl)
abbrev w_X0_layOut (g : G9) (a_p1 a_t a_p1_0 a_p1_1 a_p1_2 a_p1_3 a_depths a_kinds a_nears a_p1_0_corners a_p1_1_corners a_p1_2_corners a_p1_3_corners a_p1_0_corners_firsts a_p1_0_corners_seconds a_p1_1_corners_firsts a_p1_1_corners_seconds a_p1_2_corners_firsts a_p1_2_corners_seconds a_p1_3_corners_firsts a_p1_3_corners_seconds : Nat) (c_laid c_head c_fieldCount c_innerCount : Int32) (c_depths c_kinds c_nears : Ar) (c_p1_0_corners_size c_p1_1_corners_size c_p1_2_corners_size c_p1_3_corners_size : Int32) (c_p1_0_corners_firsts c_p1_0_corners_seconds c_p1_1_corners_firsts c_p1_1_corners_seconds c_p1_2_corners_firsts c_p1_2_corners_seconds c_p1_3_corners_firsts c_p1_3_corners_seconds : Ar) : va_W := [ra g a_p1 4 (rg a_p1_0 a_p1_1 a_p1_2 a_p1_3), ob a_t 0 [.ref a_kinds, .ref a_nears, .ref a_depths, .int c_laid, .int c_head, .int c_fieldCount, .int c_innerCount], ob a_p1_0 5 [.ref a_p1_0_corners], ob a_p1_1 5 [.ref a_p1_1_corners], ob a_p1_2 5 [.ref a_p1_2_corners], ob a_p1_3 5 [.ref a_p1_3_corners], ia g a_depths 1200 c_depths, ia g a_kinds 1200 c_kinds, ia g a_nears 1200 c_nears, ob a_p1_0_corners 1 [.ref a_p1_0_corners_firsts, .ref a_p1_0_corners_seconds, .int c_p1_0_corners_size], ob a_p1_1_corners 1 [.ref a_p1_1_corners_firsts, .ref a_p1_1_corners_seconds, .int c_p1_1_corners_size], ob a_p1_2_corners 1 [.ref a_p1_2_corners_firsts, .ref a_p1_2_corners_seconds, .int c_p1_2_corners_size], ob a_p1_3_corners 1 [.ref a_p1_3_corners_firsts, .ref a_p1_3_corners_seconds, .int c_p1_3_corners_size], ia g a_p1_0_corners_firsts 12 c_p1_0_corners_firsts, ia g a_p1_0_corners_seconds 12 c_p1_0_corners_seconds, ia g a_p1_1_corners_firsts 12 c_p1_1_corners_firsts, ia g a_p1_1_corners_seconds 12 c_p1_1_corners_seconds, ia g a_p1_2_corners_firsts 12 c_p1_2_corners_firsts, ia g a_p1_2_corners_seconds 12 c_p1_2_corners_seconds, ia g a_p1_3_corners_firsts 12 c_p1_3_corners_firsts, ia g a_p1_3_corners_seconds 12 c_p1_3_corners_seconds]
noncomputable def X0_layOut (c_laid c_head c_fieldCount c_innerCount : Int32) (c_depths c_kinds c_nears : Ar) (c_p1_0_corners_size c_p1_1_corners_size c_p1_2_corners_size c_p1_3_corners_size : Int32) (c_p1_0_corners_firsts c_p1_0_corners_seconds c_p1_1_corners_firsts c_p1_1_corners_seconds c_p1_2_corners_firsts c_p1_2_corners_seconds c_p1_3_corners_firsts c_p1_3_corners_seconds : Ar) (v2 : Int32) : Option (Int32 × Int32 × Int32 × Int32 × Ar × Ar × Ar) :=
  bnd (X0_markField c_fieldCount c_kinds c_p1_0_corners_size c_p1_1_corners_size c_p1_2_corners_size c_p1_3_corners_size c_p1_0_corners_firsts c_p1_0_corners_seconds c_p1_1_corners_firsts c_p1_1_corners_seconds c_p1_2_corners_firsts c_p1_2_corners_seconds c_p1_3_corners_firsts c_p1_3_corners_seconds) <| un2 fun c_fieldCount_12 c_kinds_12 => bnd (X0_markNears c_kinds_12 c_nears) <| fun c_nears_16 => bnd (X0_sound c_depths c_kinds_12) <| fun c_depths_20 => bnd (X0_markHead v2 c_innerCount c_depths_20 c_kinds_12) <| un2 fun c_innerCount_24 c_kinds_24 => some (1, v2, c_fieldCount_12, c_innerCount_24, c_depths_20, c_kinds_24, c_nears_16)
set_option maxHeartbeats 4000000 in
set_option maxRecDepth 100000 in
theorem t_X0_layOut (l : Launch) (g : G9) (a_p1 a_t a_p1_0 a_p1_1 a_p1_2 a_p1_3 a_depths a_kinds a_nears a_p1_0_corners a_p1_1_corners a_p1_2_corners a_p1_3_corners a_p1_0_corners_firsts a_p1_0_corners_seconds a_p1_1_corners_firsts a_p1_1_corners_seconds a_p1_2_corners_firsts a_p1_2_corners_seconds a_p1_3_corners_firsts a_p1_3_corners_seconds : Nat) (c_laid c_head c_fieldCount c_innerCount : Int32) (c_depths c_kinds c_nears : Ar) (c_p1_0_corners_size c_p1_1_corners_size c_p1_2_corners_size c_p1_3_corners_size : Int32) (c_p1_0_corners_firsts c_p1_0_corners_seconds c_p1_1_corners_firsts c_p1_1_corners_seconds c_p1_2_corners_firsts c_p1_2_corners_seconds c_p1_3_corners_firsts c_p1_3_corners_seconds : Ar) (v2 o_laid o_head o_fieldCount o_innerCount : Int32) (o_depths o_kinds o_nears : Ar) (h : X0_layOut c_laid c_head c_fieldCount c_innerCount c_depths c_kinds c_nears c_p1_0_corners_size c_p1_1_corners_size c_p1_2_corners_size c_p1_3_corners_size c_p1_0_corners_firsts c_p1_0_corners_seconds c_p1_1_corners_firsts c_p1_1_corners_seconds c_p1_2_corners_firsts c_p1_2_corners_seconds c_p1_3_corners_firsts c_p1_3_corners_seconds v2 = some (o_laid, o_head, o_fieldCount, o_innerCount, o_depths, o_kinds, o_nears)) : CtV l g yX0_layOut cX0_layOut 3 4 100 [.ref a_t, .ref a_p1, .int v2] (w_X0_layOut g a_p1 a_t a_p1_0 a_p1_1 a_p1_2 a_p1_3 a_depths a_kinds a_nears a_p1_0_corners a_p1_1_corners a_p1_2_corners a_p1_3_corners a_p1_0_corners_firsts a_p1_0_corners_seconds a_p1_1_corners_firsts a_p1_1_corners_seconds a_p1_2_corners_firsts a_p1_2_corners_seconds a_p1_3_corners_firsts a_p1_3_corners_seconds c_laid c_head c_fieldCount c_innerCount c_depths c_kinds c_nears c_p1_0_corners_size c_p1_1_corners_size c_p1_2_corners_size c_p1_3_corners_size c_p1_0_corners_firsts c_p1_0_corners_seconds c_p1_1_corners_firsts c_p1_1_corners_seconds c_p1_2_corners_firsts c_p1_2_corners_seconds c_p1_3_corners_firsts c_p1_3_corners_seconds) (w_X0_layOut g a_p1 a_t a_p1_0 a_p1_1 a_p1_2 a_p1_3 a_depths a_kinds a_nears a_p1_0_corners a_p1_1_corners a_p1_2_corners a_p1_3_corners a_p1_0_corners_firsts a_p1_0_corners_seconds a_p1_1_corners_firsts a_p1_1_corners_seconds a_p1_2_corners_firsts a_p1_2_corners_seconds a_p1_3_corners_firsts a_p1_3_corners_seconds o_laid o_head o_fieldCount o_innerCount o_depths o_kinds o_nears c_p1_0_corners_size c_p1_1_corners_size c_p1_2_corners_size c_p1_3_corners_size c_p1_0_corners_firsts c_p1_0_corners_seconds c_p1_1_corners_firsts c_p1_1_corners_seconds c_p1_2_corners_firsts c_p1_2_corners_seconds c_p1_3_corners_firsts c_p1_3_corners_seconds) := by
  refine startV (by decide) (Nat.le_of_ble_eq_true rfl) ?_
  intro p e s m below meth c A Q ls args M hW hl ret
  have hx := M.1
  have hb := M.2.1
  have hown := M.2.2.2.1
  have hu := M.2.2.2.2.1
  have hl : lv_has ls 3 [(0, .ref a_t), (1, .ref a_p1), (2, .int v2)] := hl
  unfold X0_layOut at h
  obtain ⟨H, eH⟩ : ∃ z, z = s.heap := ⟨_, rfl⟩
  obtain ⟨locs, eL⟩ : ∃ z, z = ([] : List Loc) := ⟨_, rfl⟩
  rw [← eL] at hW ⊢
  suffices hS9 : WD g s A (w_X0_layOut g a_p1 a_t a_p1_0 a_p1_1 a_p1_2 a_p1_3 a_depths a_kinds a_nears a_p1_0_corners a_p1_1_corners a_p1_2_corners a_p1_3_corners a_p1_0_corners_firsts a_p1_0_corners_seconds a_p1_1_corners_firsts a_p1_1_corners_seconds a_p1_2_corners_firsts a_p1_2_corners_seconds a_p1_3_corners_firsts a_p1_3_corners_seconds c_laid c_head c_fieldCount c_innerCount c_depths c_kinds c_nears c_p1_0_corners_size c_p1_1_corners_size c_p1_2_corners_size c_p1_3_corners_size c_p1_0_corners_firsts c_p1_0_corners_seconds c_p1_1_corners_firsts c_p1_1_corners_seconds c_p1_2_corners_firsts c_p1_2_corners_seconds c_p1_3_corners_firsts c_p1_3_corners_seconds) H locs → W p l e (rm9 4 100) s m args below meth c H locs 0 0 Q (F0 m 0 ls []) by
    rw [← eH] at hW ⊢
    exact hS9 hW
  clear hW eH eL
  intro hW
  refine lv_aload_n (pc := 0) hx hb (dd dX0_layOut 0 rfl) rfl (lv_at hl 0 rfl) ?_
  refine lv_iconst (pc := 1) (v := 1) hx hb (dd dX0_layOut 1 rfl) (by decide) ?_
  refine rPut (pc := 2) M hW 1 3 tyX0 tyX0_ok nmX0 iU0 rfl rfl (by decide) (uw1 82 rfl rfl) rfl rfl rfl (Nat.le_of_ble_eq_true rfl) (dd dX0_layOut 2 rfl) (ws' := (w_X0_layOut g a_p1 a_t a_p1_0 a_p1_1 a_p1_2 a_p1_3 a_depths a_kinds a_nears a_p1_0_corners a_p1_1_corners a_p1_2_corners a_p1_3_corners a_p1_0_corners_firsts a_p1_0_corners_seconds a_p1_1_corners_firsts a_p1_1_corners_seconds a_p1_2_corners_firsts a_p1_2_corners_seconds a_p1_3_corners_firsts a_p1_3_corners_seconds 1 c_head c_fieldCount c_innerCount c_depths c_kinds c_nears c_p1_0_corners_size c_p1_1_corners_size c_p1_2_corners_size c_p1_3_corners_size c_p1_0_corners_firsts c_p1_0_corners_seconds c_p1_1_corners_firsts c_p1_1_corners_seconds c_p1_2_corners_firsts c_p1_2_corners_seconds c_p1_3_corners_firsts c_p1_3_corners_seconds)) rfl (fun H locs hW => ?_)
  refine lv_aload_n (pc := 5) hx hb (dd dX0_layOut 3 rfl) rfl (lv_at hl 0 rfl) ?_
  refine lv_iload_n (pc := 6) hx hb (dd dX0_layOut 4 rfl) rfl (lv_at hl 2 rfl) ?_
  refine rPut (pc := 7) M hW 1 4 tyX0 tyX0_ok nmX0 iU0 rfl rfl (by decide) (uw1 84 rfl rfl) rfl rfl rfl (Nat.le_of_ble_eq_true rfl) (dd dX0_layOut 5 rfl) (ws' := (w_X0_layOut g a_p1 a_t a_p1_0 a_p1_1 a_p1_2 a_p1_3 a_depths a_kinds a_nears a_p1_0_corners a_p1_1_corners a_p1_2_corners a_p1_3_corners a_p1_0_corners_firsts a_p1_0_corners_seconds a_p1_1_corners_firsts a_p1_1_corners_seconds a_p1_2_corners_firsts a_p1_2_corners_seconds a_p1_3_corners_firsts a_p1_3_corners_seconds 1 v2 c_fieldCount c_innerCount c_depths c_kinds c_nears c_p1_0_corners_size c_p1_1_corners_size c_p1_2_corners_size c_p1_3_corners_size c_p1_0_corners_firsts c_p1_0_corners_seconds c_p1_1_corners_firsts c_p1_1_corners_seconds c_p1_2_corners_firsts c_p1_2_corners_seconds c_p1_3_corners_firsts c_p1_3_corners_seconds)) rfl (fun H locs hW => ?_)
  refine lv_aload_n (pc := 10) hx hb (dd dX0_layOut 6 rfl) rfl (lv_at hl 0 rfl) ?_
  refine lv_aload_n (pc := 11) hx hb (dd dX0_layOut 7 rfl) rfl (lv_at hl 1 rfl) ?_
  obtain ⟨⟨c_fieldCount_12, c_kinds_12⟩, hr, h⟩ := bnd_ex h
  have h := un2_at h
  refine callVV (pc := 12) (na := 1) (As := [.ref a_p1]) (rest := []) (ws2 := (w_X0_layOut g a_p1 a_t a_p1_0 a_p1_1 a_p1_2 a_p1_3 a_depths a_kinds a_nears a_p1_0_corners a_p1_1_corners a_p1_2_corners a_p1_3_corners a_p1_0_corners_firsts a_p1_0_corners_seconds a_p1_1_corners_firsts a_p1_1_corners_seconds a_p1_2_corners_firsts a_p1_2_corners_seconds a_p1_3_corners_firsts a_p1_3_corners_seconds 1 v2 c_fieldCount_12 c_innerCount c_depths c_kinds_12 c_nears c_p1_0_corners_size c_p1_1_corners_size c_p1_2_corners_size c_p1_3_corners_size c_p1_0_corners_firsts c_p1_0_corners_seconds c_p1_1_corners_firsts c_p1_1_corners_seconds c_p1_2_corners_firsts c_p1_2_corners_seconds c_p1_3_corners_firsts c_p1_3_corners_seconds)) M hl.1 hW (t_X0_markField l g a_p1 a_t a_p1_0 a_p1_1 a_p1_2 a_p1_3 a_kinds a_p1_0_corners a_p1_1_corners a_p1_2_corners a_p1_3_corners a_p1_0_corners_firsts a_p1_0_corners_seconds a_p1_1_corners_firsts a_p1_1_corners_seconds a_p1_2_corners_firsts a_p1_2_corners_seconds a_p1_3_corners_firsts a_p1_3_corners_seconds a_nears a_depths 1 v2 c_fieldCount c_innerCount c_kinds c_p1_0_corners_size c_p1_1_corners_size c_p1_2_corners_size c_p1_3_corners_size c_p1_0_corners_firsts c_p1_0_corners_seconds c_p1_1_corners_firsts c_p1_1_corners_seconds c_p1_2_corners_firsts c_p1_2_corners_seconds c_p1_3_corners_firsts c_p1_3_corners_seconds c_fieldCount_12 c_kinds_12 hr) rfl [0, 1, 2, 3, 4, 5, 7, 9, 10, 11, 12, 13, 14, 15, 16, 17, 18, 19, 20] [6, 8] [2, 3, 4, 5, 6, 7, 0, 8, 1, 9, 10, 11, 12, 13, 14, 15, 16, 17, 18, 19, 20] rfl rfl rfl rfl rfl rfl rfl 1 0 rfl rfl rfl (uw3 54 rfl rfl) (uw3 51 rfl rfl) (uw3 53 rfl rfl) (uwp 5 rfl rfl) (uw1 5 rfl rfl) ⟨by decide, by decide, by decide⟩ rfl ⟨by decide, by decide⟩ (Nat.le_of_ble_eq_true rfl) ⟨Nat.zero_le _, Nat.zero_le _⟩ (dd dX0_layOut 8 rfl) (fun H locs hW => ?_)
  refine lv_aload_n (pc := 15) hx hb (dd dX0_layOut 9 rfl) rfl (lv_at hl 0 rfl) ?_
  obtain ⟨c_nears_16, hr, h⟩ := bnd_ex h
  refine callVV (pc := 16) (na := 0) (As := []) (rest := []) (ws2 := (w_X0_layOut g a_p1 a_t a_p1_0 a_p1_1 a_p1_2 a_p1_3 a_depths a_kinds a_nears a_p1_0_corners a_p1_1_corners a_p1_2_corners a_p1_3_corners a_p1_0_corners_firsts a_p1_0_corners_seconds a_p1_1_corners_firsts a_p1_1_corners_seconds a_p1_2_corners_firsts a_p1_2_corners_seconds a_p1_3_corners_firsts a_p1_3_corners_seconds 1 v2 c_fieldCount_12 c_innerCount c_depths c_kinds_12 c_nears_16 c_p1_0_corners_size c_p1_1_corners_size c_p1_2_corners_size c_p1_3_corners_size c_p1_0_corners_firsts c_p1_0_corners_seconds c_p1_1_corners_firsts c_p1_1_corners_seconds c_p1_2_corners_firsts c_p1_2_corners_seconds c_p1_3_corners_firsts c_p1_3_corners_seconds)) M hl.1 hW (t_X0_markNears l g a_t a_kinds a_nears a_depths 1 v2 c_fieldCount_12 c_innerCount c_kinds_12 c_nears c_nears_16 hr) rfl [1, 7, 8] [0, 2, 3, 4, 5, 6, 9, 10, 11, 12, 13, 14, 15, 16, 17, 18, 19, 20] [0, 18, 1, 2, 3, 4, 5, 19, 20, 6, 7, 8, 9, 10, 11, 12, 13, 14, 15, 16, 17] rfl rfl rfl rfl rfl rfl rfl 1 0 rfl rfl rfl (uw3 70 rfl rfl) (uw3 67 rfl rfl) (uw3 69 rfl rfl) (uwp 8 rfl rfl) (uw1 5 rfl rfl) ⟨by decide, by decide, by decide⟩ rfl ⟨by decide, by decide⟩ (Nat.le_of_ble_eq_true rfl) ⟨Nat.zero_le _, Nat.zero_le _⟩ (dd dX0_layOut 10 rfl) (fun H locs hW => ?_)
  refine lv_aload_n (pc := 19) hx hb (dd dX0_layOut 11 rfl) rfl (lv_at hl 0 rfl) ?_
  obtain ⟨c_depths_20, hr, h⟩ := bnd_ex h
  refine callVV (pc := 20) (na := 0) (As := []) (rest := []) (ws2 := (w_X0_layOut g a_p1 a_t a_p1_0 a_p1_1 a_p1_2 a_p1_3 a_depths a_kinds a_nears a_p1_0_corners a_p1_1_corners a_p1_2_corners a_p1_3_corners a_p1_0_corners_firsts a_p1_0_corners_seconds a_p1_1_corners_firsts a_p1_1_corners_seconds a_p1_2_corners_firsts a_p1_2_corners_seconds a_p1_3_corners_firsts a_p1_3_corners_seconds 1 v2 c_fieldCount_12 c_innerCount c_depths_20 c_kinds_12 c_nears_16 c_p1_0_corners_size c_p1_1_corners_size c_p1_2_corners_size c_p1_3_corners_size c_p1_0_corners_firsts c_p1_0_corners_seconds c_p1_1_corners_firsts c_p1_1_corners_seconds c_p1_2_corners_firsts c_p1_2_corners_seconds c_p1_3_corners_firsts c_p1_3_corners_seconds)) M hl.1 hW (t_X0_sound l g a_t a_depths a_kinds a_nears 1 v2 c_fieldCount_12 c_innerCount c_depths c_kinds_12 c_depths_20 hr) rfl [1, 6, 7] [0, 2, 3, 4, 5, 8, 9, 10, 11, 12, 13, 14, 15, 16, 17, 18, 19, 20] [0, 18, 1, 2, 3, 4, 19, 20, 5, 6, 7, 8, 9, 10, 11, 12, 13, 14, 15, 16, 17] rfl rfl rfl rfl rfl rfl rfl 1 0 rfl rfl rfl (uw3 81 rfl rfl) (uw3 78 rfl rfl) (uw3 80 rfl rfl) (uwp 10 rfl rfl) (uw1 5 rfl rfl) ⟨by decide, by decide, by decide⟩ rfl ⟨by decide, by decide⟩ (Nat.le_of_ble_eq_true rfl) ⟨Nat.zero_le _, Nat.zero_le _⟩ (dd dX0_layOut 12 rfl) (fun H locs hW => ?_)
  refine lv_aload_n (pc := 23) hx hb (dd dX0_layOut 13 rfl) rfl (lv_at hl 0 rfl) ?_
  obtain ⟨⟨c_innerCount_24, c_kinds_24⟩, hr, h⟩ := bnd_ex h
  have h := un2_at h
  refine callVV (pc := 24) (na := 0) (As := []) (rest := []) (ws2 := (w_X0_layOut g a_p1 a_t a_p1_0 a_p1_1 a_p1_2 a_p1_3 a_depths a_kinds a_nears a_p1_0_corners a_p1_1_corners a_p1_2_corners a_p1_3_corners a_p1_0_corners_firsts a_p1_0_corners_seconds a_p1_1_corners_firsts a_p1_1_corners_seconds a_p1_2_corners_firsts a_p1_2_corners_seconds a_p1_3_corners_firsts a_p1_3_corners_seconds 1 v2 c_fieldCount_12 c_innerCount_24 c_depths_20 c_kinds_24 c_nears_16 c_p1_0_corners_size c_p1_1_corners_size c_p1_2_corners_size c_p1_3_corners_size c_p1_0_corners_firsts c_p1_0_corners_seconds c_p1_1_corners_firsts c_p1_1_corners_seconds c_p1_2_corners_firsts c_p1_2_corners_seconds c_p1_3_corners_firsts c_p1_3_corners_seconds)) M hl.1 hW (t_X0_markHead l g a_t a_depths a_kinds a_nears 1 v2 c_fieldCount_12 c_innerCount c_depths_20 c_kinds_12 c_innerCount_24 c_kinds_24 hr) rfl [1, 6, 7] [0, 2, 3, 4, 5, 8, 9, 10, 11, 12, 13, 14, 15, 16, 17, 18, 19, 20] [0, 18, 1, 2, 3, 4, 19, 20, 5, 6, 7, 8, 9, 10, 11, 12, 13, 14, 15, 16, 17] rfl rfl rfl rfl rfl rfl rfl 1 0 rfl rfl rfl (uw3 102 rfl rfl) (uw3 99 rfl rfl) (uw3 101 rfl rfl) (uwp 13 rfl rfl) (uw1 5 rfl rfl) ⟨by decide, by decide, by decide⟩ rfl ⟨by decide, by decide⟩ (Nat.le_of_ble_eq_true rfl) ⟨Nat.zero_le _, Nat.zero_le _⟩ (dd dX0_layOut 14 rfl) (fun H locs hW => ?_)
  have hW9 := hW
  cases h
  exact ret _ _ _ 27 hW9 (dd dX0_layOut 15 rfl)
abbrev w_X0_forget (g : G9) (a_t a_kinds a_nears a_depths : Nat) (c_laid c_head c_fieldCount c_innerCount : Int32) : va_W := [ob a_t 0 [.ref a_kinds, .ref a_nears, .ref a_depths, .int c_laid, .int c_head, .int c_fieldCount, .int c_innerCount]]
noncomputable def X0_forget (c_laid c_head c_fieldCount c_innerCount : Int32) : Option (Int32 × Int32 × Int32 × Int32) :=
  some (0, 0, 0, 0)
set_option maxHeartbeats 4000000 in
set_option maxRecDepth 100000 in
theorem t_X0_forget (l : Launch) (g : G9) (a_t a_kinds a_nears a_depths : Nat) (c_laid c_head c_fieldCount c_innerCount o_laid o_head o_fieldCount o_innerCount : Int32) (h : X0_forget c_laid c_head c_fieldCount c_innerCount = some (o_laid, o_head, o_fieldCount, o_innerCount)) : CtV l g yX0_forget cX0_forget 1 0 0 [.ref a_t] (w_X0_forget g a_t a_kinds a_nears a_depths c_laid c_head c_fieldCount c_innerCount) (w_X0_forget g a_t a_kinds a_nears a_depths o_laid o_head o_fieldCount o_innerCount) := by
  refine startV (by decide) (Nat.le_of_ble_eq_true rfl) ?_
  intro p e s m below meth c A Q ls args M hW hl ret
  have hx := M.1
  have hb := M.2.1
  have hown := M.2.2.2.1
  have hu := M.2.2.2.2.1
  have hl : lv_has ls 1 [(0, .ref a_t)] := hl
  unfold X0_forget at h
  obtain ⟨H, eH⟩ : ∃ z, z = s.heap := ⟨_, rfl⟩
  obtain ⟨locs, eL⟩ : ∃ z, z = ([] : List Loc) := ⟨_, rfl⟩
  rw [← eL] at hW ⊢
  suffices hS9 : WD g s A (w_X0_forget g a_t a_kinds a_nears a_depths c_laid c_head c_fieldCount c_innerCount) H locs → W p l e (rm9 0 0) s m args below meth c H locs 0 0 Q (F0 m 0 ls []) by
    rw [← eH] at hW ⊢
    exact hS9 hW
  clear hW eH eL
  intro hW
  refine lv_aload_n (pc := 0) hx hb (dd dX0_forget 0 rfl) rfl (lv_at hl 0 rfl) ?_
  refine lv_iconst (pc := 1) (v := 0) hx hb (dd dX0_forget 1 rfl) (by decide) ?_
  refine rPut (pc := 2) M hW 0 3 tyX0 tyX0_ok nmX0 iU0 rfl rfl (by decide) (uw1 82 rfl rfl) rfl rfl rfl (Nat.le_of_ble_eq_true rfl) (dd dX0_forget 2 rfl) (ws' := (w_X0_forget g a_t a_kinds a_nears a_depths 0 c_head c_fieldCount c_innerCount)) rfl (fun H locs hW => ?_)
  refine lv_aload_n (pc := 5) hx hb (dd dX0_forget 3 rfl) rfl (lv_at hl 0 rfl) ?_
  refine lv_iconst (pc := 6) (v := 0) hx hb (dd dX0_forget 4 rfl) (by decide) ?_
  refine rPut (pc := 7) M hW 0 4 tyX0 tyX0_ok nmX0 iU0 rfl rfl (by decide) (uw1 84 rfl rfl) rfl rfl rfl (Nat.le_of_ble_eq_true rfl) (dd dX0_forget 5 rfl) (ws' := (w_X0_forget g a_t a_kinds a_nears a_depths 0 0 c_fieldCount c_innerCount)) rfl (fun H locs hW => ?_)
  refine lv_aload_n (pc := 10) hx hb (dd dX0_forget 6 rfl) rfl (lv_at hl 0 rfl) ?_
  refine lv_iconst (pc := 11) (v := 0) hx hb (dd dX0_forget 7 rfl) (by decide) ?_
  refine rPut (pc := 12) M hW 0 5 tyX0 tyX0_ok nmX0 iU0 rfl rfl (by decide) (uw1 86 rfl rfl) rfl rfl rfl (Nat.le_of_ble_eq_true rfl) (dd dX0_forget 8 rfl) (ws' := (w_X0_forget g a_t a_kinds a_nears a_depths 0 0 0 c_innerCount)) rfl (fun H locs hW => ?_)
  refine lv_aload_n (pc := 15) hx hb (dd dX0_forget 9 rfl) rfl (lv_at hl 0 rfl) ?_
  refine lv_iconst (pc := 16) (v := 0) hx hb (dd dX0_forget 10 rfl) (by decide) ?_
  refine rPut (pc := 17) M hW 0 6 tyX0 tyX0_ok nmX0 iU0 rfl rfl (by decide) (uw1 88 rfl rfl) rfl rfl rfl (Nat.le_of_ble_eq_true rfl) (dd dX0_forget 11 rfl) (ws' := (w_X0_forget g a_t a_kinds a_nears a_depths 0 0 0 0)) rfl (fun H locs hW => ?_)
  have hW9 := hW
  cases h
  exact ret _ _ _ 20 hW9 (dd dX0_forget 12 rfl)
abbrev w_X5_twiceArea (g : G9) (a_t a_corners a_corners_firsts a_corners_seconds : Nat) (c_corners_size : Int32) (c_corners_firsts c_corners_seconds : Ar) : va_W := [ob a_t 5 [.ref a_corners], ob a_corners 1 [.ref a_corners_firsts, .ref a_corners_seconds, .int c_corners_size], ia g a_corners_firsts 12 c_corners_firsts, ia g a_corners_seconds 12 c_corners_seconds]
noncomputable def X5_twiceArea_L17 (c_corners_size : Int32) (c_corners_firsts c_corners_seconds : Ar) (v1 v2 : Int32) : Option ((Int32 × Int32) ⊕ Int32) :=
  if c_corners_size ≤ v2 then (some (.inr v1)) else (bnd (X5_cornerAfter c_corners_size v2) <| fun r_30 => ck (ix v2 12) <| ck (ix r_30 12) <| ck (ix r_30 12) <| ck (ix v2 12) <| nm ((v1 + (((ag c_corners_firsts v2) * (ag c_corners_seconds r_30)) - ((ag c_corners_firsts r_30) * (ag c_corners_seconds v2))))) fun v1_75 => nm (v2 + 1) fun v2_76 => some (.inl (v1_75, v2_76)))
noncomputable def X5_twiceArea (c_corners_size : Int32) (c_corners_firsts c_corners_seconds : Ar) : Option Int32 :=
  if 3 ≤ c_corners_size then (bnd (whileV (fun st => X5_twiceArea_L17 c_corners_size c_corners_firsts c_corners_seconds st.1 st.2) (0, 0)) <| (fun v1_82 => some (ab v1_82))) else (some 0)
set_option maxHeartbeats 4000000 in
set_option maxRecDepth 100000 in
theorem t_X5_twiceArea (l : Launch) (g : G9) (a_t a_corners a_corners_firsts a_corners_seconds : Nat) (c_corners_size : Int32) (c_corners_firsts c_corners_seconds : Ar) (r0 : Int32) (h : X5_twiceArea c_corners_size c_corners_firsts c_corners_seconds = some r0) : CtI l g yX5_twiceArea cX5_twiceArea 4 .int 1 22 [.ref a_t] (w_X5_twiceArea g a_t a_corners a_corners_firsts a_corners_seconds c_corners_size c_corners_firsts c_corners_seconds) r0 (w_X5_twiceArea g a_t a_corners a_corners_firsts a_corners_seconds c_corners_size c_corners_firsts c_corners_seconds) := by
  refine startI (by decide) (Nat.le_of_ble_eq_true rfl) ?_
  intro p e s m below meth c A Q ls args M hW hl ret
  have hx := M.1
  have hb := M.2.1
  have hown := M.2.2.2.1
  have hu := M.2.2.2.2.1
  have hl : lv_has ls 4 [(0, .ref a_t)] := hl
  unfold X5_twiceArea at h
  obtain ⟨H, eH⟩ : ∃ z, z = s.heap := ⟨_, rfl⟩
  obtain ⟨locs, eL⟩ : ∃ z, z = ([] : List Loc) := ⟨_, rfl⟩
  rw [← eL] at hW ⊢
  suffices hS9 : WD g s A (w_X5_twiceArea g a_t a_corners a_corners_firsts a_corners_seconds c_corners_size c_corners_firsts c_corners_seconds) H locs → W p l e (rm9 1 22) s m args below meth c H locs 0 0 Q (F0 m 0 ls []) by
    rw [← eH] at hW ⊢
    exact hS9 hW
  clear hW eH eL
  intro hW
  refine lv_aload_n (pc := 0) hx hb (dd dX5_twiceArea 0 rfl) rfl (lv_at hl 0 rfl) ?_
  refine rGet (pc := 1) M hW 0 0 iU5 rfl rfl (by decide) (uw1 63 rfl rfl) rfl (dd dX5_twiceArea 1 rfl) ?_
  refine rGet (pc := 4) M hW 1 2 iU1 rfl rfl (by decide) (uw1 53 rfl rfl) rfl (dd dX5_twiceArea 2 rfl) ?_
  refine lv_iconst (pc := 7) (v := 3) hx hb (dd dX5_twiceArea 3 rfl) (by decide) ?_
  refine lv_icmp_ge (pc := 8) (tgt := 13) hx hb (dd dX5_twiceArea 4 rfl) (by decide) (fun hc => ?_) (fun hc => ?_)
  · have h := it_t hc h
    refine lv_iconst (pc := 13) (v := 0) hx hb (dd dX5_twiceArea 7 rfl) (by decide) ?_
    refine lv_istore_n (pc := 14) (lv' := [(1, .int 0), (0, .ref a_t)]) hx hb (dd dX5_twiceArea 8 rfl) rfl hl (by decide) rfl (fun ls hl => ?_)
    refine lv_iconst (pc := 15) (v := 0) hx hb (dd dX5_twiceArea 9 rfl) (by decide) ?_
    refine lv_istore_n (pc := 16) (lv' := [(2, .int 0), (1, .int 0), (0, .ref a_t)]) hx hb (dd dX5_twiceArea 10 rfl) rfl hl (by decide) rfl (fun ls hl => ?_)
    obtain ⟨ex, hw, h⟩ := bnd_ex h
    refine loopW (fun st => ∀ (H : Heap) (locs : List Loc) (ls : Array Slot), WD g s A (w_X5_twiceArea g a_t a_corners a_corners_firsts a_corners_seconds c_corners_size c_corners_firsts c_corners_seconds) H locs → lv_has ls 4 [(0, .ref a_t), (1, .int (st.1)), (2, .int (st.2))] → W p l e (rm9 1 22) s m args below meth c H locs 0 0 Q (F0 m 17 ls [])) (fun (ex : Int32) => ∀ (H : Heap) (locs : List Loc) (ls : Array Slot), WD g s A (w_X5_twiceArea g a_t a_corners a_corners_firsts a_corners_seconds c_corners_size c_corners_firsts c_corners_seconds) H locs → lv_has ls 4 [(1, .int ex)] → W p l e (rm9 1 22) s m args below meth c H locs 0 0 Q (F0 m 82 ls [])) ?_ hw ?_ H locs ls hW (lv_sub hl [2, 1, 0] rfl)
    · rintro ⟨v1, v2⟩ o hb9 hk H locs ls hW hl
      have h : X5_twiceArea_L17 c_corners_size c_corners_firsts c_corners_seconds v1 v2 = some o := hb9
      clear hb9
      unfold X5_twiceArea_L17 at h
      refine lv_iload_n (pc := 17) hx hb (dd dX5_twiceArea 11 rfl) rfl (lv_at hl 2 rfl) ?_
      refine lv_aload_n (pc := 18) hx hb (dd dX5_twiceArea 12 rfl) rfl (lv_at hl 0 rfl) ?_
      refine rGet (pc := 19) M hW 0 0 iU5 rfl rfl (by decide) (uw1 63 rfl rfl) rfl (dd dX5_twiceArea 13 rfl) ?_
      refine rGet (pc := 22) M hW 1 2 iU1 rfl rfl (by decide) (uw1 53 rfl rfl) rfl (dd dX5_twiceArea 14 rfl) ?_
      refine lv_icmp_ge (pc := 25) (tgt := 82) hx hb (dd dX5_twiceArea 15 rfl) (by decide) (fun hc => ?_) (fun hc => ?_)
      · have h := it_t hc h
        obtain rfl := Option.some.inj h
        exact hk _ _ _ hW (lv_sub hl [1] rfl)
      · have h := it_f hc h
        refine lv_aload_n (pc := 28) hx hb (dd dX5_twiceArea 16 rfl) rfl (lv_at hl 0 rfl) ?_
        refine lv_iload_n (pc := 29) hx hb (dd dX5_twiceArea 17 rfl) rfl (lv_at hl 2 rfl) ?_
        obtain ⟨r_30, hr, h⟩ := bnd_ex h
        refine callVI (pc := 30) (na := 1) (As := [.int v2]) (rest := []) (ws2 := (w_X5_twiceArea g a_t a_corners a_corners_firsts a_corners_seconds c_corners_size c_corners_firsts c_corners_seconds)) M hl.1 hW (t_X5_cornerAfter l g a_t a_corners a_corners_firsts a_corners_seconds c_corners_size v2 r_30 hr) rfl [0, 1] [2, 3] [2, 3, 0, 1] rfl rfl rfl rfl rfl rfl rfl 0 5 rfl rfl rfl (uw3 35 rfl rfl) (uw3 32 rfl rfl) (uw3 34 rfl rfl) (uwp 4 rfl rfl) (uw1 2 rfl rfl) ⟨by decide, by decide, by decide⟩ rfl ⟨by decide, by decide⟩ (Nat.le_of_ble_eq_true rfl) ⟨Nat.zero_le _, Nat.zero_le _⟩ (dd dX5_twiceArea 18 rfl) (fun H locs hW => ?_)
        refine lv_istore_n (pc := 33) (lv' := [(3, .int r_30), (0, .ref a_t), (1, .int v1), (2, .int v2)]) hx hb (dd dX5_twiceArea 19 rfl) rfl hl (by decide) rfl (fun ls hl => ?_)
        refine lv_iload_n (pc := 34) hx hb (dd dX5_twiceArea 20 rfl) rfl (lv_at hl 2 rfl) ?_
        refine lv_aload_n (pc := 35) hx hb (dd dX5_twiceArea 21 rfl) rfl (lv_at hl 1 rfl) ?_
        refine rGet (pc := 36) M hW 0 0 iU5 rfl rfl (by decide) (uw1 63 rfl rfl) rfl (dd dX5_twiceArea 22 rfl) ?_
        refine rGet (pc := 39) M hW 1 0 iU1 rfl rfl (by decide) (uw1 47 rfl rfl) rfl (dd dX5_twiceArea 23 rfl) ?_
        refine lv_iload_n (pc := 42) hx hb (dd dX5_twiceArea 24 rfl) rfl (lv_at hl 3 rfl) ?_
        obtain ⟨hi, h⟩ := ck_ex h
        refine rIald (pc := 43) M hW 2 rfl hi (dd dX5_twiceArea 25 rfl) ?_
        refine lv_aload_n (pc := 44) hx hb (dd dX5_twiceArea 26 rfl) rfl (lv_at hl 1 rfl) ?_
        refine rGet (pc := 45) M hW 0 0 iU5 rfl rfl (by decide) (uw1 63 rfl rfl) rfl (dd dX5_twiceArea 27 rfl) ?_
        refine rGet (pc := 48) M hW 1 1 iU1 rfl rfl (by decide) (uw1 50 rfl rfl) rfl (dd dX5_twiceArea 28 rfl) ?_
        refine lv_iload_n (pc := 51) hx hb (dd dX5_twiceArea 29 rfl) rfl (lv_at hl 0 rfl) ?_
        obtain ⟨hi, h⟩ := ck_ex h
        refine rIald (pc := 52) M hW 3 rfl hi (dd dX5_twiceArea 30 rfl) ?_
        refine lv_imul (pc := 53) hx hb (dd dX5_twiceArea 31 rfl) ?_
        refine lv_aload_n (pc := 54) hx hb (dd dX5_twiceArea 32 rfl) rfl (lv_at hl 1 rfl) ?_
        refine rGet (pc := 55) M hW 0 0 iU5 rfl rfl (by decide) (uw1 63 rfl rfl) rfl (dd dX5_twiceArea 33 rfl) ?_
        refine rGet (pc := 58) M hW 1 0 iU1 rfl rfl (by decide) (uw1 47 rfl rfl) rfl (dd dX5_twiceArea 34 rfl) ?_
        refine lv_iload_n (pc := 61) hx hb (dd dX5_twiceArea 35 rfl) rfl (lv_at hl 0 rfl) ?_
        obtain ⟨hi, h⟩ := ck_ex h
        refine rIald (pc := 62) M hW 2 rfl hi (dd dX5_twiceArea 36 rfl) ?_
        refine lv_aload_n (pc := 63) hx hb (dd dX5_twiceArea 37 rfl) rfl (lv_at hl 1 rfl) ?_
        refine rGet (pc := 64) M hW 0 0 iU5 rfl rfl (by decide) (uw1 63 rfl rfl) rfl (dd dX5_twiceArea 38 rfl) ?_
        refine rGet (pc := 67) M hW 1 1 iU1 rfl rfl (by decide) (uw1 50 rfl rfl) rfl (dd dX5_twiceArea 39 rfl) ?_
        refine lv_iload_n (pc := 70) hx hb (dd dX5_twiceArea 40 rfl) rfl (lv_at hl 3 rfl) ?_
        obtain ⟨hi, h⟩ := ck_ex h
        refine rIald (pc := 71) M hW 3 rfl hi (dd dX5_twiceArea 41 rfl) ?_
        refine lv_imul (pc := 72) hx hb (dd dX5_twiceArea 42 rfl) ?_
        refine lv_isub (pc := 73) hx hb (dd dX5_twiceArea 43 rfl) ?_
        refine lv_iadd (pc := 74) hx hb (dd dX5_twiceArea 44 rfl) ?_
        obtain ⟨v1_75, ev1_75, h⟩ := nm_ex h
        refine rTopi (pc := 75) ev1_75 ?_
        refine lv_istore_n (pc := 75) (lv' := [(1, .int v1_75), (3, .int r_30), (0, .ref a_t), (2, .int v2)]) hx hb (dd dX5_twiceArea 45 rfl) rfl hl (by decide) rfl (fun ls hl => ?_)
        obtain ⟨v2_76, ev2_76, h⟩ := nm_ex h
        refine lv_iinc (pc := 76) (v := v2_76) (lv' := [(2, .int v2_76), (1, .int v1_75), (3, .int r_30), (0, .ref a_t)]) hx hb (dd dX5_twiceArea 46 rfl) hl (k := 3) rfl (by rw [ev2_76]; rfl) (by decide) rfl (fun ls hl => ?_)
        refine lv_goto (pc := 79) (tgt := 17) hx hb (dd dX5_twiceArea 47 rfl) (by decide) ?_
        obtain rfl := Option.some.inj h
        exact hk _ _ _ hW (lv_sub hl [3, 1, 0] rfl)
    · obtain ⟨v1_82, e9⟩ : ∃ z, z = ex := ⟨_, rfl⟩
      subst e9
      intro H locs ls hW hl
      refine lv_iload_n (pc := 82) hx hb (dd dX5_twiceArea 48 rfl) rfl (lv_at hl 0 rfl) ?_
      refine rAbs (pc := 83) M hl.1 (uw3 36 rfl rfl) (uw3 37 rfl rfl) (uw1 4 rfl rfl) (uw3 38 rfl rfl) ⟨by decide, by decide⟩ (Nat.le_of_ble_eq_true rfl) ⟨Nat.zero_le _, Nat.zero_le _⟩ (dd dX5_twiceArea 49 rfl) ?_
      have hW9 := hW
      cases h
      exact ret _ _ _ 86 hW9 rfl (dd dX5_twiceArea 50 rfl)
  · have h := it_f hc h
    refine lv_iconst (pc := 11) (v := 0) hx hb (dd dX5_twiceArea 5 rfl) (by decide) ?_
    have hW9 := hW
    cases h
    exact ret _ _ _ 12 hW9 rfl (dd dX5_twiceArea 6 rfl)
abbrev w_X1_isFull (g : G9) (a_t a_firsts a_seconds nP : Nat) (c_size : Int32) (c_firsts : Ar) : va_W := [ob a_t 1 [.ref a_firsts, .ref a_seconds, .int c_size], ia g a_firsts nP c_firsts]
noncomputable def X1_isFull (nP : Nat) (c_size : Int32) : Option Int32 :=
  if c_size < (nI nP) then (some 0) else (some 1)
set_option maxHeartbeats 4000000 in
set_option maxRecDepth 100000 in
theorem t_X1_isFull (l : Launch) (g : G9) (a_t a_firsts a_seconds nP : Nat) (c_size : Int32) (c_firsts : Ar) (r0 : Int32) (h : X1_isFull nP c_size = some r0) : CtI l g yX1_isFull cX1_isFull 1 .boolean 0 0 [.ref a_t] (w_X1_isFull g a_t a_firsts a_seconds nP c_size c_firsts) r0 (w_X1_isFull g a_t a_firsts a_seconds nP c_size c_firsts) := by
  refine startI (by decide) (Nat.le_of_ble_eq_true rfl) ?_
  intro p e s m below meth c A Q ls args M hW hl ret
  have hx := M.1
  have hb := M.2.1
  have hown := M.2.2.2.1
  have hu := M.2.2.2.2.1
  have hl : lv_has ls 1 [(0, .ref a_t)] := hl
  unfold X1_isFull at h
  obtain ⟨H, eH⟩ : ∃ z, z = s.heap := ⟨_, rfl⟩
  obtain ⟨locs, eL⟩ : ∃ z, z = ([] : List Loc) := ⟨_, rfl⟩
  rw [← eL] at hW ⊢
  suffices hS9 : WD g s A (w_X1_isFull g a_t a_firsts a_seconds nP c_size c_firsts) H locs → W p l e (rm9 0 0) s m args below meth c H locs 0 0 Q (F0 m 0 ls []) by
    rw [← eH] at hW ⊢
    exact hS9 hW
  clear hW eH eL
  intro hW
  refine lv_aload_n (pc := 0) hx hb (dd dX1_isFull 0 rfl) rfl (lv_at hl 0 rfl) ?_
  refine rGet (pc := 1) M hW 0 2 iU1 rfl rfl (by decide) (uw1 52 rfl rfl) rfl (dd dX1_isFull 1 rfl) ?_
  refine lv_aload_n (pc := 4) hx hb (dd dX1_isFull 2 rfl) rfl (lv_at hl 0 rfl) ?_
  refine rGet (pc := 5) M hW 0 0 iU1 rfl rfl (by decide) (uw1 46 rfl rfl) rfl (dd dX1_isFull 3 rfl) ?_
  refine rAlenI (pc := 8) M hW 1 rfl (dd dX1_isFull 4 rfl) ?_
  refine lv_icmp_lt (pc := 9) (tgt := 16) hx hb (dd dX1_isFull 5 rfl) (by decide) (fun hc => ?_) (fun hc => ?_)
  · have h := it_t hc h
    refine lv_iconst (pc := 16) (v := 0) hx hb (dd dX1_isFull 8 rfl) (by decide) ?_
    have hW9 := hW
    cases h
    exact ret _ _ _ 17 hW9 rfl (dd dX1_isFull 9 rfl)
  · have h := it_f hc h
    refine lv_iconst (pc := 12) (v := 1) hx hb (dd dX1_isFull 6 rfl) (by decide) ?_
    refine lv_goto (pc := 13) (tgt := 17) hx hb (dd dX1_isFull 7 rfl) (by decide) ?_
    have hW9 := hW
    cases h
    exact ret _ _ _ 17 hW9 rfl (dd dX1_isFull 9 rfl)
abbrev w_X1_add (g : G9) (a_t a_firsts a_seconds nP : Nat) (c_size : Int32) (c_firsts c_seconds : Ar) : va_W := [ob a_t 1 [.ref a_firsts, .ref a_seconds, .int c_size], ia g a_firsts nP c_firsts, ia g a_seconds nP c_seconds]
noncomputable def X1_add_b37 (nP : Nat) (c_size : Int32) (c_firsts c_seconds : Ar) : Option (Int32 × Int32 × Ar × Ar) :=
  some (c_size, c_size, c_firsts, c_seconds)
noncomputable def X1_add (nP : Nat) (c_size : Int32) (c_firsts c_seconds : Ar) (v1 v2 : Int32) : Option (Int32 × Int32 × Ar × Ar) :=
  bnd (X1_isFull nP c_size) <| fun r_1 => if r_1 = 0 then (ck (ix c_size nP) <| nm (au c_firsts c_size v1) fun c_firsts_16 => ck (ix c_size nP) <| nm (au c_seconds c_size v2) fun c_seconds_26 => nm ((c_size + 1)) fun c_size_34 => X1_add_b37 nP c_size_34 c_firsts_16 c_seconds_26) else (X1_add_b37 nP c_size c_firsts c_seconds)
set_option maxHeartbeats 4000000 in
set_option maxRecDepth 100000 in
theorem t_X1_add (l : Launch) (g : G9) (a_t a_firsts a_seconds nP : Nat) (c_size : Int32) (c_firsts c_seconds : Ar) (v1 v2 r0 o_size : Int32) (o_firsts o_seconds : Ar) (h : X1_add nP c_size c_firsts c_seconds v1 v2 = some (r0, o_size, o_firsts, o_seconds)) : CtI l g yX1_add cX1_add 3 .int 1 20 [.ref a_t, .int v1, .int v2] (w_X1_add g a_t a_firsts a_seconds nP c_size c_firsts c_seconds) r0 (w_X1_add g a_t a_firsts a_seconds nP o_size o_firsts o_seconds) := by
  refine startI (by decide) (Nat.le_of_ble_eq_true rfl) ?_
  intro p e s m below meth c A Q ls args M hW hl ret
  have hx := M.1
  have hb := M.2.1
  have hown := M.2.2.2.1
  have hu := M.2.2.2.2.1
  have hl : lv_has ls 3 [(0, .ref a_t), (1, .int v1), (2, .int v2)] := hl
  unfold X1_add at h
  obtain ⟨H, eH⟩ : ∃ z, z = s.heap := ⟨_, rfl⟩
  obtain ⟨locs, eL⟩ : ∃ z, z = ([] : List Loc) := ⟨_, rfl⟩
  rw [← eL] at hW ⊢
  suffices hS9 : WD g s A (w_X1_add g a_t a_firsts a_seconds nP c_size c_firsts c_seconds) H locs → W p l e (rm9 1 20) s m args below meth c H locs 0 0 Q (F0 m 0 ls []) by
    rw [← eH] at hW ⊢
    exact hS9 hW
  clear hW eH eL
  intro hW
  have J37 : ∀ (c_size : Int32) (c_firsts c_seconds : Ar) (H : Heap) (locs : List Loc) (ls : Array Slot), X1_add_b37 nP c_size c_firsts c_seconds = some (r0, o_size, o_firsts, o_seconds) → WD g s A (w_X1_add g a_t a_firsts a_seconds nP c_size c_firsts c_seconds) H locs → lv_has ls 3 [(0, .ref a_t)] → W p l e (rm9 1 20) s m args below meth c H locs 0 0 Q (F0 m 37 ls []) := by
    intro c_size c_firsts c_seconds H locs ls h hW hl
    unfold X1_add_b37 at h
    refine lv_aload_n (pc := 37) hx hb (dd dX1_add 21 rfl) rfl (lv_at hl 0 rfl) ?_
    refine rGet (pc := 38) M hW 0 2 iU1 rfl rfl (by decide) (uw1 52 rfl rfl) rfl (dd dX1_add 22 rfl) ?_
    have hW9 := hW
    cases h
    exact ret _ _ _ 41 hW9 rfl (dd dX1_add 23 rfl)
  refine lv_aload_n (pc := 0) hx hb (dd dX1_add 0 rfl) rfl (lv_at hl 0 rfl) ?_
  obtain ⟨r_1, hr, h⟩ := bnd_ex h
  refine callVI (pc := 1) (na := 0) (As := []) (rest := []) (ws2 := (w_X1_add g a_t a_firsts a_seconds nP c_size c_firsts c_seconds)) M hl.1 hW (t_X1_isFull l g a_t a_firsts a_seconds nP c_size c_firsts r_1 hr) rfl [0, 1] [2] [1, 2, 0] rfl rfl rfl rfl rfl rfl rfl 0 1 rfl rfl rfl (uw2 92 rfl rfl) (uw2 97 rfl rfl) (uw2 90 rfl rfl) (uw2 91 rfl rfl) (uw1 3 rfl rfl) ⟨by decide, by decide, by decide⟩ rfl ⟨by decide, by decide⟩ (Nat.le_of_ble_eq_true rfl) ⟨Nat.zero_le _, Nat.zero_le _⟩ (dd dX1_add 1 rfl) (fun H locs hW => ?_)
  refine lv_if_ne (pc := 4) (tgt := 37) hx hb (dd dX1_add 2 rfl) (by decide) (fun hc => ?_) (fun hc => ?_)
  · have h := it_f hc h
    exact J37 _ _ _ _ _ _ h hW (lv_sub hl [0] rfl)
  · have h := it_t hc h
    refine lv_aload_n (pc := 7) hx hb (dd dX1_add 3 rfl) rfl (lv_at hl 0 rfl) ?_
    refine rGet (pc := 8) M hW 0 0 iU1 rfl rfl (by decide) (uw1 46 rfl rfl) rfl (dd dX1_add 4 rfl) ?_
    refine lv_aload_n (pc := 11) hx hb (dd dX1_add 5 rfl) rfl (lv_at hl 0 rfl) ?_
    refine rGet (pc := 12) M hW 0 2 iU1 rfl rfl (by decide) (uw1 52 rfl rfl) rfl (dd dX1_add 6 rfl) ?_
    refine lv_iload_n (pc := 15) hx hb (dd dX1_add 7 rfl) rfl (lv_at hl 1 rfl) ?_
    obtain ⟨hi, h⟩ := ck_ex h
    obtain ⟨c_firsts_16, ec_firsts_16, h⟩ := nm_ex h
    refine rIast (pc := 16) M hW 1 rfl hi ec_firsts_16 (ws' := (w_X1_add g a_t a_firsts a_seconds nP c_size c_firsts_16 c_seconds)) rfl (dd dX1_add 8 rfl) (fun H locs hW => ?_)
    refine lv_aload_n (pc := 17) hx hb (dd dX1_add 9 rfl) rfl (lv_at hl 0 rfl) ?_
    refine rGet (pc := 18) M hW 0 1 iU1 rfl rfl (by decide) (uw1 49 rfl rfl) rfl (dd dX1_add 10 rfl) ?_
    refine lv_aload_n (pc := 21) hx hb (dd dX1_add 11 rfl) rfl (lv_at hl 0 rfl) ?_
    refine rGet (pc := 22) M hW 0 2 iU1 rfl rfl (by decide) (uw1 52 rfl rfl) rfl (dd dX1_add 12 rfl) ?_
    refine lv_iload_n (pc := 25) hx hb (dd dX1_add 13 rfl) rfl (lv_at hl 2 rfl) ?_
    obtain ⟨hi, h⟩ := ck_ex h
    obtain ⟨c_seconds_26, ec_seconds_26, h⟩ := nm_ex h
    refine rIast (pc := 26) M hW 2 rfl hi ec_seconds_26 (ws' := (w_X1_add g a_t a_firsts a_seconds nP c_size c_firsts_16 c_seconds_26)) rfl (dd dX1_add 14 rfl) (fun H locs hW => ?_)
    refine lv_aload_n (pc := 27) hx hb (dd dX1_add 15 rfl) rfl (lv_at hl 0 rfl) ?_
    refine lv_dup (pc := 28) hx hb (dd dX1_add 16 rfl) rfl ?_
    refine rGet (pc := 29) M hW 0 2 iU1 rfl rfl (by decide) (uw1 52 rfl rfl) rfl (dd dX1_add 17 rfl) ?_
    refine lv_iconst (pc := 32) (v := 1) hx hb (dd dX1_add 18 rfl) (by decide) ?_
    refine lv_iadd (pc := 33) hx hb (dd dX1_add 19 rfl) ?_
    obtain ⟨c_size_34, ec_size_34, h⟩ := nm_ex h
    refine rTopi (pc := 34) ec_size_34 ?_
    refine rPut (pc := 34) M hW 0 2 tyX1 tyX1_ok nmX1 iU1 rfl rfl (by decide) (uw1 52 rfl rfl) rfl rfl rfl (Nat.le_of_ble_eq_true rfl) (dd dX1_add 20 rfl) (ws' := (w_X1_add g a_t a_firsts a_seconds nP c_size_34 c_firsts_16 c_seconds_26)) rfl (fun H locs hW => ?_)
    exact J37 _ _ _ _ _ _ h hW (lv_sub hl [0] rfl)
abbrev w_X1_drop (g : G9) (a_t a_firsts a_seconds : Nat) (c_size : Int32) : va_W := [ob a_t 1 [.ref a_firsts, .ref a_seconds, .int c_size]]
noncomputable def X1_drop (c_size : Int32) : Option (Int32 × Int32) :=
  some (c_size, 0)
set_option maxHeartbeats 4000000 in
set_option maxRecDepth 100000 in
theorem t_X1_drop (l : Launch) (g : G9) (a_t a_firsts a_seconds : Nat) (c_size r0 o_size : Int32) (h : X1_drop c_size = some (r0, o_size)) : CtI l g yX1_drop cX1_drop 2 .int 0 0 [.ref a_t] (w_X1_drop g a_t a_firsts a_seconds c_size) r0 (w_X1_drop g a_t a_firsts a_seconds o_size) := by
  refine startI (by decide) (Nat.le_of_ble_eq_true rfl) ?_
  intro p e s m below meth c A Q ls args M hW hl ret
  have hx := M.1
  have hb := M.2.1
  have hown := M.2.2.2.1
  have hu := M.2.2.2.2.1
  have hl : lv_has ls 2 [(0, .ref a_t)] := hl
  unfold X1_drop at h
  obtain ⟨H, eH⟩ : ∃ z, z = s.heap := ⟨_, rfl⟩
  obtain ⟨locs, eL⟩ : ∃ z, z = ([] : List Loc) := ⟨_, rfl⟩
  rw [← eL] at hW ⊢
  suffices hS9 : WD g s A (w_X1_drop g a_t a_firsts a_seconds c_size) H locs → W p l e (rm9 0 0) s m args below meth c H locs 0 0 Q (F0 m 0 ls []) by
    rw [← eH] at hW ⊢
    exact hS9 hW
  clear hW eH eL
  intro hW
  refine lv_aload_n (pc := 0) hx hb (dd dX1_drop 0 rfl) rfl (lv_at hl 0 rfl) ?_
  refine rGet (pc := 1) M hW 0 2 iU1 rfl rfl (by decide) (uw1 52 rfl rfl) rfl (dd dX1_drop 1 rfl) ?_
  refine lv_istore_n (pc := 4) (lv' := [(1, .int c_size), (0, .ref a_t)]) hx hb (dd dX1_drop 2 rfl) rfl hl (by decide) rfl (fun ls hl => ?_)
  refine lv_aload_n (pc := 5) hx hb (dd dX1_drop 3 rfl) rfl (lv_at hl 1 rfl) ?_
  refine lv_iconst (pc := 6) (v := 0) hx hb (dd dX1_drop 4 rfl) (by decide) ?_
  refine rPut (pc := 7) M hW 0 2 tyX1 tyX1_ok nmX1 iU1 rfl rfl (by decide) (uw1 52 rfl rfl) rfl rfl rfl (Nat.le_of_ble_eq_true rfl) (dd dX1_drop 5 rfl) (ws' := (w_X1_drop g a_t a_firsts a_seconds 0)) rfl (fun H locs hW => ?_)
  refine lv_iload_n (pc := 10) hx hb (dd dX1_drop 6 rfl) rfl (lv_at hl 0 rfl) ?_
  have hW9 := hW
  cases h
  exact ret _ _ _ 11 hW9 rfl (dd dX1_drop 7 rfl)
