theorem all_steps : AllSteps Inv9 := fun fa fi ga gi h =>
  ⟨o_corner h, o_clear h, o_area h, o_lay h, o_square h, o_rows h, o_row h, o_rowOf h, o_way h, o_turn h, o_best h, o_bound h, o_plan h, o_swing h, o_slant h, o_unslant h, o_choose h, o_yields h, o_bears h, o_reaper h, o_run h, o_look h, o_wagon h, o_count h⟩
theorem init_ok : ∃ c_b2, whileV (fun st => X10_init_L st.1 st.2) ((fun _ => 0), 0) = some c_b2 ∧ ∀ k, k < 1200 → c_b2 k = 1000000 := by
  obtain ⟨r, h1, h2⟩ := whileV_up (body := fun st => X10_init_L st.1 st.2) 1200
    (fun k s => s.2 = nI k ∧ ∀ j, j < k → s.1 j = 1000000) (fun r => ∀ j, j < 1200 → r j = 1000000)
    (fun k s hk hs => by
      obtain ⟨g, i⟩ := s
      obtain ⟨rfl, q⟩ := hs
      dsimp only at q
      left
      have au1 : au g (nI k) 1000000 = upd g k 1000000 := au_nI (by omega)
      refine ⟨(upd g k 1000000, nI (k + 1)), ?_, rfl, fun j hj => ?_⟩
      · show X10_init_L g (nI k) = _
        unfold X10_init_L
        simp only [if_neg (show ¬ (1200 : Int32) ≤ nI k from nI_ge hk (by decide)), ck_t (ix_nI hk (show 1200 < 2 ^ 31 by decide)), nm_eq, au1, nI_1]
      · show upd g k 1000000 j = _
        rw [upd_at]
        by_cases e : j = k
        · rw [if_pos e]
        · rw [if_neg e]; exact q j (by omega))
    (fun s hs => by
      obtain ⟨g, i⟩ := s
      obtain ⟨rfl, q⟩ := hs
      refine ⟨g, ?_, q⟩
      show X10_init_L g (nI 1200) = _
      unfold X10_init_L
      rw [if_pos (show (1200 : Int32) ≤ nI 1200 from nI_le (a := 1200) (Nat.le_refl _) (by decide))]) 0 ((fun _ => 0), nI 0) (Nat.zero_le _) ⟨rfl, fun j hj => by omega⟩
  exact ⟨r, h1, h2⟩
theorem math_core : ∃ (Inv : (Nat → Ar) → (Nat → Int32) → (Nat → Ar) → (Nat → Int32) → Prop) (c_b c_b2 : Ar), AllSteps Inv ∧ J7_fill_53178 1200 (fun _ => 0) 1000000 = some c_b ∧ whileV (fun st => X10_init_L st.1 st.2) ((fun _ => 0), 0) = some c_b2 ∧ Inv (va_up (fun _ _ => 0) 30 c_b) (va_up (fun _ => 0) 15 1000) (va_up (fun _ _ => 0) 14 c_b2) (va_up (fun _ => 0) 7 1000) := by
  obtain ⟨g, a1, a2⟩ := fill_ok 1200 (by decide) (fun _ => 0) 1000000
  obtain ⟨g2, b1, b2⟩ := init_ok
  have R : ∀ r : Nat, IRing 0 (fun _ => 0) (fun _ => 0) r (fun _ => 0) (fun _ => 0) (fun _ => 0) := fun r => ⟨0, by omega, rfl, rfl, fun j hj => by omega⟩
  refine ⟨Inv9, g, g2, all_steps, a1, b1, ⟨R 0, R 1, R 2, R 3⟩, Or.inl ⟨rfl, rfl, rfl, rfl, rfl⟩, ⟨rfl, 0, by omega, rfl, fun j hj => by omega⟩, ?_, Or.inl ⟨rfl, rfl, rfl, rfl, rfl, rfl⟩⟩
  refine ⟨fun k hk => ⟨rfl, 0, by omega, rfl⟩, fun k hk => ?_, ⟨rfl, 1000, by omega, rfl⟩, ⟨rfl, 0, by omega, rfl⟩, ⟨rfl, 0, by omega, rfl⟩, fun j hj => rfl, 0, by omega, rfl, fun k hk => by omega⟩
  have e : g k = 1000000 := by rw [a2 k, if_pos hk]
  exact ⟨show g k = g2 k by rw [e, b2 k hk], 1000000, Nat.le_refl _, e⟩
