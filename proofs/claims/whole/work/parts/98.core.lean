theorem math_core : ∃ (Inv : (Nat → Ar) → (Nat → Int32) → (Nat → Ar) → (Nat → Int32) → Prop) (c_b c_b2 : Ar), AllSteps Inv ∧ J7_fill_53178 1200 (fun _ => 0) 1000000 = some c_b ∧ whileV (fun st => X10_init_L st.1 st.2) ((fun _ => 0), 0) = some c_b2 ∧ Inv (va_up (fun _ _ => 0) 30 c_b) (va_up (fun _ => 0) 15 1000) (va_up (fun _ _ => 0) 14 c_b2) (va_up (fun _ => 0) 7 1000) := by
  sorry
