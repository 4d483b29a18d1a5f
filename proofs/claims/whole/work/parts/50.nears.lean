theorem cnt_congr {p q : Nat → Bool} {n : Nat} (h : ∀ s, s < n → p s = q s) : cnt p n = cnt q n := by
  induction n with
  | zero => rfl
  | succ n ih => unfold cnt; rw [ih (fun s hs => h s (by omega)), h n (by omega)]
theorem cnt_le (p : Nat → Bool) (n : Nat) : cnt p n ≤ n := by
  induction n with
  | zero => exact Nat.le_refl _
  | succ n ih => unfold cnt; split <;> omega
theorem cnt_not (p : Nat → Bool) (n : Nat) : cnt p n + cnt (fun s => !p s) n = n := by
  induction n with
  | zero => rfl
  | succ n ih =>
    unfold cnt
    cases hp : p n
    · simp; omega
    · simp; omega
theorem cnt_mono {p q : Nat → Bool} {n : Nat} (h : ∀ s, s < n → p s = true → q s = true) : cnt p n ≤ cnt q n := by
  induction n with
  | zero => exact Nat.le_refl _
  | succ n ih =>
    unfold cnt
    have := ih (fun s hs => h s (by omega))
    have := h n (by omega)
    cases hp : p n
    · cases hq : q n <;> simp <;> omega
    · rw [this hp]; simp; omega
/-- one more -/
theorem cnt_one {p q : Nat → Bool} {n k : Nat} (hk : k < n) (h1 : p k = false) (h2 : q k = true) (h : ∀ s, s < n → s ≠ k → p s = q s) : cnt q n = cnt p n + 1 := by
  induction n with
  | zero => omega
  | succ n ih =>
    unfold cnt
    by_cases e : k = n
    · subst e
      rw [cnt_congr (p := q) (q := p) (fun s hs => (h s (by omega) (by omega)).symm), h1, h2]
      simp
    · rw [ih (by omega) (fun s hs => h s (by omega)), h n (by omega) (Ne.symm e)]
      omega
theorem cnt_ex {p : Nat → Bool} {n : Nat} (h : 0 < cnt p n) : ∃ k, k < n ∧ p k = true := by
  induction n with
  | zero => exact absurd h (Nat.lt_irrefl _)
  | succ n ih =>
    unfold cnt at h
    by_cases c : p n = true
    · exact ⟨n, by omega, c⟩
    · rw [if_neg c] at h
      obtain ⟨k, h1, h2⟩ := ih (by omega)
      exact ⟨k, by omega, h2⟩
/-- how far step k leads -/
def dz (k : Nat) : Int := 40 * dys.getD k 0 + dxs.getD k 0
theorem stepA_dz : ∀ k, k < 8 → stepA k = iI (dz k) := by
  intro k hk
  rw [← Int32.toInt_inj, iI_toInt]
  · revert k; decide
  · revert k; decide
  · revert k; decide
theorem dxy : ∀ k, k < 8 → -1 ≤ dxs.getD k 0 ∧ dxs.getD k 0 ≤ 1 ∧ -1 ≤ dys.getD k 0 ∧ dys.getD k 0 ≤ 1 := by decide
theorem stp_iff {s k t : Nat} : stp s k = some t ↔ inL (cX s + dxs.getD k 0) (cY s + dys.getD k 0) ∧ t = (40 * (cY s + dys.getD k 0) + (cX s + dxs.getD k 0)).toNat := by
  have e : stp s k = if 0 ≤ cX s + dxs.getD k 0 ∧ cX s + dxs.getD k 0 < 40 ∧ 0 ≤ cY s + dys.getD k 0 ∧ cY s + dys.getD k 0 < 30 then some (40 * (cY s + dys.getD k 0) + (cX s + dxs.getD k 0)).toNat else none := rfl
  rw [e]
  by_cases c : inL (cX s + dxs.getD k 0) (cY s + dys.getD k 0)
  · rw [if_pos c]
    exact ⟨fun q => ⟨c, (Option.some.inj q).symm⟩, fun q => by rw [q.2]⟩
  · rw [if_neg c]
    exact ⟨fun q => (nomatch q), fun q => absurd q.1 c⟩
/-- a step's target, as numbers -/
theorem stp_at {s k t : Nat} (hs : s < 1200) (h : stp s k = some t) : t < 1200 ∧ (t : Int) = s + dz k ∧ cX t = cX s + dxs.getD k 0 ∧ cY t = cY s + dys.getD k 0 := by
  obtain ⟨c, rfl⟩ := stp_iff.mp h
  have := cX_of c
  have := cXf s
  unfold dz
  refine ⟨by omega, by omega, by omega, by omega⟩
theorem isStep_ok {s : Nat} {z : Int} (hs : s < 1200) (h1 : -100 ≤ z) (h2 : z ≤ 1300) : X0_isStep (nI s) (iI z) = some (if 0 ≤ z ∧ z < 1200 ∧ z % 40 - cX s ≤ 1 ∧ cX s - z % 40 ≤ 1 then 1 else 0) := by
  unfold X0_isStep
  by_cases c1 : z < 0
  · rw [if_pos (show iI z < 0 from (iI_lt (b := 0) (by omega) (by omega) (by omega) (by omega)).mpr c1), if_neg (by omega)]
  rw [if_neg (show ¬ iI z < 0 from fun q => c1 ((iI_lt (b := 0) (by omega) (by omega) (by omega) (by omega)).mp q))]
  by_cases c2 : 1200 ≤ z
  · rw [if_pos (show 1200 ≤ iI z from (iI_le (a := 1200) (by omega) (by omega) (by omega) (by omega)).mpr c2), if_neg (by omega)]
  rw [if_neg (show ¬ 1200 ≤ iI z from fun q => c2 ((iI_le (a := 1200) (by omega) (by omega) (by omega) (by omega)).mp q))]
  rw [iI_nn (show 0 ≤ z by omega), rem40 (by omega), rem40 (by omega), ← iI_nat, ← iI_nat, iI_sub]
  have e : ab (iI (((z.toNat % 40 : Nat) : Int) - ((s % 40 : Nat) : Int))) = iI (if 0 ≤ ((z.toNat % 40 : Nat) : Int) - ((s % 40 : Nat) : Int) then ((z.toNat % 40 : Nat) : Int) - ((s % 40 : Nat) : Int) else 0 - (((z.toNat % 40 : Nat) : Int) - ((s % 40 : Nat) : Int))) := by
    unfold ab
    rw [show (0 : Int32) = iI 0 from rfl]
    by_cases c : 0 ≤ ((z.toNat % 40 : Nat) : Int) - ((s % 40 : Nat) : Int)
    · rw [if_pos ((iI_le (by omega) (by omega) (by omega) (by omega)).mpr c), if_pos c]
    · rw [if_neg (fun q => c ((iI_le (by omega) (by omega) (by omega) (by omega)).mp q)), if_neg c, iI_sub]
  rw [e, iI_1]
  have ex : cX s = ((s % 40 : Nat) : Int) := rfl
  rw [ex]
  by_cases c : 0 ≤ z ∧ z < 1200 ∧ z % 40 - ((s % 40 : Nat) : Int) ≤ 1 ∧ ((s % 40 : Nat) : Int) - z % 40 ≤ 1
  · rw [if_pos c, if_neg]
    intro q
    have := (iI_lt (by omega) (by omega) (by split <;> omega) (by split <;> omega)).mp q
    split at this <;> omega
  · rw [if_neg c, if_pos]
    refine (iI_lt (by omega) (by omega) (by split <;> omega) (by split <;> omega)).mpr ?_
    split <;> omega
theorem step_ok {s k : Nat} (hs : s < 1200) (hk : k < 8) : (∃ t, t < 1200 ∧ stp s k = some t ∧ nI s + stepA k = nI t ∧ X0_isStep (nI s) (nI t) = some 1) ∨ (stp s k = none ∧ X0_isStep (nI s) (nI s + stepA k) = some 0) := by
  have d := dxy k hk
  have f := cXf s
  have ez : nI s + stepA k = iI (s + dz k) := by rw [stepA_dz k hk, ← iI_nat, iI_add]
  unfold dz at *
  have st := isStep_ok (s := s) (z := s + (40 * dys.getD k 0 + dxs.getD k 0)) hs (by omega) (by omega)
  cases h : stp s k with
  | none =>
    right
    refine ⟨rfl, ?_⟩
    rw [ez, st, if_neg]
    intro q
    have : ¬ inL (cX s + dxs.getD k 0) (cY s + dys.getD k 0) := fun c => by rw [stp_iff.mpr ⟨c, rfl⟩] at h; exact (nomatch h)
    omega
  | some t =>
    left
    have T := stp_at hs h
    obtain ⟨c, e⟩ := stp_iff.mp h
    unfold dz at T
    refine ⟨t, T.1, rfl, ?_, ?_⟩
    · rw [ez, ← T.2.1]; rfl
    · rw [← T.2.1, if_pos (by omega)] at st
      exact st
theorem nears_in {kd : Ar} {s : Nat} (hs : s < 1200) (nr : Ar) (h0 : nr s = 0) : ∃ nr', whileV (fun st => X0_markNears_L18 kd (nI s) st.1 st.2) (nr, 0) = some nr' ∧ (∀ j, j ≠ s → nr' j = nr j) ∧ ∃ b : Nat, b < 256 ∧ nr' s = nI b ∧ ∀ k, k < 8 → (b.testBit k = true ↔ ∃ t, stp s k = some t ∧ ¬ kd t = 0) := by
  obtain ⟨r, h1, h2⟩ := whileV_up (body := fun st => X0_markNears_L18 kd (nI s) st.1 st.2) 8
    (fun n st => st.2 = nI n ∧ (∀ j, j ≠ s → st.1 j = nr j) ∧ ∃ b : Nat, b < 2 ^ n ∧ st.1 s = nI b ∧ ∀ k, k < n → (b.testBit k = true ↔ ∃ t, stp s k = some t ∧ ¬ kd t = 0))
    (fun nr' => (∀ j, j ≠ s → nr' j = nr j) ∧ ∃ b : Nat, b < 256 ∧ nr' s = nI b ∧ ∀ k, k < 8 → (b.testBit k = true ↔ ∃ t, stp s k = some t ∧ ¬ kd t = 0))
    (fun n st hn hs2 => by
      obtain ⟨f, i⟩ := st
      obtain ⟨rfl, q1, b, q2, q3, q4⟩ := hs2
      dsimp only at q1 q3
      left
      have hp : (2 : Nat) ^ (n + 1) = 2 * 2 ^ n := by rw [Nat.pow_succ]; omega
      have hp2 : (2 : Nat) ^ n ≤ 128 := Nat.pow_le_pow_right (n := 2) (by omega) (show n ≤ 7 by omega)
      have lo : b.testBit n = false := Nat.testBit_lt_two_pow q2
      have keep : (¬ ∃ t, stp s n = some t ∧ ¬ kd t = 0) → X0_markNears_L18 kd (nI s) f (nI n) = some (.inl (f, nI (n + 1))) → ∃ s', X0_markNears_L18 kd (nI s) f (nI n) = some (.inl s') ∧ s'.2 = nI (n + 1) ∧ (∀ j, j ≠ s → s'.1 j = nr j) ∧ ∃ b : Nat, b < 2 ^ (n + 1) ∧ s'.1 s = nI b ∧ ∀ k, k < n + 1 → (b.testBit k = true ↔ ∃ t, stp s k = some t ∧ ¬ kd t = 0) := by
        intro no e
        refine ⟨(f, nI (n + 1)), e, rfl, q1, b, by omega, q3, fun k hk => ?_⟩
        by_cases c : k = n
        · rw [c, lo]
          exact ⟨fun q => Bool.noConfusion q, fun q => absurd q no⟩
        · exact q4 k (by omega)
      have c8 : ¬ (8 : Int32) ≤ nI n := nI_ge hn (by decide)
      have ic := ix_nI hn (show 8 < 2 ^ 31 by decide)
      have ics := ix_nI hs (show 1200 < 2 ^ 31 by decide)
      have ags : ag stepA (nI n) = stepA n := ag_nI (by omega)
      rcases step_ok hs hn with ⟨t, t1, t2, t3, t4⟩ | ⟨t2, t4⟩
      · have agk : ag kd (nI t) = kd t := ag_nI (by omega)
        by_cases z : kd t = 0
        · refine keep (fun ⟨t', u1, u2⟩ => ?_) ?_
          · rw [t2] at u1
            obtain rfl := Option.some.inj u1
            exact u2 z
          · unfold X0_markNears_L18 X0_markNears_b18_66
            simp only [if_neg c8, ck_t ic, ags, t3, t4, bnd_some, bnd_none, rmap_some, nm_eq, Sum.elim_inl, Sum.elim_inr, un2_mk, un3_mk, un4_mk, un5_mk, un6_mk, un7_mk, un8_mk, un9_mk, un10_mk, un11_mk, un12_mk, if_neg (show ¬ (1 : Int32) = 0 by decide), ck_t (ix_nI t1 (show 1200 < 2 ^ 31 by decide)), agk, if_pos z, nI_1]
        · refine ⟨(upd f s (nI (b ||| 2 ^ n)), nI (n + 1)), ?_, rfl, fun j hj => ?_, b ||| 2 ^ n, ?_, ?_, fun k hk => ?_⟩
          · show X0_markNears_L18 kd (nI s) f (nI n) = _
            unfold X0_markNears_L18 X0_markNears_b18_66
            have agf : ag f (nI s) = nI b := by rw [ag_nI (by omega), q3]
            have auf : ∀ x, au f (nI s) x = upd f s x := fun x => au_nI (by omega)
            simp only [if_neg c8, ck_t ic, ags, t3, t4, bnd_some, bnd_none, rmap_some, nm_eq, Sum.elim_inl, Sum.elim_inr, un2_mk, un3_mk, un4_mk, un5_mk, un6_mk, un7_mk, un8_mk, un9_mk, un10_mk, un11_mk, un12_mk, if_neg (show ¬ (1 : Int32) = 0 by decide), ck_t (ix_nI t1 (show 1200 < 2 ^ 31 by decide)), agk, if_neg z, ck_t ics, agf, nI_shl1 (show n < 31 by omega), nI_or, auf, nI_1]
          · show upd f s _ j = _
            rw [upd_at, if_neg hj]; exact q1 j hj
          · exact Nat.or_lt_two_pow (by omega) (by omega)
          · show upd f s _ s = _
            rw [upd_at, if_pos rfl]
          · rw [Nat.testBit_or, Nat.testBit_two_pow]
            by_cases c : k = n
            · subst c
              simp only [decide_true, Bool.or_true]
              exact ⟨fun _ => ⟨t, t2, z⟩, fun _ => trivial⟩
            · have : decide (n = k) = false := decide_eq_false (Ne.symm c)
              rw [this, Bool.or_false]
              exact q4 k (by omega)
      · refine keep (fun ⟨t', u1, u2⟩ => by rw [t2] at u1; exact (nomatch u1)) ?_
        unfold X0_markNears_L18 X0_markNears_b18_66
        simp only [if_neg c8, ck_t ic, ags, t4, bnd_some, bnd_none, rmap_some, nm_eq, Sum.elim_inl, Sum.elim_inr, un2_mk, un3_mk, un4_mk, un5_mk, un6_mk, un7_mk, un8_mk, un9_mk, un10_mk, un11_mk, un12_mk, if_true, nI_1])
    (fun st hs2 => by
      obtain ⟨f, i⟩ := st
      obtain ⟨rfl, q1, b, q2, q3, q4⟩ := hs2
      refine ⟨f, ?_, q1, b, q2, q3, q4⟩
      show X0_markNears_L18 kd (nI s) f (nI 8) = _
      unfold X0_markNears_L18
      rw [if_pos (show (8 : Int32) ≤ nI 8 from nI_le (a := 8) (Nat.le_refl _) (by decide))]) 0 (nr, 0) (by omega) ⟨rfl, fun j _ => rfl, 0, by omega, h0, fun k hk => by omega⟩
  exact ⟨r, h1, h2⟩
theorem nears_ok (kd nr : Ar) : ∃ nr', X0_markNears kd nr = some nr' ∧ NearOK kd nr' := by
  obtain ⟨r, h1, h2⟩ := whileV_up (body := fun st => X0_markNears_L2 kd st.1 st.2) 1200
    (fun n st => st.2 = nI n ∧ ∀ s, s < n → ∃ b : Nat, b < 256 ∧ st.1 s = nI b ∧ ∀ k, k < 8 → (b.testBit k = true ↔ ∃ t, stp s k = some t ∧ ¬ kd t = 0))
    (fun nr' => NearOK kd nr')
    (fun n st hn hs => by
      obtain ⟨f, i⟩ := st
      obtain ⟨rfl, q1⟩ := hs
      dsimp only at q1
      left
      obtain ⟨f', w1, w2, w3⟩ := nears_in (kd := kd) hn (upd f n 0) (by rw [upd_at, if_pos rfl])
      refine ⟨(f', nI (n + 1)), ?_, rfl, fun s hs => ?_⟩
      · show X0_markNears_L2 kd f (nI n) = _
        unfold X0_markNears_L2
        have auf : au f (nI n) 0 = upd f n 0 := au_nI (by omega)
        simp only [if_neg (show ¬ (1200 : Int32) ≤ nI n from nI_ge hn (by decide)), ck_t (ix_nI hn (show 1200 < 2 ^ 31 by decide)), auf, bnd_some, bnd_none, rmap_some, nm_eq, Sum.elim_inl, Sum.elim_inr, un2_mk, un3_mk, un4_mk, un5_mk, un6_mk, un7_mk, un8_mk, un9_mk, un10_mk, un11_mk, un12_mk, w1, nI_1]
      · by_cases c : s = n
        · rw [c]; exact w3
        · obtain ⟨b, b1, b2, b3⟩ := q1 s (by omega)
          refine ⟨b, b1, ?_, b3⟩
          show f' s = nI b
          rw [w2 s c, upd_at, if_neg c, b2])
    (fun st hs => by
      obtain ⟨f, i⟩ := st
      obtain ⟨rfl, q1⟩ := hs
      refine ⟨f, ?_, q1⟩
      show X0_markNears_L2 kd f (nI 1200) = _
      unfold X0_markNears_L2
      rw [if_pos (show (1200 : Int32) ≤ nI 1200 from nI_le (a := 1200) (Nat.le_refl _) (by decide))]) 0 (nr, 0) (by omega) ⟨rfl, fun s hs => by omega⟩
  refine ⟨r, ?_, h2⟩
  unfold X0_markNears
  rw [h1]
  rfl
