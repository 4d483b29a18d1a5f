/-! how deep a square lies -/
/-- a number for each square, nought beyond the land -/
def ev (g : Nat → Nat) (x y : Int) : Nat := if inL x y then g (40 * y + x).toNat else 0
/-- out, or beyond the land -/
def oAt (O : Nat → Prop) (x y : Int) : Prop := inL x y → O (40 * y + x).toNat
/-- within h king's steps of what is out -/
def nearO (O : Nat → Prop) (h : Nat) (x y : Int) : Prop := ∃ i j : Int, x - h ≤ i ∧ i ≤ x + h ∧ y - h ≤ j ∧ j ≤ y + h ∧ oAt O i j
theorem near_fwd {O : Nat → Prop} {F : Int → Int → Nat} (h0 : ∀ x y, oAt O x y → F x y = 0)
    (h1 : ∀ x y, F x y ≤ 1 + F (x - 1) y) (h2 : ∀ x y, F x y ≤ 1 + F (x - 1) (y - 1)) (h3 : ∀ x y, F x y ≤ 1 + F x (y - 1)) (h4 : ∀ x y, F x y ≤ 1 + F (x + 1) (y - 1)) :
    ∀ (n : Nat) (x y i j : Int), oAt O i j → j ≤ y → y - j ≤ n → x - i ≤ n → i - x ≤ y - j → F x y ≤ n := by
  intro n
  induction n with
  | zero =>
    intro x y i j ho a b c d
    have e1 : i = x := by omega
    have e2 : j = y := by omega
    subst e1 e2
    rw [h0 i j ho]
    exact Nat.zero_le _
  | succ n ih =>
    intro x y i j ho a b c d
    by_cases e : j = y
    · by_cases e2 : i = x
      · subst e e2
        rw [h0 i j ho]
        exact Nat.zero_le _
      · have := ih (x - 1) y i j ho (by omega) (by omega) (by omega) (by omega)
        have := h1 x y
        omega
    · by_cases e2 : i < x
      · have := ih (x - 1) (y - 1) i j ho (by omega) (by omega) (by omega) (by omega)
        have := h2 x y
        omega
      · by_cases e3 : i = x
        · have := ih x (y - 1) i j ho (by omega) (by omega) (by omega) (by omega)
          have := h3 x y
          omega
        · have := ih (x + 1) (y - 1) i j ho (by omega) (by omega) (by omega) (by omega)
          have := h4 x y
          omega
theorem near_bwd {O : Nat → Prop} {F E : Int → Int → Nat} (h0 : ∀ x y, oAt O x y → F x y = 0)
    (h1 : ∀ x y, F x y ≤ 1 + F (x - 1) y) (h2 : ∀ x y, F x y ≤ 1 + F (x - 1) (y - 1)) (h3 : ∀ x y, F x y ≤ 1 + F x (y - 1)) (h4 : ∀ x y, F x y ≤ 1 + F (x + 1) (y - 1))
    (g0 : ∀ x y, E x y ≤ F x y) (g1 : ∀ x y, E x y ≤ 1 + E (x + 1) y) (g2 : ∀ x y, E x y ≤ 1 + E (x - 1) (y + 1)) (g3 : ∀ x y, E x y ≤ 1 + E x (y + 1)) (g4 : ∀ x y, E x y ≤ 1 + E (x + 1) (y + 1)) :
    ∀ (n : Nat) (x y i j : Int), oAt O i j → x - n ≤ i → i ≤ x + n → y - n ≤ j → j ≤ y + n → E x y ≤ n := by
  intro n
  induction n with
  | zero =>
    intro x y i j ho a b c d
    have e1 : i = x := by omega
    have e2 : j = y := by omega
    subst e1 e2
    have := g0 i j
    have := h0 i j ho
    omega
  | succ n ih =>
    intro x y i j ho a b c d
    by_cases e : j ≤ y
    · by_cases e2 : i - x ≤ y - j
      · have := near_fwd h0 h1 h2 h3 h4 (n + 1) x y i j ho e (by omega) (by omega) e2
        have := g0 x y
        omega
      · have := ih (x + 1) y i j ho (by omega) (by omega) (by omega) (by omega)
        have := g1 x y
        omega
    · by_cases e2 : i < x
      · have := ih (x - 1) (y + 1) i j ho (by omega) (by omega) (by omega) (by omega)
        have := g2 x y
        omega
      · by_cases e3 : i = x
        · have := ih x (y + 1) i j ho (by omega) (by omega) (by omega) (by omega)
          have := g3 x y
          omega
        · have := ih (x + 1) (y + 1) i j ho (by omega) (by omega) (by omega) (by omega)
          have := g4 x y
          omega
theorem depthAt_ok {dep : Ar} {g : Nat → Nat} {x y : Int} (h1 : -1000 ≤ x) (h2 : x ≤ 1000) (h3 : -1000 ≤ y) (h4 : y ≤ 1000) (h : inL x y → dep (40 * y + x).toNat = nI (g (40 * y + x).toNat)) :
    X0_depthAt dep (iI x) (iI y) = some (nI (ev g x y)) := by
  unfold X0_depthAt ev X9_squareAt
  rw [(isSq_iI h1 h2 h3 h4).1]
  by_cases c : inL x y
  · obtain ⟨e1, e2⟩ := sq_iI c
    have e3 : ag dep (nI (40 * y + x).toNat) = nI (g (40 * y + x).toNat) := by rw [ag_nI (by omega), h c]
    simp only [bnd_some, bnd_none, rmap_some, nm_eq, Sum.elim_inl, Sum.elim_inr, un2_mk, un3_mk, un4_mk, un5_mk, un6_mk, un7_mk, un8_mk, un9_mk, un10_mk, un11_mk, un12_mk, if_pos c, e1, ck_t (ix_nI e2 (by decide)), e3]
    rw [if_neg (by decide)]
  · simp only [bnd_some, bnd_none, rmap_some, nm_eq, Sum.elim_inl, Sum.elim_inr, un2_mk, un3_mk, un4_mk, un5_mk, un6_mk, un7_mk, un8_mk, un9_mk, un10_mk, un11_mk, un12_mk, if_neg c]
    rw [if_pos trivial]
    rfl
theorem ld_end {dep : Ar} {x y z v : Int32} : X0_leastDepth_L13 dep x y z v (iI 2) = some (.inr v) := by
  unfold X0_leastDepth_L13
  rw [iI_1, if_pos ((iI_lt (by omega) (by omega) (by omega) (by omega)).mpr (by omega))]
theorem ld_step {dep : Ar} {g : Nat → Nat} {x y sd d : Int} {v : Nat} (hx : 0 ≤ x) (hx2 : x < 40) (hy : 0 ≤ y) (hy2 : y < 30) (hs : sd = 1 ∨ sd = -1) (h1 : -1 ≤ d) (h2 : d ≤ 1) (h3 : v ≤ 1300) (eb : ev g (x + d) (y + sd) ≤ 1300)
    (k2 : inL (x + d) (y + sd) → dep (40 * (y + sd) + (x + d)).toNat = nI (g (40 * (y + sd) + (x + d)).toNat)) :
    X0_leastDepth_L13 dep (iI x) (iI y) (iI sd) (nI v) (iI d) = some (.inl (nI (min v (ev g (x + d) (y + sd))), iI (d + 1))) := by
  unfold X0_leastDepth_L13
  rw [iI_1, if_neg (fun q => absurd ((iI_lt (by omega) (by omega) (by omega) (by omega)).mp q) (by omega)), iI_add, iI_add, depthAt_ok (by omega) (by omega) (by omega) (by omega) k2]
  simp only [bnd_some, bnd_none, rmap_some, nm_eq, Sum.elim_inl, Sum.elim_inr, un2_mk, un3_mk, un4_mk, un5_mk, un6_mk, un7_mk, un8_mk, un9_mk, un10_mk, un11_mk, un12_mk, mn_nI (show v < 2 ^ 31 by omega) (show ev g (x + d) (y + sd) < 2 ^ 31 by omega), iI_add]
theorem leastDepth_ok {dep : Ar} {g : Nat → Nat} {x y sd : Int} (hx : 0 ≤ x) (hx2 : x < 40) (hy : 0 ≤ y) (hy2 : y < 30) (hs : sd = 1 ∨ sd = -1)
    (hb : ∀ i j, inL i j → g (40 * j + i).toNat ≤ 1300)
    (k1 : inL (x + sd) y → dep (40 * y + (x + sd)).toNat = nI (g (40 * y + (x + sd)).toNat)) (k2 : ∀ d : Int, -1 ≤ d → d ≤ 1 → inL (x + d) (y + sd) → dep (40 * (y + sd) + (x + d)).toNat = nI (g (40 * (y + sd) + (x + d)).toNat)) :
    X0_leastDepth dep (iI x) (iI y) (iI sd) = some (nI (min (min (min (ev g (x + sd) y) (ev g (x + -1) (y + sd))) (ev g (x + 0) (y + sd))) (ev g (x + 1) (y + sd)))) := by
  unfold X0_leastDepth
  have eb : ∀ i j, ev g i j ≤ 1300 := by
    intro i j
    unfold ev
    split
    · exact hb _ _ (by assumption)
    · omega
  rw [iI_add, depthAt_ok (by omega) (by omega) (by omega) (by omega) k1, iI_m1]
  simp only [bnd_some, bnd_none, rmap_some, nm_eq, Sum.elim_inl, Sum.elim_inr, un2_mk, un3_mk, un4_mk, un5_mk, un6_mk, un7_mk, un8_mk, un9_mk, un10_mk, un11_mk, un12_mk]
  have s1 := ld_step (v := ev g (x + sd) y) hx hx2 hy hy2 hs (show -1 ≤ (-1 : Int) by omega) (by omega) (eb _ _) (eb _ _) (k2 (-1) (by omega) (by omega))
  have s2 := ld_step (v := min (ev g (x + sd) y) (ev g (x + -1) (y + sd))) hx hx2 hy hy2 hs (show -1 ≤ (0 : Int) by omega) (by omega) (Nat.le_trans (Nat.min_le_left _ _) (eb _ _)) (eb _ _) (k2 0 (by omega) (by omega))
  have s3 := ld_step (v := min (min (ev g (x + sd) y) (ev g (x + -1) (y + sd))) (ev g (x + 0) (y + sd))) hx hx2 hy hy2 hs (show -1 ≤ (1 : Int) by omega) (by omega) (Nat.le_trans (Nat.min_le_right _ _) (eb _ _)) (eb _ _) (k2 1 (by omega) (by omega))
  rw [Int.add_comm (-1) 1, show (1 : Int) + -1 = 0 by omega] at s1
  rw [show (0 : Int) + 1 = 1 by omega] at s2
  rw [show (1 : Int) + 1 = 2 by omega] at s3
  have w : whileV (fun st => X0_leastDepth_L13 dep (iI x) (iI y) (iI sd) st.1 st.2) (nI (ev g (x + sd) y), iI (-1)) = some (nI (min (min (min (ev g (x + sd) y) (ev g (x + -1) (y + sd))) (ev g (x + 0) (y + sd))) (ev g (x + 1) (y + sd)))) :=
    whileV_to s1 (whileV_to s2 (whileV_to s3 (whileV_end ld_end)))
  rw [w]
  rfl
