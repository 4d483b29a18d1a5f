/-! whole numbers, also those below nought -/
def iI (z : Int) : Int32 := Int32.ofInt z
theorem iI_nat (n : Nat) : iI (n : Int) = nI n := rfl
theorem iI_add (a b : Int) : iI a + iI b = iI (a + b) := (Int32.ofInt_add a b).symm
theorem iI_mul (a b : Int) : iI a * iI b = iI (a * b) := (Int32.ofInt_mul a b).symm
theorem iI_toInt {z : Int} (h1 : -2147483648 ≤ z) (h2 : z < 2147483648) : (iI z).toInt = z := by
  unfold iI
  rw [Int32.toInt_ofInt]
  exact bm32 h1 h2
theorem iI_sub (a b : Int) : iI a - iI b = iI (a - b) := (Int32.ofInt_sub a b).symm
theorem iI_of (x : Int32) : x = iI x.toInt := by
  unfold iI; rw [Int32.ofInt_toInt]
theorem iI_nn {z : Int} (h : 0 ≤ z) : iI z = nI z.toNat := by
  rw [← iI_nat, Int.toNat_of_nonneg h]
theorem iI_lt {a b : Int} (h1 : -2147483648 ≤ a) (h2 : a < 2147483648) (h3 : -2147483648 ≤ b) (h4 : b < 2147483648) : iI a < iI b ↔ a < b := by
  rw [Int32.lt_iff_toInt_lt, iI_toInt h1 h2, iI_toInt h3 h4]
theorem iI_le {a b : Int} (h1 : -2147483648 ≤ a) (h2 : a < 2147483648) (h3 : -2147483648 ≤ b) (h4 : b < 2147483648) : iI a ≤ iI b ↔ a ≤ b := by
  rw [Int32.le_iff_toInt_le, iI_toInt h1 h2, iI_toInt h3 h4]
theorem iI_eq {a b : Int} (h1 : -2147483648 ≤ a) (h2 : a < 2147483648) (h3 : -2147483648 ≤ b) (h4 : b < 2147483648) : iI a = iI b ↔ a = b := by
  rw [← Int32.toInt_inj, iI_toInt h1 h2, iI_toInt h3 h4]
theorem mn_nI {a b : Nat} (ha : a < 2 ^ 31) (hb : b < 2 ^ 31) : mn (nI a) (nI b) = nI (min a b) := by
  unfold mn
  by_cases h : b < a
  · rw [if_pos (nI_lt h ha), Nat.min_eq_right (by omega)]
  · rw [if_neg (nI_nlt (by omega) hb), Nat.min_eq_left (by omega)]
theorem mx_nI {a b : Nat} (ha : a < 2 ^ 31) (hb : b < 2 ^ 31) : mx (nI a) (nI b) = nI (max a b) := by
  unfold mx
  by_cases h : a < b
  · rw [if_pos (nI_lt h hb), Nat.max_eq_right (by omega)]
  · rw [if_neg (nI_nlt (by omega) ha), Nat.max_eq_left (by omega)]
theorem ix_iI {z : Int} {n : Nat} (h0 : 0 ≤ z) (h : z < n) (hn : n < 2 ^ 31) : ix (iI z) n = true := by
  rw [iI_nn h0]; exact ix_nI (by omega) hn
theorem ag_iI {f : Ar} {z : Int} (h0 : 0 ≤ z) (h : z < 2147483648) : ag f (iI z) = f z.toNat := by
  rw [iI_nn h0, ag_nI (by omega)]
theorem div40 {s : Nat} (h : s < 2 ^ 31) : nI s / 40 = nI (s / 40) := pk_div (d := 40) h (by decide) (by decide)
theorem rem40 {s : Nat} (h : s < 2 ^ 31) : nI s - nI s / 40 * 40 = nI (s % 40) := pk_rem (d := 40) h (by decide) (by decide)
theorem rem40' {s : Nat} (h : s < 2 ^ 31) : nI s - nI (s / 40) * 40 = nI (s % 40) := by rw [← rem40 h, div40 h]
theorem mul40 (a : Nat) : (40 : Int32) * nI a = nI (40 * a) := pk_mul 40 a
/-- inside the land -/
abbrev inL (x y : Int) : Prop := 0 ≤ x ∧ x < 40 ∧ 0 ≤ y ∧ y < 30
theorem isSq_iI {x y : Int} (h1 : -1000 ≤ x) (h2 : x ≤ 1000) (h3 : -1000 ≤ y) (h4 : y ≤ 1000) : X9_isSquare (iI x) (iI y) = some (if inL x y then 1 else 0) ∧ X10_noSquare (iI x) (iI y) = some (if inL x y then 0 else 1) := by
  unfold X9_isSquare X10_noSquare X10_noSquare_b20 inL
  have l0 : (0 : Int32) = iI 0 := rfl
  have l1 : (40 : Int32) = iI 40 := rfl
  have l2 : (30 : Int32) = iI 30 := rfl
  rw [l1, l2]
  by_cases a : x < 0
  · rw [if_pos (show iI x < 0 from (iI_lt (by omega) (by omega) (by omega) (by omega)).mpr a)]
    rw [if_pos (show iI x < 0 from (iI_lt (by omega) (by omega) (by omega) (by omega)).mpr a), if_neg (by omega), if_neg (by omega)]
    exact ⟨rfl, rfl⟩
  rw [if_neg (show ¬ iI x < 0 from fun q => a ((iI_lt (b := 0) (by omega) (by omega) (by omega) (by omega)).mp q))]
  rw [if_neg (show ¬ iI x < 0 from fun q => a ((iI_lt (b := 0) (by omega) (by omega) (by omega) (by omega)).mp q))]
  by_cases b : 40 ≤ x
  · rw [if_pos (show iI 40 ≤ iI x from (iI_le (by omega) (by omega) (by omega) (by omega)).mpr b)]
    rw [if_pos (show iI 40 ≤ iI x from (iI_le (by omega) (by omega) (by omega) (by omega)).mpr b)]
    have nn : ¬ (0 ≤ x ∧ x < 40 ∧ 0 ≤ y ∧ y < 30) := by omega
    rw [if_neg nn, if_neg nn]
    refine ⟨rfl, ?_⟩
    by_cases q : iI y < 0
    · rw [if_pos q]
    · rw [if_neg q]
  rw [if_neg (show ¬ iI 40 ≤ iI x from fun q => b ((iI_le (by omega) (by omega) (by omega) (by omega)).mp q))]
  rw [if_neg (show ¬ iI 40 ≤ iI x from fun q => b ((iI_le (by omega) (by omega) (by omega) (by omega)).mp q))]
  by_cases c : y < 0
  · rw [if_pos (show iI y < 0 from (iI_lt (by omega) (by omega) (by omega) (by omega)).mpr c)]
    rw [if_pos (show iI y < 0 from (iI_lt (by omega) (by omega) (by omega) (by omega)).mpr c), if_neg (by omega), if_neg (by omega)]
    exact ⟨rfl, rfl⟩
  rw [if_neg (show ¬ iI y < 0 from fun q => c ((iI_lt (b := 0) (by omega) (by omega) (by omega) (by omega)).mp q))]
  rw [if_neg (show ¬ iI y < 0 from fun q => c ((iI_lt (b := 0) (by omega) (by omega) (by omega) (by omega)).mp q))]
  by_cases d : 30 ≤ y
  · rw [if_pos (show iI 30 ≤ iI y from (iI_le (by omega) (by omega) (by omega) (by omega)).mpr d)]
    rw [if_neg (show ¬ iI y < iI 30 from fun q => absurd ((iI_lt (by omega) (by omega) (by omega) (by omega)).mp q) (by omega)), if_neg (by omega), if_neg (by omega)]
    exact ⟨rfl, rfl⟩
  rw [if_neg (show ¬ iI 30 ≤ iI y from fun q => d ((iI_le (by omega) (by omega) (by omega) (by omega)).mp q))]
  rw [if_pos (show iI y < iI 30 from (iI_lt (by omega) (by omega) (by omega) (by omega)).mpr (by omega)), if_pos (by omega), if_pos (by omega)]
  exact ⟨rfl, rfl⟩
theorem sq_iI {x y : Int} (h : inL x y) : 40 * iI y + iI x = nI (40 * y + x).toNat ∧ (40 * y + x).toNat < 1200 := by
  unfold inL at h
  refine ⟨?_, by omega⟩
  rw [show (40 : Int32) = iI 40 from rfl, iI_mul, iI_add, iI_nn (by omega)]
theorem iI_m1 : (-1 : Int32) = iI (-1) := by
  rw [← Int32.toInt_inj, iI_toInt (by omega) (by omega)]
  decide
theorem iI_1 : (1 : Int32) = iI 1 := rfl
theorem whileV_to {σ ρ : Type} {body : σ → Option (σ ⊕ ρ)} {s s' : σ} {r : Option ρ} (h : body s = some (.inl s')) (h2 : whileV body s' = r) : whileV body s = r := by
  rw [whileV_eq, h]; exact h2
theorem whileV_end {σ ρ : Type} {body : σ → Option (σ ⊕ ρ)} {s : σ} {r : ρ} (h : body s = some (.inr r)) : whileV body s = some r := by
  rw [whileV_eq, h]
