/-! The mathematics: what class and reference have in common -/
theorem bnd_some {α β : Type} (a : α) (k : α → Option β) : bnd (some a) k = k a := rfl
theorem bnd_none {α β : Type} (k : α → Option β) : bnd none k = none := rfl
theorem ck_t {α : Type} {b : Bool} {k : Option α} (h : b = true) : ck b k = k := by unfold ck; rw [if_pos h]
theorem nm_eq {α β : Type} (e : α) (k : α → Option β) : nm e k = k e := rfl
theorem rmap_some {α : Type} (a : α) : rmap (some a) = some (.inr a) := rfl
theorem un2_mk {α β δ : Type} (k : α → β → δ) (x0 : α) (x1 : β) : un2 k (x0, x1) = k x0 x1 := rfl
theorem un3_mk {α β γ δ : Type} (k : α → β → γ → δ) (x0 : α) (x1 : β) (x2 : γ) : un3 k (x0, x1, x2) = k x0 x1 x2 := rfl
theorem un4_mk {α β γ ε δ : Type} (k : α → β → γ → ε → δ) (x0 : α) (x1 : β) (x2 : γ) (x3 : ε) : un4 k (x0, x1, x2, x3) = k x0 x1 x2 x3 := rfl
theorem un5_mk {α β γ ε ζ δ : Type} (k : α → β → γ → ε → ζ → δ) (x0 : α) (x1 : β) (x2 : γ) (x3 : ε) (x4 : ζ) : un5 k (x0, x1, x2, x3, x4) = k x0 x1 x2 x3 x4 := rfl
theorem un6_mk {α β γ ε ζ η δ : Type} (k : α → β → γ → ε → ζ → η → δ) (x0 : α) (x1 : β) (x2 : γ) (x3 : ε) (x4 : ζ) (x5 : η) : un6 k (x0, x1, x2, x3, x4, x5) = k x0 x1 x2 x3 x4 x5 := rfl
theorem un7_mk {α β γ ε ζ η θ δ : Type} (k : α → β → γ → ε → ζ → η → θ → δ) (x0 : α) (x1 : β) (x2 : γ) (x3 : ε) (x4 : ζ) (x5 : η) (x6 : θ) : un7 k (x0, x1, x2, x3, x4, x5, x6) = k x0 x1 x2 x3 x4 x5 x6 := rfl
theorem un8_mk {α β γ ε ζ η θ ι δ : Type} (k : α → β → γ → ε → ζ → η → θ → ι → δ) (x0 : α) (x1 : β) (x2 : γ) (x3 : ε) (x4 : ζ) (x5 : η) (x6 : θ) (x7 : ι) : un8 k (x0, x1, x2, x3, x4, x5, x6, x7) = k x0 x1 x2 x3 x4 x5 x6 x7 := rfl
theorem un9_mk {α β γ ε ζ η θ ι κ δ : Type} (k : α → β → γ → ε → ζ → η → θ → ι → κ → δ) (x0 : α) (x1 : β) (x2 : γ) (x3 : ε) (x4 : ζ) (x5 : η) (x6 : θ) (x7 : ι) (x8 : κ) : un9 k (x0, x1, x2, x3, x4, x5, x6, x7, x8) = k x0 x1 x2 x3 x4 x5 x6 x7 x8 := rfl
theorem un10_mk {α β γ ε ζ η θ ι κ μ δ : Type} (k : α → β → γ → ε → ζ → η → θ → ι → κ → μ → δ) (x0 : α) (x1 : β) (x2 : γ) (x3 : ε) (x4 : ζ) (x5 : η) (x6 : θ) (x7 : ι) (x8 : κ) (x9 : μ) : un10 k (x0, x1, x2, x3, x4, x5, x6, x7, x8, x9) = k x0 x1 x2 x3 x4 x5 x6 x7 x8 x9 := rfl
theorem un11_mk {α β γ ε ζ η θ ι κ μ ν δ : Type} (k : α → β → γ → ε → ζ → η → θ → ι → κ → μ → ν → δ) (x0 : α) (x1 : β) (x2 : γ) (x3 : ε) (x4 : ζ) (x5 : η) (x6 : θ) (x7 : ι) (x8 : κ) (x9 : μ) (x10 : ν) : un11 k (x0, x1, x2, x3, x4, x5, x6, x7, x8, x9, x10) = k x0 x1 x2 x3 x4 x5 x6 x7 x8 x9 x10 := rfl
theorem un12_mk {α β γ ε ζ η θ ι κ μ ν ξ δ : Type} (k : α → β → γ → ε → ζ → η → θ → ι → κ → μ → ν → ξ → δ) (x0 : α) (x1 : β) (x2 : γ) (x3 : ε) (x4 : ζ) (x5 : η) (x6 : θ) (x7 : ι) (x8 : κ) (x9 : μ) (x10 : ν) (x11 : ξ) : un12 k (x0, x1, x2, x3, x4, x5, x6, x7, x8, x9, x10, x11) = k x0 x1 x2 x3 x4 x5 x6 x7 x8 x9 x10 x11 := rfl
theorem ix_nI {k n : Nat} (h : k < n) (hn : n < 2 ^ 31) : ix (nI k) n = true := by
  unfold ix
  exact decide_eq_true (nI_in h hn)
theorem ag_nI {f : Ar} {k : Nat} (h : k < 2 ^ 31) : ag f (nI k) = f k := by show f (nI k).toNatClampNeg = f k; rw [nI_clamp h]
theorem au_nI {f : Ar} {k : Nat} {x : Int32} (h : k < 2 ^ 31) : au f (nI k) x = upd f k x := by show upd f (nI k).toNatClampNeg x = upd f k x; rw [nI_clamp h]
theorem upd_at (f : Ar) (k : Nat) (x : Int32) (j : Nat) : upd f k x j = if j = k then x else f j := by
  by_cases h : j = k
  · subst h; rw [if_pos rfl]; exact pk_us
  · rw [if_neg h]; exact pk_un h
/-- an Int32 between two small bounds is a small number -/
theorem nat_of {x : Int32} {m : Int32} {n : Nat} (hm : m = nI n) (hn : n < 2 ^ 31) (h0 : ¬ x < 0) (h1 : x < m) : ∃ k : Nat, k < n ∧ x = nI k := by
  obtain ⟨j, hj, rfl⟩ := nI_of h0
  subst hm
  exact ⟨j, (nI_ltI hj hn).mp h1, rfl⟩
theorem nat_ofle {x : Int32} {m : Int32} {n : Nat} (hm : m = nI n) (hn : n < 2 ^ 31) (h0 : ¬ x < 0) (h1 : x ≤ m) : ∃ k : Nat, k ≤ n ∧ x = nI k := by
  obtain ⟨j, hj, rfl⟩ := nI_of h0
  subst hm
  exact ⟨j, (nI_leI hj hn).mp h1, rfl⟩
theorem lt_or_le32 (a b : Int32) : a < b ↔ ¬ b ≤ a := by
  rw [Int32.lt_iff_toInt_lt, Int32.le_iff_toInt_le]; omega
theorem not_lt32 (a b : Int32) : ¬ a < b ↔ b ≤ a := by
  rw [Int32.lt_iff_toInt_lt, Int32.le_iff_toInt_le]; omega
theorem le32 (a b : Int32) : a ≤ b ↔ ¬ b < a := by
  rw [Int32.lt_iff_toInt_lt, Int32.le_iff_toInt_le]; omega
def slOK (a b : Int32) : Prop := ¬ a < -9 ∧ ¬ 9 < a ∧ ¬ b < -9 ∧ ¬ 9 < b ∧ (¬ a = 0 ∨ ¬ b = 0)
/-- the told slants -/
def ISlant (n : Int32) (A B : Ar) (n' : Int32) (A' B' : Ar) : Prop := n = n' ∧ ∃ k : Nat, k ≤ 5 ∧ n = nI k ∧ ∀ j, j < k → A j = A' j ∧ B j = B' j ∧ slOK (A j) (B j)
/-- one ring -/
def IRing (n : Int32) (fx fy : Ar) (r : Nat) (cx cy cn : Ar) : Prop := ∃ k : Nat, k ≤ 12 ∧ n = nI k ∧ cn r = nI k ∧ ∀ j, j < k → fx j = cx (12 * r + j) ∧ fy j = cy (12 * r + j) ∧ (∃ x : Nat, x ≤ 40 ∧ fx j = nI x) ∧ ∃ y : Nat, y ≤ 30 ∧ fy j = nI y
/-- crop, ground, reaper and the latest run -/
def IReap (crop bear find plc : Ar) (cap wt un : Int32) (Y B S Wg : Ar) (cap' wt' un' : Int32) : Prop :=
  (∀ k, k < 1200 → crop k = Y k ∧ ∃ v : Nat, v ≤ 1000 ∧ crop k = nI v) ∧ (∀ k, k < 1200 → bear k = B k ∧ ∃ v : Nat, v ≤ 1000000 ∧ bear k = nI v) ∧
  (cap = cap' ∧ ∃ v : Nat, v ≤ 100000 ∧ cap = nI v) ∧ (wt = wt' ∧ ∃ v : Nat, v ≤ 1000000 ∧ wt = nI v) ∧ (un = un' ∧ ∃ v : Nat, v ≤ 1000 ∧ un = nI v) ∧
  (∀ j, j < 8 → find j = S j) ∧ ∃ w : Nat, w ≤ 1200 ∧ find 4 = nI w ∧ ∀ k, k < w → plc k = Wg k
