theorem bm32 {x : Int} (h1 : -2147483648 ≤ x) (h2 : x < 2147483648) : x.bmod (2 ^ 32) = x := by
  rw [Int.bmod_def]
  have : ((2 ^ 32 : Nat) : Int) = 4294967296 := rfl
  rw [this]
  split <;> omega
theorem ti_add {a b : Int32} {x y : Int} (ha : a.toInt = x) (hb : b.toInt = y) (h1 : -2147483648 ≤ x + y) (h2 : x + y < 2147483648) : (a + b).toInt = x + y := by
  rw [Int32.toInt_add, ha, hb]; exact bm32 h1 h2
theorem ti_sub {a b : Int32} {x y : Int} (ha : a.toInt = x) (hb : b.toInt = y) (h1 : -2147483648 ≤ x - y) (h2 : x - y < 2147483648) : (a - b).toInt = x - y := by
  rw [Int32.toInt_sub, ha, hb]; exact bm32 h1 h2
theorem ti_mul {a b : Int32} {x y : Int} (ha : a.toInt = x) (hb : b.toInt = y) (h1 : -2147483648 ≤ x * y) (h2 : x * y < 2147483648) : (a * b).toInt = x * y := by
  rw [Int32.toInt_mul, ha, hb]; exact bm32 h1 h2
theorem mul_bd {a b A B : Int} (h1 : -A ≤ a) (h2 : a ≤ A) (h3 : -B ≤ b) (h4 : b ≤ B) : -(A * B) ≤ a * b ∧ a * b ≤ A * B := by
  have hA : 0 ≤ A := by omega
  have hB : 0 ≤ B := by omega
  have p1 : 0 ≤ (A - a) * (B + b) := Int.mul_nonneg (by omega) (by omega)
  have p2 : 0 ≤ (A + a) * (B - b) := Int.mul_nonneg (by omega) (by omega)
  have p3 : 0 ≤ (A - a) * (B - b) := Int.mul_nonneg (by omega) (by omega)
  have p4 : 0 ≤ (A + a) * (B + b) := Int.mul_nonneg (by omega) (by omega)
  rw [Int.sub_mul, Int.mul_add, Int.mul_add] at p1
  rw [Int.add_mul, Int.mul_sub, Int.mul_sub] at p2
  rw [Int.sub_mul, Int.mul_sub, Int.mul_sub] at p3
  rw [Int.add_mul, Int.mul_add, Int.mul_add] at p4
  generalize A * B = z1 at *
  generalize a * b = z2 at *
  generalize A * b = z3 at *
  generalize a * B = z4 at *
  omega
theorem ti_nI {n : Nat} (h : n < 2 ^ 31) : (nI n).toInt = (n : Int) := nI_toInt h
/-- does a ray from the middle of (x, y) to the right meet the side from p to q -/
def cross (px py qx qy x y : Int) : Prop := ¬ (y < py ↔ y < qy) ∧ (if py < qy then (2 * x + 1 - 2 * px) * (qy - py) < (2 * y + 1 - 2 * py) * (qx - px) else (2 * y + 1 - 2 * py) * (qx - px) < (2 * x + 1 - 2 * px) * (qy - py))
theorem left_ok {fx fy : Ar} {p q x y px py qx qy : Nat} (hp : p < 12) (hq : q < 12) (hx : x < 40) (hy : y < 30) (e1 : fx p = nI px) (e2 : fy p = nI py) (e3 : fx q = nI qx) (e4 : fy q = nI qy) (b1 : px ≤ 40) (b2 : py ≤ 30) (b3 : qx ≤ 40) (b4 : qy ≤ 30) :
    (X5_isLeftOfSide fx fy (nI x) (nI y) (nI p) (nI q) = some 1 ∧ cross px py qx qy x y) ∨ (X5_isLeftOfSide fx fy (nI x) (nI y) (nI p) (nI q) = some 0 ∧ ¬ cross px py qx qy x y) := by
  unfold X5_isLeftOfSide X5_isLeftOfSide_b34 X5_isLeftOfSide_b45 cross
  have cp : ag fx (nI p) = nI px := by rw [ag_nI (by omega), e1]
  have cq : ag fx (nI q) = nI qx := by rw [ag_nI (by omega), e3]
  have dp : ag fy (nI p) = nI py := by rw [ag_nI (by omega), e2]
  have dq : ag fy (nI q) = nI qy := by rw [ag_nI (by omega), e4]
  simp only [bnd_some, bnd_none, rmap_some, nm_eq, Sum.elim_inl, Sum.elim_inr, un2_mk, un3_mk, un4_mk, un5_mk, un6_mk, un7_mk, un8_mk, un9_mk, un10_mk, un11_mk, un12_mk, ck_t (ix_nI hp (show 12 < 2 ^ 31 by decide)), ck_t (ix_nI hq (show 12 < 2 ^ 31 by decide)), cp, cq, dp, dq]
  have r1 : (nI qy - nI py).toInt = (qy : Int) - py := ti_sub (ti_nI (by omega)) (ti_nI (by omega)) (by omega) (by omega)
  have two : (2 : Int32).toInt = 2 := rfl
  have one : (1 : Int32).toInt = 1 := rfl
  have zer : (0 : Int32).toInt = 0 := rfl
  have a1 : (2 * nI x + 1 - 2 * nI px).toInt = 2 * (x : Int) + 1 - 2 * px := ti_sub (ti_add (ti_mul two (ti_nI (by omega)) (by omega) (by omega)) one (by omega) (by omega)) (ti_mul two (ti_nI (by omega)) (by omega) (by omega)) (by omega) (by omega)
  have a2 : (2 * nI y + 1 - 2 * nI py).toInt = 2 * (y : Int) + 1 - 2 * py := ti_sub (ti_add (ti_mul two (ti_nI (by omega)) (by omega) (by omega)) one (by omega) (by omega)) (ti_mul two (ti_nI (by omega)) (by omega) (by omega)) (by omega) (by omega)
  have a3 : (nI qx - nI px).toInt = (qx : Int) - px := ti_sub (ti_nI (by omega)) (ti_nI (by omega)) (by omega) (by omega)
  have m1 := mul_bd (a := 2 * (x : Int) + 1 - 2 * px) (b := (qy : Int) - py) (A := 100) (B := 100) (by omega) (by omega) (by omega) (by omega)
  have m2 := mul_bd (a := 2 * (y : Int) + 1 - 2 * py) (b := (qx : Int) - px) (A := 100) (B := 100) (by omega) (by omega) (by omega) (by omega)
  have t1 : ((2 * nI x + 1 - 2 * nI px) * (nI qy - nI py)).toInt = (2 * (x : Int) + 1 - 2 * px) * ((qy : Int) - py) := ti_mul a1 r1 (by omega) (by omega)
  have t2 : ((2 * nI y + 1 - 2 * nI py) * (nI qx - nI px)).toInt = (2 * (y : Int) + 1 - 2 * py) * ((qx : Int) - px) := ti_mul a2 a3 (by omega) (by omega)
  simp only [Int32.le_iff_toInt_le, r1, zer, t1, t2, ti_nI (show py < 2 ^ 31 by omega), ti_nI (show qy < 2 ^ 31 by omega), ti_nI (show y < 2 ^ 31 by omega)]
  generalize (2 * (x : Int) + 1 - 2 * px) * ((qy : Int) - py) = z1
  generalize (2 * (y : Int) + 1 - 2 * py) * ((qx : Int) - px) = z2
  have n01 : ¬ (0 : Int32) = 1 := by decide
  have n10 : ¬ (1 : Int32) = 0 := by decide
  by_cases h1 : (py : Int) ≤ y
  · have h1' : ¬ (y : Int) < py := by omega
    by_cases h2 : (qy : Int) ≤ y
    · have h2' : ¬ (y : Int) < qy := by omega
      right; simp [h1, h2, h1', h2']
    · have h2' : (y : Int) < qy := by omega
      have h3 : ¬ (qy : Int) - py ≤ 0 := by omega
      have h4 : (py : Int) < qy := by omega
      by_cases h5 : z2 ≤ z1
      · right; simp only [if_pos h1, if_neg h2, if_neg n01, if_neg h3, if_pos h5, if_pos h4]; refine ⟨trivial, fun q => ?_⟩; omega
      · left; simp only [if_pos h1, if_neg h2, if_neg n01, if_neg h3, if_neg h5, if_pos h4]; refine ⟨trivial, fun q => ?_, ?_⟩ <;> omega
  · have h1' : (y : Int) < py := by omega
    by_cases h2 : (qy : Int) ≤ y
    · have h2' : ¬ (y : Int) < qy := by omega
      have h3 : (qy : Int) - py ≤ 0 := by omega
      have h4 : ¬ (py : Int) < qy := by omega
      by_cases h5 : z1 ≤ z2
      · right; simp only [if_neg h1, if_pos h2, if_neg n10, if_pos h3, if_pos h5, if_neg h4]; refine ⟨trivial, fun q => ?_⟩; omega
      · left; simp only [if_neg h1, if_pos h2, if_neg n10, if_pos h3, if_neg h5, if_neg h4]; refine ⟨trivial, fun q => ?_, ?_⟩ <;> omega
    · have h2' : (y : Int) < qy := by omega
      right; simp [h1, h2, h1', h2']
/-- parity, turned -/
abbrev tog (v : Int32) : Int32 := if v = 0 then 1 else 0
theorem refstep_ok {cx cy cn : Ar} {r n k x y px py qx qy : Nat} {v : Int32} (hr : r < 4) (hn : n ≤ 12) (hc : cn r = nI n) (hk : k < n) (hx : x < 40) (hy : y < 30)
    (e1 : cx (12 * r + k) = nI px) (e2 : cy (12 * r + k) = nI py) (e3 : cx (12 * r + (k + 1) % n) = nI qx) (e4 : cy (12 * r + (k + 1) % n) = nI qy) (b1 : px ≤ 40) (b2 : py ≤ 30) (b3 : qx ≤ 40) (b4 : qy ≤ 30) :
    (X10_isIn_L32 cx cy cn (nI r) (nI (2 * x + 1)) (nI (2 * y + 1)) v (nI k) = some (.inl (tog v, nI (k + 1))) ∧ cross px py qx qy x y) ∨
    (X10_isIn_L32 cx cy cn (nI r) (nI (2 * x + 1)) (nI (2 * y + 1)) v (nI k) = some (.inl (v, nI (k + 1))) ∧ ¬ cross px py qx qy x y) := by
  have hm : (k + 1) % n < n := Nat.mod_lt _ (by omega)
  unfold X10_isIn_L32 X10_isIn_b32_104 X10_isIn_b32_116 X10_isIn_b32_190 X10_isIn_b32_200 X10_isIn_b32_202 cross
  have cc : ag cn (nI r) = nI n := by rw [ag_nI (by omega), hc]
  have ne : nz (nI n) = true := decide_eq_true (nI_ne0 (by omega) (by omega))
  have i8 : (12 : Int32) * nI r + nI k = nI (12 * r + k) := by rw [show (12 : Int32) = nI 12 from rfl, pk_mul, nI_add]
  have i9 : (12 : Int32) * nI r + ((nI k + 1) - (nI k + 1) / nI n * nI n) = nI (12 * r + (k + 1) % n) := by
    rw [nI_1, pk_rem (by omega) (by omega) (by omega), show (12 : Int32) = nI 12 from rfl, pk_mul, nI_add]
  have cp : ag cx (nI (12 * r + k)) = nI px := by rw [ag_nI (by omega), e1]
  have cq : ag cx (nI (12 * r + (k + 1) % n)) = nI qx := by rw [ag_nI (by omega), e3]
  have dp : ag cy (nI (12 * r + k)) = nI py := by rw [ag_nI (by omega), e2]
  have dq : ag cy (nI (12 * r + (k + 1) % n)) = nI qy := by rw [ag_nI (by omega), e4]
  have x8 : ix (nI (12 * r + k)) 48 = true := ix_nI (by omega) (by decide)
  have x9 : ix (nI (12 * r + (k + 1) % n)) 48 = true := ix_nI (by omega) (by decide)
  simp only [bnd_some, bnd_none, rmap_some, nm_eq, Sum.elim_inl, Sum.elim_inr, un2_mk, un3_mk, un4_mk, un5_mk, un6_mk, un7_mk, un8_mk, un9_mk, un10_mk, un11_mk, un12_mk, ck_t (ix_nI hr (show 4 < 2 ^ 31 by decide)), cc, ck_t ne, if_neg (nI_ge hk (by omega)), i8, i9, ck_t x8, ck_t x9, cp, cq, dp, dq]
  have two : (2 : Int32).toInt = 2 := rfl
  have p2 : (2 * nI py).toInt = 2 * (py : Int) := ti_mul two (ti_nI (by omega)) (by omega) (by omega)
  have q2 : (2 * nI qy).toInt = 2 * (qy : Int) := ti_mul two (ti_nI (by omega)) (by omega) (by omega)
  have px2 : (2 * nI px).toInt = 2 * (px : Int) := ti_mul two (ti_nI (by omega)) (by omega) (by omega)
  have qx2 : (2 * nI qx).toInt = 2 * (qx : Int) := ti_mul two (ti_nI (by omega)) (by omega) (by omega)
  have y5 : (nI (2 * y + 1)).toInt = 2 * (y : Int) + 1 := by rw [ti_nI (by omega)]; omega
  have x4 : (nI (2 * x + 1)).toInt = 2 * (x : Int) + 1 := by rw [ti_nI (by omega)]; omega
  have m1 := mul_bd (a := 2 * (x : Int) + 1 - 2 * px) (b := (qy : Int) - py) (A := 100) (B := 100) (by omega) (by omega) (by omega) (by omega)
  have m2 := mul_bd (a := 2 * (y : Int) + 1 - 2 * py) (b := (qx : Int) - px) (A := 100) (B := 100) (by omega) (by omega) (by omega) (by omega)
  have d1 : (2 * (x : Int) + 1 - 2 * px) * (2 * (qy : Int) - 2 * py) = 2 * ((2 * (x : Int) + 1 - 2 * px) * ((qy : Int) - py)) := by rw [show 2 * (qy : Int) - 2 * py = 2 * ((qy : Int) - py) by omega, Int.mul_left_comm]
  have d2 : (2 * (y : Int) + 1 - 2 * py) * (2 * (qx : Int) - 2 * px) = 2 * ((2 * (y : Int) + 1 - 2 * py) * ((qx : Int) - px)) := by rw [show 2 * (qx : Int) - 2 * px = 2 * ((qx : Int) - px) by omega, Int.mul_left_comm]
  have t1 : ((nI (2 * x + 1) - 2 * nI px) * (2 * nI qy - 2 * nI py)).toInt = 2 * ((2 * (x : Int) + 1 - 2 * px) * ((qy : Int) - py)) := by
    rw [← d1]
    exact ti_mul (ti_sub x4 px2 (by omega) (by omega)) (ti_sub q2 p2 (by omega) (by omega)) (by omega) (by omega)
  have t2 : ((nI (2 * y + 1) - 2 * nI py) * (2 * nI qx - 2 * nI px)).toInt = 2 * ((2 * (y : Int) + 1 - 2 * py) * ((qx : Int) - px)) := by
    rw [← d2]
    exact ti_mul (ti_sub y5 p2 (by omega) (by omega)) (ti_sub qx2 px2 (by omega) (by omega)) (by omega) (by omega)
  simp only [Int32.le_iff_toInt_le, p2, q2, y5, t1, t2, nI_1]
  generalize (2 * (x : Int) + 1 - 2 * px) * ((qy : Int) - py) = z1
  generalize (2 * (y : Int) + 1 - 2 * py) * ((qx : Int) - px) = z2
  have n01 : ¬ (0 : Int32) = 1 := by decide
  have n10 : ¬ (1 : Int32) = 0 := by decide
  have tg : ∀ w : Nat, (if v = 0 then (some (.inl (1, nI w)) : Option ((Int32 × Int32) ⊕ Int32)) else some (.inl (0, nI w))) = some (.inl (tog v, nI w)) := by
    intro w
    by_cases h : v = 0
    · simp [h]
    · simp [h]
  by_cases h1 : (py : Int) ≤ y
  · have h1' : ¬ (y : Int) < py := by omega
    have g1 : 2 * (py : Int) ≤ 2 * (y : Int) + 1 := by omega
    by_cases h2 : (qy : Int) ≤ y
    · have g2 : 2 * (qy : Int) ≤ 2 * (y : Int) + 1 := by omega
      right; simp only [if_pos g1, if_pos g2, if_true]; refine ⟨trivial, fun q => ?_⟩; omega
    · have g2 : ¬ 2 * (qy : Int) ≤ 2 * (y : Int) + 1 := by omega
      have h3 : ¬ 2 * (qy : Int) ≤ 2 * py := by omega
      have h4 : (py : Int) < qy := by omega
      by_cases h5 : 2 * z2 ≤ 2 * z1
      · right; simp only [if_pos g1, if_neg g2, if_neg n01, if_neg h3, if_pos h5, if_pos h4]; refine ⟨trivial, fun q => ?_⟩; omega
      · left; simp only [if_pos g1, if_neg g2, if_neg n01, if_neg h3, if_neg h5, if_pos h4, tg]; refine ⟨trivial, fun q => ?_, ?_⟩ <;> omega
  · have h1' : (y : Int) < py := by omega
    have g1 : ¬ 2 * (py : Int) ≤ 2 * (y : Int) + 1 := by omega
    by_cases h2 : (qy : Int) ≤ y
    · have g2 : 2 * (qy : Int) ≤ 2 * (y : Int) + 1 := by omega
      have h3 : 2 * (qy : Int) ≤ 2 * py := by omega
      have h4 : ¬ (py : Int) < qy := by omega
      by_cases h5 : 2 * z1 ≤ 2 * z2
      · right; simp only [if_neg g1, if_pos g2, if_neg n10, if_pos h3, if_pos h5, if_neg h4]; refine ⟨trivial, fun q => ?_⟩; omega
      · left; simp only [if_neg g1, if_pos g2, if_neg n10, if_pos h3, if_neg h5, if_neg h4, tg]; refine ⟨trivial, fun q => ?_, ?_⟩ <;> omega
    · have g2 : ¬ 2 * (qy : Int) ≤ 2 * (y : Int) + 1 := by omega
      right; simp only [if_neg g1, if_neg g2, if_true]; refine ⟨trivial, fun q => ?_⟩; omega
theorem after_ok {n k : Nat} (hk : k < n) (hn : n ≤ 12) : X5_cornerAfter (nI n) (nI k) = some (nI ((k + 1) % n)) := by
  unfold X5_cornerAfter
  rw [nI_1]
  by_cases h : k + 1 = n
  · rw [if_pos (nI_le (by omega) (by omega)), h, Nat.mod_self]; rfl
  · rw [if_neg (nI_ge (by omega) (by omega)), Nat.mod_eq_of_lt (by omega)]
theorem clsstep_ok {fx fy : Ar} {n k x y px py qx qy : Nat} {v : Int32} (hn : n ≤ 12) (hk : k < n) (hx : x < 40) (hy : y < 30)
    (e1 : fx k = nI px) (e2 : fy k = nI py) (e3 : fx ((k + 1) % n) = nI qx) (e4 : fy ((k + 1) % n) = nI qy) (b1 : px ≤ 40) (b2 : py ≤ 30) (b3 : qx ≤ 40) (b4 : qy ≤ 30) :
    (X5_holds_L18 (nI n) fx fy (nI x) (nI y) v (nI k) = some (.inl (tog v, nI (k + 1))) ∧ cross px py qx qy x y) ∨
    (X5_holds_L18 (nI n) fx fy (nI x) (nI y) v (nI k) = some (.inl (v, nI (k + 1))) ∧ ¬ cross px py qx qy x y) := by
  have hm : (k + 1) % n < n := Nat.mod_lt _ (by omega)
  unfold X5_holds_L18 X5_holds_b18_56 X5_holds_b18_57
  rw [after_ok hk hn]
  rcases left_ok (show k < 12 by omega) (show (k + 1) % n < 12 by omega) hx hy e1 e2 e3 e4 b1 b2 b3 b4 with ⟨e, h⟩ | ⟨e, h⟩
  · left
    refine ⟨?_, h⟩
    simp only [bnd_some, bnd_none, rmap_some, nm_eq, Sum.elim_inl, Sum.elim_inr, un2_mk, un3_mk, un4_mk, un5_mk, un6_mk, un7_mk, un8_mk, un9_mk, un10_mk, un11_mk, un12_mk, if_neg (nI_ge hk (show n < 2 ^ 31 by omega)), e, if_neg (show ¬ (1 : Int32) = 0 by decide), nI_1]
    by_cases hv : v = 0
    · simp [hv]
    · simp [hv]
  · right
    refine ⟨?_, h⟩
    simp only [bnd_some, bnd_none, rmap_some, nm_eq, Sum.elim_inl, Sum.elim_inr, un2_mk, un3_mk, un4_mk, un5_mk, un6_mk, un7_mk, un8_mk, un9_mk, un10_mk, un11_mk, un12_mk, if_neg (nI_ge hk (show n < 2 ^ 31 by omega)), e, if_pos, nI_1]
/-- class and reference say the same of a square and a ring -/
theorem ring_ok {n : Int32} {fx fy : Ar} {r : Nat} {cx cy cn : Ar} (h : IRing n fx fy r cx cy cn) (hr : r < 4) {x y : Nat} (hx : x < 40) (hy : y < 30) :
    ∃ b : Int32, (b = 0 ∨ b = 1) ∧ X5_holds n fx fy (nI x) (nI y) = some b ∧ X10_isIn cx cy cn (nI r) (nI x) (nI y) = some b := by
  obtain ⟨m, hm, rfl, hc, hj⟩ := h
  have cc : ag cn (nI r) = nI m := by rw [ag_nI (by omega), hc]
  by_cases h3 : m < 3
  · refine ⟨0, Or.inl rfl, ?_, ?_⟩
    · unfold X5_holds; rw [if_neg (show ¬ (3 : Int32) ≤ nI m from nI_ge h3 (by decide))]
    · unfold X10_isIn; rw [ck_t (ix_nI hr (by decide)), cc, if_neg (show ¬ (3 : Int32) ≤ nI m from nI_ge h3 (by decide))]
  have hge : (3 : Int32) ≤ nI m := nI_le (show 3 ≤ m by omega) (by omega)
  have ex : ∀ k, k < m → ∃ px py : Nat, px ≤ 40 ∧ py ≤ 30 ∧ fx k = nI px ∧ fy k = nI py ∧ cx (12 * r + k) = nI px ∧ cy (12 * r + k) = nI py := by
    intro k hk
    obtain ⟨q1, q2, ⟨px, bx, q3⟩, py, by', q4⟩ := hj k hk
    exact ⟨px, py, bx, by', q3, q4, q1 ▸ q3, q2 ▸ q4⟩
  obtain ⟨res, ⟨b, hres⟩, hb, hw1, hw2⟩ : ∃ res : Int32, (∃ b : Int32, res = b) ∧ (res = 0 ∨ res = 1) ∧ whileV (fun st => X5_holds_L18 (nI m) fx fy (nI x) (nI y) st.1 st.2) (0, 0) = some res ∧ whileV (fun st => X10_isIn_L32 cx cy cn (nI r) (nI (2 * x + 1)) (nI (2 * y + 1)) st.1 st.2) (0, 0) = some res := by
    have key : ∀ d k (v : Int32), k + d = m → (v = 0 ∨ v = 1) → ∃ res : Int32, (∃ b : Int32, res = b) ∧ (res = 0 ∨ res = 1) ∧ whileV (fun st => X5_holds_L18 (nI m) fx fy (nI x) (nI y) st.1 st.2) (v, nI k) = some res ∧ whileV (fun st => X10_isIn_L32 cx cy cn (nI r) (nI (2 * x + 1)) (nI (2 * y + 1)) st.1 st.2) (v, nI k) = some res := by
      intro d
      induction d with
      | zero =>
        intro k v hk hv
        have e : k = m := by omega
        subst e
        refine ⟨v, ⟨v, rfl⟩, hv, ?_, ?_⟩
        · rw [whileV_eq]
          have : X5_holds_L18 (nI k) fx fy (nI x) (nI y) v (nI k) = some (.inr v) := by unfold X5_holds_L18; rw [if_pos (nI_le (Nat.le_refl k) (by omega))]
          simp only [this]
        · rw [whileV_eq]
          have : X10_isIn_L32 cx cy cn (nI r) (nI (2 * x + 1)) (nI (2 * y + 1)) v (nI k) = some (.inr v) := by unfold X10_isIn_L32; rw [ck_t (ix_nI hr (by decide)), cc, if_pos (nI_le (Nat.le_refl k) (by omega))]
          simp only [this]
      | succ d ih =>
        intro k v hk hv
        have hkm : k < m := by omega
        have hmm : (k + 1) % m < m := Nat.mod_lt _ (by omega)
        obtain ⟨px, py, b1, b2, f1, f2, g1, g2⟩ := ex k hkm
        obtain ⟨qx, qy, b3, b4, f3, f4, g3, g4⟩ := ex _ hmm
        have A := clsstep_ok (v := v) hm hkm hx hy f1 f2 f3 f4 b1 b2 b3 b4
        have B := refstep_ok (v := v) hr hm hc hkm hx hy g1 g2 g3 g4 b1 b2 b3 b4
        rcases A with ⟨a1, a2⟩ | ⟨a1, a2⟩
        · rcases B with ⟨c1, c2⟩ | ⟨c1, c2⟩
          · obtain ⟨res, h1, h2, h3, h4⟩ := ih (k + 1) (tog v) (by omega) (by unfold tog; split <;> simp)
            refine ⟨res, h1, h2, ?_, ?_⟩
            · rw [whileV_eq]; simp only [a1]; exact h3
            · rw [whileV_eq]; simp only [c1]; exact h4
          · exact absurd a2 c2
        · rcases B with ⟨c1, c2⟩ | ⟨c1, c2⟩
          · exact absurd c2 a2
          · obtain ⟨res, h1, h2, h3, h4⟩ := ih (k + 1) v (by omega) hv
            refine ⟨res, h1, h2, ?_, ?_⟩
            · rw [whileV_eq]; simp only [a1]; exact h3
            · rw [whileV_eq]; simp only [c1]; exact h4
    exact key m 0 0 (by omega) (Or.inl rfl)
  have hbl : bl res = true := by rcases hb with rfl | rfl <;> rfl
  refine ⟨res, hb, ?_, ?_⟩
  · unfold X5_holds
    rw [if_pos hge]
    simp only [hw1, bnd_some, bnd_none, rmap_some, nm_eq, Sum.elim_inl, Sum.elim_inr, un2_mk, un3_mk, un4_mk, un5_mk, un6_mk, un7_mk, un8_mk, un9_mk, un10_mk, un11_mk, un12_mk, ck_t hbl]
  · unfold X10_isIn
    have e1 : (2 : Int32) * nI x + 1 = nI (2 * x + 1) := by rw [show (2 : Int32) = nI 2 from rfl, pk_mul, nI_1]
    have e2 : (2 : Int32) * nI y + 1 = nI (2 * y + 1) := by rw [show (2 : Int32) = nI 2 from rfl, pk_mul, nI_1]
    rw [ck_t (ix_nI hr (by decide)), cc, if_pos hge]
    simp only [bnd_some, bnd_none, rmap_some, nm_eq, Sum.elim_inl, Sum.elim_inr, un2_mk, un3_mk, un4_mk, un5_mk, un6_mk, un7_mk, un8_mk, un9_mk, un10_mk, un11_mk, un12_mk, e1, e2, hw2, ck_t hbl]
