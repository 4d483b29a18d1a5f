/-! sets of rows as bits -/
theorem or_new : ∀ d, d < 512 → ∀ r, r < 9 → d.testBit r = false → d ||| 2 ^ r = d + 2 ^ r := by decide +kernel
theorem and_not : ∀ d, d < 512 → ∀ r, r < 9 → d.testBit r = true → nI d &&& (((1 : Int32) <<< (nI r &&& 31)) ^^^ (-1)) = nI (d - 2 ^ r) := by decide +kernel
def pc (d : Nat) : Nat := cnt (fun r => d.testBit r) 9
theorem pc_rem : ∀ d, d < 512 → ∀ r, r < 9 → d.testBit r = true → pc (d - 2 ^ r) + 1 = pc d ∧ (d - 2 ^ r).testBit r = false := by decide +kernel
theorem pc_pos : ∀ d, d < 512 → pc d = 0 → d = 0 := by decide +kernel
theorem pc_all : ∀ m, m ≤ 9 → pc (2 ^ m - 1) = m := by decide +kernel
theorem done64 : ∀ d, d < 512 → ∀ r, r < 9 → (lg_cmp ((Int32.toInt64 (nI d) >>> (Int32.toInt64 (nI r) &&& 63)) &&& 1) 0 = 0 ↔ d.testBit r = false) := by decide +kernel
theorem bit_rem : ∀ d, d < 512 → ∀ r, r < 9 → d.testBit r = true → ∀ q, q < 9 → d.testBit q = false → (d - 2 ^ r).testBit q = false := by decide +kernel
