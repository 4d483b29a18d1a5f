theorem nI_or (a b : Nat) : nI a ||| nI b = nI (a ||| b) := by
  apply Int32.toBitVec_inj.mp
  show BitVec.ofNat 32 a ||| BitVec.ofNat 32 b = BitVec.ofNat 32 (a ||| b)
  exact BitVec.ofNat_or.symm
theorem nI_and (a b : Nat) : nI a &&& nI b = nI (a &&& b) := by
  apply Int32.toBitVec_inj.mp
  show BitVec.ofNat 32 a &&& BitVec.ofNat 32 b = BitVec.ofNat 32 (a &&& b)
  exact BitVec.ofNat_and.symm
theorem nI_xor (a b : Nat) : nI a ^^^ nI b = nI (a ^^^ b) := by
  apply Int32.toBitVec_inj.mp
  show BitVec.ofNat 32 a ^^^ BitVec.ofNat 32 b = BitVec.ofNat 32 (a ^^^ b)
  exact BitVec.ofNat_xor.symm
theorem sh31 {k : Nat} (hk : k < 32) : ((nI k &&& 31).toBitVec.smod 32).toNat = k := by
  rw [show (31 : Int32) = nI 31 from rfl, nI_and, show k &&& 31 = k from (Nat.and_two_pow_sub_one_eq_mod k 5).trans (Nat.mod_eq_of_lt hk)]
  have : ∀ k, k < 32 → ((nI k).toBitVec.smod 32).toNat = k := by decide
  exact this k hk
theorem nI_shl1 {k : Nat} (hk : k < 31) : (1 : Int32) <<< (nI k &&& 31) = nI (2 ^ k) := by
  have h : (2 : Nat) ^ k < 2 ^ 32 := Nat.pow_lt_pow_right (by omega) (by omega)
  have := pk_shlN (n := 1) (nI k &&& 31) k (sh31 (by omega)) (by omega)
  rw [Nat.one_mul] at this
  exact this
theorem nI_bit {b k : Nat} (hb : b < 2 ^ 31) (hk : k < 31) : (nI b >>> (nI k &&& 31)) &&& 1 = if b.testBit k = true then 1 else 0 := by
  rw [pk_shrN hb (nI k &&& 31) k (sh31 (by omega)), show (1 : Int32) = nI 1 from rfl, nI_and, Nat.and_one_is_mod, ← Nat.shiftRight_eq_div_pow]
  have : b.testBit k = decide ((b >>> k) % 2 = 1) := by rw [Nat.testBit_eq_decide_div_mod_eq, Nat.shiftRight_eq_div_pow]
  rw [this]
  by_cases c : (b >>> k) % 2 = 1
  · rw [c]; simp
  · rw [show (b >>> k) % 2 = 0 by omega]; simp; rfl
theorem xor1 (a : Nat) : a ^^^ 1 = if a % 2 = 0 then a + 1 else a - 1 := by
  apply Nat.eq_of_testBit_eq
  intro i
  rw [Nat.testBit_xor]
  cases i with
  | zero =>
    rw [Nat.testBit_zero, Nat.testBit_zero, Nat.testBit_zero]
    by_cases c : a % 2 = 0
    · rw [if_pos c]; simp [c]; omega
    · rw [if_neg c, show a % 2 = 1 by omega, show (a - 1) % 2 = 0 by omega]; rfl
  | succ i =>
    rw [Nat.testBit_succ, Nat.testBit_succ, Nat.testBit_succ]
    have : (if a % 2 = 0 then a + 1 else a - 1) / 2 = a / 2 := by split <;> omega
    rw [this]
    simp
theorem nI_x1 (a : Nat) : nI a ^^^ 1 = nI (if a % 2 = 0 then a + 1 else a - 1) := by rw [← xor1]; exact nI_xor a 1
