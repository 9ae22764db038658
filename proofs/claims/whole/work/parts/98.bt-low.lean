/-! BITS: the lowest bit that is one. -/
theorem bt_low {a p q : Nat} (ha : a = 2 ^ p * (2 * q + 1)) (j : Nat) : (a - 1).testBit j = (if j < p then true else (2 * q).testBit (j - p)) ∧ a.testBit j = (if j < p then false else (2 * q + 1).testBit (j - p)) := by
  have h1 : 0 < 2 ^ p := Nat.two_pow_pos p
  have e : a - 1 = 2 ^ p * (2 * q) + (2 ^ p - 1) := by
    rw [ha, Nat.mul_add, Nat.mul_one]; omega
  constructor
  · rw [e, Nat.testBit_two_pow_mul_add _ (by omega)]
    split
    next h => rw [Nat.testBit_two_pow_sub_one]; simpa using h
    next => rfl
  · rw [ha, Nat.testBit_two_pow_mul]
    by_cases h : j < p
    · rw [if_pos h]; simp; omega
    · rw [if_neg h]; simp; omega
