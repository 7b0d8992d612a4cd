/-! ===== sets moved by bits ===== -/
theorem mul_bit {x b k : Nat} : (x * 2 ^ b).testBit k = (decide (b ≤ k) && x.testBit (k - b)) := by
  rw [← Nat.shiftLeft_eq, Nat.testBit_shiftLeft]
theorem dif_shift {x a b : Nat} : dif (x * 2 ^ b) a = dif x (a / 2 ^ b) * 2 ^ b := by
  apply Nat.eq_of_testBit_eq
  intro k
  rw [dif_bit, mul_bit, mul_bit, dif_bit, Nat.testBit_div_two_pow]
  by_cases h : b ≤ k
  · rw [Nat.sub_add_cancel h, decide_eq_true h, Bool.true_and, Bool.true_and]
  · rw [decide_eq_false h, Bool.false_and, Bool.false_and, Bool.false_and]
