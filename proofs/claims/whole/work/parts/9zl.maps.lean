/-! ===== least: sets of tables as bitmaps ===== -/
def bmk (k : Nat) : Nat → Nat
  | 0 => 0
  | n + 1 => if k = n then (2 ^ (2 ^ n) - 1) <<< (2 ^ n) else bmk k n ||| (bmk k n <<< (2 ^ n))
theorem bmk_bit : ∀ (n k i : Nat), k < n → (bmk k n).testBit i = (decide (i < 2 ^ n) && i.testBit k)
  | 0, k, i, h => by omega
  | n + 1, k, i, h => by
    have hp : 2 ^ (n + 1) = 2 ^ n + 2 ^ n := by rw [Nat.pow_succ]; omega
    rw [bmk]
    by_cases e : k = n
    · subst e
      rw [if_pos rfl, Nat.testBit_shiftLeft, Nat.testBit_two_pow_sub_one]
      by_cases q : 2 ^ k ≤ i
      · by_cases q2 : i < 2 ^ (k + 1)
        · have : i.testBit k = true := by
            rw [show i = 2 ^ k + (i - 2 ^ k) by omega, Nat.testBit_two_pow_add_eq, Nat.testBit_lt_two_pow (by omega)]
            rfl
          simp [q, q2, this]
          omega
        · simp [q, q2]
          omega
      · have : i.testBit k = false := Nat.testBit_lt_two_pow (by omega)
        simp [q, this]
    · rw [if_neg e, Nat.testBit_or, Nat.testBit_shiftLeft, bmk_bit n k i (by omega), bmk_bit n k (i - 2 ^ n) (by omega)]
      by_cases q : 2 ^ n ≤ i
      · have : (i - 2 ^ n).testBit k = i.testBit k := by
          have h2 := Nat.testBit_two_pow_add_gt (i := n) (j := k) (by omega) (i - 2 ^ n)
          rw [show 2 ^ n + (i - 2 ^ n) = i by omega] at h2
          exact h2.symm
        rw [this]
        by_cases q2 : i < 2 ^ (n + 1)
        · have q3 : ¬ i < 2 ^ n := by omega
          have q4 : i - 2 ^ n < 2 ^ n := by omega
          simp [q, q2, q3, q4]
        · have q3 : ¬ i < 2 ^ n := by omega
          have q4 : ¬ i - 2 ^ n < 2 ^ n := by omega
          simp [q2, q3, q4]
      · have q3 : i < 2 ^ n := by omega
        have q2 : i < 2 ^ (n + 1) := by omega
        simp [q, q3, q2]
/-- indices idx (in m1) and idx - s change places -/
def bsw (m1 s B : Nat) : Nat := (B ^^^ (B &&& m1) ^^^ (B &&& (m1 >>> s))) ||| ((B &&& m1) >>> s) ||| ((B &&& (m1 >>> s)) <<< s)
theorem bsw_bit {m1 s : Nat} (h : ∀ i, m1.testBit i = true → s ≤ i ∧ m1.testBit (i + s) = false) (B i : Nat) : (bsw m1 s B).testBit i = B.testBit (if m1.testBit i = true then i - s else if m1.testBit (i + s) = true then i + s else i) := by
  unfold bsw
  rw [Nat.testBit_or, Nat.testBit_or, Nat.testBit_xor, Nat.testBit_xor, Nat.testBit_and, Nat.testBit_and, Nat.testBit_shiftRight, Nat.testBit_shiftRight, Nat.testBit_shiftLeft, Nat.testBit_and, Nat.testBit_and, Nat.testBit_shiftRight, Nat.add_comm s i]
  by_cases q : m1.testBit i = true
  · obtain ⟨h1, h2⟩ := h i q
    rw [if_pos q, q, h2, show s + (i - s) = i by omega, q]
    simp [h1]
  · have q' : m1.testBit i = false := by simpa using q
    rw [if_neg q, q']
    by_cases q2 : m1.testBit (i + s) = true
    · rw [if_pos q2, q2]
      by_cases q3 : s ≤ i
      · rw [show s + (i - s) = i by omega, q']
        simp
      · simp [q3]
    · have q2' : m1.testBit (i + s) = false := by simpa using q2
      rw [if_neg q2, q2']
      by_cases q3 : s ≤ i
      · rw [show s + (i - s) = i by omega, q']
        simp
      · simp [q3]
