/-! ===== the bits of a long, counted ===== -/
/-- n bytes m -/
def mkB (m : Nat) : Nat → Nat
  | 0 => 0
  | n + 1 => mkB m n * 256 + m
theorem and_B {a b c m : Nat} (hb : b < 256) (hm : m < 256) : (a * 256 + b) &&& (c * 256 + m) = (a &&& c) * 256 + (b &&& m) := by
  have hbm : b &&& m < 256 := Nat.lt_of_le_of_lt Nat.and_le_left hb
  have key : ∀ (p q j : Nat), q < 256 → (p * 256 + q).testBit j = (if j < 8 then q.testBit j else p.testBit (j - 8)) := by
    intro p q j hq
    rw [Nat.mul_comm, show (256 : Nat) = 2 ^ 8 from rfl, Nat.testBit_two_pow_mul_add p (show q < 2 ^ 8 by omega)]
  apply Nat.eq_of_testBit_eq
  intro j
  rw [Nat.testBit_and, key a b j hb, key c m j hm, key _ _ j hbm]
  split
  · rw [Nat.testBit_and]
  · rw [Nat.testBit_and]
def s1 (n x : Nat) : Nat := x - ((x / 2) &&& mkB 85 n)
def s2 (n y : Nat) : Nat := (y &&& mkB 51 n) + ((y / 4) &&& mkB 51 n)
def s3 (n z : Nat) : Nat := (z + z / 16) &&& mkB 15 n
theorem d1 : ∀ b, b < 256 → ∀ q, q < 2 → (q * 128 + b / 2) &&& 85 = (b / 2) &&& 85 := by decide +kernel
theorem d2 : ∀ b, b < 256 → ∀ q, q < 4 → (q * 64 + b / 4) &&& 51 = (b / 4) &&& 51 := by decide +kernel
theorem d3 : ∀ b, b < 256 → (b &&& 51) + ((b / 4) &&& 51) ≤ 102 ∧ ((b &&& 51) + ((b / 4) &&& 51)) % 16 ≤ 6 := by decide +kernel
theorem d4 : ∀ b, b < 256 → (let y := b - ((b / 2) &&& 85); let z := (y &&& 51) + ((y / 4) &&& 51); (z + z / 16) &&& 15 = cnt b 8) := by decide +kernel
theorem s1_B {n h b : Nat} (hb : b < 256) : s1 (n + 1) (h * 256 + b) = s1 n h * 256 + (b - ((b / 2) &&& 85)) := by
  have e1 : (h * 256 + b) / 2 = (h / 2) * 256 + (h % 2 * 128 + b / 2) := by omega
  have h1 : (b / 2) &&& 85 ≤ b / 2 := Nat.and_le_left
  have h2 : (h / 2) &&& mkB 85 n ≤ h / 2 := Nat.and_le_left
  rw [s1, s1, e1, mkB, and_B (by omega) (by omega), d1 b hb _ (Nat.mod_lt _ (by omega))]
  omega
theorem s2_B {n h b : Nat} (hb : b < 256) : s2 (n + 1) (h * 256 + b) = s2 n h * 256 + ((b &&& 51) + ((b / 4) &&& 51)) := by
  have e1 : (h * 256 + b) / 4 = (h / 4) * 256 + (h % 4 * 64 + b / 4) := by omega
  rw [s2, s2, e1, mkB, and_B hb (by omega), and_B (by omega) (by omega), d2 b hb _ (Nat.mod_lt _ (by omega))]
  omega
theorem s3_B {n h b : Nat} (hb : b ≤ 102) (hh : h % 16 ≤ 6) : s3 (n + 1) (h * 256 + b) = s3 n h * 256 + ((b + b / 16) &&& 15) := by
  have e1 : (h * 256 + b) + (h * 256 + b) / 16 = (h + h / 16) * 256 + (h % 16 * 16 + (b + b / 16)) := by omega
  have e2 : (h % 16 * 16 + (b + b / 16)) &&& 15 = (b + b / 16) &&& 15 := by
    rw [show (15 : Nat) = 2 ^ 4 - 1 from rfl, Nat.and_two_pow_sub_one_eq_mod, Nat.and_two_pow_sub_one_eq_mod]
    omega
  rw [s3, s3, e1, mkB, and_B (by omega) (by omega), e2]
/-- the bytes' counts, each in its byte -/
def pB : Nat → Nat → Nat
  | 0, _ => 0
  | n + 1, x => pB n (x / 256) * 256 + cnt (x % 256) 8
theorem s_all : ∀ (n x : Nat), x < 256 ^ n → s3 n (s2 n (s1 n x)) = pB n x ∧ s2 n (s1 n x) % 16 ≤ 6
  | 0, x, hx => by
    have : x = 0 := by
      rw [Nat.pow_zero] at hx
      omega
    subst this
    exact ⟨rfl, by decide⟩
  | n + 1, x, hx => by
    have hb : x % 256 < 256 := Nat.mod_lt _ (by omega)
    have hh : x / 256 < 256 ^ n := by
      rw [Nat.pow_succ] at hx
      exact Nat.div_lt_of_lt_mul (by rw [Nat.mul_comm]; exact hx)
    obtain ⟨a1, a2⟩ := s_all n (x / 256) hh
    have hx2 : x = x / 256 * 256 + x % 256 := by omega
    have hy : x % 256 - ((x % 256 / 2) &&& 85) < 256 := by omega
    obtain ⟨b1, b2⟩ := d3 _ hy
    have hd := d4 _ hb
    have E1 : s1 (n + 1) x = s1 n (x / 256) * 256 + (x % 256 - ((x % 256 / 2) &&& 85)) := by
      have := s1_B (n := n) (h := x / 256) hb
      rw [← hx2] at this
      exact this
    rw [E1, s2_B hy, s3_B b1 a2, a1, pB]
    refine ⟨?_, by omega⟩
    rw [← hd]
theorem cnt_B : ∀ (m h b : Nat), b < 256 → cnt (h * 256 + b) (8 + m) = cnt b 8 + cnt h m
  | 0, h, b, hb => by
    have : ∀ j, j ≤ 8 → cnt (h * 256 + b) j = cnt b j := by
      intro j
      induction j with
      | zero => intro _; rfl
      | succ j ih =>
        intro hj
        show cnt (h * 256 + b) j + (if (h * 256 + b).testBit j then 1 else 0) = cnt b j + (if b.testBit j then 1 else 0)
        rw [ih (by omega), Nat.mul_comm, show (256 : Nat) = 2 ^ 8 from rfl, Nat.testBit_two_pow_mul_add h (show b < 2 ^ 8 by omega), if_pos (show j < 8 by omega)]
    exact this 8 (by omega)
  | m + 1, h, b, hb => by
    show cnt (h * 256 + b) (8 + m) + (if (h * 256 + b).testBit (8 + m) then 1 else 0) = cnt b 8 + (cnt h m + (if h.testBit m then 1 else 0))
    rw [cnt_B m h b hb, Nat.mul_comm h, show (256 : Nat) = 2 ^ 8 from rfl, Nat.testBit_two_pow_mul_add h (show b < 2 ^ 8 by omega), if_neg (show ¬ 8 + m < 8 by omega), show 8 + m - 8 = m by omega]
    omega
