/-! ===== least: a swap on a bitmap ===== -/
def bswp1 (a b c o B : Nat) : Nat := bsw (bctl c o (bmk (7 * b + o) 21 &&& (bmk (7 * a + o) 21 ^^^ bmk (7 * b + o) 21))) (2 ^ (7 * b + o) - 2 ^ (7 * a + o)) B
theorem odd_flip {i ka kb : Nat} (h : ka < kb) : (i + (2 ^ kb - 2 ^ ka)).testBit ka = !i.testBit ka := by
  have e : 2 ^ kb - 2 ^ ka = 2 ^ ka * (2 ^ (kb - ka) - 1) := by
    rw [Nat.mul_sub, Nat.mul_one, ← Nat.pow_add, show ka + (kb - ka) = kb by omega]
  have o : 2 ^ (kb - ka) = 2 * 2 ^ (kb - ka - 1) := by
    rw [← Nat.pow_succ', show (kb - ka - 1).succ = kb - ka by omega]
  have p : 0 < 2 ^ (kb - ka - 1) := Nat.pow_pos (by omega)
  rw [e, Nat.testBit_eq_decide_div_mod_eq, Nat.testBit_eq_decide_div_mod_eq, Nat.add_mul_div_left _ _ (Nat.pow_pos (by omega))]
  by_cases q : i / 2 ^ ka % 2 = 1
  · have : ¬ (i / 2 ^ ka + (2 ^ (kb - ka) - 1)) % 2 = 1 := by omega
    simp [q, this]
  · have : (i / 2 ^ ka + (2 ^ (kb - ka) - 1)) % 2 = 1 := by omega
    simp [q, this]
/-- the value after a swap of bits a and b -/
def swV (a b x : Nat) : Nat := if x.testBit a = x.testBit b then x else x ^^^ 2 ^ a ^^^ 2 ^ b
theorem ixB_swap {v : Nat → Nat} {a b o : Nat} (hab : a < b) (hb : b < 3) (ho : o < 7) (h1 : (v o).testBit b = true) (h2 : (v o).testBit a = false) : ixB v = ixB (setC v o (v o ^^^ 2 ^ a ^^^ 2 ^ b)) + (2 ^ (7 * b + o) - 2 ^ (7 * a + o)) := by
  have e1 := ixB_flip hb ho h1
  have hu : (setC v o (v o ^^^ 2 ^ a ^^^ 2 ^ b)) o = v o ^^^ 2 ^ a ^^^ 2 ^ b := if_pos rfl
  have h3 : ((setC v o (v o ^^^ 2 ^ a ^^^ 2 ^ b)) o).testBit a = true := by
    rw [hu, Nat.testBit_xor, Nat.testBit_xor, h2, Nat.testBit_two_pow_self, Nat.testBit_two_pow_of_ne (by omega)]
    rfl
  have e2 := ixB_flip (show a < 3 by omega) ho h3
  have h4 : setC (setC v o (v o ^^^ 2 ^ a ^^^ 2 ^ b)) o ((setC v o (v o ^^^ 2 ^ a ^^^ 2 ^ b)) o ^^^ 2 ^ a) = setC v o (v o ^^^ 2 ^ b) := by
    funext z
    by_cases e : z = o
    · subst e
      show (if z = z then _ else _) = (if z = z then _ else _)
      rw [if_pos rfl, if_pos rfl, hu, Nat.xor_comm (v z) (2 ^ a), Nat.xor_assoc (2 ^ a), Nat.xor_comm (2 ^ a), Nat.xor_assoc, Nat.xor_self, Nat.xor_zero]
    · show (if z = o then _ else _) = (if z = o then _ else _)
      rw [if_neg e, if_neg e]
      exact if_neg e
  rw [h4] at e2
  have hp : 2 ^ (7 * a + o) ≤ 2 ^ (7 * b + o) := Nat.pow_le_pow_right (by omega) (by omega)
  omega
