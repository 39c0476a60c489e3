/-! ===== least: a table's columns and its bitmap index ===== -/
theorem pkB_set : ∀ (n k : Nat) (f g : Nat → Bool), k < n → f k = true → g k = false → (∀ i, i ≠ k → f i = g i) → pkB f n = pkB g n + 2 ^ k := by
  intro n
  induction n with
  | zero => intro k f g h; omega
  | succ n ih =>
    intro k f g h hf hg hi
    by_cases e : k = n
    · subst e
      have h1 : pkB f k = pkB g k := pkB_congr (fun i hk => hi i (by omega))
      show pkB f k + _ = pkB g k + _ + 2 ^ k
      rw [h1, hf, hg]
      simp
    · have h1 := ih k f g (by omega) hf hg hi
      have h2 : f n = g n := hi n (by omega)
      show pkB f n + _ = pkB g n + _ + 2 ^ k
      rw [h1, h2]
      omega
/-- the index of a table v (out -> in), seen through outs 0 .. 6 -/
def ixB (v : Nat → Nat) : Nat := pkB (fun i => (v (i % 7)).testBit (i / 7)) 21
def setC (v : Nat → Nat) (o x : Nat) : Nat → Nat := fun z => if z = o then x else v z
theorem ixB_bit (v : Nat → Nat) {l o : Nat} (hl : l < 3) (ho : o < 7) : (ixB v).testBit (7 * l + o) = (v o).testBit l := by
  unfold ixB
  rw [pkB_bit, show (7 * l + o) % 7 = o by omega, show (7 * l + o) / 7 = l by omega]
  have : 7 * l + o < 21 := by omega
  simp [this]
theorem ixB_flip {v : Nat → Nat} {t o : Nat} (ht : t < 3) (ho : o < 7) (h : (v o).testBit t = true) : ixB v = ixB (setC v o (v o ^^^ 2 ^ t)) + 2 ^ (7 * t + o) := by
  unfold ixB
  refine pkB_set 21 (7 * t + o) _ _ (by omega) ?_ ?_ (fun i hi => ?_)
  · rw [show (7 * t + o) % 7 = o by omega, show (7 * t + o) / 7 = t by omega]
    exact h
  · rw [show (7 * t + o) % 7 = o by omega, show (7 * t + o) / 7 = t by omega, setC, if_pos rfl, Nat.testBit_xor, h, Nat.testBit_two_pow_self]
    rfl
  · unfold setC
    by_cases q : i % 7 = o
    · rw [if_pos q, q, Nat.testBit_xor, Nat.testBit_two_pow_of_ne (by omega)]
      simp
    · rw [if_neg q]
/-- the controls c of column o in the mask m -/
def bctl (c o m : Nat) : Nat := (if c.testBit 2 = true then (if c.testBit 1 = true then (if c.testBit 0 = true then m &&& bmk o 21 else m) &&& bmk (7 + o) 21 else (if c.testBit 0 = true then m &&& bmk o 21 else m)) &&& bmk (14 + o) 21 else (if c.testBit 1 = true then (if c.testBit 0 = true then m &&& bmk o 21 else m) &&& bmk (7 + o) 21 else (if c.testBit 0 = true then m &&& bmk o 21 else m)))
theorem bctl_bit {c o m i : Nat} (ho : o < 7) (hi : i < 2 ^ 21) : (bctl c o m).testBit i = (m.testBit i && ((!c.testBit 0 || i.testBit o) && (!c.testBit 1 || i.testBit (7 + o)) && (!c.testBit 2 || i.testBit (14 + o)))) := by
  have b0 := bmk_bit 21 o i (by omega)
  have b1 := bmk_bit 21 (7 + o) i (by omega)
  have b2 := bmk_bit 21 (14 + o) i (by omega)
  rw [decide_eq_true hi, Bool.true_and] at b0 b1 b2
  unfold bctl
  cases c.testBit 0 <;> cases c.testBit 1 <;> cases c.testBit 2 <;> simp [Nat.testBit_and, b0, b1, b2, Bool.and_assoc]
