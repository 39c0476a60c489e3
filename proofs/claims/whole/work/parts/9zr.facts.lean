/-! ===== least: every reachable table lies within 12 gates ===== -/
def kdN (g : Nat) : Nat := (if 64 ≤ g then 3 else 0) + (if g.testBit 0 then 1 else 0) + (if g.testBit 1 then 1 else 0) + (if g.testBit 2 then 1 else 0)
def gsK (k : Nat) : List Nat := zG.filter (fun g => k.testBit (kdN g))
def clK (k n : Nat) : Bool := Nat.beq (bball (gsK k) (n + 1)) (bball (gsK k) n)
theorem gsK_in (k : Nat) : ∀ g ∈ gsK k, g ∈ zG := fun g hg => (List.mem_filter.mp hg).1
theorem Rch_le {gs : List Nat} {v : Nat → Nat} {n : Nat} (h : Rch gs n v) : ∀ m, Rch gs (n + m) v
  | 0 => h
  | m + 1 => Or.inl (Rch_le h m)
theorem Rch12_of {k n : Nat} (hn : n ≤ 12) (e : clK k n = true) (m : Nat) (v : Nat → Nat) (h : Rch (gsK k) m v) : Rch (gsK k) 12 v := by
  have h1 := Rch_closed (gsK_in k) (Nat.eq_of_beq_eq_true e) m v (by rw [Nat.add_comm]; exact Rch_le h n)
  have h2 := Rch_le h1 (12 - n)
  rw [show n + (12 - n) = 12 by omega] at h2
  exact h2
