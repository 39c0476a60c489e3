/-! ===== least: a turn on a bitmap ===== -/
def cOK (c x : Nat) : Bool := (!c.testBit 0 || x.testBit 0) && (!c.testBit 1 || x.testBit 1) && (!c.testBit 2 || x.testBit 2)
theorem cOK_flip {c x t : Nat} (ht : t < 3) (hc : c.testBit t = false) : cOK c (x ^^^ 2 ^ t) = cOK c x := by
  unfold cOK
  rcases (show t = 0 ∨ t = 1 ∨ t = 2 by omega) with rfl | rfl | rfl
  · rw [hc, Nat.testBit_xor (i := 1), Nat.testBit_xor (i := 2), Nat.testBit_two_pow_of_ne (show (0 : Nat) ≠ 1 by omega), Nat.testBit_two_pow_of_ne (show (0 : Nat) ≠ 2 by omega)]
    simp
  · rw [hc, Nat.testBit_xor (i := 0), Nat.testBit_xor (i := 2), Nat.testBit_two_pow_of_ne (show (1 : Nat) ≠ 0 by omega), Nat.testBit_two_pow_of_ne (show (1 : Nat) ≠ 2 by omega)]
    simp
  · rw [hc, Nat.testBit_xor (i := 0), Nat.testBit_xor (i := 1), Nat.testBit_two_pow_of_ne (show (2 : Nat) ≠ 0 by omega), Nat.testBit_two_pow_of_ne (show (2 : Nat) ≠ 1 by omega)]
    simp
theorem bctl_sub {c o m i : Nat} (h : (bctl c o m).testBit i = true) : m.testBit i = true := by
  unfold bctl at h
  cases h0 : c.testBit 0 <;> cases h1 : c.testBit 1 <;> cases h2 : c.testBit 2 <;> simp [h0, h1, h2, Nat.testBit_and] at h <;> first | exact h | exact h.1 | exact h.1.1 | exact h.1.1.1
def bturn1 (t c o B : Nat) : Nat := bsw (bctl c o (bmk (7 * t + o) 21)) (2 ^ (7 * t + o)) B
theorem ixB_lt (v : Nat → Nat) : ixB v < 2 ^ 21 := pkB_lt _ 21
theorem bturn1_bit {t c o : Nat} (ht : t < 3) (ho : o < 7) (hc : c.testBit t = false) (B : Nat) (v : Nat → Nat) : (bturn1 t c o B).testBit (ixB v) = B.testBit (ixB (if cOK c (v o) = true then setC v o (v o ^^^ 2 ^ t) else v)) := by
  have hm : ∀ u : Nat → Nat, (bctl c o (bmk (7 * t + o) 21)).testBit (ixB u) = ((u o).testBit t && cOK c (u o)) := fun u => by
    have e0 := ixB_bit u (l := 0) (o := o) (by omega) ho
    have e1 := ixB_bit u (l := 1) (o := o) (by omega) ho
    have e2 := ixB_bit u (l := 2) (o := o) (by omega) ho
    rw [show 7 * 0 + o = o by omega] at e0
    rw [show 7 * 1 + o = 7 + o by omega] at e1
    rw [show 7 * 2 + o = 14 + o by omega] at e2
    rw [bctl_bit ho (ixB_lt u), bmk_bit 21 _ _ (by omega), decide_eq_true (ixB_lt u), Bool.true_and, ixB_bit u ht ho, e0, e1, e2]
    rfl
  have hs : ∀ i, (bctl c o (bmk (7 * t + o) 21)).testBit i = true → 2 ^ (7 * t + o) ≤ i ∧ (bctl c o (bmk (7 * t + o) 21)).testBit (i + 2 ^ (7 * t + o)) = false := by
    intro i hi
    have h1 := bctl_sub hi
    rw [bmk_bit 21 _ _ (by omega)] at h1
    have h2 : i.testBit (7 * t + o) = true := by
      rw [Bool.and_eq_true] at h1
      exact h1.2
    refine ⟨Nat.ge_two_pow_of_testBit h2, ?_⟩
    cases q : (bctl c o (bmk (7 * t + o) 21)).testBit (i + 2 ^ (7 * t + o)) with
    | false => rfl
    | true =>
      have h3 := bctl_sub q
      rw [bmk_bit 21 _ _ (by omega), Nat.add_comm, Nat.testBit_two_pow_add_eq, h2] at h3
      simp at h3
  -- the flipped table
  have hu : (setC v o (v o ^^^ 2 ^ t)) o = v o ^^^ 2 ^ t := if_pos rfl
  have hb : (v o).testBit t = false → ixB v + 2 ^ (7 * t + o) = ixB (setC v o (v o ^^^ 2 ^ t)) := fun q => by
    have h1 : ((setC v o (v o ^^^ 2 ^ t)) o).testBit t = true := by rw [hu, Nat.testBit_xor, q, Nat.testBit_two_pow_self]; rfl
    have h2 := ixB_flip ht ho h1
    have h3 : setC (setC v o (v o ^^^ 2 ^ t)) o ((setC v o (v o ^^^ 2 ^ t)) o ^^^ 2 ^ t) = v := by
      funext z
      by_cases e : z = o
      · subst e
        show (if z = z then _ else _) = v z
        rw [if_pos rfl, hu, Nat.xor_assoc, Nat.xor_self, Nat.xor_zero]
      · show (if z = o then _ else _) = v z
        rw [if_neg e]
        exact if_neg e
    rw [h3] at h2
    exact h2.symm
  rw [bturn1, bsw_bit hs, hm]
  cases q : (v o).testBit t with
  | true =>
    have h2 : (bctl c o (bmk (7 * t + o) 21)).testBit (ixB v + 2 ^ (7 * t + o)) = false := by
      cases q2 : (bctl c o (bmk (7 * t + o) 21)).testBit (ixB v + 2 ^ (7 * t + o)) with
      | false => rfl
      | true =>
        have h3 := bctl_sub q2
        rw [bmk_bit 21 _ _ (by omega), Nat.add_comm, Nat.testBit_two_pow_add_eq, ixB_bit v ht ho, q] at h3
        simp at h3
    rw [h2, Bool.true_and]
    by_cases w : cOK c (v o) = true
    · rw [if_pos w, if_pos w, ixB_flip ht ho q, Nat.add_sub_cancel]
    · rw [if_neg w, if_neg w, if_neg (by simp)]
  | false =>
    rw [Bool.false_and, if_neg (by simp), hb q, hm, hu, cOK_flip ht hc, Nat.testBit_xor, q, Nat.testBit_two_pow_self]
    by_cases w : cOK c (v o) = true
    · rw [if_pos w, w]
      simp
    · rw [if_neg w]
      simp [w]
