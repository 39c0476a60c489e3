theorem bswp1_bit {a b c o : Nat} (hab : a < b) (hb : b < 3) (ho : o < 7) (hca : c.testBit a = false) (hcb : c.testBit b = false) (B : Nat) (v : Nat → Nat) : (bswp1 a b c o B).testBit (ixB v) = B.testBit (ixB (if cOK c (v o) = true then setC v o (swV a b (v o)) else v)) := by
  have mb : ∀ i, (bmk (7 * b + o) 21 &&& (bmk (7 * a + o) 21 ^^^ bmk (7 * b + o) 21)).testBit i = (decide (i < 2 ^ 21) && (i.testBit (7 * b + o) && !i.testBit (7 * a + o))) := fun i => by
    rw [Nat.testBit_and, Nat.testBit_xor, bmk_bit 21 _ _ (by omega), bmk_bit 21 _ _ (by omega)]
    cases decide (i < 2 ^ 21) <;> cases i.testBit (7 * b + o) <;> cases i.testBit (7 * a + o) <;> rfl
  obtain ⟨m1, em⟩ : ∃ m1, m1 = bctl c o (bmk (7 * b + o) 21 &&& (bmk (7 * a + o) 21 ^^^ bmk (7 * b + o) 21)) := ⟨_, rfl⟩
  obtain ⟨s, es⟩ : ∃ s, s = 2 ^ (7 * b + o) - 2 ^ (7 * a + o) := ⟨_, rfl⟩
  have hm : ∀ u : Nat → Nat, m1.testBit (ixB u) = (((u o).testBit b && !(u o).testBit a) && cOK c (u o)) := fun u => by
    have e0 := ixB_bit u (l := 0) (o := o) (by omega) ho
    have e1 := ixB_bit u (l := 1) (o := o) (by omega) ho
    have e2 := ixB_bit u (l := 2) (o := o) (by omega) ho
    rw [show 7 * 0 + o = o by omega] at e0
    rw [show 7 * 1 + o = 7 + o by omega] at e1
    rw [show 7 * 2 + o = 14 + o by omega] at e2
    rw [em, bctl_bit ho (ixB_lt u), mb, decide_eq_true (ixB_lt u), Bool.true_and, ixB_bit u hb ho, ixB_bit u (show a < 3 by omega) ho, e0, e1, e2]
    rfl
  -- where bit a is set, or bit b is not, there is no mark
  have hn : ∀ i, i.testBit (7 * a + o) = true ∨ i.testBit (7 * b + o) = false → m1.testBit i = false := fun i hi => by
    cases q : m1.testBit i with
    | false => rfl
    | true =>
      rw [em] at q
      have h1 := bctl_sub q
      rw [mb] at h1
      rcases hi with e | e <;> rw [e] at h1 <;> simp at h1
  have ofl : ∀ i, (i + s).testBit (7 * a + o) = !i.testBit (7 * a + o) := fun i => by rw [es]; exact odd_flip (by omega)
  have hs : ∀ i, m1.testBit i = true → s ≤ i ∧ m1.testBit (i + s) = false := by
    intro i hi
    have h0 := hi
    rw [em] at h0
    have h1 := bctl_sub h0
    rw [mb] at h1
    have h2 : i.testBit (7 * b + o) = true ∧ i.testBit (7 * a + o) = false := by
      cases q1 : i.testBit (7 * b + o) <;> cases q2 : i.testBit (7 * a + o) <;> simp [q1, q2] at h1 <;> simp
    have h3 := Nat.ge_two_pow_of_testBit h2.1
    exact ⟨by rw [es]; exact Nat.le_trans (Nat.sub_le _ _) h3, hn _ (Or.inl (by rw [ofl, h2.2]; rfl))⟩
  have hu : (setC v o (v o ^^^ 2 ^ a ^^^ 2 ^ b)) o = v o ^^^ 2 ^ a ^^^ 2 ^ b := if_pos rfl
  have hv : setC v o (v o) = v := by
    funext z
    by_cases e : z = o
    · subst e; exact if_pos rfl
    · exact if_neg e
  rw [bswp1, ← em, ← es, bsw_bit hs, hm]
  unfold swV
  cases qb : (v o).testBit b with
  | true =>
    cases qa : (v o).testBit a with
    | true =>
      have h1 : m1.testBit (ixB v + s) = false := by
        refine hn _ (Or.inr ?_)
        have f1 := ixB_flip (show a < 3 by omega) ho qa
        have hp : 2 ^ (7 * a + o) ≤ 2 ^ (7 * b + o) := Nat.pow_le_pow_right (by omega) (by omega)
        rw [show ixB v + s = 2 ^ (7 * b + o) + ixB (setC v o (v o ^^^ 2 ^ a)) by omega, Nat.testBit_two_pow_add_eq, ixB_bit _ hb ho]
        show (!((if o = o then v o ^^^ 2 ^ a else v o)).testBit b) = false
        rw [if_pos rfl, Nat.testBit_xor, qb, Nat.testBit_two_pow_of_ne (by omega)]
        rfl
      rw [h1, if_pos rfl, hv]
      simp
    | false =>
      have f1 := ixB_swap hab hb ho qb qa
      rw [← es] at f1
      have h1 : m1.testBit (ixB v + s) = false := hn _ (Or.inl (by rw [ofl, ixB_bit v (show a < 3 by omega) ho, qa]; rfl))
      rw [h1, if_neg (show ¬ (false = true) by decide)]
      by_cases w : cOK c (v o) = true
      · rw [w, if_pos rfl, if_pos (show (true && !false && true) = true from rfl), show ixB v - s = ixB (setC v o (v o ^^^ 2 ^ a ^^^ 2 ^ b)) by omega, if_neg (show ¬ (false = true) by decide)]
      · rw [if_neg w, if_neg (by simp [w])]
  | false =>
    cases qa : (v o).testBit a with
    | true =>
      have g1 : ((setC v o (v o ^^^ 2 ^ a ^^^ 2 ^ b)) o).testBit b = true := by
        rw [hu, Nat.testBit_xor, Nat.testBit_xor, qb, Nat.testBit_two_pow_self, Nat.testBit_two_pow_of_ne (by omega)]
        rfl
      have g2 : ((setC v o (v o ^^^ 2 ^ a ^^^ 2 ^ b)) o).testBit a = false := by
        rw [hu, Nat.testBit_xor, Nat.testBit_xor, qa, Nat.testBit_two_pow_self, Nat.testBit_two_pow_of_ne (by omega)]
        rfl
      have f1 := ixB_swap hab hb ho g1 g2
      have h3 : setC (setC v o (v o ^^^ 2 ^ a ^^^ 2 ^ b)) o ((setC v o (v o ^^^ 2 ^ a ^^^ 2 ^ b)) o ^^^ 2 ^ a ^^^ 2 ^ b) = v := by
        funext z
        by_cases e : z = o
        · subst e
          show (if z = z then _ else _) = v z
          rw [if_pos rfl, hu, Nat.xor_assoc, Nat.xor_assoc, Nat.xor_assoc, ← Nat.xor_assoc (2 ^ b), Nat.xor_comm (2 ^ b) (2 ^ a), Nat.xor_assoc (2 ^ a) (2 ^ b), Nat.xor_self, Nat.xor_zero, Nat.xor_self, Nat.xor_zero]
        · show (if z = o then _ else _) = v z
          rw [if_neg e]
          exact if_neg e
      rw [h3, ← es] at f1
      rw [← f1, hm, g1, g2, hu, cOK_flip hb hcb, cOK_flip (show a < 3 by omega) hca]
      by_cases w : cOK c (v o) = true
      · rw [w]
        simp
      · simp [w]
    | false =>
      have h1 : m1.testBit (ixB v + s) = false := by
        cases q : m1.testBit (ixB v + s) with
        | false => rfl
        | true =>
          rw [hn _ (Or.inl (by rw [ofl, ixB_bit v (show a < 3 by omega) ho, qa]; rfl))] at q
          cases q
      rw [h1, if_pos rfl, hv]
      simp
