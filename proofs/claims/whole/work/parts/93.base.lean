/-! ===== the numbers alone: tools ===== -/
theorem bd_some {α β : Type} (a : α) (k : α → Option β) : bd (some a) k = k a := rfl
theorem ck_t {α : Type} {b : Bool} (h : b = true) (x : Option α) : ck b x = x := by subst h; rfl
theorem inb_t {i : Int32} {n : Nat} (h : vp_in i n) : inb i n = true := by
  unfold inb
  exact decide_eq_true h
theorem inb_nI {n N : Nat} (h : n < N) (hN : N < 2 ^ 31) : inb (nI n) N = true := inb_t (vp_in_nI h hN)
theorem nI_lit (n : Nat) (x : Int32) (h : nI n = x) : x = nI n := h.symm
theorem up_s {α : Type} {f : Nat → α} {k : Nat} {v : α} : va_up f k v k = v := va_up_self f k v
theorem up_n {α : Type} {f : Nat → α} {k j : Nat} {v : α} (h : j ≠ k) : va_up f k v j = f j := va_up_ne f v h
theorem nI_inj {a b : Nat} (ha : a < 2 ^ 31) (hb : b < 2 ^ 31) (h : nI a = nI b) : a = b := (nI_eq ha hb).mp h
/-- the sign of two longs compared -/
theorem lgc_lt {x y : Int64} : (lg_cmp x y < 0) ↔ x.toInt < y.toInt := by
  unfold lg_cmp
  by_cases h1 : x > y
  · rw [if_pos h1]
    rw [gt_iff_lt, Int64.lt_iff_toInt_lt] at h1
    constructor
    · intro h; exact absurd h (by decide)
    · intro h; omega
  · rw [if_neg h1]
    rw [gt_iff_lt, Int64.lt_iff_toInt_lt] at h1
    by_cases h2 : x = y
    · rw [if_pos h2]
      subst h2
      constructor
      · intro h; exact absurd h (by decide)
      · intro h; omega
    · rw [if_neg h2]
      have h3 : x.toInt ≠ y.toInt := fun e => h2 (Int64.toInt_inj.mp e)
      constructor
      · intro _; omega
      · intro _; decide
theorem lgc_gt {x y : Int64} : (0 < lg_cmp x y) ↔ y.toInt < x.toInt := by
  unfold lg_cmp
  by_cases h1 : x > y
  · rw [if_pos h1]
    rw [gt_iff_lt, Int64.lt_iff_toInt_lt] at h1
    exact ⟨fun _ => h1, fun _ => by decide⟩
  · rw [if_neg h1]
    rw [gt_iff_lt, Int64.lt_iff_toInt_lt] at h1
    by_cases h2 : x = y
    · rw [if_pos h2]
      constructor
      · intro h; exact absurd h (by decide)
      · intro h; omega
    · rw [if_neg h2]
      constructor
      · intro h; exact absurd h (by decide)
      · intro h; omega
/-- 'in' of the reference -/
theorem f_in (x y z : Int64) : f_X13_in x y z = some (if y.toInt ≤ x.toInt ∧ x.toInt ≤ z.toInt then 1 else 0) := by
  rw [f_X13_in]
  by_cases h1 : lg_cmp x y < 0
  · rw [if_pos h1, if_neg]
    have := lgc_lt.mp h1
    omega
  · rw [if_neg h1]
    have h1' : ¬ x.toInt < y.toInt := fun h => h1 (lgc_lt.mpr h)
    by_cases h2 : 0 < lg_cmp x z
    · rw [if_pos h2, if_neg]
      have := lgc_gt.mp h2
      omega
    · rw [if_neg h2, if_pos]
      have h2' : ¬ z.toInt < x.toInt := fun h => h2 (lgc_gt.mpr h)
      omega
theorem i2l_toInt (x : Int32) : x.toInt64.toInt = x.toInt := Int32.toInt_toInt64 x
theorem le32 {x y : Int32} : (x ≤ y) ↔ x.toInt ≤ y.toInt := Int32.le_iff_toInt_le
theorem lt32 {x y : Int32} : (x < y) ↔ x.toInt < y.toInt := Int32.lt_iff_toInt_lt
theorem eq32 {x y : Int32} : (x = y) ↔ x.toInt = y.toInt := Int32.toInt_inj.symm
theorem nI_ofI {x : Int32} (h : 0 ≤ x.toInt) : ∃ n : Nat, n < 2 ^ 31 ∧ x = nI n ∧ (n : Int) = x.toInt := by
  obtain ⟨n, h1, h2⟩ := nI_of (x := x) (fun h2 => by
    rw [lt32] at h2
    have h0 : (0 : Int32).toInt = 0 := by decide
    omega)
  exact ⟨n, h1, h2, by rw [h2, nI_toInt h1]⟩
/-! the low eight bits -/
theorem low8 (a b : Int32) (h : ∀ i, i < 8 → a.toBitVec.getLsbD i = b.toBitVec.getLsbD i) : a.toInt8 = b.toInt8 := by
  apply Int8.toBitVec_inj.mp
  apply BitVec.eq_of_getLsbD_eq
  intro i hi
  rw [Int32.toBitVec_toInt8, Int32.toBitVec_toInt8, BitVec.getLsbD_signExtend, BitVec.getLsbD_signExtend]
  simp only [hi, decide_true, Bool.true_and, show i < 32 by omega, if_true, h i hi]
