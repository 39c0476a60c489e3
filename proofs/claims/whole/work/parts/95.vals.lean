/-! ===== VALUES: let, value, trouble ===== -/
/-- where the class keeps the reference's var m -/
def cv (m : Nat) : Nat := if m < 8 then m else m + 2
def GV (i : Nat → Int32) (r : Nat → Nat → Int32) (mi : Nat → Int32) (mr : Nat → Nat → Int32) : Prop := (∀ m, m < 18 → r 0 (cv m) = mr 58 m) ∧ i 12 = mi 61 ∧ i 11 = mi 62
theorem GV.congr {i i' : Nat → Int32} {r r' : Nat → Nat → Int32} {mi mi' : Nat → Int32} {mr mr' : Nat → Nat → Int32} (h : GV i r mi mr) (hi : i' = i) (hr : r' = r) (h1 : mi' 61 = mi 61) (h2 : mi' 62 = mi 62) (h3 : mr' 58 = mr 58) : GV i' r' mi' mr' := by
  subst hi
  subst hr
  unfold GV at h ⊢
  rw [h1, h2, h3]
  exact h
theorem cv_lt {m : Nat} (h : m < 18) : cv m < 20 := by unfold cv; split <;> omega
theorem cv_inj {a b : Nat} (h : cv a = cv b) : a = b := by
  unfold cv at h
  split at h <;> split at h <;> omega
theorem hasNo (x : Int32) : f_X4_hasNoValue x = some (if (0 ≤ x.toInt ∧ x.toInt < 8) ∨ (10 ≤ x.toInt ∧ x.toInt < 20) then 0 else 1) := by
  have l8 : (8 : Int32).toInt = 8 := by decide
  have l10 : (10 : Int32).toInt = 10 := by decide
  have l20 : (20 : Int32).toInt = 20 := by decide
  rw [f_X4_hasNoValue]
  simp only [lt32, le32, z32, l8, l10, l20]
  by_cases h1 : x.toInt < 0
  · rw [if_pos h1, if_neg (by omega)]
  · rw [if_neg h1]
    by_cases h2 : 20 ≤ x.toInt
    · rw [if_pos h2, if_neg (by omega)]
    · rw [if_neg h2]
      by_cases h3 : x.toInt < 8
      · rw [if_pos h3, if_pos (by omega)]
      · rw [if_neg h3]
        by_cases h4 : 10 ≤ x.toInt
        · rw [if_pos h4, if_pos (by omega)]
        · rw [if_neg h4, if_neg (by omega)]
theorem nI_eqI {x : Int32} {n : Nat} (h : x.toInt = n) (hn : n < 2 ^ 31) : x = nI n := by
  rw [eq32, nI_toInt hn]
  exact h
theorem varOf (x : Int32) : f_X13_varOf x = some (if 0 ≤ x.toInt ∧ x.toInt ≤ 7 then x else if 10 ≤ x.toInt ∧ x.toInt ≤ 19 then x - 2 else -1) := by
  have l7 : (7 : Int64).toInt = 7 := by decide
  have l10 : (10 : Int64).toInt = 10 := by decide
  have l19 : (19 : Int64).toInt = 19 := by decide
  rw [f_X13_varOf, f_in, bd_some, f_in, i2l_toInt, z64, l7, l10, l19]
  by_cases h1 : 0 ≤ x.toInt ∧ x.toInt ≤ 7
  · rw [if_pos h1, if_pos h1]
    rfl
  · rw [if_neg h1, if_neg h1]
    by_cases h2 : 10 ≤ x.toInt ∧ x.toInt ≤ 19
    · rw [if_pos h2, if_pos h2]
      rfl
    · rw [if_neg h2, if_neg h2]
      rfl
theorem val_cases (x : Int32) : (∃ m, m < 18 ∧ x = nI (cv m) ∧ f_X4_hasNoValue x = some 0 ∧ f_X13_varOf x = some (nI m)) ∨ (f_X4_hasNoValue x = some 1 ∧ f_X13_varOf x = some (-1)) := by
  rw [hasNo, varOf]
  by_cases h1 : 0 ≤ x.toInt ∧ x.toInt ≤ 7
  · left
    obtain ⟨n, hn, hx, hn2⟩ := nI_ofI h1.1
    refine ⟨n, by omega, ?_, by rw [if_pos (by omega)], by rw [if_pos h1, hx]⟩
    unfold cv
    rw [if_pos (by omega)]
    exact hx
  · by_cases h2 : 10 ≤ x.toInt ∧ x.toInt ≤ 19
    · left
      obtain ⟨n, hn, hx, hn2⟩ := nI_ofI (x := x) (by omega)
      refine ⟨n - 2, by omega, ?_, by rw [if_pos (by omega)], ?_⟩
      · unfold cv
        rw [if_neg (by omega), show n - 2 + 2 = n by omega]
        exact hx
      · rw [if_neg h1, if_pos h2, hx]
        exact congrArg some (pk_sub (a := n) (b := 2) (by omega))
    · right
      rw [if_neg (by omega), if_neg h1, if_neg h2]
      exact ⟨rfl, rfl⟩
theorem nm1 {m : Nat} (h : m < 2 ^ 31) : ¬ nI m = -1 := by
  rw [eq32, nI_toInt h, show (-1 : Int32).toInt = -1 by decide]
  omega
theorem let_ok {ml : Nat → Nat → Int64} {i mi : Nat → Int32} {r mr : Nat → Nat → Int32} (h : GV i r mi mr) (x1 x2 : Int32) : ∃ q m, f_X11_let i r x1 x2 = some q ∧ f_X13_let mi mr ml x1 x2 = some m ∧ q.1 = m.1 ∧ GV i q.2 mi m.2 := by
  obtain ⟨h1, h2, h3⟩ := h
  rcases val_cases x1 with ⟨m, hm, hx, ha, hb⟩ | ⟨ha, hb⟩
  · have hc := cv_lt hm
    have A : f_X11_let i r x1 x2 = some (r 0 (cv m), va_up r 0 (upd (r 0) (cv m) x2)) := by
      rw [f_X11_let, ha, bd_some, if_pos rfl, f_X4_put, hx, ck_t (inb_nI hc (by omega)), ck_t (inb_nI hc (by omega)), nI_clamp (by omega)]
      rfl
    have B : f_X13_let mi mr ml x1 x2 = some (mr 58 m, va_up mr 58 (upd (mr 58) m x2)) := by
      rw [f_X13_let, hb, bd_some, if_neg (nm1 (by omega)), ck_t (inb_nI hm (by omega)), ck_t (inb_nI hm (by omega)), nI_clamp (by omega)]
    refine ⟨_, _, A, B, h1 m hm, fun k hk => ?_, h2, h3⟩
    show va_up r 0 (upd (r 0) (cv m) x2) 0 (cv k) = va_up mr 58 (upd (mr 58) m x2) 58 k
    rw [up_s, up_s]
    by_cases e : k = m
    · subst e
      rw [pk_us, pk_us]
    · rw [pk_un (fun q => e (cv_inj q)), pk_un e]
      exact h1 k hk
  · have A : f_X11_let i r x1 x2 = some (-2000000000, r) := by
      rw [f_X11_let, ha, bd_some, if_neg (by decide)]
    have B : f_X13_let mi mr ml x1 x2 = some (-2000000000, mr) := by
      rw [f_X13_let, hb, bd_some, if_pos rfl]
    exact ⟨_, _, A, B, rfl, h1, h2, h3⟩
theorem value_ok {ml : Nat → Nat → Int64} {i mi : Nat → Int32} {r mr : Nat → Nat → Int32} (h : GV i r mi mr) (x1 : Int32) : ∃ q m, f_X11_value i r x1 = some q ∧ f_X13_value mi mr ml x1 = some m ∧ q = m := by
  obtain ⟨h1, h2, h3⟩ := h
  rcases val_cases x1 with ⟨m, hm, hx, ha, hb⟩ | ⟨ha, hb⟩
  · have hc := cv_lt hm
    refine ⟨r 0 (cv m), mr 58 m, ?_, ?_, h1 m hm⟩
    · rw [f_X11_value, ha, bd_some, if_pos rfl, f_X4_valueOf, hx, ck_t (inb_nI hc (by omega)), nI_clamp (by omega)]
      rfl
    · rw [f_X13_value, hb, bd_some, if_neg (nm1 (by omega)), bd_some, ck_t (inb_nI hm (by omega)), nI_clamp (by omega)]
  · refine ⟨-2000000000, -2000000000, ?_, ?_, rfl⟩
    · rw [f_X11_value, ha, bd_some, if_neg (by decide)]
    · rw [f_X13_value, hb, bd_some, if_pos rfl]
theorem trouble_ok {ml : Nat → Nat → Int64} {i mi : Nat → Int32} {r mr : Nat → Nat → Int32} (h : GV i r mi mr) (x1 : Int32) : ∃ q m, f_X11_trouble i r x1 = some q ∧ f_X13_trouble mi mr ml x1 = some m ∧ q = m := by
  obtain ⟨h1, h2, h3⟩ := h
  rw [f_X11_trouble, f_X13_trouble]
  by_cases h0 : x1 = 0
  · rw [if_pos h0, if_pos h0]
    exact ⟨_, _, rfl, rfl, h2⟩
  · rw [if_neg h0, if_neg h0]
    by_cases h4 : x1 = 1
    · rw [if_pos h4, if_pos h4]
      exact ⟨_, _, rfl, rfl, h3⟩
    · rw [if_neg h4, if_neg h4]
      exact ⟨_, _, rfl, rfl, rfl⟩
