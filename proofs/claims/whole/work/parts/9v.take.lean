/-! ===== program: the read one becomes the one in force ===== -/
def fr60 (x : Int32) : Int32 := if x = -1 then -1 else x - 60
theorem front_eq (x : Int32) : f_X13_front x = some (fr60 x) := by
  rw [f_X13_front, fr60]
  split <;> rfl
theorem PT.fr {x y : Int32} (h : PT 60 x y) : fr60 y = x := by
  rw [fr60]
  rcases h with ⟨h1, h2⟩ | ⟨t, h1, h2, h3⟩
  · rw [if_pos h2, h1]
  · rw [if_neg (by rw [h3]; exact nm1N (by omega)), h3, h2, show (60 : Int32) = nI 60 from rfl, pk_sub (by omega), show 60 + t - 60 = t by omega]
theorem mul2 (a w : Nat) : (2 : Int32) * nI a + nI w = nI (2 * a + w) := by rw [show (2 : Int32) = nI 2 from rfl, pk_mul, nI_add]
theorem mul4 (a w : Nat) : (4 : Int32) * nI a + nI w = nI (4 * a + w) := by rw [show (4 : Int32) = nI 4 from rfl, pk_mul, nI_add]
/-! the procs -/
theorem take10_go {ml : Nat → Nat → Int64} {mi : Nat → Int32} {P : Nat} (hP : P ≤ 6) (h46 : mi 46 = nI P) : ∀ (d p fu : Nat) (mr : Nat → Nat → Int32), p + d = P → d < fu → ∃ mr', f_X13_takeProgram_10 ml fu mi mr (nI p) = f_X13_takeProgram_62 ml 2000000 mi mr' 0 ∧ (∀ q, p ≤ q → q < P → mr' 42 q = fr60 (mr 42 (6 + q)) ∧ mr' 43 q = fr60 (mr 43 (6 + q))) ∧ (∀ q, q < p → mr' 42 q = mr 42 q ∧ mr' 43 q = mr 43 q) ∧ ∀ z, z ≠ 42 → z ≠ 43 → mr' z = mr z := by
  intro d
  induction d with
  | zero =>
    intro p fu mr hp hfu
    obtain ⟨fu, rfl⟩ : ∃ m, fu = m + 1 := ⟨fu - 1, by omega⟩
    obtain rfl : p = P := by omega
    refine ⟨mr, ?_, fun q h1 h2 => by omega, fun _ _ => ⟨rfl, rfl⟩, fun _ _ _ => rfl⟩
    rw [f_X13_takeProgram_10, h46, if_pos (nI_le (by omega) (by omega))]
  | succ d ih =>
    intro p fu mr hp hfu
    obtain ⟨fu, rfl⟩ : ∃ m, fu = m + 1 := ⟨fu - 1, by omega⟩
    have e6 : (6 : Int32) + nI p = nI (6 + p) := by rw [show (6 : Int32) = nI 6 from rfl, nI_add]
    have i1 := inb_nI (n := p) (N := 12) (by omega) (by omega)
    have i2 := inb_nI (n := 6 + p) (N := 12) (by omega) (by omega)
    have c1 : (nI p).toNatClampNeg = p := nI_clamp (by omega)
    have c2 : (nI (6 + p)).toNatClampNeg = 6 + p := nI_clamp (by omega)
    obtain ⟨mr', a1, a2, a3, a4⟩ := ih (p + 1) fu (va_up (va_up mr 42 (upd (mr 42) p (fr60 (mr 42 (6 + p))))) 43 (upd (mr 43) p (fr60 (mr 43 (6 + p))))) (by omega) (by omega)
    refine ⟨mr', ?_, fun q h1 h2 => ?_, fun q hq => ?_, fun z z1 z2 => by rw [a4 z z1 z2, up_n z2, up_n z1]⟩
    · rw [f_X13_takeProgram_10, h46, if_neg (nI_ge (by omega) (by omega)), e6, ck_t i2, c2, front_eq, bd_some, ck_t i1, ck_t i2, front_eq, bd_some, ck_t i1, f_X13_takeProgram_54, nI_1, c1]
      exact a1
    · by_cases e : q = p
      · subst e
        obtain ⟨b1, b2⟩ := a3 q (by omega)
        rw [b1, b2, up_n (show (42 : Nat) ≠ 43 by omega), up_s, up_s, pk_us, pk_us]
        exact ⟨rfl, rfl⟩
      · obtain ⟨b1, b2⟩ := a2 q (by omega) h2
        rw [b1, b2, up_n (show (42 : Nat) ≠ 43 by omega), up_s, up_s, pk_un (by omega), pk_un (by omega)]
        exact ⟨rfl, rfl⟩
    · obtain ⟨b1, b2⟩ := a3 q (by omega)
      rw [b1, b2, up_n (show (42 : Nat) ≠ 43 by omega), up_s, up_s, pk_un (by omega), pk_un (by omega)]
      exact ⟨rfl, rfl⟩
/-! the marks -/
theorem take365_go {ml : Nat → Nat → Int64} {mi : Nat → Int32} {m : Nat} (hm : m ≤ 1000) (h49 : mi 49 = nI m) : ∀ (d j fu : Nat) (mr : Nat → Nat → Int32), j + d = m → d < fu → ∃ mr', f_X13_takeProgram_365 ml fu mi mr (nI j) = some (mi, mr') ∧ (∀ q, j ≤ q → q < m → mr' 39 q = mr 39 (1000 + q) ∧ mr' 40 q = mr 40 (1000 + q) ∧ mr' 41 q = mr 41 (1000 + q)) ∧ (∀ q, q < j → mr' 39 q = mr 39 q ∧ mr' 40 q = mr 40 q ∧ mr' 41 q = mr 41 q) ∧ ∀ z, z ≠ 39 → z ≠ 40 → z ≠ 41 → mr' z = mr z := by
  intro d
  induction d with
  | zero =>
    intro j fu mr hj hfu
    obtain ⟨fu, rfl⟩ : ∃ m, fu = m + 1 := ⟨fu - 1, by omega⟩
    obtain rfl : j = m := by omega
    refine ⟨mr, ?_, fun q h1 h2 => by omega, fun _ _ => ⟨rfl, rfl, rfl⟩, fun _ _ _ _ => rfl⟩
    rw [f_X13_takeProgram_365, h49, if_pos (nI_le (by omega) (by omega))]
  | succ d ih =>
    intro j fu mr hj hfu
    obtain ⟨fu, rfl⟩ : ∃ m, fu = m + 1 := ⟨fu - 1, by omega⟩
    have e6 : (1000 : Int32) + nI j = nI (1000 + j) := by rw [show (1000 : Int32) = nI 1000 from rfl, nI_add]
    have i1 := inb_nI (n := j) (N := 2000) (by omega) (by omega)
    have i2 := inb_nI (n := 1000 + j) (N := 2000) (by omega) (by omega)
    have c1 : (nI j).toNatClampNeg = j := nI_clamp (by omega)
    have c2 : (nI (1000 + j)).toNatClampNeg = 1000 + j := nI_clamp (by omega)
    obtain ⟨mr', a1, a2, a3, a4⟩ := ih (j + 1) fu (va_up (va_up (va_up mr 39 (upd (mr 39) j (mr 39 (1000 + j)))) 40 (upd (mr 40) j (mr 40 (1000 + j)))) 41 (upd (mr 41) j (mr 41 (1000 + j)))) (by omega) (by omega)
    have u39 : ∀ f g h : Nat → Int32, va_up (va_up (va_up mr 39 f) 40 g) 41 h 39 = f := fun f g h => by rw [up_n (by omega), up_n (by omega), up_s]
    have u40 : ∀ f g h : Nat → Int32, va_up (va_up (va_up mr 39 f) 40 g) 41 h 40 = g := fun f g h => by rw [up_n (by omega), up_s]
    have u41 : ∀ f g h : Nat → Int32, va_up (va_up (va_up mr 39 f) 40 g) 41 h 41 = h := fun f g h => by rw [up_s]
    refine ⟨mr', ?_, fun q h1 h2 => ?_, fun q hq => ?_, fun z z1 z2 z3 => by rw [a4 z z1 z2 z3, up_n z3, up_n z2, up_n z1]⟩
    · rw [f_X13_takeProgram_365, h49, if_neg (nI_ge (by omega) (by omega)), e6, ck_t i2, ck_t i1, ck_t i2, ck_t i1, f_X13_takeProgram_405, e6, ck_t i2, ck_t i1, nI_1, c1, c2, up_n (show (41 : Nat) ≠ 40 by omega), up_n (show (41 : Nat) ≠ 39 by omega)]
      exact a1
    · by_cases e : q = j
      · subst e
        obtain ⟨b1, b2, b3⟩ := a3 q (by omega)
        rw [b1, b2, b3, u39, u40, u41, pk_us, pk_us, pk_us]
        exact ⟨rfl, rfl, rfl⟩
      · obtain ⟨b1, b2, b3⟩ := a2 q (by omega) h2
        rw [b1, b2, b3, u39, u40, u41, pk_un (by omega), pk_un (by omega), pk_un (by omega)]
        exact ⟨rfl, rfl, rfl⟩
    · obtain ⟨b1, b2, b3⟩ := a3 q (by omega)
      rw [b1, b2, b3, u39, u40, u41, pk_un (by omega), pk_un (by omega), pk_un (by omega)]
      exact ⟨rfl, rfl, rfl⟩
/-! a STEP's sums -/
theorem take298_go {ml : Nat → Nat → Int64} {mi : Nat → Int32} {K : (Nat → Int32) → (Nat → Nat → Int32) → Int32 → Option ((Nat → Int32) × (Nat → Nat → Int32))} {s : Nat} (hs : s < 60) : ∀ (d w fu : Nat) (mr : Nat → Nat → Int32), w + d = 4 → d < fu → ∃ mr', f_X13_takeProgram_298 ml K fu mi mr (nI s) (nI (60 + s)) (nI w) = K mi mr' (nI (s + 1)) ∧ (∀ v, w ≤ v → v < 4 → mr' 34 (4 * s + v) = mr 34 (240 + (4 * s + v)) - 1000 ∧ mr' 35 (4 * s + v) = mr 35 (240 + (4 * s + v)) - 1000) ∧ (∀ j, j < 4 * s + w ∨ 4 * s + 3 < j → mr' 34 j = mr 34 j ∧ mr' 35 j = mr 35 j) ∧ ∀ z, z ≠ 34 → z ≠ 35 → mr' z = mr z := by
  intro d
  induction d with
  | zero =>
    intro w fu mr hw hfu
    obtain ⟨fu, rfl⟩ : ∃ m, fu = m + 1 := ⟨fu - 1, by omega⟩
    obtain rfl : w = 4 := by omega
    refine ⟨mr, ?_, fun v h1 h2 => by omega, fun _ _ => ⟨rfl, rfl⟩, fun _ _ _ => rfl⟩
    rw [f_X13_takeProgram_298, if_pos (show (4 : Int32) ≤ nI 4 by decide), nI_1]
  | succ d ih =>
    intro w fu mr hw hfu
    obtain ⟨fu, rfl⟩ : ∃ m, fu = m + 1 := ⟨fu - 1, by omega⟩
    have i1 := inb_nI (n := 4 * s + w) (N := 480) (by omega) (by omega)
    have i2 := inb_nI (n := 4 * (60 + s) + w) (N := 480) (by omega) (by omega)
    have c1 : (nI (4 * s + w)).toNatClampNeg = 4 * s + w := nI_clamp (by omega)
    have c2 : (nI (4 * (60 + s) + w)).toNatClampNeg = 240 + (4 * s + w) := by rw [nI_clamp (by omega)]; omega
    obtain ⟨mr', a1, a2, a3, a4⟩ := ih (w + 1) fu (va_up (va_up mr 34 (upd (mr 34) (4 * s + w) (mr 34 (240 + (4 * s + w)) - 1000))) 35 (upd (mr 35) (4 * s + w) (mr 35 (240 + (4 * s + w)) - 1000))) (by omega) (by omega)
    refine ⟨mr', ?_, fun q h1 h2 => ?_, fun q hq => ?_, fun z z1 z2 => by rw [a4 z z1 z2, up_n z2, up_n z1]⟩
    · rw [f_X13_takeProgram_298, if_neg (show ¬ (4 : Int32) ≤ nI w from nI_ge (b := 4) (by omega) (by omega)), mul4, mul4, ck_t i2, ck_t i1, ck_t i2, ck_t i1, f_X13_takeProgram_351, nI_1, c1, c2]
      exact a1
    · by_cases e : q = w
      · subst e
        obtain ⟨b1, b2⟩ := a3 (4 * s + q) (by omega)
        rw [b1, b2, up_n (show (34 : Nat) ≠ 35 by omega), up_s, up_s, pk_us, pk_us]
        exact ⟨rfl, rfl⟩
      · obtain ⟨b1, b2⟩ := a2 q (by omega) h2
        rw [b1, b2, up_n (show (34 : Nat) ≠ 35 by omega), up_s, up_s, pk_un (by omega), pk_un (by omega)]
        exact ⟨rfl, rfl⟩
    · obtain ⟨b1, b2⟩ := a3 q (by omega)
      rw [b1, b2, up_n (show (34 : Nat) ≠ 35 by omega), up_s, up_s, pk_un (by omega), pk_un (by omega)]
      exact ⟨rfl, rfl⟩
/-! a STEP's variables, tests and bodies -/
theorem take176 {ml : Nat → Nat → Int64} {mi : Nat → Int32} {K : (Nat → Int32) → (Nat → Nat → Int32) → Int32 → Option ((Nat → Int32) × (Nat → Nat → Int32))} {J : (Nat → Int32) → (Nat → Nat → Int32) → Int32 → Int32 → Int32 → Option ((Nat → Int32) × (Nat → Nat → Int32))} {s w x : Nat} (hs : s < 60) (hw : w < 2) (hx : x < 8) (r : Nat → Nat → Int32) (h28 : r 28 s = nI x) : ∃ r', f_X13_takeProgram_176 ml K J mi r (nI s) (nI (60 + s)) (nI w) = J mi r' (nI s) (nI (60 + s)) (nI (w + 1)) ∧ r' 36 = upd (r 36) (2 * s + w) (r 36 (120 + (2 * s + w))) ∧ r' 37 = upd (r 37) (2 * s + w) (if x = 4 ∨ x = 5 then fr60 (r 37 (120 + (2 * s + w))) else -1) ∧ r' 38 = upd (r 38) (2 * s + w) (if x = 4 ∨ x = 5 then fr60 (r 38 (120 + (2 * s + w))) else -1) ∧ ∀ z, z ≠ 36 → z ≠ 37 → z ≠ 38 → r' z = r z := by
  have i0 := inb_nI (n := s) (N := 120) (by omega) (by omega)
  have i1 := inb_nI (n := 2 * s + w) (N := 240) (by omega) (by omega)
  have i2 := inb_nI (n := 2 * (60 + s) + w) (N := 240) (by omega) (by omega)
  have c0 : (nI s).toNatClampNeg = s := nI_clamp (by omega)
  have c1 : (nI (2 * s + w)).toNatClampNeg = 2 * s + w := nI_clamp (by omega)
  have c2 : (nI (2 * (60 + s) + w)).toNatClampNeg = 120 + (2 * s + w) := by rw [nI_clamp (by omega)]; omega
  have h4 : ∀ y : Nat, y < 8 → ((nI x = nI y) ↔ x = y) := fun y hy => ⟨nI_inj (by omega) (by omega), fun e => by rw [e]⟩
  have q4 : (nI x = (4 : Int32)) ↔ x = 4 := h4 4 (by omega)
  have q5 : (nI x = (5 : Int32)) ↔ x = 5 := h4 5 (by omega)
  -- the last write
  have h289 : ∀ (r : Nat → Nat → Int32) (y : Int32), f_X13_takeProgram_289 ml K J mi r (nI s) (nI (60 + s)) (nI w) y (nI (2 * s + w)) = J mi (va_up r 38 (upd (r 38) (2 * s + w) y)) (nI s) (nI (60 + s)) (nI (w + 1)) := fun r y => by
    rw [f_X13_takeProgram_289, ck_t i1, c1, nI_1]
  have h242 : ∀ (r : Nat → Nat → Int32) (y : Int32), r 28 s = nI x → f_X13_takeProgram_242 ml K J mi r (nI s) (nI (60 + s)) (nI w) y (nI (2 * s + w)) = J mi (va_up (va_up r 37 (upd (r 37) (2 * s + w) y)) 38 (upd (r 38) (2 * s + w) (if x = 4 ∨ x = 5 then fr60 (r 38 (120 + (2 * s + w))) else -1))) (nI s) (nI (60 + s)) (nI (w + 1)) := fun r y hr => by
    have hA : f_X13_takeProgram_272 ml K J mi (va_up r 37 (upd (r 37) (2 * s + w) y)) (nI s) (nI (60 + s)) (nI w) (nI (2 * s + w)) = J mi (va_up (va_up r 37 (upd (r 37) (2 * s + w) y)) 38 (upd (r 38) (2 * s + w) (fr60 (r 38 (120 + (2 * s + w)))))) (nI s) (nI (60 + s)) (nI (w + 1)) := by
      rw [f_X13_takeProgram_272, mul2, ck_t i2, c2, front_eq, bd_some, h289, up_n (show (38 : Nat) ≠ 37 by omega)]
    have hB : f_X13_takeProgram_289 ml K J mi (va_up r 37 (upd (r 37) (2 * s + w) y)) (nI s) (nI (60 + s)) (nI w) (-1) (nI (2 * s + w)) = J mi (va_up (va_up r 37 (upd (r 37) (2 * s + w) y)) 38 (upd (r 38) (2 * s + w) (-1))) (nI s) (nI (60 + s)) (nI (w + 1)) := by
      rw [h289, up_n (show (38 : Nat) ≠ 37 by omega)]
    rw [f_X13_takeProgram_242, ck_t i1, ck_t i0, ck_t i0, c0, c1, hr, mul2, hA, hB]
    by_cases e4 : x = 4
    · rw [if_pos (q4.mpr e4), if_pos (Or.inl e4)]
    · rw [if_neg (fun z => e4 (q4.mp z))]
      by_cases e5 : x = 5
      · rw [if_pos (q5.mpr e5), if_pos (Or.inr e5)]
      · rw [if_neg (fun z => e5 (q5.mp z)), if_neg (fun z => by omega)]
  have g1 : ∀ f : Nat → Int32, va_up r 36 f 28 s = nI x := fun f => by rw [up_n (by omega)]; exact h28
  refine ⟨va_up (va_up (va_up r 36 (upd (r 36) (2 * s + w) (r 36 (120 + (2 * s + w))))) 37 (upd (r 37) (2 * s + w) (if x = 4 ∨ x = 5 then fr60 (r 37 (120 + (2 * s + w))) else -1))) 38 (upd (r 38) (2 * s + w) (if x = 4 ∨ x = 5 then fr60 (r 38 (120 + (2 * s + w))) else -1)), ?_, by rw [up_n (by omega), up_n (by omega), up_s], by rw [up_n (by omega), up_s], by rw [up_s], fun z z1 z2 z3 => by rw [up_n z3, up_n z2, up_n z1]⟩
  have hA : ∀ f : Nat → Int32, f_X13_takeProgram_225 ml K J mi (va_up r 36 f) (nI s) (nI (60 + s)) (nI w) (nI (2 * s + w)) = f_X13_takeProgram_242 ml K J mi (va_up r 36 f) (nI s) (nI (60 + s)) (nI w) (fr60 (r 37 (120 + (2 * s + w)))) (nI (2 * s + w)) := fun f => by
    rw [f_X13_takeProgram_225, mul2, ck_t i2, c2, front_eq, bd_some, up_n (show (37 : Nat) ≠ 36 by omega)]
  rw [f_X13_takeProgram_176, mul2, mul2, ck_t i2, ck_t i1, ck_t i0, ck_t i0, c0, c1, c2, h28, hA, h242 _ _ (g1 _), h242 _ _ (g1 _), up_n (show (37 : Nat) ≠ 36 by omega), up_n (show (38 : Nat) ≠ 36 by omega)]
  by_cases e4 : x = 4
  · rw [if_pos (q4.mpr e4), if_pos (Or.inl e4), if_pos (Or.inl e4)]
  · rw [if_neg (fun z => e4 (q4.mp z))]
    by_cases e5 : x = 5
    · rw [if_pos (q5.mpr e5), if_pos (Or.inr e5), if_pos (Or.inr e5)]
    · rw [if_neg (fun z => e5 (q5.mp z)), if_neg (fun z => by omega), if_neg (fun z => by omega)]
