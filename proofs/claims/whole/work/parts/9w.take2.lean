theorem take131_go {ml : Nat → Nat → Int64} {mi : Nat → Int32} {K : (Nat → Int32) → (Nat → Nat → Int32) → Int32 → Option ((Nat → Int32) × (Nat → Nat → Int32))} {s x : Nat} (hs : s < 60) (hx : x < 8) : ∀ (d w fu : Nat) (r : Nat → Nat → Int32), w + d = 2 → d < fu → r 28 s = nI x → ∃ r', f_X13_takeProgram_131 ml K fu mi r (nI s) (nI (60 + s)) (nI w) = f_X13_takeProgram_298 ml K 2000000 mi r' (nI s) (nI (60 + s)) 0 ∧ (∀ v, w ≤ v → v < 2 → r' 32 (2 * s + v) = r 32 (120 + (2 * s + v)) ∧ r' 33 (2 * s + v) = r 33 (120 + (2 * s + v)) ∧ r' 36 (2 * s + v) = r 36 (120 + (2 * s + v)) ∧ (x = 4 ∨ x = 5 → r' 37 (2 * s + v) = fr60 (r 37 (120 + (2 * s + v))) ∧ r' 38 (2 * s + v) = fr60 (r 38 (120 + (2 * s + v))))) ∧ (∀ j, j < 2 * s + w ∨ 2 * s + 1 < j → r' 32 j = r 32 j ∧ r' 33 j = r 33 j ∧ r' 36 j = r 36 j ∧ r' 37 j = r 37 j ∧ r' 38 j = r 38 j) ∧ ∀ z, z < 32 ∨ z = 34 ∨ z = 35 ∨ 38 < z → r' z = r z := by
  intro d
  induction d with
  | zero =>
    intro w fu r hw hfu h28
    obtain ⟨fu, rfl⟩ : ∃ m, fu = m + 1 := ⟨fu - 1, by omega⟩
    obtain rfl : w = 2 := by omega
    refine ⟨r, ?_, fun v h1 h2 => by omega, fun _ _ => ⟨rfl, rfl, rfl, rfl, rfl⟩, fun _ _ => rfl⟩
    rw [f_X13_takeProgram_131, if_pos (show (2 : Int32) ≤ nI 2 by decide)]
  | succ d ih =>
    intro w fu r hw hfu h28
    obtain ⟨fu, rfl⟩ : ∃ m, fu = m + 1 := ⟨fu - 1, by omega⟩
    have i1 := inb_nI (n := 2 * s + w) (N := 240) (by omega) (by omega)
    have i2 := inb_nI (n := 2 * (60 + s) + w) (N := 240) (by omega) (by omega)
    have c1 : (nI (2 * s + w)).toNatClampNeg = 2 * s + w := nI_clamp (by omega)
    have c2 : (nI (2 * (60 + s) + w)).toNatClampNeg = 120 + (2 * s + w) := by rw [nI_clamp (by omega)]; omega
    obtain ⟨r1, b1, b2, b3, b4, b5⟩ := take176 (ml := ml) (mi := mi) (K := K) (J := f_X13_takeProgram_131 ml K fu) (w := w) hs (by omega) hx (va_up (va_up r 32 (upd (r 32) (2 * s + w) (r 32 (120 + (2 * s + w))))) 33 (upd (r 33) (2 * s + w) (r 33 (120 + (2 * s + w))))) (by rw [up_n (by omega), up_n (by omega)]; exact h28)
    rw [up_n (show (36 : Nat) ≠ 33 by omega), up_n (show (36 : Nat) ≠ 32 by omega)] at b2
    rw [up_n (show (37 : Nat) ≠ 33 by omega), up_n (show (37 : Nat) ≠ 32 by omega)] at b3
    rw [up_n (show (38 : Nat) ≠ 33 by omega), up_n (show (38 : Nat) ≠ 32 by omega)] at b4
    have b32 : r1 32 = upd (r 32) (2 * s + w) (r 32 (120 + (2 * s + w))) := by rw [b5 32 (by omega) (by omega) (by omega), up_n (by omega), up_s]
    have b33 : r1 33 = upd (r 33) (2 * s + w) (r 33 (120 + (2 * s + w))) := by rw [b5 33 (by omega) (by omega) (by omega), up_s]
    have b6 : ∀ z, z < 32 ∨ z = 34 ∨ z = 35 ∨ 38 < z → r1 z = r z := fun z hz => by rw [b5 z (by omega) (by omega) (by omega), up_n (by omega), up_n (by omega)]
    obtain ⟨r', a1, a2, a3, a4⟩ := ih (w + 1) fu r1 (by omega) (by omega) (by rw [b6 28 (by omega)]; exact h28)
    rw [b32, b33, b2, b3, b4] at a2 a3
    refine ⟨r', ?_, fun v h1 h2 => ?_, fun j hj => ?_, fun z hz => (a4 z hz).trans (b6 z hz)⟩
    · rw [f_X13_takeProgram_131, if_neg (show ¬ (2 : Int32) ≤ nI w from nI_ge (b := 2) (by omega) (by omega)), mul2, mul2, ck_t i2, ck_t i1, ck_t i2, ck_t i1, c1, c2, b1]
      exact a1
    · by_cases e : v = w
      · subst e
        obtain ⟨d1, d2, d3, d4, d5⟩ := a3 (2 * s + v) (by omega)
        rw [d1, d2, d3, d4, d5, pk_us, pk_us, pk_us, pk_us, pk_us]
        exact ⟨rfl, rfl, rfl, fun q => by rw [if_pos q, if_pos q]; exact ⟨rfl, rfl⟩⟩
      · obtain ⟨d1, d2, d3, d4⟩ := a2 v (by omega) h2
        rw [pk_un (by omega)] at d1 d2 d3
        refine ⟨d1, d2, d3, fun q => ?_⟩
        have := d4 q
        rw [pk_un (by omega), pk_un (by omega)] at this
        exact this
    · obtain ⟨d1, d2, d3, d4, d5⟩ := a3 j (by omega)
      rw [pk_un (by omega)] at d1 d2 d3 d4 d5
      exact ⟨d1, d2, d3, d4, d5⟩
def NT (s : Nat) (r r' : Nat → Nat → Int32) : Prop := r' 28 s = r 28 (60 + s) ∧ r' 29 s = fr60 (r 29 (60 + s)) ∧ r' 30 s = fr60 (r 30 (60 + s)) ∧ r' 31 s = r 31 (60 + s) ∧ (∀ w, w < 2 → r' 32 (2 * s + w) = r 32 (120 + (2 * s + w)) ∧ r' 33 (2 * s + w) = r 33 (120 + (2 * s + w)) ∧ r' 36 (2 * s + w) = r 36 (120 + (2 * s + w)) ∧ (r 28 (60 + s) = 4 ∨ r 28 (60 + s) = 5 → r' 37 (2 * s + w) = fr60 (r 37 (120 + (2 * s + w))) ∧ r' 38 (2 * s + w) = fr60 (r 38 (120 + (2 * s + w))))) ∧ ∀ w, w < 4 → r' 34 (4 * s + w) = r 34 (240 + (4 * s + w)) - 1000 ∧ r' 35 (4 * s + w) = r 35 (240 + (4 * s + w)) - 1000
def FN (a e : Nat) (r r' : Nat → Nat → Int32) : Prop := (∀ j, j < a ∨ e ≤ j → r' 28 j = r 28 j ∧ r' 29 j = r 29 j ∧ r' 30 j = r 30 j ∧ r' 31 j = r 31 j) ∧ (∀ j, j < 2 * a ∨ 2 * e ≤ j → r' 32 j = r 32 j ∧ r' 33 j = r 33 j ∧ r' 36 j = r 36 j ∧ r' 37 j = r 37 j ∧ r' 38 j = r 38 j) ∧ (∀ j, j < 4 * a ∨ 4 * e ≤ j → r' 34 j = r 34 j ∧ r' 35 j = r 35 j) ∧ ∀ z, z < 28 ∨ 38 < z → r' z = r z
theorem take_node {ml : Nat → Nat → Int64} {mi : Nat → Int32} {s n x fu : Nat} (hs : s < n) (hn : n ≤ 60) (hx : x < 8) (h48 : mi 48 = nI n) (r : Nat → Nat → Int32) (h28 : r 28 (60 + s) = nI x) : ∃ r', f_X13_takeProgram_62 ml (fu + 1) mi r (nI s) = f_X13_takeProgram_62 ml fu mi r' (nI (s + 1)) ∧ NT s r r' ∧ FN s (s + 1) r r' := by
  have e6 : (60 : Int32) + nI s = nI (60 + s) := by rw [show (60 : Int32) = nI 60 from rfl, nI_add]
  have i1 := inb_nI (n := s) (N := 120) (by omega) (by omega)
  have i2 := inb_nI (n := 60 + s) (N := 120) (by omega) (by omega)
  have c1 : (nI s).toNatClampNeg = s := nI_clamp (by omega)
  have c2 : (nI (60 + s)).toNatClampNeg = 60 + s := nI_clamp (by omega)
  -- the four own cells
  obtain ⟨q, hq⟩ : ∃ q : Nat → Nat → Int32, q = va_up (va_up (va_up (va_up r 28 (upd (r 28) s (r 28 (60 + s)))) 29 (upd (r 29) s (fr60 (r 29 (60 + s))))) 30 (upd (r 30) s (fr60 (r 30 (60 + s))))) 31 (upd (r 31) s (r 31 (60 + s))) := ⟨_, rfl⟩
  have g28 : q 28 = upd (r 28) s (r 28 (60 + s)) := by rw [hq, up_n (by omega), up_n (by omega), up_n (by omega), up_s]
  have g29 : q 29 = upd (r 29) s (fr60 (r 29 (60 + s))) := by rw [hq, up_n (by omega), up_n (by omega), up_s]
  have g30 : q 30 = upd (r 30) s (fr60 (r 30 (60 + s))) := by rw [hq, up_n (by omega), up_s]
  have g31 : q 31 = upd (r 31) s (r 31 (60 + s)) := by rw [hq, up_s]
  have gz : ∀ z, z < 28 ∨ 31 < z → q z = r z := fun z hz => by rw [hq, up_n (by omega), up_n (by omega), up_n (by omega), up_n (by omega)]
  obtain ⟨r1, a1, a2, a3, a4⟩ := take131_go (ml := ml) (mi := mi) (K := f_X13_takeProgram_62 ml fu) (s := s) (by omega) hx 2 0 2000000 q (by omega) (by omega) (by rw [g28, pk_us]; exact h28)
  obtain ⟨r2, b1, b2, b3, b4⟩ := take298_go (ml := ml) (mi := mi) (K := f_X13_takeProgram_62 ml fu) (s := s) (by omega) 4 0 2000000 r1 (by omega) (by omega)
  have w32 := gz 32 (by omega)
  have w33 := gz 33 (by omega)
  have w34 := gz 34 (by omega)
  have w35 := gz 35 (by omega)
  have w36 := gz 36 (by omega)
  have w37 := gz 37 (by omega)
  have w38 := gz 38 (by omega)
  have v34 := a4 34 (by omega)
  have v35 := a4 35 (by omega)
  rw [w32, w33, w36, w37, w38] at a2 a3
  rw [v34, v35, w34, w35] at b2 b3
  have f28 : ∀ z, 28 ≤ z → z ≤ 31 → r2 z = q z := fun z h1 h2 => by rw [b4 z (by omega) (by omega), a4 z (by omega)]
  refine ⟨r2, ?_, ⟨?_, ?_, ?_, ?_, fun w hw => ?_, fun w hw => b2 w (by omega) hw⟩, ⟨fun j hj => ?_, fun j hj => ?_, fun j hj => b3 j (by omega), fun z hz => ?_⟩⟩
  · rw [f_X13_takeProgram_62, h48, if_neg (nI_ge (by omega) (by omega)), e6, ck_t i2, ck_t i1, ck_t i2, c2, front_eq, bd_some, ck_t i1, f_X13_takeProgram_102, ck_t i2, c1, c2, up_n (show (30 : Nat) ≠ 29 by omega), up_n (show (30 : Nat) ≠ 28 by omega), front_eq, bd_some, ck_t i1, ck_t i2, ck_t i1, up_n (show (31 : Nat) ≠ 29 by omega), up_n (show (31 : Nat) ≠ 28 by omega), f_X13_takeProgram_129, ← hq]
    exact a1.trans b1
  · rw [f28 28 (by omega) (by omega), g28, pk_us]
  · rw [f28 29 (by omega) (by omega), g29, pk_us]
  · rw [f28 30 (by omega) (by omega), g30, pk_us]
  · rw [f28 31 (by omega) (by omega), g31, pk_us]
  · obtain ⟨d1, d2, d3, d4⟩ := a2 w (by omega) hw
    rw [b4 32 (by omega) (by omega), b4 33 (by omega) (by omega), b4 36 (by omega) (by omega), b4 37 (by omega) (by omega), b4 38 (by omega) (by omega)]
    refine ⟨d1, d2, d3, fun e => d4 ?_⟩
    rw [h28] at e
    rcases e with e | e
    · exact Or.inl (nI_inj (a := x) (b := 4) (by omega) (by omega) e)
    · exact Or.inr (nI_inj (a := x) (b := 5) (by omega) (by omega) e)
  · rw [f28 28 (by omega) (by omega), g28, f28 29 (by omega) (by omega), g29, f28 30 (by omega) (by omega), g30, f28 31 (by omega) (by omega), g31, pk_un (by omega), pk_un (by omega), pk_un (by omega), pk_un (by omega)]
    exact ⟨rfl, rfl, rfl, rfl⟩
  · rw [b4 32 (by omega) (by omega), b4 33 (by omega) (by omega), b4 36 (by omega) (by omega), b4 37 (by omega) (by omega), b4 38 (by omega) (by omega)]
    exact a3 j (by omega)
  · rw [b4 z (by omega) (by omega), a4 z (by omega), gz z (by omega)]
theorem take62_go {ml : Nat → Nat → Int64} {mi : Nat → Int32} {n : Nat} (hn : n ≤ 60) (h48 : mi 48 = nI n) : ∀ (d s fu : Nat) (r : Nat → Nat → Int32), s + d = n → d < fu → (∀ t, s ≤ t → t < n → ∃ x, x < 8 ∧ r 28 (60 + t) = nI x) → ∃ r', f_X13_takeProgram_62 ml fu mi r (nI s) = f_X13_takeProgram_365 ml 2000000 mi r' 0 ∧ (∀ t, s ≤ t → t < n → NT t r r') ∧ FN s n r r' := by
  intro d
  induction d with
  | zero =>
    intro s fu r hs hfu hk
    obtain ⟨fu, rfl⟩ : ∃ m, fu = m + 1 := ⟨fu - 1, by omega⟩
    obtain rfl : s = n := by omega
    refine ⟨r, ?_, fun t h1 h2 => by omega, fun _ _ => ⟨rfl, rfl, rfl, rfl⟩, fun _ _ => ⟨rfl, rfl, rfl, rfl, rfl⟩, fun _ _ => ⟨rfl, rfl⟩, fun _ _ => rfl⟩
    rw [f_X13_takeProgram_62, h48, if_pos (nI_le (by omega) (by omega))]
  | succ d ih =>
    intro s fu r hs hfu hk
    obtain ⟨fu, rfl⟩ : ∃ m, fu = m + 1 := ⟨fu - 1, by omega⟩
    obtain ⟨x, hx, k28⟩ := hk s (by omega) (by omega)
    obtain ⟨r1, a1, a2, a3, a4, a5, a6⟩ := take_node (ml := ml) (fu := fu) (show s < n by omega) hn hx h48 r k28
    obtain ⟨r', b1, b2, b3, b4, b5, b6⟩ := ih (s + 1) fu r1 (by omega) (by omega) (fun t h1 h2 => by rw [(a3 (60 + t) (by omega)).1]; exact hk t (by omega) h2)
    refine ⟨r', a1.trans b1, fun t h1 h2 => ?_, fun j hj => ?_, fun j hj => ?_, fun j hj => ?_, fun z hz => (b6 z hz).trans (a6 z hz)⟩
    · by_cases e : t = s
      · subst e
        obtain ⟨c1, c2, c3, c4, c5, c6⟩ := a2
        obtain ⟨d1, d2, d3, d4⟩ := b3 t (by omega)
        refine ⟨d1.trans c1, d2.trans c2, d3.trans c3, d4.trans c4, fun w hw => ?_, fun w hw => ?_⟩
        · obtain ⟨u1, u2, u3, u4⟩ := c5 w hw
          obtain ⟨v1, v2, v3, v4, v5⟩ := b4 (2 * t + w) (by omega)
          exact ⟨v1.trans u1, v2.trans u2, v3.trans u3, fun q => ⟨v4.trans (u4 q).1, v5.trans (u4 q).2⟩⟩
        · obtain ⟨u1, u2⟩ := c6 w hw
          obtain ⟨v1, v2⟩ := b5 (4 * t + w) (by omega)
          exact ⟨v1.trans u1, v2.trans u2⟩
      · obtain ⟨c1, c2, c3, c4, c5, c6⟩ := b2 t (by omega) h2
        obtain ⟨d1, d2, d3, d4⟩ := a3 (60 + t) (by omega)
        rw [d1] at c1
        rw [d2] at c2
        rw [d3] at c3
        rw [d4] at c4
        refine ⟨c1, c2, c3, c4, fun w hw => ?_, fun w hw => ?_⟩
        · obtain ⟨u1, u2, u3, u4⟩ := c5 w hw
          obtain ⟨v1, v2, v3, v4, v5⟩ := a4 (120 + (2 * t + w)) (by omega)
          rw [d1, v4, v5] at u4
          exact ⟨u1.trans v1, u2.trans v2, u3.trans v3, u4⟩
        · obtain ⟨u1, u2⟩ := c6 w hw
          obtain ⟨v1, v2⟩ := a5 (240 + (4 * t + w)) (by omega)
          rw [v1] at u1
          rw [v2] at u2
          exact ⟨u1, u2⟩
    · obtain ⟨d1, d2, d3, d4⟩ := a3 j (by omega)
      obtain ⟨c1, c2, c3, c4⟩ := b3 j (by omega)
      exact ⟨c1.trans d1, c2.trans d2, c3.trans d3, c4.trans d4⟩
    · obtain ⟨d1, d2, d3, d4, d5⟩ := a4 j (by omega)
      obtain ⟨c1, c2, c3, c4, c5⟩ := b4 j (by omega)
      exact ⟨c1.trans d1, c2.trans d2, c3.trans d3, c4.trans d4, c5.trans d5⟩
    · obtain ⟨d1, d2⟩ := a5 j (by omega)
      obtain ⟨c1, c2⟩ := b5 j (by omega)
      exact ⟨c1.trans d1, c2.trans d2⟩
/-- the whole copying -/
theorem takeP_ok {ml : Nat → Nat → Int64} {mi : Nat → Int32} {n P m : Nat} (hn : n ≤ 60) (hP : P ≤ 6) (hm : m ≤ 1000) (h47 : mi 47 = nI P) (h48 : mi 48 = nI n) (h49 : mi 49 = nI m) (r : Nat → Nat → Int32) (hk : ∀ t, t < n → ∃ x, x < 8 ∧ r 28 (60 + t) = nI x) : ∃ r', f_X13_takeProgram mi r ml = some (upd mi 46 (nI P), r') ∧ (∀ t, t < n → NT t r r') ∧ (∀ p, p < P → r' 42 p = fr60 (r 42 (6 + p)) ∧ r' 43 p = fr60 (r 43 (6 + p))) ∧ (∀ j, j < m → r' 39 j = r 39 (1000 + j) ∧ r' 40 j = r 40 (1000 + j) ∧ r' 41 j = r 41 (1000 + j)) ∧ ∀ z, z < 28 ∨ 43 < z → r' z = r z := by
  have g : ∀ z, z ≠ 46 → upd mi 46 (nI P) z = mi z := fun z hz => pk_un hz
  obtain ⟨r1, a1, a2, a3, a4⟩ := take10_go (ml := ml) (mi := upd mi 46 (nI P)) hP pk_us P 0 2000000 r (by omega) (by omega)
  obtain ⟨r2, b1, b2, b3, b4, b5, b6⟩ := take62_go (ml := ml) (mi := upd mi 46 (nI P)) hn ((g 48 (by omega)).trans h48) n 0 2000000 r1 (by omega) (by omega) (fun t h1 h2 => by rw [a4 28 (by omega) (by omega)]; exact hk t h2)
  obtain ⟨r3, c1, c2, c3, c4⟩ := take365_go (ml := ml) (mi := upd mi 46 (nI P)) hm ((g 49 (by omega)).trans h49) m 0 2000000 r2 (by omega) (by omega)
  refine ⟨r3, ?_, fun t ht => ?_, fun p hp => ?_, fun j hj => ?_, fun z hz => ?_⟩
  · rw [f_X13_takeProgram, h47]
    exact a1.trans (b1.trans c1)
  · have := b2 t (by omega) ht
    unfold NT at this ⊢
    rw [c4 28 (by omega) (by omega) (by omega), c4 29 (by omega) (by omega) (by omega), c4 30 (by omega) (by omega) (by omega), c4 31 (by omega) (by omega) (by omega), c4 32 (by omega) (by omega) (by omega), c4 33 (by omega) (by omega) (by omega), c4 34 (by omega) (by omega) (by omega), c4 35 (by omega) (by omega) (by omega), c4 36 (by omega) (by omega) (by omega), c4 37 (by omega) (by omega) (by omega), c4 38 (by omega) (by omega) (by omega)]
    rw [a4 28 (by omega) (by omega), a4 29 (by omega) (by omega), a4 30 (by omega) (by omega), a4 31 (by omega) (by omega), a4 32 (by omega) (by omega), a4 33 (by omega) (by omega), a4 34 (by omega) (by omega), a4 35 (by omega) (by omega), a4 36 (by omega) (by omega), a4 37 (by omega) (by omega), a4 38 (by omega) (by omega)] at this
    exact this
  · rw [c4 42 (by omega) (by omega) (by omega), c4 43 (by omega) (by omega) (by omega), b6 42 (by omega), b6 43 (by omega)]
    exact a2 p (by omega) hp
  · obtain ⟨d1, d2, d3⟩ := c2 j (by omega) hj
    rw [b6 39 (by omega), a4 39 (by omega) (by omega)] at d1
    rw [b6 40 (by omega), a4 40 (by omega) (by omega)] at d2
    rw [b6 41 (by omega), a4 41 (by omega) (by omega)] at d3
    exact ⟨d1, d2, d3⟩
  · rw [c4 z (by omega) (by omega) (by omega), b6 z (by omega), a4 z (by omega) (by omega)]
