/-! ===== CELLS: the reference's side ===== -/
theorem mt_congr {P : Nat} {f g : Nat → Bool} (h : ∀ k, k < 4 → f k = g k) {w : Nat} (hw : w < 4) : mt P f w = mt P g w := by
  have s1 : s1w w < 4 := by unfold s1w; split <;> (try split) <;> (try split) <;> omega
  have s2 : s2w w < 4 := by unfold s2w; split <;> (try split) <;> (try split) <;> omega
  unfold mt
  rw [h 0 (by omega), h 1 (by omega), h 2 (by omega), h 3 (by omega), h w hw, h _ s1, h _ s2]
theorem turn_free {i i' : Nat → Int32} {r r' : Nat → Nat → Int32} {l l' : Nat → Nat → Int64} : ∀ (n : Nat) (x1 x2 x3 x4 : Int32), f_X13_turn_31 i r l n x1 x2 x3 x4 = f_X13_turn_31 i' r' l' n x1 x2 x3 x4
  | 0, _, _, _, _ => rfl
  | n + 1, x1, x2, x3, x4 => by
    simp only [f_X13_turn_31, f_X13_turn_65, f_X13_turn_68, turn_free (i := i) (i' := i') (r := r) (r' := r') (l := l) (l' := l') n]
theorem turn_dec : ∀ (v : Fin 16) (P : Fin 3), f_X13_turn (fun _ => 0) (fun _ _ => 0) (fun _ _ => 0) (nI P.val) (nI v.val) = some (nI (pkB (mt P.val (fun w => v.val.testBit w)) 4)) := by decide +kernel
theorem turnC_ok {i : Nat → Int32} {r : Nat → Nat → Int32} {l : Nat → Nat → Int64} {P : Nat} (hP : P < 3) (a : Nat → Bool) : f_X13_turn i r l (nI P) (nI (pkB a 4)) = some (nI (pkB (mt P a) 4)) := by
  have h := turn_dec ⟨pkB a 4, pkB_lt a 4⟩ ⟨P, hP⟩
  have e : f_X13_turn i r l (nI P) (nI (pkB a 4)) = f_X13_turn (fun _ => 0) (fun _ _ => 0) (fun _ _ => 0) (nI P) (nI (pkB a 4)) := by
    unfold f_X13_turn
    rw [turn_free (i := i) (i' := fun _ => 0) (r := r) (r' := fun _ _ => 0) (l := l) (l' := fun _ _ => 0)]
  rw [e, h]
  refine congrArg (fun v => some (nI v)) (pkB_congr (fun w hw => mt_congr (fun k hk => ?_) hw))
  show (pkB a 4).testBit k = a k
  rw [pkB_bit]
  simp [hk]
theorem isCell_eq {mi : Nat → Int32} {mr : Nat → Nat → Int32} {ml : Nat → Nat → Int64} {W H : Nat} (hW1 : 1 ≤ W) (hW : W ≤ 10) (hH1 : 1 ≤ H) (hH : H ≤ 10) (h64 : mi 64 = nI W) (h65 : mi 65 = nI H) (X Y : Int32) : f_X13_isCell mi mr ml X Y = some (if (0 ≤ X.toInt ∧ X.toInt < W) ∧ (0 ≤ Y.toInt ∧ Y.toInt < H) then 1 else 0) := by
  have e1 : (nI W).toInt64 - 1 = lN (W - 1) := by rw [nI_l (by omega), show (1 : Int64) = lN 1 from rfl, lN_sub (by omega)]
  have e2 : (nI H).toInt64 - 1 = lN (H - 1) := by rw [nI_l (by omega), show (1 : Int64) = lN 1 from rfl, lN_sub (by omega)]
  rw [f_X13_isCell, h64, h65, e1, e2, f_in, bd_some, f_in, i2l_toInt, i2l_toInt, z64, pk_lT (by omega), pk_lT (by omega)]
  by_cases c1 : 0 ≤ X.toInt ∧ X.toInt < W
  · rw [if_pos (show 0 ≤ X.toInt ∧ X.toInt ≤ ((W - 1 : Nat) : Int) by omega), if_neg n10, bd_some]
    by_cases c2 : 0 ≤ Y.toInt ∧ Y.toInt < H
    · rw [if_pos (show 0 ≤ Y.toInt ∧ Y.toInt ≤ ((H - 1 : Nat) : Int) by omega), if_neg n10, if_pos ⟨c1, c2⟩]
    · rw [if_neg (show ¬ (0 ≤ Y.toInt ∧ Y.toInt ≤ ((H - 1 : Nat) : Int)) by omega), if_pos rfl, if_neg (fun q => c2 q.2)]
  · rw [if_neg (show ¬ (0 ≤ X.toInt ∧ X.toInt ≤ ((W - 1 : Nat) : Int)) by omega), if_pos rfl, if_neg (fun q => c1 q.1)]
theorem hasNo_eq {i : Nat → Int32} {r : Nat → Nat → Int32} {W H : Nat} (hW : W ≤ 10) (hH : H ≤ 10) (h3 : i 3 = nI W) (h4 : i 4 = nI H) (X Y : Int32) : f_X0_hasNoCell i r X Y = some (if (0 ≤ X.toInt ∧ X.toInt < W) ∧ (0 ≤ Y.toInt ∧ Y.toInt < H) then 0 else 1) := by
  rw [f_X0_hasNoCell, h3, h4]
  simp only [lt32, le32, z32, nI_toInt (show W < 2 ^ 31 by omega), nI_toInt (show H < 2 ^ 31 by omega)]
  by_cases c1 : X.toInt < 0
  · rw [if_pos c1, if_neg (by omega)]
  · rw [if_neg c1]
    by_cases c2 : (W : Int) ≤ X.toInt
    · rw [if_pos c2, if_neg (by omega)]
    · rw [if_neg c2]
      by_cases c3 : Y.toInt < 0
      · rw [if_pos c3, if_neg (by omega)]
      · rw [if_neg c3]
        by_cases c4 : Y.toInt < H
        · rw [if_pos c4, if_pos (by omega)]
        · rw [if_neg c4, if_neg (by omega)]
theorem at_ok (x y : Nat) : f_X13_at (nI x) (nI y) = some (nI (10 * y + x)) := by
  rw [f_X13_at, show (10 : Int32) = nI 10 from rfl, pk_mul, nI_add]
/-- where a ball goes, forth and back -/
def tgt (W H w y x : Nat) : Nat × Nat × Nat := if w = 0 then (if x + 1 = W then (2, y, x) else (0, y, x + 1)) else if w = 1 then (if y + 1 = H then (3, y, x) else (1, y + 1, x)) else if w = 2 then (if x = 0 then (0, y, 0) else (2, y, x - 1)) else (if y = 0 then (1, 0, x) else (3, y - 1, x))
def tgb (W H w y x : Nat) : Nat × Nat × Nat := if w = 0 then (if x = 0 then (2, y, 0) else (0, y, x - 1)) else if w = 1 then (if y = 0 then (3, 0, x) else (1, y - 1, x)) else if w = 2 then (if x + 1 = W then (0, y, x) else (2, y, x + 1)) else (if y + 1 = H then (1, y, x) else (3, y + 1, x))
/-- the balls that have gone, cells ahead of ky, kx, ways ahead of kw -/
def Qs (τ : Nat → Nat → Nat → Nat × Nat × Nat) (W H : Nat) (m : CT) (ky kx kw : Nat) (g : CT) : Prop := ∀ w' y' x', g w' y' x' = true ↔ ∃ w y x, w < 4 ∧ y < H ∧ x < W ∧ (y < ky ∨ y = ky ∧ (x < kx ∨ x = kx ∧ w < kw)) ∧ m w y x = true ∧ τ w y x = (w', y', x')
def addB (g : CT) (t : Nat × Nat × Nat) : CT := fun w y x => if t = (w, y, x) then true else g w y x
theorem Qs.start {τ : Nat → Nat → Nat → Nat × Nat × Nat} {W H : Nat} {m : CT} : Qs τ W H m 0 0 0 (fun _ _ _ => false) := by
  intro w' y' x'
  constructor
  · intro h; cases h
  · rintro ⟨w, y, x, _, _, _, h, _⟩
    omega
theorem Qs.yes {τ : Nat → Nat → Nat → Nat × Nat × Nat} {W H ky kx kw : Nat} {m g : CT} (h : Qs τ W H m ky kx kw g) (h1 : kw < 4) (h2 : kx < W) (h3 : ky < H) (hm : m kw ky kx = true) : Qs τ W H m ky kx (kw + 1) (addB g (τ kw ky kx)) := by
  intro w' y' x'
  unfold addB
  by_cases e : τ kw ky kx = (w', y', x')
  · rw [if_pos e]
    exact ⟨fun _ => ⟨kw, ky, kx, h1, h3, h2, by omega, hm, e⟩, fun _ => rfl⟩
  · rw [if_neg e, h w' y' x']
    constructor
    · rintro ⟨w, y, x, a, b, c, d, f⟩
      exact ⟨w, y, x, a, b, c, by omega, f⟩
    · rintro ⟨w, y, x, a, b, c, d, f, f2⟩
      refine ⟨w, y, x, a, b, c, ?_, f, f2⟩
      rcases d with d | ⟨d, d2 | ⟨d2, d3⟩⟩
      · omega
      · omega
      · by_cases e3 : w = kw
        · subst e3
          subst d
          subst d2
          exact absurd f2 e
        · omega
theorem Qs.no {τ : Nat → Nat → Nat → Nat × Nat × Nat} {W H ky kx kw : Nat} {m g : CT} (h : Qs τ W H m ky kx kw g) (hm : m kw ky kx = false) : Qs τ W H m ky kx (kw + 1) g := by
  intro w' y' x'
  rw [h w' y' x']
  constructor
  · rintro ⟨w, y, x, a, b, c, d, f⟩
    exact ⟨w, y, x, a, b, c, by omega, f⟩
  · rintro ⟨w, y, x, a, b, c, d, f, f2⟩
    refine ⟨w, y, x, a, b, c, ?_, f, f2⟩
    rcases d with d | ⟨d, d2 | ⟨d2, d3⟩⟩
    · omega
    · omega
    · by_cases e3 : w = kw
      · subst e3
        subst d
        subst d2
        rw [hm] at f
        cases f
      · omega
theorem Qs.cell {τ : Nat → Nat → Nat → Nat × Nat × Nat} {W H ky kx : Nat} {m g : CT} (h : Qs τ W H m ky kx 4 g) : Qs τ W H m ky (kx + 1) 0 g := by
  intro w' y' x'
  rw [h w' y' x']
  constructor
  · rintro ⟨w, y, x, a, b, c, d, f⟩
    exact ⟨w, y, x, a, b, c, by omega, f⟩
  · rintro ⟨w, y, x, a, b, c, d, f⟩
    exact ⟨w, y, x, a, b, c, by omega, f⟩
theorem Qs.row {τ : Nat → Nat → Nat → Nat × Nat × Nat} {W H ky : Nat} {m g : CT} (h : Qs τ W H m ky W 0 g) : Qs τ W H m (ky + 1) 0 0 g := by
  intro w' y' x'
  rw [h w' y' x']
  constructor
  · rintro ⟨w, y, x, a, b, c, d, f⟩
    exact ⟨w, y, x, a, b, c, by omega, f⟩
  · rintro ⟨w, y, x, a, b, c, d, f⟩
    exact ⟨w, y, x, a, b, c, by omega, f⟩
theorem mv_tgt {W H w y x : Nat} {m : CT} (hw : w < 4) (hy : y < H) (hx : x < W) : mv W H m (tgt W H w y x).1 (tgt W H w y x).2.1 (tgt W H w y x).2.2 = m w y x := by
  rcases w4 hw with h | h | h | h <;> subst h <;> simp only [tgt, if_true, show ¬ (1 : Nat) = 0 by omega, show ¬ (2 : Nat) = 0 by omega, show ¬ (2 : Nat) = 1 by omega, show ¬ (3 : Nat) = 0 by omega, show ¬ (3 : Nat) = 1 by omega, show ¬ (3 : Nat) = 2 by omega, if_false]
  · split
    · simp [mv, *]
    · simp [mv, hy, show x + 1 < W by omega]
  · split
    · simp [mv, *]
    · simp [mv, hx, show y + 1 < H by omega]
  · split
    · rename_i e
      subst e
      simp [mv, *]
    · simp [mv, hy, show x - 1 < W by omega, show x - 1 + 1 = x by omega, show ¬ x = W by omega]
  · split
    · rename_i e
      subst e
      simp [mv, *]
    · simp [mv, hx, show y - 1 < H by omega, show y - 1 + 1 = y by omega, show ¬ y = H by omega]
theorem mvb_tgb {W H w y x : Nat} {m : CT} (hw : w < 4) (hy : y < H) (hx : x < W) : mvb W H m (tgb W H w y x).1 (tgb W H w y x).2.1 (tgb W H w y x).2.2 = m w y x := by
  rcases w4 hw with h | h | h | h <;> subst h <;> simp only [tgb, if_true, show ¬ (1 : Nat) = 0 by omega, show ¬ (2 : Nat) = 0 by omega, show ¬ (2 : Nat) = 1 by omega, show ¬ (3 : Nat) = 0 by omega, show ¬ (3 : Nat) = 1 by omega, show ¬ (3 : Nat) = 2 by omega, if_false]
  · split
    · rename_i e
      subst e
      simp [mvb, *]
    · simp [mvb, hy, show x - 1 < W by omega, show x - 1 + 1 = x by omega, show ¬ x = W by omega]
  · split
    · rename_i e
      subst e
      simp [mvb, *]
    · simp [mvb, hx, show y - 1 < H by omega, show y - 1 + 1 = y by omega, show ¬ y = H by omega]
  · split
    · simp [mvb, *]
    · simp [mvb, hy, show x + 1 < W by omega]
  · split
    · simp [mvb, *]
    · simp [mvb, hx, show y + 1 < H by omega]
/-- every place of the table is where one ball goes -/
theorem tgt_all {W H w y x : Nat} (hw : w < 4) (hy : y < H) (hx : x < W) : ∃ w1 y1 x1, w1 < 4 ∧ y1 < H ∧ x1 < W ∧ tgt W H w1 y1 x1 = (w, y, x) := by
  rcases w4 hw with h | h | h | h <;> subst h
  · by_cases e : x = 0
    · exact ⟨2, y, 0, by omega, hy, by omega, by simp [tgt, e]⟩
    · exact ⟨0, y, x - 1, by omega, hy, by omega, by simp [tgt, show x - 1 + 1 = x by omega, show ¬ x = W by omega]⟩
  · by_cases e : y = 0
    · exact ⟨3, 0, x, by omega, by omega, hx, by simp [tgt, e]⟩
    · exact ⟨1, y - 1, x, by omega, by omega, hx, by simp [tgt, show y - 1 + 1 = y by omega, show ¬ y = H by omega]⟩
  · by_cases e : x + 1 = W
    · exact ⟨0, y, x, by omega, hy, hx, by simp [tgt, e]⟩
    · exact ⟨2, y, x + 1, by omega, hy, by omega, by simp [tgt]⟩
  · by_cases e : y + 1 = H
    · exact ⟨1, y, x, by omega, hy, hx, by simp [tgt, e]⟩
    · exact ⟨3, y + 1, x, by omega, by omega, hx, by simp [tgt]⟩
theorem tgb_all {W H w y x : Nat} (hw : w < 4) (hy : y < H) (hx : x < W) : ∃ w1 y1 x1, w1 < 4 ∧ y1 < H ∧ x1 < W ∧ tgb W H w1 y1 x1 = (w, y, x) := by
  rcases w4 hw with h | h | h | h <;> subst h
  · by_cases e : x + 1 = W
    · exact ⟨2, y, x, by omega, hy, hx, by simp [tgb, e]⟩
    · exact ⟨0, y, x + 1, by omega, hy, by omega, by simp [tgb]⟩
  · by_cases e : y + 1 = H
    · exact ⟨3, y, x, by omega, hy, hx, by simp [tgb, e]⟩
    · exact ⟨1, y + 1, x, by omega, by omega, hx, by simp [tgb]⟩
  · by_cases e : x = 0
    · exact ⟨0, y, 0, by omega, hy, by omega, by simp [tgb, e]⟩
    · exact ⟨2, y, x - 1, by omega, hy, by omega, by simp [tgb, show x - 1 + 1 = x by omega, show ¬ x = W by omega]⟩
  · by_cases e : y = 0
    · exact ⟨1, 0, x, by omega, by omega, hx, by simp [tgb, e]⟩
    · exact ⟨3, y - 1, x, by omega, by omega, hx, by simp [tgb, show y - 1 + 1 = y by omega, show ¬ y = H by omega]⟩
theorem tgt_in {W H w y x : Nat} (hw : w < 4) (hy : y < H) (hx : x < W) : (tgt W H w y x).1 < 4 ∧ (tgt W H w y x).2.1 < H ∧ (tgt W H w y x).2.2 < W := by
  rcases w4 hw with h | h | h | h <;> subst h <;> simp only [tgt, if_true, show ¬ (1 : Nat) = 0 by omega, show ¬ (2 : Nat) = 0 by omega, show ¬ (2 : Nat) = 1 by omega, show ¬ (3 : Nat) = 0 by omega, show ¬ (3 : Nat) = 1 by omega, show ¬ (3 : Nat) = 2 by omega, if_false] <;> split <;> (refine ⟨?_, ?_, ?_⟩ <;> simp only [] <;> omega)
theorem tgb_in {W H w y x : Nat} (hw : w < 4) (hy : y < H) (hx : x < W) : (tgb W H w y x).1 < 4 ∧ (tgb W H w y x).2.1 < H ∧ (tgb W H w y x).2.2 < W := by
  rcases w4 hw with h | h | h | h <;> subst h <;> simp only [tgb, if_true, show ¬ (1 : Nat) = 0 by omega, show ¬ (2 : Nat) = 0 by omega, show ¬ (2 : Nat) = 1 by omega, show ¬ (3 : Nat) = 0 by omega, show ¬ (3 : Nat) = 1 by omega, show ¬ (3 : Nat) = 2 by omega, if_false] <;> split <;> (refine ⟨?_, ?_, ?_⟩ <;> simp only [] <;> omega)
theorem Qs.mv {W H : Nat} {m g : CT} (h : Qs (tgt W H) W H m H 0 0 g) (w y x : Nat) : g w y x = mv W H m w y x := by
  rw [Bool.eq_iff_iff, h w y x]
  constructor
  · rintro ⟨w1, y1, x1, a, b, c, _, f, t⟩
    have e := mv_tgt (m := m) a b c
    rw [t] at e
    exact e.trans f
  · intro hm
    have hr : w < 4 ∧ y < H ∧ x < W := by
      refine Decidable.byContradiction (fun hn => ?_)
      rw [mv_in W H m w y x hn] at hm
      cases hm
    obtain ⟨w1, y1, x1, a, b, c, t⟩ := tgt_all hr.1 hr.2.1 hr.2.2
    have e := mv_tgt (m := m) a b c
    rw [t] at e
    exact ⟨w1, y1, x1, a, b, c, by omega, e.symm.trans hm, t⟩
theorem Qs.mvb {W H : Nat} {m g : CT} (h : Qs (tgb W H) W H m H 0 0 g) (w y x : Nat) : g w y x = mvb W H m w y x := by
  rw [Bool.eq_iff_iff, h w y x]
  constructor
  · rintro ⟨w1, y1, x1, a, b, c, _, f, t⟩
    have e := mvb_tgb (m := m) a b c
    rw [t] at e
    exact e.trans f
  · intro hm
    have hr : w < 4 ∧ y < H ∧ x < W := by
      refine Decidable.byContradiction (fun hn => ?_)
      rw [mvb_in W H m w y x hn] at hm
      cases hm
    obtain ⟨w1, y1, x1, a, b, c, t⟩ := tgb_all hr.1 hr.2.1 hr.2.2
    have e := mvb_tgb (m := m) a b c
    rw [t] at e
    exact ⟨w1, y1, x1, a, b, c, by omega, e.symm.trans hm, t⟩
theorem orB {g : Nat → Bool} {w : Nat} (hw : w < 4) : nI (pkB g 4) ||| ((1 : Int32) <<< (nI w &&& 31)) = nI (pkB (fun k => if w = k then true else g k) 4) := by
  rw [sh1 (by omega)]
  refine pkB_ext (fun i hi => ?_)
  rw [b_or, bqP _ _ hi, b_pow _ hi]
  by_cases e : w = i
  · subst e
    simp [hw]
  · simp [e]
theorem MBr.add {s : Nat} {r : Nat → Nat → Int32} {g : CT} (h : MBr s r g) {w y x : Nat} (hw : w < 4) (hy : y < 10) (hx : x < 10) : MBr s (va_up r s (upd (r s) (10 * y + x) (r s (10 * y + x) ||| ((1 : Int32) <<< (nI w &&& 31))))) (addB g (w, y, x)) := by
  refine (h.put (y := y) hx (fun k => if w = k then true else g k y x) (by rw [h y hy x hx, orB hw])).congr (fun w' _ y' _ x' _ => ?_)
  unfold addB
  by_cases e1 : y' = y
  · by_cases e2 : x' = x
    · subst e1
      subst e2
      simp
    · simp [e1, e2, Ne.symm e2]
  · simp [e1, Ne.symm e1]
theorem bit_pk {a : Nat → Bool} {k : Nat} (hk : k < 4) : (((nI (pkB a 4)) >>> (nI k &&& 31)) &&& 1 = 0) ↔ a k = false := by
  have := pkB_lt a 4
  rw [bit_if (by omega) (by omega), pkB_bit]
  simp [hk]
