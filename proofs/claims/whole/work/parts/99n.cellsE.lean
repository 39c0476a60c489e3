/-! ===== CELLS: the reference's way back, and counts ===== -/
theorem nI_s1 {x : Nat} (h : 1 ≤ x) : nI x - 1 = nI (x - 1) := pk_sub (a := x) (b := 1) h
theorem nI_s0 (x : Nat) : nI x - 0 = nI x := pk_sub (a := x) (b := 0) (by omega)
theorem nI_sm (x : Nat) : nI x - (-1) = nI (x + 1) := by
  rw [Int32.sub_eq_add_neg, show (-(-1) : Int32) = 1 by decide, nI_1]
theorem s1_lt : (nI 0 - 1 : Int32).toInt = -1 := by decide
theorem tgb_0 {W H y x : Nat} : tgb W H 0 y x = if x = 0 then (2, y, 0) else (0, y, x - 1) := rfl
theorem tgb_1 {W H y x : Nat} : tgb W H 1 y x = if y = 0 then (3, 0, x) else (1, y - 1, x) := rfl
theorem tgb_2 {W H y x : Nat} : tgb W H 2 y x = if x + 1 = W then (0, y, x) else (2, y, x + 1) := rfl
theorem tgb_3 {W H y x : Nat} : tgb W H 3 y x = if y + 1 = H then (1, y, x) else (3, y + 1, x) := rfl
theorem b43_in {mi : Nat → Int32} {ml : Nat → Nat → Int64} {K23 : (Nat → Nat → Int32) → Int32 → Option ((Nat → Nat → Int32))} {K33 : (Nat → Nat → Int32) → Int32 → Int32 → Option ((Nat → Nat → Int32))} {W H : Nat} (hW1 : 1 ≤ W) (hW : W ≤ 10) (hH1 : 1 ≤ H) (hH : H ≤ 10) (h64 : mi 64 = nI W) (h65 : mi 65 = nI H) {w y x y' x' n : Nat} {r : Nat → Nat → Int32} {c : CT} {dx dy : Int32} (hw : w < 4) (hy : y < 10) (hx : x < 10) (h69 : MBr 69 r c) (ha : c w y x = true) (hr : f_X13_right (nI w) = some dx) (hu : f_X13_up (nI w) = some dy) (hX : nI x - dx = nI x') (hY : nI y - dy = nI y') (hx' : x' < W) (hy' : y' < H) : f_X13_backOnce_43 mi ml K23 K33 (n + 1) r (nI y) (nI x) (nI w) = f_X13_backOnce_43 mi ml K23 K33 n (va_up r 70 (upd (r 70) (10 * y' + x') (r 70 (10 * y' + x') ||| ((1 : Int32) <<< (nI w &&& 31))))) (nI y) (nI x) (nI (w + 1)) := by
  have ii := idx100 (y := y') (x := x') (by omega) (by omega)
  have hcc : (0 ≤ (nI x').toInt ∧ (nI x').toInt < (W : Int)) ∧ (0 ≤ (nI y').toInt ∧ (nI y').toInt < (H : Int)) := by
    rw [nI_toInt (show x' < 2 ^ 31 by omega), nI_toInt (show y' < 2 ^ 31 by omega)]
    omega
  have i0 := idx100 hy hx
  rw [f_X13_backOnce_43, if_neg (show ¬ (4 : Int32) ≤ nI w from nI_ge (b := 4) hw (by omega)), at_ok, bd_some, ck_t i0, nI_clamp (n := 10 * y + x) (by omega), h69 y hy x hx, if_neg (fun q => by rw [bit_pk hw, ha] at q; cases q), hr, bd_some, hu, bd_some, hX, hY, isCell_eq hW1 hW hH1 hH h64 h65, bd_some, if_pos hcc, if_neg n10, at_ok, bd_some, ck_t ii, ck_t ii, nI_clamp (n := 10 * y' + x') (by omega), f_X13_backOnce_134, nI_1]
theorem b43_out {mi : Nat → Int32} {ml : Nat → Nat → Int64} {K23 : (Nat → Nat → Int32) → Int32 → Option ((Nat → Nat → Int32))} {K33 : (Nat → Nat → Int32) → Int32 → Int32 → Option ((Nat → Nat → Int32))} {W H : Nat} (hW1 : 1 ≤ W) (hW : W ≤ 10) (hH1 : 1 ≤ H) (hH : H ≤ 10) (h64 : mi 64 = nI W) (h65 : mi 65 = nI H) {w w2 y x n : Nat} {r : Nat → Nat → Int32} {c : CT} {dx dy : Int32} (hw : w < 4) (hy : y < 10) (hx : x < 10) (h69 : MBr 69 r c) (ha : c w y x = true) (hr : f_X13_right (nI w) = some dx) (hu : f_X13_up (nI w) = some dy) (hn : ¬ ((0 ≤ (nI x - dx).toInt ∧ (nI x - dx).toInt < W) ∧ (0 ≤ (nI y - dy).toInt ∧ (nI y - dy).toInt < H))) (h2 : nI w ^^^ 2 = nI w2) : f_X13_backOnce_43 mi ml K23 K33 (n + 1) r (nI y) (nI x) (nI w) = f_X13_backOnce_43 mi ml K23 K33 n (va_up r 70 (upd (r 70) (10 * y + x) (r 70 (10 * y + x) ||| ((1 : Int32) <<< (nI w2 &&& 31))))) (nI y) (nI x) (nI (w + 1)) := by
  have i0 := idx100 hy hx
  rw [f_X13_backOnce_43, if_neg (show ¬ (4 : Int32) ≤ nI w from nI_ge (b := 4) hw (by omega)), at_ok, bd_some, ck_t i0, nI_clamp (n := 10 * y + x) (by omega), h69 y hy x hx, if_neg (fun q => by rw [bit_pk hw, ha] at q; cases q), hr, bd_some, hu, bd_some, isCell_eq hW1 hW hH1 hH h64 h65, bd_some, if_neg hn, if_pos rfl, bd_some, ck_t i0, ck_t i0, nI_clamp (n := 10 * y + x) (by omega), h2, f_X13_backOnce_134, nI_1]
theorem b43_step {mi : Nat → Int32} {ml : Nat → Nat → Int64} {K23 : (Nat → Nat → Int32) → Int32 → Option ((Nat → Nat → Int32))} {K33 : (Nat → Nat → Int32) → Int32 → Int32 → Option ((Nat → Nat → Int32))} {W H : Nat} (hW1 : 1 ≤ W) (hW : W ≤ 10) (hH1 : 1 ≤ H) (hH : H ≤ 10) (h64 : mi 64 = nI W) (h65 : mi 65 = nI H) {w y x n : Nat} {r : Nat → Nat → Int32} {c g : CT} (hw : w < 4) (hx : x < W) (hy : y < H) (h69 : MBr 69 r c) (ha : c w y x = true) (h70 : MBr 70 r g) : ∃ r', f_X13_backOnce_43 mi ml K23 K33 (n + 1) r (nI y) (nI x) (nI w) = f_X13_backOnce_43 mi ml K23 K33 n r' (nI y) (nI x) (nI (w + 1)) ∧ MBr 70 r' (addB g (tgb W H w y x)) ∧ ∀ s, s ≠ 70 → r' s = r s := by
  have tx : ∀ z, z ≤ 10 → (nI z).toInt = (z : Int) := fun z hz => nI_toInt (by omega)
  have y10 : y < 10 := by omega
  have x10 : x < 10 := by omega
  rcases w4 hw with h | h | h | h <;> subst h
  · rw [tgb_0]
    by_cases e : x = 0
    · rw [if_pos e]
      subst e
      exact ⟨_, b43_out hW1 hW hH1 hH h64 h65 hw y10 x10 h69 ha ru.1 ru.2.2.2.2.1 (by rw [s1_lt]; omega) x2.1, h70.add (by omega) (by omega) (by omega), fun s hs => up_n hs⟩
    · rw [if_neg e]
      exact ⟨_, b43_in hW1 hW hH1 hH h64 h65 hw y10 x10 h69 ha ru.1 ru.2.2.2.2.1 (nI_s1 (by omega)) (nI_s0 y) (by omega) hy, h70.add (by omega) (by omega) (by omega), fun s hs => up_n hs⟩
  · rw [tgb_1]
    by_cases e : y = 0
    · rw [if_pos e]
      subst e
      exact ⟨_, b43_out hW1 hW hH1 hH h64 h65 hw y10 x10 h69 ha ru.2.1 ru.2.2.2.2.2.1 (by rw [s1_lt]; omega) x2.2.1, h70.add (by omega) (by omega) (by omega), fun s hs => up_n hs⟩
    · rw [if_neg e]
      exact ⟨_, b43_in hW1 hW hH1 hH h64 h65 hw y10 x10 h69 ha ru.2.1 ru.2.2.2.2.2.1 (nI_s0 x) (nI_s1 (by omega)) hx (by omega), h70.add (by omega) (by omega) (by omega), fun s hs => up_n hs⟩
  · rw [tgb_2]
    by_cases e : x + 1 = W
    · rw [if_pos e]
      exact ⟨_, b43_out hW1 hW hH1 hH h64 h65 hw y10 x10 h69 ha ru.2.2.1 ru.2.2.2.2.2.2.1 (by rw [nI_sm, tx _ (by omega)]; omega) x2.2.2.1, h70.add (by omega) (by omega) (by omega), fun s hs => up_n hs⟩
    · rw [if_neg e]
      exact ⟨_, b43_in hW1 hW hH1 hH h64 h65 hw y10 x10 h69 ha ru.2.2.1 ru.2.2.2.2.2.2.1 (nI_sm x) (nI_s0 y) (by omega) hy, h70.add (by omega) (by omega) (by omega), fun s hs => up_n hs⟩
  · rw [tgb_3]
    by_cases e : y + 1 = H
    · rw [if_pos e]
      exact ⟨_, b43_out hW1 hW hH1 hH h64 h65 hw y10 x10 h69 ha ru.2.2.2.1 ru.2.2.2.2.2.2.2 (by rw [nI_sm, tx (y + 1) (by omega)]; omega) x2.2.2.2, h70.add (by omega) (by omega) (by omega), fun s hs => up_n hs⟩
    · rw [if_neg e]
      exact ⟨_, b43_in hW1 hW hH1 hH h64 h65 hw y10 x10 h69 ha ru.2.2.2.1 ru.2.2.2.2.2.2.2 (nI_s0 x) (nI_sm y) hx (by omega), h70.add (by omega) (by omega) (by omega), fun s hs => up_n hs⟩
theorem b43_go {mi : Nat → Int32} {ml : Nat → Nat → Int64} {K23 : (Nat → Nat → Int32) → Int32 → Option ((Nat → Nat → Int32))} {K33 : (Nat → Nat → Int32) → Int32 → Int32 → Option ((Nat → Nat → Int32))} {W H : Nat} (hW1 : 1 ≤ W) (hW : W ≤ 10) (hH1 : 1 ≤ H) (hH : H ≤ 10) (h64 : mi 64 = nI W) (h65 : mi 65 = nI H) {y x : Nat} {c : CT} (hx : x < W) (hy : y < H) : ∀ (d k n : Nat) (r : Nat → Nat → Int32) (g : CT), k + d = 4 → d < n → MBr 69 r c → MBr 70 r g → Qs (tgb W H) W H c y x k g → ∃ r' g', f_X13_backOnce_43 mi ml K23 K33 n r (nI y) (nI x) (nI k) = K33 r' (nI y) (nI (x + 1)) ∧ MBr 70 r' g' ∧ Qs (tgb W H) W H c y x 4 g' ∧ ∀ s, s ≠ 70 → r' s = r s := by
  intro d
  induction d with
  | zero =>
    intro k n r g hk hn h69 h7 hQ
    obtain ⟨q, rfl⟩ : ∃ q, n = q + 1 := ⟨n - 1, by omega⟩
    have e : k = 4 := by omega
    subst e
    refine ⟨r, g, ?_, h7, hQ, fun _ _ => rfl⟩
    rw [f_X13_backOnce_43, if_pos (show (4 : Int32) ≤ nI 4 from nI_le (a := 4) (by omega) (by omega)), nI_1]
  | succ d ih =>
    intro k n r g hk hn h69 h7 hQ
    obtain ⟨q, rfl⟩ : ∃ q, n = q + 1 := ⟨n - 1, by omega⟩
    have hk4 : k < 4 := by omega
    have i0 := idx100 (y := y) (x := x) (by omega) (by omega)
    by_cases hb : c k y x = true
    · obtain ⟨r1, a1, a2, a3⟩ := b43_step (ml := ml) (K23 := K23) (K33 := K33) (n := q) hW1 hW hH1 hH h64 h65 hk4 hx hy h69 hb h7
      obtain ⟨r2, g2, b1, b2, b3, b4⟩ := ih (k + 1) q r1 _ (by omega) (by omega) (h69.slot (a3 69 (by omega))) a2 (hQ.yes hk4 hx hy hb)
      exact ⟨r2, g2, a1.trans b1, b2, b3, fun s hs => (b4 s hs).trans (a3 s hs)⟩
    · have hb' : c k y x = false := by simpa using hb
      obtain ⟨r2, g2, b1, b2, b3, b4⟩ := ih (k + 1) q r g (by omega) (by omega) h69 h7 (hQ.no hb')
      refine ⟨r2, g2, ?_, b2, b3, b4⟩
      rw [f_X13_backOnce_43, if_neg (show ¬ (4 : Int32) ≤ nI k from nI_ge (b := 4) hk4 (by omega)), at_ok, bd_some, ck_t i0, nI_clamp (n := 10 * y + x) (by omega), h69 y (by omega) x (by omega), if_pos ((bit_pk (a := fun w => c w y x) hk4).mpr hb'), f_X13_backOnce_134, nI_1]
      exact b1
theorem b33_go {mi : Nat → Int32} {ml : Nat → Nat → Int64} {K23 : (Nat → Nat → Int32) → Int32 → Option ((Nat → Nat → Int32))} {W H : Nat} (hW1 : 1 ≤ W) (hW : W ≤ 10) (hH1 : 1 ≤ H) (hH : H ≤ 10) (h64 : mi 64 = nI W) (h65 : mi 65 = nI H) {y : Nat} {c : CT} (hy : y < H) : ∀ (d x n : Nat) (r : Nat → Nat → Int32) (g : CT), x + d = W → d < n → MBr 69 r c → MBr 70 r g → Qs (tgb W H) W H c y x 0 g → ∃ r' g', f_X13_backOnce_33 mi ml K23 n r (nI y) (nI x) = K23 r' (nI (y + 1)) ∧ MBr 70 r' g' ∧ Qs (tgb W H) W H c (y + 1) 0 0 g' ∧ ∀ s, s ≠ 70 → r' s = r s := by
  intro d
  induction d with
  | zero =>
    intro x n r g hk hn h69 h7 hQ
    obtain ⟨q, rfl⟩ : ∃ q, n = q + 1 := ⟨n - 1, by omega⟩
    have e : x = W := by omega
    subst e
    refine ⟨r, g, ?_, h7, hQ.row, fun _ _ => rfl⟩
    rw [f_X13_backOnce_33, h64, if_pos (nI_le (by omega) (by omega)), nI_1]
  | succ d ih =>
    intro x n r g hk hn h69 h7 hQ
    obtain ⟨q, rfl⟩ : ∃ q, n = q + 1 := ⟨n - 1, by omega⟩
    obtain ⟨r1, g1, a1, a2, a3, a4⟩ := b43_go (ml := ml) (K23 := K23) (K33 := f_X13_backOnce_33 mi ml K23 q) hW1 hW hH1 hH h64 h65 (x := x) (by omega) hy 4 0 2000000 r g (by omega) (by omega) h69 h7 hQ
    obtain ⟨r2, g2, b1, b2, b3, b4⟩ := ih (x + 1) q r1 g1 (by omega) (by omega) (h69.slot (a4 69 (by omega))) a2 a3.cell
    refine ⟨r2, g2, ?_, b2, b3, fun s hs => (b4 s hs).trans (a4 s hs)⟩
    rw [f_X13_backOnce_33, h64, if_neg (nI_ge (by omega) (by omega))]
    exact a1.trans b1
theorem b23_go {mi : Nat → Int32} {ml : Nat → Nat → Int64} {W H : Nat} (hW1 : 1 ≤ W) (hW : W ≤ 10) (hH1 : 1 ≤ H) (hH : H ≤ 10) (h64 : mi 64 = nI W) (h65 : mi 65 = nI H) {c : CT} : ∀ (d y n : Nat) (r : Nat → Nat → Int32) (g : CT), y + d = H → d < n → MBr 69 r c → MBr 70 r g → Qs (tgb W H) W H c y 0 0 g → ∃ r', f_X13_backOnce_23 mi ml n r (nI y) = f_X13_backOnce_154 mi ml 2000000 r' 0 ∧ MBr 70 r' (mvb W H c) ∧ ∀ s, s ≠ 70 → r' s = r s := by
  intro d
  induction d with
  | zero =>
    intro y n r g hk hn h69 h7 hQ
    obtain ⟨q, rfl⟩ : ∃ q, n = q + 1 := ⟨n - 1, by omega⟩
    have e : y = H := by omega
    subst e
    refine ⟨r, ?_, h7.congr (fun w _ y' _ x _ => hQ.mvb w y' x), fun _ _ => rfl⟩
    rw [f_X13_backOnce_23, h65, if_pos (nI_le (by omega) (by omega))]
  | succ d ih =>
    intro y n r g hk hn h69 h7 hQ
    obtain ⟨q, rfl⟩ : ∃ q, n = q + 1 := ⟨n - 1, by omega⟩
    obtain ⟨r1, g1, a1, a2, a3, a4⟩ := b33_go (ml := ml) (K23 := f_X13_backOnce_23 mi ml q) hW1 hW hH1 hH h64 h65 (y := y) (by omega) W 0 2000000 r g (by omega) (by omega) h69 h7 hQ
    obtain ⟨r2, b1, b2, b3⟩ := ih (y + 1) q r1 g1 (by omega) (by omega) (h69.slot (a4 69 (by omega))) a2 a3
    refine ⟨r2, ?_, b2, fun s hs => (b3 s hs).trans (a4 s hs)⟩
    rw [f_X13_backOnce_23, h65, if_neg (nI_ge (by omega) (by omega))]
    exact a1.trans b1
theorem bk2_go {mi : Nat → Int32} {ml : Nat → Nat → Int64} : ∀ (d k n : Nat) (r : Nat → Nat → Int32), k + d = 100 → d < n → (∀ j, j < k → r 70 j = 0) → ∃ r', f_X13_backOnce_2 mi ml n r (nI k) = f_X13_backOnce_23 mi ml 2000000 r' 0 ∧ (∀ j, j < 100 → r' 70 j = 0) ∧ ∀ s, s ≠ 70 → r' s = r s := by
  intro d
  induction d with
  | zero =>
    intro k n r hk hn h
    obtain ⟨q, rfl⟩ : ∃ q, n = q + 1 := ⟨n - 1, by omega⟩
    have e : k = 100 := by omega
    subst e
    refine ⟨r, ?_, h, fun _ _ => rfl⟩
    rw [f_X13_backOnce_2, if_pos (show (100 : Int32) ≤ nI 100 from nI_le (a := 100) (by omega) (by omega))]
  | succ d ih =>
    intro k n r hk hn h
    obtain ⟨q, rfl⟩ : ∃ q, n = q + 1 := ⟨n - 1, by omega⟩
    obtain ⟨r2, b1, b2, b3⟩ := ih (k + 1) q (va_up r 70 (upd (r 70) k 0)) (by omega) (by omega) (fun j hj => by
      rw [up_s]
      by_cases e : j = k
      · subst e; rw [pk_us]
      · rw [pk_un e]; exact h j (by omega))
    refine ⟨r2, ?_, b2, fun s hs => (b3 s hs).trans (up_n hs)⟩
    rw [f_X13_backOnce_2, if_neg (show ¬ (100 : Int32) ≤ nI k from nI_ge (b := 100) (by omega) (by omega)), ck_t (inb_nI (by omega) (by omega)), nI_clamp (by omega), nI_1]
    exact b1
/-- what stands in a cell when a beat is undone -/
def bkc (W H : Nat) (p : Nat → Nat → Nat) (g c : CT) : CT := fun w y x => if y < H ∧ x < W then (if p y x = 3 then g w y x else mt (p y x) (fun k => g k y x) w) else c w y x
theorem b164_go {mi : Nat → Int32} {ml : Nat → Nat → Int64} {K : (Nat → Nat → Int32) → Int32 → Option ((Nat → Nat → Int32))} {W H : Nat} (hW : W ≤ 10) (hH : H ≤ 10) (h64 : mi 64 = nI W) {p : Nat → Nat → Nat} (hp : ∀ y x, p y x < 4) {y : Nat} {c g : CT} (hy : y < H) : ∀ (d x n : Nat) (r : Nat → Nat → Int32), x + d = W → d < n → PMr p r → MBr 70 r g → MBr 69 r (fun w y' x' => if y' < y ∨ y' = y ∧ x' < x then bkc W H p g c w y' x' else c w y' x') → ∃ r', f_X13_backOnce_164 mi ml K n r (nI y) (nI x) = K r' (nI (y + 1)) ∧ MBr 69 r' (fun w y' x' => if y' < y ∨ y' = y ∧ x' < W then bkc W H p g c w y' x' else c w y' x') ∧ ∀ s, s ≠ 69 → r' s = r s := by
  intro d
  induction d with
  | zero =>
    intro x n r hk hn h68 h7 h69
    obtain ⟨q, rfl⟩ : ∃ q, n = q + 1 := ⟨n - 1, by omega⟩
    have e : x = W := by omega
    subst e
    refine ⟨r, ?_, h69, fun _ _ => rfl⟩
    rw [f_X13_backOnce_164, h64, if_pos (nI_le (by omega) (by omega)), nI_1]
  | succ d ih =>
    intro x n r hk hn h68 h7 h69
    obtain ⟨q, rfl⟩ : ∃ q, n = q + 1 := ⟨n - 1, by omega⟩
    have hx : x < W := by omega
    have ii := idx100 (y := y) (x := x) (by omega) (by omega)
    have v7 := h7 y (by omega) x (by omega)
    have v8 := h68 y (by omega) x (by omega)
    have hp3 := hp y x
    have hC1 := h69.put (y := y) (x := x) (by omega) (fun w => bkc W H p g c w y x) rfl
    obtain ⟨r2, b1, b2, b3⟩ := ih (x + 1) q _ (by omega) (by omega) (h68.slot (up_n (by omega))) (h7.slot (up_n (by omega))) (hC1.congr (fun w hw y' hy' x' hx' => by
      by_cases e : y' = y ∧ x' = x
      · rw [if_pos e, if_pos (by omega), e.1, e.2]
      · rw [if_neg e]
        by_cases e2 : y' < y ∨ y' = y ∧ x' < x
        · rw [if_pos e2, if_pos (by omega)]
        · rw [if_neg e2, if_neg (by omega)]))
    refine ⟨r2, ?_, b2, fun s hs => (b3 s hs).trans (up_n hs)⟩
    rw [f_X13_backOnce_164, h64, if_neg (nI_ge (by omega) (by omega)), at_ok, bd_some, bd_some, ck_t ii, nI_clamp (n := 10 * y + x) (by omega), v8]
    by_cases e : p y x = 3
    · have eP : pkB (fun w => bkc W H p g c w y x) 4 = pkB (fun w => g w y x) 4 := pkB_congr (fun w _ => by
        unfold bkc
        rw [if_pos ⟨hy, hx⟩, if_pos e])
      rw [e, if_pos (show nI 3 = (3 : Int32) from rfl), bd_some, ck_t ii, f_X13_backOnce_232, ck_t ii, nI_clamp (n := 10 * y + x) (by omega), v7, nI_1, ← b1, eP]
    · have e3 : ¬ nI (p y x) = (3 : Int32) := fun q => e (nI_inj (b := 3) (by omega) (by omega) q)
      have eP : pkB (mt (p y x) (fun w => g w y x)) 4 = pkB (fun w => bkc W H p g c w y x) 4 := pkB_congr (fun w _ => by
        unfold bkc
        rw [if_pos ⟨hy, hx⟩, if_neg e])
      rw [if_neg e3, bd_some, ck_t ii, bd_some, ck_t ii, nI_clamp (n := 10 * y + x) (by omega), v8, v7, turnC_ok (by omega), bd_some, f_X13_backOnce_232, ck_t ii, nI_clamp (n := 10 * y + x) (by omega), nI_1, ← b1, eP]
theorem b154_go {mi : Nat → Int32} {ml : Nat → Nat → Int64} {W H : Nat} (hW : W ≤ 10) (hH : H ≤ 10) (h64 : mi 64 = nI W) (h65 : mi 65 = nI H) {p : Nat → Nat → Nat} (hp : ∀ y x, p y x < 4) {c g : CT} : ∀ (d y n : Nat) (r : Nat → Nat → Int32), y + d = H → d < n → PMr p r → MBr 70 r g → MBr 69 r (fun w y' x' => if y' < y then bkc W H p g c w y' x' else c w y' x') → ∃ r', f_X13_backOnce_154 mi ml n r (nI y) = some r' ∧ MBr 69 r' (bkc W H p g c) ∧ ∀ s, s ≠ 69 → r' s = r s := by
  intro d
  induction d with
  | zero =>
    intro y n r hk hn h68 h7 h69
    obtain ⟨q, rfl⟩ : ∃ q, n = q + 1 := ⟨n - 1, by omega⟩
    have e : y = H := by omega
    subst e
    refine ⟨r, ?_, h69.congr (fun w _ y' _ x _ => ?_), fun _ _ => rfl⟩
    · rw [f_X13_backOnce_154, h65, if_pos (nI_le (by omega) (by omega))]
    · by_cases e : y' < y
      · rw [if_pos e]
      · rw [if_neg e]
        unfold bkc
        rw [if_neg (by omega)]
  | succ d ih =>
    intro y n r hk hn h68 h7 h69
    obtain ⟨q, rfl⟩ : ∃ q, n = q + 1 := ⟨n - 1, by omega⟩
    obtain ⟨r1, a1, a2, a3⟩ := b164_go (ml := ml) (K := f_X13_backOnce_154 mi ml q) hW hH h64 hp (y := y) (by omega) W 0 2000000 r (by omega) (by omega) h68 h7 (h69.congr (fun w _ y' _ x _ => by
      by_cases e : y' < y
      · rw [if_pos e, if_pos (by omega)]
      · rw [if_neg e, if_neg (by omega)]))
    obtain ⟨r2, b1, b2, b3⟩ := ih (y + 1) q r1 (by omega) (by omega) (h68.slot (a3 68 (by omega))) (h7.slot (a3 70 (by omega))) (a2.congr (fun w _ y' _ x _ => by
      by_cases e : y' < y
      · rw [if_pos (by omega), if_pos (by omega)]
      · by_cases e2 : y' = y
        · subst e2
          by_cases e3 : x < W
          · rw [if_pos (by omega), if_pos (by omega)]
          · rw [if_neg (by omega), if_pos (by omega)]
            unfold bkc
            rw [if_neg (by omega)]
        · rw [if_neg (by omega), if_neg (by omega)]))
    refine ⟨r2, ?_, b2, fun s hs => (b3 s hs).trans (a3 s hs)⟩
    rw [f_X13_backOnce_154, h65, if_neg (nI_ge (by omega) (by omega))]
    exact a1.trans b1
theorem backOnce_ok {mi : Nat → Int32} {mr : Nat → Nat → Int32} {ml : Nat → Nat → Int64} {W H : Nat} (hW1 : 1 ≤ W) (hW : W ≤ 10) (hH1 : 1 ≤ H) (hH : H ≤ 10) (h64 : mi 64 = nI W) (h65 : mi 65 = nI H) {p : Nat → Nat → Nat} (hp : ∀ y x, p y x < 4) {c : CT} (h69 : MBr 69 mr c) (h68 : PMr p mr) : ∃ mr', f_X13_backOnce mi mr ml = some mr' ∧ MBr 69 mr' (bkc W H p (mvb W H c) c) ∧ ∀ s, s ≠ 69 → s ≠ 70 → mr' s = mr s := by
  obtain ⟨r1, a1, a2, a3⟩ := bk2_go (mi := mi) (ml := ml) 100 0 2000000 mr (by omega) (by omega) (fun j hj => by omega)
  have h7 : MBr 70 r1 (fun _ _ _ => false) := fun y hy x hx => by
    rw [a2 _ (by omega), pkB_none]
    rfl
  obtain ⟨r2, b1, b2, b3⟩ := b23_go (ml := ml) hW1 hW hH1 hH h64 h65 H 0 2000000 r1 _ (by omega) (by omega) (h69.slot (a3 69 (by omega))) h7 Qs.start
  obtain ⟨r3, d1, d2, d3⟩ := b154_go (ml := ml) (c := c) hW hH h64 h65 hp H 0 2000000 r2 (by omega) (by omega) ((h68.slot (a3 68 (by omega))).slot (b3 68 (by omega))) b2 (((h69.slot (a3 69 (by omega))).slot (b3 69 (by omega))).congr (fun w _ y' _ x _ => by rw [if_neg (by omega)]))
  refine ⟨r3, ?_, d2, fun s h1 h2 => ((d3 s h1).trans (b3 s h2)).trans (a3 s h2)⟩
  rw [f_X13_backOnce]
  exact a1.trans (b1.trans d1)
/-! how many balls there are -/
theorem sm_split (f : Nat → Nat) (a : Nat) : ∀ b, sm f (a + b) = sm f a + sm (fun x => f (a + x)) b
  | 0 => rfl
  | b + 1 => by
    show sm f (a + b) + f (a + b) = sm f a + (sm (fun x => f (a + x)) b + f (a + b))
    rw [sm_split f a b]
    omega
theorem sm_tens (f : Nat → Nat) : ∀ n, sm f (10 * n) = sm (fun y => sm (fun x => f (10 * y + x)) 10) n
  | 0 => rfl
  | n + 1 => by
    show sm f (10 * (n + 1)) = sm (fun y => sm (fun x => f (10 * y + x)) 10) n + sm (fun x => f (10 * n + x)) 10
    rw [show 10 * (n + 1) = 10 * n + 10 by omega, sm_split, sm_tens f n]
theorem sm_comm (f : Nat → Nat → Nat) (n : Nat) : ∀ m, sm (fun i => sm (fun j => f i j) n) m = sm (fun j => sm (fun i => f i j) m) n
  | 0 => (sm_zero n).symm
  | m + 1 => by
    show sm (fun i => sm (fun j => f i j) n) m + sm (fun j => f m j) n = sm (fun j => sm (fun i => f i j) m + f m j) n
    rw [sm_comm f n m, sm_add]
def NB (c : CT) : Nat := sm (fun y => sm (fun x => sm (fun w => (c w y x).toNat) 4) 10) 10
theorem bn_go {mi : Nat → Int32} {mr : Nat → Nat → Int32} {ml : Nat → Nat → Int64} {f : Nat → Nat} (h : ∀ k, k < 100 → f_X13_bits (mr 69 k) = some (nI (f k))) : ∀ (d k n : Nat), k + d = 100 → d < n → f_X13_ballsNow_4 mi mr ml n (nI (sm f k)) (nI k) = some (nI (sm f 100)) := by
  intro d
  induction d with
  | zero =>
    intro k n hk hn
    obtain ⟨q, rfl⟩ : ∃ q, n = q + 1 := ⟨n - 1, by omega⟩
    have e : k = 100 := by omega
    subst e
    rw [f_X13_ballsNow_4, if_pos (show (100 : Int32) ≤ nI 100 from nI_le (a := 100) (by omega) (by omega))]
  | succ d ih =>
    intro k n hk hn
    obtain ⟨q, rfl⟩ : ∃ q, n = q + 1 := ⟨n - 1, by omega⟩
    rw [f_X13_ballsNow_4, if_neg (show ¬ (100 : Int32) ≤ nI k from nI_ge (b := 100) (by omega) (by omega)), ck_t (inb_nI (by omega) (by omega)), nI_clamp (by omega), h k (by omega), bd_some, nI_add, nI_1]
    exact ih (k + 1) q (by omega) (by omega)
theorem ballsNow_ok {mi : Nat → Int32} {mr : Nat → Nat → Int32} {ml : Nat → Nat → Int64} {c : CT} (h69 : MBr 69 mr c) : f_X13_ballsNow mi mr ml = some (nI (NB c)) := by
  have h := bn_go (mi := mi) (mr := mr) (ml := ml) (f := fun k => sm (fun w => (c w (k / 10) (k % 10)).toNat) 4) (fun k hk => by
    have e := h69 (k / 10) (by omega) (k % 10) (by omega)
    rw [show 10 * (k / 10) + k % 10 = k by omega] at e
    rw [e, bits_pkB]) 100 0 2000000 (by omega) (by omega)
  rw [f_X13_ballsNow]
  refine Eq.trans h (congrArg (fun v => some (nI v)) ?_)
  refine (sm_tens _ 10).trans ?_
  refine sm_congr (fun y hy => sm_congr (fun x hx => ?_))
  rw [show (10 * y + x) / 10 = y by omega, show (10 * y + x) % 10 = x by omega]
theorem bl11_go {i : Nat → Int32} {r : Nat → Nat → Int32} {K : Int32 → Int32 → Option Int32} {H T w : Nat} {c : CT} (hH : H ≤ 10) (h4 : i 4 = nI H) (hw : w < 4) (hC : CBr 10 r c) : ∀ (d k n : Nat), k + d = H → d < n → f_X0_balls_11 i r K n (nI (T + sm (fun y => sm (fun x => (c w y x).toNat) 10) k)) (nI w) (nI k) = K (nI (T + sm (fun y => sm (fun x => (c w y x).toNat) 10) H)) (nI (w + 1)) := by
  intro d
  induction d with
  | zero =>
    intro k n hk hn
    obtain ⟨q, rfl⟩ : ∃ q, n = q + 1 := ⟨n - 1, by omega⟩
    have e : k = H := by omega
    subst e
    rw [f_X0_balls_11, h4, if_pos (nI_le (by omega) (by omega)), nI_1]
  | succ d ih =>
    intro k n hk hn
    obtain ⟨q, rfl⟩ : ∃ q, n = q + 1 := ⟨n - 1, by omega⟩
    rw [f_X0_balls_11, h4, if_neg (nI_ge (by omega) (by omega)), ck_t (inb_nI (by omega) (by omega)), ck_t (inb_nI (by omega) (by omega)), nI_clamp (n := w) (by omega), nI_clamp (n := k) (by omega), hC w hw k (by omega), bc_pkB, bd_some, nI_add, nI_1, ← ih (k + 1) q (by omega) (by omega)]
    rw [Nat.add_assoc]
    rfl
theorem bl4_go {i : Nat → Int32} {r : Nat → Nat → Int32} {H : Nat} {c : CT} (hH : H ≤ 10) (h4 : i 4 = nI H) (hC : CBr 10 r c) : ∀ (d w n : Nat), w + d = 4 → d < n → f_X0_balls_4 i r n (nI (sm (fun w => sm (fun y => sm (fun x => (c w y x).toNat) 10) H) w)) (nI w) = some (nI (sm (fun w => sm (fun y => sm (fun x => (c w y x).toNat) 10) H) 4)) := by
  intro d
  induction d with
  | zero =>
    intro k n hk hn
    obtain ⟨q, rfl⟩ : ∃ q, n = q + 1 := ⟨n - 1, by omega⟩
    have e : k = 4 := by omega
    subst e
    rw [f_X0_balls_4, if_pos (show (4 : Int32) ≤ nI 4 from nI_le (a := 4) (by omega) (by omega))]
  | succ d ih =>
    intro k n hk hn
    obtain ⟨q, rfl⟩ : ∃ q, n = q + 1 := ⟨n - 1, by omega⟩
    have h := bl11_go (K := f_X0_balls_4 i r q) (T := sm (fun w => sm (fun y => sm (fun x => (c w y x).toNat) 10) H) k) hH h4 (w := k) (by omega) hC H 0 2000000 (by omega) (by omega)
    rw [f_X0_balls_4, if_neg (show ¬ (4 : Int32) ≤ nI k from nI_ge (b := 4) (by omega) (by omega))]
    exact h.trans (ih (k + 1) q (by omega) (by omega))
theorem balls_ok {i : Nat → Int32} {r : Nat → Nat → Int32} {W H : Nat} {c : CT} (hH : H ≤ 10) (h4 : i 4 = nI H) (hin : INC W H c) (hC : CBr 10 r c) : f_X0_balls i r = some (nI (NB c)) := by
  have h := bl4_go hH h4 hC 4 0 2000000 (by omega) (by omega)
  rw [f_X0_balls]
  refine Eq.trans h (congrArg (fun v => some (nI v)) ?_)
  have e1 : ∀ w, sm (fun y => sm (fun x => (c w y x).toNat) 10) H = sm (fun y => sm (fun x => (c w y x).toNat) 10) 10 := fun w => by
    obtain ⟨d, hd⟩ : ∃ d, 10 = H + d := ⟨10 - H, by omega⟩
    have := sm_cut (f := fun y => sm (fun x => (c w y x).toNat) 10) (W := H) (fun y hy => by
      refine Eq.trans (sm_congr (g := fun _ => 0) (fun x _ => ?_)) (sm_zero 10)
      rw [hin w y x (by omega)]
      rfl) d
    rw [← this, ← hd]
  refine Eq.trans (sm_congr (fun w _ => e1 w)) ?_
  refine Eq.trans (sm_comm (fun w y => sm (fun x => (c w y x).toNat) 10) 10 4) ?_
  exact sm_congr (fun y _ => sm_comm (fun w x => (c w y x).toNat) 10 4)
