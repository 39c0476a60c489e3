/-! ===== CELLS: the reference's beat ===== -/
theorem idx100 {y x : Nat} (hy : y < 10) (hx : x < 10) : inb (nI (10 * y + x)) 100 = true := inb_nI (by omega) (by omega)
theorem nI_p1 (x : Nat) : nI x + 1 = nI (x + 1) := nI_1 x
theorem nI_p0 (x : Nat) : nI x + 0 = nI x := nI_add x 0
theorem nI_m1 {x : Nat} (h : 1 ≤ x) : nI x + (-1) = nI (x - 1) := by
  rw [← m1_eq]
  exact pk_sub (a := x) (b := 1) h
theorem b101_in {mi : Nat → Int32} {ml : Nat → Nat → Int64} {K25 : (Nat → Nat → Int32) → Int32 → Int32 → Option (Int32 × (Nat → Nat → Int32))} {K35 : (Nat → Nat → Int32) → Int32 → Int32 → Int32 → Option (Int32 × (Nat → Nat → Int32))} {W H : Nat} (hW1 : 1 ≤ W) (hW : W ≤ 10) (hH1 : 1 ≤ H) (hH : H ≤ 10) (h64 : mi 64 = nI W) (h65 : mi 65 = nI H) {w y x y' x' n : Nat} {r : Nat → Nat → Int32} {a : Nat → Bool} {t dx dy : Int32} (hw : w < 4) (ha : a w = true) (hr : f_X13_right (nI w) = some dx) (hu : f_X13_up (nI w) = some dy) (hX : nI x + dx = nI x') (hY : nI y + dy = nI y') (hx' : x' < W) (hy' : y' < H) : f_X13_beatOnce_101 mi ml K25 K35 (n + 1) r t (nI y) (nI x) (nI (pkB a 4)) (nI w) = f_X13_beatOnce_101 mi ml K25 K35 n (va_up r 70 (upd (r 70) (10 * y' + x') (r 70 (10 * y' + x') ||| ((1 : Int32) <<< (nI w &&& 31))))) t (nI y) (nI x) (nI (pkB a 4)) (nI (w + 1)) := by
  have ii := idx100 (y := y') (x := x') (by omega) (by omega)
  have hcc : (0 ≤ (nI x').toInt ∧ (nI x').toInt < (W : Int)) ∧ (0 ≤ (nI y').toInt ∧ (nI y').toInt < (H : Int)) := by
    rw [nI_toInt (show x' < 2 ^ 31 by omega), nI_toInt (show y' < 2 ^ 31 by omega)]
    omega
  rw [f_X13_beatOnce_101, if_neg (show ¬ (4 : Int32) ≤ nI w from nI_ge (b := 4) hw (by omega)), if_neg (fun q => by rw [bit_pk hw, ha] at q; cases q), hr, bd_some, hu, bd_some, hX, hY, isCell_eq hW1 hW hH1 hH h64 h65, bd_some, if_pos hcc, if_neg n10, at_ok, bd_some, ck_t ii, ck_t ii, nI_clamp (by omega), f_X13_beatOnce_190, nI_1]
theorem b101_out {mi : Nat → Int32} {ml : Nat → Nat → Int64} {K25 : (Nat → Nat → Int32) → Int32 → Int32 → Option (Int32 × (Nat → Nat → Int32))} {K35 : (Nat → Nat → Int32) → Int32 → Int32 → Int32 → Option (Int32 × (Nat → Nat → Int32))} {W H : Nat} (hW1 : 1 ≤ W) (hW : W ≤ 10) (hH1 : 1 ≤ H) (hH : H ≤ 10) (h64 : mi 64 = nI W) (h65 : mi 65 = nI H) {w w2 y x n : Nat} {r : Nat → Nat → Int32} {a : Nat → Bool} {t dx dy : Int32} (hw : w < 4) (ha : a w = true) (hr : f_X13_right (nI w) = some dx) (hu : f_X13_up (nI w) = some dy) (hn : ¬ ((0 ≤ (nI x + dx).toInt ∧ (nI x + dx).toInt < W) ∧ (0 ≤ (nI y + dy).toInt ∧ (nI y + dy).toInt < H))) (h2 : nI w ^^^ 2 = nI w2) (hx : x < W) (hy : y < H) : f_X13_beatOnce_101 mi ml K25 K35 (n + 1) r t (nI y) (nI x) (nI (pkB a 4)) (nI w) = f_X13_beatOnce_101 mi ml K25 K35 n (va_up r 70 (upd (r 70) (10 * y + x) (r 70 (10 * y + x) ||| ((1 : Int32) <<< (nI w2 &&& 31))))) t (nI y) (nI x) (nI (pkB a 4)) (nI (w + 1)) := by
  have ii := idx100 (y := y) (x := x) (by omega) (by omega)
  rw [f_X13_beatOnce_101, if_neg (show ¬ (4 : Int32) ≤ nI w from nI_ge (b := 4) hw (by omega)), if_neg (fun q => by rw [bit_pk hw, ha] at q; cases q), hr, bd_some, hu, bd_some, isCell_eq hW1 hW hH1 hH h64 h65, bd_some, if_neg hn, if_pos rfl, at_ok, bd_some, ck_t ii, ck_t ii, nI_clamp (by omega), h2, f_X13_beatOnce_190, nI_1]
theorem x2 : (nI 0 ^^^ 2 : Int32) = nI 2 ∧ (nI 1 ^^^ 2 : Int32) = nI 3 ∧ (nI 2 ^^^ 2 : Int32) = nI 0 ∧ (nI 3 ^^^ 2 : Int32) = nI 1 := by decide
theorem ru : f_X13_right (nI 0) = some 1 ∧ f_X13_right (nI 1) = some 0 ∧ f_X13_right (nI 2) = some (-1) ∧ f_X13_right (nI 3) = some 0 ∧ f_X13_up (nI 0) = some 0 ∧ f_X13_up (nI 1) = some 1 ∧ f_X13_up (nI 2) = some 0 ∧ f_X13_up (nI 3) = some (-1) := by decide
theorem m1_lt : (nI 0 + (-1) : Int32).toInt = -1 := by decide
theorem tgt_0 {W H y x : Nat} : tgt W H 0 y x = if x + 1 = W then (2, y, x) else (0, y, x + 1) := rfl
theorem tgt_1 {W H y x : Nat} : tgt W H 1 y x = if y + 1 = H then (3, y, x) else (1, y + 1, x) := rfl
theorem tgt_2 {W H y x : Nat} : tgt W H 2 y x = if x = 0 then (0, y, 0) else (2, y, x - 1) := rfl
theorem tgt_3 {W H y x : Nat} : tgt W H 3 y x = if y = 0 then (1, 0, x) else (3, y - 1, x) := rfl
theorem b101_step {mi : Nat → Int32} {ml : Nat → Nat → Int64} {K25 : (Nat → Nat → Int32) → Int32 → Int32 → Option (Int32 × (Nat → Nat → Int32))} {K35 : (Nat → Nat → Int32) → Int32 → Int32 → Int32 → Option (Int32 × (Nat → Nat → Int32))} {W H : Nat} (hW1 : 1 ≤ W) (hW : W ≤ 10) (hH1 : 1 ≤ H) (hH : H ≤ 10) (h64 : mi 64 = nI W) (h65 : mi 65 = nI H) {w y x n : Nat} {r : Nat → Nat → Int32} {a : Nat → Bool} {g : CT} {t : Int32} (hw : w < 4) (ha : a w = true) (hx : x < W) (hy : y < H) (h70 : MBr 70 r g) : ∃ r', f_X13_beatOnce_101 mi ml K25 K35 (n + 1) r t (nI y) (nI x) (nI (pkB a 4)) (nI w) = f_X13_beatOnce_101 mi ml K25 K35 n r' t (nI y) (nI x) (nI (pkB a 4)) (nI (w + 1)) ∧ MBr 70 r' (addB g (tgt W H w y x)) ∧ ∀ s, s ≠ 70 → r' s = r s := by
  have tx : ∀ z, z ≤ 10 → (nI z).toInt = (z : Int) := fun z hz => nI_toInt (by omega)
  rcases w4 hw with h | h | h | h <;> subst h
  · rw [tgt_0]
    by_cases e : x + 1 = W
    · rw [if_pos e]
      exact ⟨_, b101_out hW1 hW hH1 hH h64 h65 hw ha ru.1 ru.2.2.2.2.1 (by rw [nI_p1, tx _ (by omega)]; omega) x2.1 hx hy, h70.add (by omega) (by omega) (by omega), fun s hs => up_n hs⟩
    · rw [if_neg e]
      exact ⟨_, b101_in hW1 hW hH1 hH h64 h65 hw ha ru.1 ru.2.2.2.2.1 (nI_p1 x) (nI_p0 y) (by omega) hy, h70.add (by omega) (by omega) (by omega), fun s hs => up_n hs⟩
  · rw [tgt_1]
    by_cases e : y + 1 = H
    · rw [if_pos e]
      exact ⟨_, b101_out hW1 hW hH1 hH h64 h65 hw ha ru.2.1 ru.2.2.2.2.2.1 (by rw [nI_p1, tx (y + 1) (by omega)]; omega) x2.2.1 hx hy, h70.add (by omega) (by omega) (by omega), fun s hs => up_n hs⟩
    · rw [if_neg e]
      exact ⟨_, b101_in hW1 hW hH1 hH h64 h65 hw ha ru.2.1 ru.2.2.2.2.2.1 (nI_p0 x) (nI_p1 y) hx (by omega), h70.add (by omega) (by omega) (by omega), fun s hs => up_n hs⟩
  · rw [tgt_2]
    by_cases e : x = 0
    · rw [if_pos e]
      subst e
      exact ⟨_, b101_out hW1 hW hH1 hH h64 h65 hw ha ru.2.2.1 ru.2.2.2.2.2.2.1 (by rw [m1_lt]; omega) x2.2.2.1 hx hy, h70.add (by omega) (by omega) (by omega), fun s hs => up_n hs⟩
    · rw [if_neg e]
      exact ⟨_, b101_in hW1 hW hH1 hH h64 h65 hw ha ru.2.2.1 ru.2.2.2.2.2.2.1 (nI_m1 (by omega)) (nI_p0 y) (by omega) hy, h70.add (by omega) (by omega) (by omega), fun s hs => up_n hs⟩
  · rw [tgt_3]
    by_cases e : y = 0
    · rw [if_pos e]
      subst e
      exact ⟨_, b101_out hW1 hW hH1 hH h64 h65 hw ha ru.2.2.2.1 ru.2.2.2.2.2.2.2 (by rw [m1_lt]; omega) x2.2.2.2 hx hy, h70.add (by omega) (by omega) (by omega), fun s hs => up_n hs⟩
    · rw [if_neg e]
      exact ⟨_, b101_in hW1 hW hH1 hH h64 h65 hw ha ru.2.2.2.1 ru.2.2.2.2.2.2.2 (nI_p0 x) (nI_m1 (by omega)) hx (by omega), h70.add (by omega) (by omega) (by omega), fun s hs => up_n hs⟩
theorem b101_go {mi : Nat → Int32} {ml : Nat → Nat → Int64} {K25 : (Nat → Nat → Int32) → Int32 → Int32 → Option (Int32 × (Nat → Nat → Int32))} {K35 : (Nat → Nat → Int32) → Int32 → Int32 → Int32 → Option (Int32 × (Nat → Nat → Int32))} {W H : Nat} (hW1 : 1 ≤ W) (hW : W ≤ 10) (hH1 : 1 ≤ H) (hH : H ≤ 10) (h64 : mi 64 = nI W) (h65 : mi 65 = nI H) {y x : Nat} {m : CT} {t : Int32} (hx : x < W) (hy : y < H) : ∀ (d k n : Nat) (r : Nat → Nat → Int32) (g : CT), k + d = 4 → d < n → MBr 70 r g → Qs (tgt W H) W H m y x k g → ∃ r' g', f_X13_beatOnce_101 mi ml K25 K35 n r t (nI y) (nI x) (nI (pkB (fun w => m w y x) 4)) (nI k) = K35 r' t (nI y) (nI (x + 1)) ∧ MBr 70 r' g' ∧ Qs (tgt W H) W H m y x 4 g' ∧ ∀ s, s ≠ 70 → r' s = r s := by
  intro d
  induction d with
  | zero =>
    intro k n r g hk hn h7 hQ
    obtain ⟨q, rfl⟩ : ∃ q, n = q + 1 := ⟨n - 1, by omega⟩
    have e : k = 4 := by omega
    subst e
    refine ⟨r, g, ?_, h7, hQ, fun _ _ => rfl⟩
    rw [f_X13_beatOnce_101, if_pos (show (4 : Int32) ≤ nI 4 from nI_le (a := 4) (by omega) (by omega)), f_X13_beatOnce_196, nI_1]
  | succ d ih =>
    intro k n r g hk hn h7 hQ
    obtain ⟨q, rfl⟩ : ∃ q, n = q + 1 := ⟨n - 1, by omega⟩
    have hk4 : k < 4 := by omega
    by_cases hb : m k y x = true
    · obtain ⟨r1, a1, a2, a3⟩ := b101_step (ml := ml) (K25 := K25) (K35 := K35) (n := q) (t := t) (a := fun w => m w y x) hW1 hW hH1 hH h64 h65 hk4 hb hx hy h7
      obtain ⟨r2, g2, b1, b2, b3, b4⟩ := ih (k + 1) q r1 _ (by omega) (by omega) a2 (hQ.yes hk4 hx hy hb)
      exact ⟨r2, g2, a1.trans b1, b2, b3, fun s hs => (b4 s hs).trans (a3 s hs)⟩
    · have hb' : m k y x = false := by simpa using hb
      obtain ⟨r2, g2, b1, b2, b3, b4⟩ := ih (k + 1) q r g (by omega) (by omega) h7 (hQ.no hb')
      refine ⟨r2, g2, ?_, b2, b3, b4⟩
      rw [f_X13_beatOnce_101, if_neg (show ¬ (4 : Int32) ≤ nI k from nI_ge (b := 4) hk4 (by omega)), if_pos ((bit_pk (a := fun w => m w y x) hk4).mpr hb'), f_X13_beatOnce_190, nI_1]
      exact b1
theorem Qs.skip {τ : Nat → Nat → Nat → Nat × Nat × Nat} {W H ky kx : Nat} {m g : CT} (h : Qs τ W H m ky kx 0 g) (hm : ∀ w, m w ky kx = false) : Qs τ W H m ky (kx + 1) 0 g := (((h.no (hm 0)).no (hm 1)).no (hm 2)).no (hm 3) |>.cell
theorem PMr.slot {p : Nat → Nat → Nat} {r r' : Nat → Nat → Int32} (h : PMr p r) (e : r' 68 = r 68) : PMr p r' := fun y hy x hx => by
  rw [e]
  exact h y hy x hx
theorem b35_go {mi : Nat → Int32} {ml : Nat → Nat → Int64} {K25 : (Nat → Nat → Int32) → Int32 → Int32 → Option (Int32 × (Nat → Nat → Int32))} {W H : Nat} (hW1 : 1 ≤ W) (hW : W ≤ 10) (hH1 : 1 ≤ H) (hH : H ≤ 10) (h64 : mi 64 = nI W) (h65 : mi 65 = nI H) {p : Nat → Nat → Nat} (hp : ∀ y x, p y x < 4) {y T : Nat} {c : CT} (hy : y < H) : ∀ (d x n : Nat) (r : Nat → Nat → Int32) (g : CT), x + d = W → d < n → MBr 69 r c → PMr p r → MBr 70 r g → Qs (tgt W H) W H (mtA W p c) y x 0 g → ∃ r' g', f_X13_beatOnce_35 mi ml K25 n r (nI (T + sm (fun x => if p y x = 3 then sm (fun w => (c w y x).toNat) 4 else 0) x)) (nI y) (nI x) = K25 r' (nI (T + tk W p c y)) (nI (y + 1)) ∧ MBr 70 r' g' ∧ Qs (tgt W H) W H (mtA W p c) (y + 1) 0 0 g' ∧ ∀ s, s ≠ 70 → r' s = r s := by
  intro d
  induction d with
  | zero =>
    intro x n r g hk hn h69 h68 h7 hQ
    obtain ⟨q, rfl⟩ : ∃ q, n = q + 1 := ⟨n - 1, by omega⟩
    have e : x = W := by omega
    subst e
    refine ⟨r, g, ?_, h7, hQ.row, fun _ _ => rfl⟩
    rw [f_X13_beatOnce_35, h64, if_pos (nI_le (by omega) (by omega)), nI_1]
    rfl
  | succ d ih =>
    intro x n r g hk hn h69 h68 h7 hQ
    obtain ⟨q, rfl⟩ : ∃ q, n = q + 1 := ⟨n - 1, by omega⟩
    have hx : x < W := by omega
    have ii := idx100 (y := y) (x := x) (by omega) (by omega)
    have v9 := h69 y (by omega) x (by omega)
    have v8 := h68 y (by omega) x (by omega)
    have hp3 := hp y x
    have hs : ∀ z, sm z (x + 1) = sm z x + z x := fun z => rfl
    rw [f_X13_beatOnce_35, h64, if_neg (nI_ge (by omega) (by omega)), at_ok, bd_some, ck_t ii, bd_some, ck_t ii, nI_clamp (n := 10 * y + x) (by omega), v8, v9]
    by_cases e : p y x = 3
    · obtain ⟨r2, g2, b1, b2, b3, b4⟩ := ih (x + 1) q r g (by omega) (by omega) h69 h68 h7 (hQ.skip (fun w => by simp [mtA, mt, e]))
      refine ⟨r2, g2, ?_, b2, b3, b4⟩
      rw [e, if_pos (show nI 3 = (3 : Int32) from rfl), bits_pkB, bd_some, f_X13_beatOnce_196, nI_add, nI_1, ← b1, hs, if_pos e, Nat.add_assoc]
    · have e3 : ¬ nI (p y x) = (3 : Int32) := fun q => e (nI_inj (b := 3) (by omega) (by omega) q)
      obtain ⟨r1, g1, a1, a2, a3, a4⟩ := b101_go (ml := ml) (K25 := K25) (K35 := f_X13_beatOnce_35 mi ml K25 q) (m := mtA W p c) (t := nI (T + sm (fun x => if p y x = 3 then sm (fun w => (c w y x).toNat) 4 else 0) x)) hW1 hW hH1 hH h64 h65 hx hy 4 0 2000000 r g (by omega) (by omega) h7 hQ
      obtain ⟨r2, g2, b1, b2, b3, b4⟩ := ih (x + 1) q r1 g1 (by omega) (by omega) (h69.slot (a4 69 (by omega))) (h68.slot (a4 68 (by omega))) a2 a3.cell
      refine ⟨r2, g2, ?_, b2, b3, fun s hs => (b4 s hs).trans (a4 s hs)⟩
      have eP : pkB (mt (p y x) (fun w => c w y x)) 4 = pkB (fun w => mtA W p c w y x) 4 := pkB_congr (fun w _ => by simp [mtA, hx])
      rw [if_neg e3, bd_some, ck_t ii, nI_clamp (n := 10 * y + x) (by omega), v8, turnC_ok (by omega), bd_some, eP]
      rw [hs, if_neg e, Nat.add_zero] at b1
      exact a1.trans b1
theorem b25_go {mi : Nat → Int32} {ml : Nat → Nat → Int64} {W H : Nat} (hW1 : 1 ≤ W) (hW : W ≤ 10) (hH1 : 1 ≤ H) (hH : H ≤ 10) (h64 : mi 64 = nI W) (h65 : mi 65 = nI H) {p : Nat → Nat → Nat} (hp : ∀ y x, p y x < 4) {c : CT} : ∀ (d y n : Nat) (r : Nat → Nat → Int32) (g : CT), y + d = H → d < n → MBr 69 r c → PMr p r → MBr 70 r g → Qs (tgt W H) W H (mtA W p c) y 0 0 g → ∃ r', f_X13_beatOnce_25 mi ml n r (nI (sm (tk W p c) y)) (nI y) = f_X13_beatOnce_210 mi ml 2000000 r' (nI (sm (tk W p c) H)) 0 ∧ MBr 70 r' (mv W H (mtA W p c)) ∧ ∀ s, s ≠ 70 → r' s = r s := by
  intro d
  induction d with
  | zero =>
    intro y n r g hk hn h69 h68 h7 hQ
    obtain ⟨q, rfl⟩ : ∃ q, n = q + 1 := ⟨n - 1, by omega⟩
    have e : y = H := by omega
    subst e
    refine ⟨r, ?_, h7.congr (fun w _ y' _ x _ => hQ.mv w y' x), fun _ _ => rfl⟩
    rw [f_X13_beatOnce_25, h65, if_pos (nI_le (by omega) (by omega))]
  | succ d ih =>
    intro y n r g hk hn h69 h68 h7 hQ
    obtain ⟨q, rfl⟩ : ∃ q, n = q + 1 := ⟨n - 1, by omega⟩
    obtain ⟨r1, g1, a1, a2, a3, a4⟩ := b35_go (ml := ml) (K25 := f_X13_beatOnce_25 mi ml q) (T := sm (tk W p c) y) hW1 hW hH1 hH h64 h65 hp (by omega) W 0 2000000 r g (by omega) (by omega) h69 h68 h7 hQ
    obtain ⟨r2, b1, b2, b3⟩ := ih (y + 1) q r1 g1 (by omega) (by omega) (h69.slot (a4 69 (by omega))) (h68.slot (a4 68 (by omega))) a2 a3
    refine ⟨r2, ?_, b2, fun s hs => (b3 s hs).trans (a4 s hs)⟩
    rw [f_X13_beatOnce_25, h65, if_neg (nI_ge (by omega) (by omega))]
    exact a1.trans b1
theorem b4_go {mi : Nat → Int32} {ml : Nat → Nat → Int64} {t : Int32} : ∀ (d k n : Nat) (r : Nat → Nat → Int32), k + d = 100 → d < n → (∀ j, j < k → r 70 j = 0) → ∃ r', f_X13_beatOnce_4 mi ml n r t (nI k) = f_X13_beatOnce_25 mi ml 2000000 r' t 0 ∧ (∀ j, j < 100 → r' 70 j = 0) ∧ ∀ s, s ≠ 70 → r' s = r s := by
  intro d
  induction d with
  | zero =>
    intro k n r hk hn h
    obtain ⟨q, rfl⟩ : ∃ q, n = q + 1 := ⟨n - 1, by omega⟩
    have e : k = 100 := by omega
    subst e
    refine ⟨r, ?_, h, fun _ _ => rfl⟩
    rw [f_X13_beatOnce_4, if_pos (show (100 : Int32) ≤ nI 100 from nI_le (a := 100) (by omega) (by omega))]
  | succ d ih =>
    intro k n r hk hn h
    obtain ⟨q, rfl⟩ : ∃ q, n = q + 1 := ⟨n - 1, by omega⟩
    obtain ⟨r2, b1, b2, b3⟩ := ih (k + 1) q (va_up r 70 (upd (r 70) k 0)) (by omega) (by omega) (fun j hj => by
      rw [up_s]
      by_cases e : j = k
      · subst e; rw [pk_us]
      · rw [pk_un e]; exact h j (by omega))
    refine ⟨r2, ?_, b2, fun s hs => (b3 s hs).trans (up_n hs)⟩
    rw [f_X13_beatOnce_4, if_neg (show ¬ (100 : Int32) ≤ nI k from nI_ge (b := 100) (by omega) (by omega)), ck_t (inb_nI (by omega) (by omega)), nI_clamp (by omega), nI_1]
    exact b1
theorem b210_go {mi : Nat → Int32} {ml : Nat → Nat → Int64} {t : Int32} : ∀ (d k n : Nat) (r : Nat → Nat → Int32), k + d = 100 → d < n → (∀ j, j < k → r 69 j = r 70 j) → ∃ r', f_X13_beatOnce_210 mi ml n r t (nI k) = some (t, r') ∧ (∀ j, j < 100 → r' 69 j = r 70 j) ∧ ∀ s, s ≠ 69 → r' s = r s := by
  intro d
  induction d with
  | zero =>
    intro k n r hk hn h
    obtain ⟨q, rfl⟩ : ∃ q, n = q + 1 := ⟨n - 1, by omega⟩
    have e : k = 100 := by omega
    subst e
    refine ⟨r, ?_, h, fun _ _ => rfl⟩
    rw [f_X13_beatOnce_210, if_pos (show (100 : Int32) ≤ nI 100 from nI_le (a := 100) (by omega) (by omega))]
  | succ d ih =>
    intro k n r hk hn h
    obtain ⟨q, rfl⟩ : ∃ q, n = q + 1 := ⟨n - 1, by omega⟩
    obtain ⟨r2, b1, b2, b3⟩ := ih (k + 1) q (va_up r 69 (upd (r 69) k (r 70 k))) (by omega) (by omega) (fun j hj => by
      rw [up_s, up_n (show 70 ≠ 69 by omega)]
      by_cases e : j = k
      · subst e; rw [pk_us]
      · rw [pk_un e]; exact h j (by omega))
    refine ⟨r2, ?_, fun j hj => (b2 j hj).trans (by rw [up_n (show 70 ≠ 69 by omega)]), fun s hs => (b3 s hs).trans (up_n hs)⟩
    rw [f_X13_beatOnce_210, if_neg (show ¬ (100 : Int32) ≤ nI k from nI_ge (b := 100) (by omega) (by omega)), ck_t (inb_nI (by omega) (by omega)), ck_t (inb_nI (by omega) (by omega)), nI_clamp (by omega), nI_1]
    exact b1
theorem pkB_none (n : Nat) : pkB (fun _ => false) n = 0 := by
  induction n with
  | zero => rfl
  | succ n ih =>
    show pkB (fun _ => false) n + (if false = true then 2 ^ n else 0) = 0
    rw [ih]
    rfl
theorem beatOnce_ok {mi : Nat → Int32} {mr : Nat → Nat → Int32} {ml : Nat → Nat → Int64} {W H : Nat} (hW1 : 1 ≤ W) (hW : W ≤ 10) (hH1 : 1 ≤ H) (hH : H ≤ 10) (h64 : mi 64 = nI W) (h65 : mi 65 = nI H) {p : Nat → Nat → Nat} (hp : ∀ y x, p y x < 4) {c : CT} (h69 : MBr 69 mr c) (h68 : PMr p mr) : ∃ mr', f_X13_beatOnce mi mr ml = some (nI (sm (tk W p c) H), mr') ∧ MBr 69 mr' (mv W H (mtA W p c)) ∧ ∀ s, s ≠ 69 → s ≠ 70 → mr' s = mr s := by
  obtain ⟨r1, a1, a2, a3⟩ := b4_go (mi := mi) (ml := ml) (t := 0) 100 0 2000000 mr (by omega) (by omega) (fun j hj => by omega)
  have h7 : MBr 70 r1 (fun _ _ _ => false) := fun y hy x hx => by
    rw [a2 _ (by omega), pkB_none]
    rfl
  obtain ⟨r2, b1, b2, b3⟩ := b25_go (ml := ml) hW1 hW hH1 hH h64 h65 hp H 0 2000000 r1 _ (by omega) (by omega) (h69.slot (a3 69 (by omega))) (h68.slot (a3 68 (by omega))) h7 Qs.start
  obtain ⟨r3, d1, d2, d3⟩ := b210_go (mi := mi) (ml := ml) (t := nI (sm (tk W p c) H)) 100 0 2000000 r2 (by omega) (by omega) (fun j hj => by omega)
  refine ⟨r3, ?_, fun y hy x hx => (d2 _ (by omega)).trans (b2 y hy x hx), fun s h1 h2 => ((d3 s h1).trans (b3 s h2)).trans (a3 s h2)⟩
  rw [f_X13_beatOnce]
  exact a1.trans (b1.trans d1)
