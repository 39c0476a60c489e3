/-! ===== CELLS: the group, and table, part, ball, cell ===== -/
def his (W H : Nat) (p : Nat → Nat → Nat) : Nat → CT → Prop
  | 0, _ => True
  | u + 1, c => ∃ c', INC W H c' ∧ (∀ w y x, p y x = 3 → c' w y x = false) ∧ c = mv W H (mtA W p c') ∧ his W H p u c'
theorem his_pred {W H : Nat} {p : Nat → Nat → Nat} : ∀ {u : Nat} {c : CT}, his W H p (u + 1) c → his W H p u c
  | 0, _, _ => trivial
  | _ + 1, _, ⟨c', a, b, d, e⟩ => ⟨c', a, b, d, his_pred e⟩
def GCp (W H : Nat) (c : CT) (p : Nat → Nat → Nat) (i : Nat → Int32) (r : Nat → Nat → Int32) (mi : Nat → Int32) (mr : Nat → Nat → Int32) : Prop := (2 ≤ W ∧ W ≤ 10 ∧ 2 ≤ H ∧ H ≤ 10) ∧ (i 3 = nI W ∧ i 4 = nI H ∧ i 5 = mi 66 ∧ mi 64 = nI W ∧ mi 65 = nI H) ∧ (∀ y x, p y x < 4) ∧ INC W H c ∧ CBr 10 r c ∧ PBr W p r ∧ MBr 69 mr c ∧ PMr p mr
def GC (i : Nat → Int32) (r : Nat → Nat → Int32) (mi : Nat → Int32) (mr : Nat → Nat → Int32) : Prop := ∃ W H U c p, GCp W H c p i r mi mr ∧ i 6 = nI U ∧ mi 67 = nI U ∧ U ≤ 1000000 ∧ his W H p U c
theorem GC.congr {i i' : Nat → Int32} {r r' : Nat → Nat → Int32} {mi mi' : Nat → Int32} {mr mr' : Nat → Nat → Int32} (h : GC i r mi mr) (hi : i' = i) (hr : r' = r) (h4 : mi' 64 = mi 64) (h5 : mi' 65 = mi 65) (h6 : mi' 66 = mi 66) (h7 : mi' 67 = mi 67) (h8 : mr' 68 = mr 68) (h9 : mr' 69 = mr 69) : GC i' r' mi' mr' := by
  subst hi
  subst hr
  unfold GC GCp MBr PMr at h ⊢
  rw [h4, h5, h6, h7, h8, h9]
  exact h
/-! the table -/
theorem fill_go {v : Int32} : ∀ (d k n : Nat) (g : Nat → Int32), k + d = 10 → d < n → (∀ j, j < k → g j = v) → ∃ g', f_J7_fill_53178_5 10 n g v (nI k) (nI 10) = some g' ∧ ∀ j, j < 10 → g' j = v := by
  intro d
  induction d with
  | zero =>
    intro k n g hk hn h
    obtain ⟨q, rfl⟩ : ∃ q, n = q + 1 := ⟨n - 1, by omega⟩
    have e : k = 10 := by omega
    subst e
    refine ⟨g, ?_, h⟩
    rw [f_J7_fill_53178_5, if_pos (nI_le (by omega) (by omega))]
  | succ d ih =>
    intro k n g hk hn h
    obtain ⟨q, rfl⟩ : ∃ q, n = q + 1 := ⟨n - 1, by omega⟩
    obtain ⟨g', a1, a2⟩ := ih (k + 1) q (upd g k v) (by omega) (by omega) (fun j hj => by
      by_cases e : j = k
      · subst e; rw [pk_us]
      · rw [pk_un e]; exact h j (by omega))
    refine ⟨g', ?_, a2⟩
    rw [f_J7_fill_53178_5, if_neg (nI_ge (by omega) (by omega)), ck_t (inb_nI (by omega) (by omega)), nI_clamp (by omega), nI_1]
    exact a1
theorem fill_ok (g : Nat → Int32) (v : Int32) : ∃ g', f_J7_fill_53178 10 g v = some g' ∧ ∀ j, j < 10 → g' j = v := fill_go 10 0 2000000 g (by omega) (by omega) (fun j hj => by omega)
theorem cl22_go {i : Nat → Int32} : ∀ (d k n : Nat) (r : Nat → Nat → Int32), k + d = 4 → d < n → (∀ w, w < k → ∀ y, y < 10 → r (10 + w) y = 0) → ∃ r', f_X0_clear_22 n i r (nI k) = f_X0_clear_45 2000000 i r' 0 ∧ (∀ w, w < 4 → ∀ y, y < 10 → r' (10 + w) y = 0) := by
  intro d
  induction d with
  | zero =>
    intro k n r hk hn h
    obtain ⟨q, rfl⟩ : ∃ q, n = q + 1 := ⟨n - 1, by omega⟩
    have e : k = 4 := by omega
    subst e
    refine ⟨r, ?_, h⟩
    rw [f_X0_clear_22, if_pos (show (4 : Int32) ≤ nI 4 from nI_le (a := 4) (by omega) (by omega))]
  | succ d ih =>
    intro k n r hk hn h
    obtain ⟨q, rfl⟩ : ∃ q, n = q + 1 := ⟨n - 1, by omega⟩
    obtain ⟨g, a1, a2⟩ := fill_ok (r (10 + k)) 0
    obtain ⟨r2, b1, b2⟩ := ih (k + 1) q (va_up r (10 + k) g) (by omega) (by omega) (fun w hw y hy => by
      by_cases e : w = k
      · subst e; rw [up_s]; exact a2 y hy
      · rw [up_n (by omega)]; exact h w (by omega) y hy)
    refine ⟨r2, ?_, b2⟩
    rw [f_X0_clear_22, if_neg (show ¬ (4 : Int32) ≤ nI k from nI_ge (b := 4) (by omega) (by omega)), ck_t (inb_nI (by omega) (by omega)), nI_clamp (by omega), a1, bd_some, nI_1]
    exact b1
theorem cl45_go {i : Nat → Int32} {W : Nat} (hW : W ≤ 10) (h3 : i 3 = nI W) : ∀ (d k n : Nat) (r : Nat → Nat → Int32), k + d = 4 → d < n → (∀ w, w < 4 → ∀ y, y < 10 → r (10 + w) y = 0) → (∀ w, w < k → ∀ y, y < 10 → r (30 + w) y = nI (if w = 0 then 2 ^ W - 1 else 0)) → ∃ r', f_X0_clear_45 n i r (nI k) = some (i, r') ∧ (∀ w, w < 4 → ∀ y, y < 10 → r' (10 + w) y = 0) ∧ (∀ w, w < 4 → ∀ y, y < 10 → r' (30 + w) y = nI (if w = 0 then 2 ^ W - 1 else 0)) := by
  intro d
  have hp : 1 ≤ 2 ^ W := Nat.pow_pos (by omega)
  have e1 : ((1 : Int32) <<< (nI W &&& 31)) - 1 = nI (2 ^ W - 1) := by
    rw [sh1 (by omega)]
    exact pk_sub (a := 2 ^ W) (b := 1) hp
  induction d with
  | zero =>
    intro k n r hk hn h h'
    obtain ⟨q, rfl⟩ : ∃ q, n = q + 1 := ⟨n - 1, by omega⟩
    have e : k = 4 := by omega
    subst e
    refine ⟨r, ?_, h, h'⟩
    rw [f_X0_clear_45, if_pos (show (4 : Int32) ≤ nI 4 from nI_le (a := 4) (by omega) (by omega))]
  | succ d ih =>
    intro k n r hk hn h h'
    obtain ⟨q, rfl⟩ : ∃ q, n = q + 1 := ⟨n - 1, by omega⟩
    obtain ⟨g, a1, a2⟩ := fill_ok (r (30 + k)) (nI (if k = 0 then 2 ^ W - 1 else 0))
    obtain ⟨r2, b1, b2, b3⟩ := ih (k + 1) q (va_up r (30 + k) g) (by omega) (by omega) (fun w hw y hy => by rw [up_n (by omega)]; exact h w hw y hy) (fun w hw y hy => by
      by_cases e : w = k
      · subst e; rw [up_s]; exact a2 y hy
      · rw [up_n (by omega)]; exact h' w (by omega) y hy)
    refine ⟨r2, ?_, b2, b3⟩
    rw [f_X0_clear_45, if_neg (show ¬ (4 : Int32) ≤ nI k from nI_ge (b := 4) (by omega) (by omega)), ck_t (inb_nI (by omega) (by omega)), nI_clamp (by omega)]
    by_cases e : k = 0
    · subst e
      rw [if_pos rfl] at a1
      rw [if_pos (show nI 0 = (0 : Int32) from rfl), h3, e1, a1, bd_some, f_X0_clear_75, nI_1]
      exact b1
    · rw [if_neg e] at a1
      have a1' : f_J7_fill_53178 10 (r (30 + k)) 0 = some g := a1
      rw [if_neg (nI_ne0 (by omega) (by omega)), a1', bd_some, f_X0_clear_75, nI_1]
      exact b1
theorem clearC_ok {i : Nat → Int32} {r : Nat → Nat → Int32} {W H : Nat} (hW : W ≤ 10) : ∃ r', f_X0_clear i r (nI W) (nI H) = some (upd (upd (upd (upd i 3 (nI W)) 4 (nI H)) 5 0) 6 0, r') ∧ CBr 10 r' (fun _ _ _ => false) ∧ PBr W (fun _ _ => 0) r' := by
  obtain ⟨r1, a1, a2⟩ := cl22_go (i := upd (upd (upd (upd i 3 (nI W)) 4 (nI H)) 5 0) 6 0) 4 0 2000000 r (by omega) (by omega) (fun w hw => by omega)
  obtain ⟨r2, b1, b2, b3⟩ := cl45_go (i := upd (upd (upd (upd i 3 (nI W)) 4 (nI H)) 5 0) 6 0) hW (by rw [pk_un (by omega), pk_un (by omega), pk_un (by omega), pk_us]) 4 0 2000000 r1 (by omega) (by omega) a2 (fun w hw => by omega)
  refine ⟨r2, ?_, fun w hw y hy => ?_, fun k hk y hy => ?_⟩
  · rw [f_X0_clear, f_X0_clear_20]
    exact a1.trans b1
  · rw [b2 w hw y hy, pkB_none]
    rfl
  · rw [b3 k hk y hy]
    refine pkB_ext (fun j hj => ?_)
    rw [bqN _ hj]
    by_cases e : k = 0
    · subst e
      rw [if_pos rfl, Nat.testBit_two_pow_sub_one]
      by_cases e2 : j < W
      · simp [e2, show j < 10 by omega]
      · simp [e2]
    · rw [if_neg e]
      simp [Ne.symm e]
theorem mtab_go {ml : Nat → Nat → Int64} : ∀ (d k n : Nat) (mi : Nat → Int32) (mr : Nat → Nat → Int32), k + d = 100 → d < n → (∀ j, j < k → mr 68 j = 0 ∧ mr 69 j = 0) → ∃ mr', f_X13_table_43 ml n mi mr (nI k) = some (1, upd (upd mi 66 0) 67 0, mr') ∧ ∀ j, j < 100 → mr' 68 j = 0 ∧ mr' 69 j = 0 := by
  intro d
  induction d with
  | zero =>
    intro k n mi mr hk hn h
    obtain ⟨q, rfl⟩ : ∃ q, n = q + 1 := ⟨n - 1, by omega⟩
    have e : k = 100 := by omega
    subst e
    refine ⟨mr, ?_, h⟩
    rw [f_X13_table_43, if_pos (show (100 : Int32) ≤ nI 100 from nI_le (a := 100) (by omega) (by omega))]
  | succ d ih =>
    intro k n mi mr hk hn h
    obtain ⟨q, rfl⟩ : ∃ q, n = q + 1 := ⟨n - 1, by omega⟩
    obtain ⟨m2, b1, b2⟩ := ih (k + 1) q mi (va_up (va_up mr 68 (upd (mr 68) k 0)) 69 (upd (mr 69) k 0)) (by omega) (by omega) (fun j hj => by
      rw [up_n (show 68 ≠ 69 by omega), up_s, up_s]
      by_cases e : j = k
      · subst e; rw [pk_us, pk_us]; exact ⟨rfl, rfl⟩
      · rw [pk_un e, pk_un e]; exact h j (by omega))
    refine ⟨m2, ?_, b2⟩
    rw [f_X13_table_43, if_neg (show ¬ (100 : Int32) ≤ nI k from nI_ge (b := 100) (by omega) (by omega)), ck_t (inb_nI (by omega) (by omega)), ck_t (inb_nI (by omega) (by omega)), nI_clamp (by omega), f_X13_table_63, nI_1]
    exact b1
theorem l2 : (2 : Int64).toInt = 2 := by decide
theorem l10L : (10 : Int64).toInt = 10 := by decide
theorem i2 : (2 : Int32).toInt = 2 := by decide
theorem i10 : (10 : Int32).toInt = 10 := by decide
theorem table_ok {i mi : Nat → Int32} {r mr : Nat → Nat → Int32} {ml : Nat → Nat → Int64} (h : GC i r mi mr) (x1 x2 : Int32) : ∃ q m, f_X11_table i r x1 x2 = some q ∧ f_X13_table mi mr ml x1 x2 = some m ∧ q.1 = m.1 ∧ GC q.2.1 q.2.2 m.2.1 m.2.2 := by
  rw [f_X11_table, f_X13_table]
  simp only [f_in, bd_some, i2l_toInt, l2, l10L, lt32, le32, i2, i10]
  by_cases c1 : x1.toInt < 2
  · rw [if_pos c1, if_neg (show ¬ (2 ≤ x1.toInt ∧ x1.toInt ≤ 10) by omega), if_pos rfl]
    exact ⟨_, _, rfl, rfl, rfl, h⟩
  · rw [if_neg c1]
    by_cases c2 : 10 < x1.toInt
    · rw [if_pos c2, if_neg (show ¬ (2 ≤ x1.toInt ∧ x1.toInt ≤ 10) by omega), if_pos rfl]
      exact ⟨_, _, rfl, rfl, rfl, h⟩
    · rw [if_neg c2, if_pos (show 2 ≤ x1.toInt ∧ x1.toInt ≤ 10 by omega), if_neg n10]
      by_cases c3 : x2.toInt < 2
      · rw [if_pos c3, if_neg (show ¬ (2 ≤ x2.toInt ∧ x2.toInt ≤ 10) by omega), if_pos rfl]
        exact ⟨_, _, rfl, rfl, rfl, h⟩
      · rw [if_neg c3]
        by_cases c4 : x2.toInt ≤ 10
        · rw [if_pos c4, if_pos (show 2 ≤ x2.toInt ∧ x2.toInt ≤ 10 by omega), if_neg n10]
          obtain ⟨W, hW, eW, eW2⟩ := nI_ofI (x := x1) (by omega)
          obtain ⟨H, hH, eH, eH2⟩ := nI_ofI (x := x2) (by omega)
          subst eW
          subst eH
          obtain ⟨r1, a1, a2, a3⟩ := clearC_ok (i := i) (r := r) (W := W) (H := H) (by omega)
          obtain ⟨m1, b1, b2⟩ := mtab_go (ml := ml) 100 0 2000000 (upd (upd mi 64 (nI W)) 65 (nI H)) mr (by omega) (by omega) (fun j hj => by omega)
          refine ⟨(1, upd (upd (upd (upd i 3 (nI W)) 4 (nI H)) 5 0) 6 0, r1), _, by rw [a1, bd_some], b1, rfl, W, H, 0, fun _ _ _ => false, fun _ _ => 0, ⟨⟨by omega, by omega, by omega, by omega⟩, ⟨?_, ?_, ?_, ?_, ?_⟩, fun _ _ => show 0 < 4 by omega, fun _ _ _ _ => rfl, a2, a3, fun y hy x hx => ?_, fun y hy x hx => ?_⟩, ?_, ?_, by omega, trivial⟩
          · show upd (upd (upd (upd i 3 (nI W)) 4 (nI H)) 5 0) 6 0 3 = _
            rw [pk_un (by omega), pk_un (by omega), pk_un (by omega), pk_us]
          · show upd (upd (upd (upd i 3 (nI W)) 4 (nI H)) 5 0) 6 0 4 = _
            rw [pk_un (by omega), pk_un (by omega), pk_us]
          · show upd (upd (upd (upd i 3 (nI W)) 4 (nI H)) 5 0) 6 0 5 = upd (upd (upd (upd mi 64 (nI W)) 65 (nI H)) 66 0) 67 0 66
            rw [pk_un (by omega), pk_us, pk_un (by omega), pk_us]
          · show upd (upd (upd (upd mi 64 (nI W)) 65 (nI H)) 66 0) 67 0 64 = _
            rw [pk_un (by omega), pk_un (by omega), pk_un (by omega), pk_us]
          · show upd (upd (upd (upd mi 64 (nI W)) 65 (nI H)) 66 0) 67 0 65 = _
            rw [pk_un (by omega), pk_un (by omega), pk_us]
          · show m1 69 _ = _
            rw [(b2 _ (by omega)).2, pkB_none]
            rfl
          · show m1 68 _ = _
            rw [(b2 _ (by omega)).1]
            rfl
          · show upd (upd (upd (upd i 3 (nI W)) 4 (nI H)) 5 0) 6 0 6 = _
            rw [pk_us]
            rfl
          · show upd (upd (upd (upd mi 64 (nI W)) 65 (nI H)) 66 0) 67 0 67 = _
            rw [pk_us]
            rfl
        · rw [if_neg c4, if_neg (show ¬ (2 ≤ x2.toInt ∧ x2.toInt ≤ 10) by omega), if_pos rfl]
          exact ⟨_, _, rfl, rfl, rfl, h⟩
/-! a cell that there is -/
theorem cell_cases {i mi : Nat → Int32} {r mr : Nat → Nat → Int32} {ml : Nat → Nat → Int64} {W H : Nat} {c : CT} {p : Nat → Nat → Nat} (h : GCp W H c p i r mi mr) (x1 x2 : Int32) : (∃ x y, x < W ∧ y < H ∧ x1 = nI x ∧ x2 = nI y ∧ f_X0_hasNoCell i r x1 x2 = some 0 ∧ f_X13_isCell mi mr ml x1 x2 = some 1) ∨ (f_X0_hasNoCell i r x1 x2 = some 1 ∧ f_X13_isCell mi mr ml x1 x2 = some 0) := by
  obtain ⟨⟨hW1, hW, hH1, hH⟩, ⟨g3, g4, g5, m4, m5⟩, _⟩ := h
  rw [hasNo_eq hW hH g3 g4, isCell_eq (by omega) hW (by omega) hH m4 m5]
  by_cases hc : (0 ≤ x1.toInt ∧ x1.toInt < W) ∧ (0 ≤ x2.toInt ∧ x2.toInt < H)
  · rw [if_pos hc, if_pos hc]
    obtain ⟨x, _, ex, ex2⟩ := nI_ofI hc.1.1
    obtain ⟨y, _, ey, ey2⟩ := nI_ofI hc.2.1
    exact Or.inl ⟨x, y, by omega, by omega, ex, ey, rfl, rfl⟩
  · rw [if_neg hc, if_neg hc]
    exact Or.inr ⟨rfl, rfl⟩
theorem l3 : (3 : Int64).toInt = 3 := by decide
theorem i4 : (4 : Int32).toInt = 4 := by decide
theorem way_cases (x3 : Int32) : (∃ k, k < 4 ∧ x3 = nI k ∧ ¬ x3 < 0 ∧ x3 < 4 ∧ f_X13_in x3.toInt64 0 3 = some 1) ∨ ((x3 < 0 ∨ ¬ x3 < 4) ∧ f_X13_in x3.toInt64 0 3 = some 0) := by
  rw [f_in, i2l_toInt, z64, l3, lt32, lt32, z32, i4]
  by_cases hc : 0 ≤ x3.toInt ∧ x3.toInt ≤ 3
  · obtain ⟨k, _, e1, e2⟩ := nI_ofI hc.1
    exact Or.inl ⟨k, by omega, e1, by omega, by omega, by rw [if_pos hc]⟩
  · exact Or.inr ⟨by omega, by rw [if_neg hc]⟩
theorem bit_pk10 {a : Nat → Bool} {k : Nat} (hk : k < 10) : (((nI (pkB a 10)) >>> (nI k &&& 31)) &&& 1 = 0) ↔ a k = false := by
  have := pkB_lt a 10
  rw [bit_if (by omega) (by omega), pkB_bit]
  simp [hk]
/-! cell -/
theorem bitv10 {a : Nat → Bool} {k : Nat} (hk : k < 10) : ((nI (pkB a 10)) >>> (nI k &&& 31)) &&& 1 = nI (if a k then 1 else 0) := by
  have h1 := pkB_lt a 10
  rw [shr (by omega) (by omega), and1 (by
    have := Nat.div_le_self (pkB a 10) (2 ^ k)
    omega), dm_bit, pkB_bit]
  simp only [hk, decide_true, Bool.true_and]
  cases a k <;> rfl
theorem bAt_go {i : Nat → Int32} {r : Nat → Nat → Int32} {c : CT} {x y : Nat} (hx : x < 10) (hy : y < 10) (hC : CBr 10 r c) : ∀ (d k n : Nat), k + d = 4 → d < n → f_X0_ballsAt_5 i r n (nI x) (nI y) (nI (pkB (fun w => c w y x) k)) (nI k) = some (nI (pkB (fun w => c w y x) 4)) := by
  intro d
  induction d with
  | zero =>
    intro k n hk hn
    obtain ⟨q, rfl⟩ : ∃ q, n = q + 1 := ⟨n - 1, by omega⟩
    have e : k = 4 := by omega
    subst e
    rw [f_X0_ballsAt_5, if_pos (show (4 : Int32) ≤ nI 4 from nI_le (a := 4) (by omega) (by omega))]
  | succ d ih =>
    intro k n hk hn
    obtain ⟨q, rfl⟩ : ∃ q, n = q + 1 := ⟨n - 1, by omega⟩
    rw [f_X0_ballsAt_5, if_neg (show ¬ (4 : Int32) ≤ nI k from nI_ge (b := 4) (by omega) (by omega)), ck_t (inb_nI (by omega) (by omega)), ck_t (inb_nI (by omega) (by omega)), nI_clamp (n := k) (by omega), nI_clamp (n := y) (by omega), hC k (by omega) y hy, bitv10 hx, shN (by split <;> omega) (by omega), nI_1, ← ih (k + 1) q (by omega) (by omega)]
    refine congrArg (fun v => f_X0_ballsAt_5 i r q (nI x) (nI y) v (nI (k + 1))) (pkB_ext (fun j hj => ?_))
    rw [b_or, bqP _ _ hj]
    have e2 : bq (nI ((if c k y x = true then 1 else 0) * 2 ^ k)) j = (c k y x && decide (k = j)) := by
      cases c k y x
      · simp [b_0, show nI 0 = (0 : Int32) from rfl]
      · simp only [if_true, Nat.one_mul, Bool.true_and]
        exact b_pow k hj
    rw [e2]
    by_cases e : k = j
    · subst e
      simp
    · by_cases e3 : j < k
      · simp [e, e3, show j < k + 1 by omega]
      · simp [e, e3, show ¬ j < k + 1 by omega]
theorem cell_ok {i mi : Nat → Int32} {r mr : Nat → Nat → Int32} {ml : Nat → Nat → Int64} (h : GC i r mi mr) (x1 x2 : Int32) : ∃ q m, f_X11_cell i r x1 x2 = some q ∧ f_X13_cell mi mr ml x1 x2 = some m ∧ q = m := by
  obtain ⟨W, H, U, c, p, hp, _⟩ := h
  rw [f_X11_cell, f_X13_cell]
  rcases cell_cases (ml := ml) hp x1 x2 with ⟨x, y, hx, hy, e1, e2, a, b⟩ | ⟨a, b⟩
  · rw [a, b, bd_some, bd_some, if_pos rfl, if_neg n10]
    subst e1
    subst e2
    obtain ⟨⟨hW1, hW, hH1, hH⟩, _, _, _, hC, _, hM, _⟩ := hp
    have hA : f_X0_ballsAt i r (nI x) (nI y) = some (nI (pkB (fun w => c w y x) 4)) := by
      rw [f_X0_ballsAt]
      exact bAt_go (by omega) (by omega) hC 4 0 2000000 (by omega) (by omega)
    refine ⟨_, _, by rw [hA, bd_some], ?_, rfl⟩
    rw [at_ok, bd_some, ck_t (idx100 (by omega) (by omega)), nI_clamp (by omega), hM y (by omega) x (by omega)]
  · rw [a, b, bd_some, bd_some, if_neg n10, if_pos rfl]
    exact ⟨_, _, rfl, rfl, rfl⟩
