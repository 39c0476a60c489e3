/-! ===== FLOORS: step, out, apart ===== -/
theorem l5 : (5 : Int64).toInt = 5 := by decide
theorem n10 : ¬ (1 : Int32) = 0 := by decide
theorem bz01 (c : Prop) [Decidable c] : bz (if c then 1 else 0) = true := by
  split <;> rfl
theorem fl_cases (x : Int32) : (∃ j, j < 6 ∧ x = nI j ∧ f_X11_noFloor x = some 0 ∧ f_X13_isFloor x = some 1) ∨ (f_X11_noFloor x = some 1 ∧ f_X13_isFloor x = some 0) := by
  have l6 : (6 : Int32).toInt = 6 := by decide
  rw [f_X11_noFloor, f_X13_isFloor, f_in, bd_some, ck_t (bz01 _), i2l_toInt, z64, l5]
  simp only [lt32, z32, l6]
  by_cases h : 0 ≤ x.toInt ∧ x.toInt ≤ 5
  · left
    obtain ⟨n, hn, hx, hn2⟩ := nI_ofI h.1
    exact ⟨n, by omega, hx, by rw [if_neg (by omega), if_pos (by omega)], by rw [if_pos h]⟩
  · right
    rw [if_neg h]
    refine ⟨?_, rfl⟩
    by_cases h1 : x.toInt < 0
    · rw [if_pos h1]
    · rw [if_neg h1, if_neg (by omega)]
theorem rows_ok {L : Nat} {l : List FSt} {i : Nat → Int32} {r : Nat → Nat → Int32} (hL : L ≤ 8) (h : FL L l i r) : f_X2_rows i r = some (nI (2 ^ L)) := by
  rw [f_X2_rows, h.1, sh1 (by omega)]
theorem row_cases {L j : Nat} {l : List FSt} {i mi : Nat → Int32} {r mr : Nat → Nat → Int32} {ml : Nat → Nat → Int64} (hj : j < 8) (hL : L ≤ 8) (h : FL L l i r) (hm : MF L l mr j) (x : Int32) : (∃ v, v < 2 ^ L ∧ x = nI v ∧ f_X2_hasNoRow i r x = some 0 ∧ f_X13_isRow mi mr ml (nI j) x = some 1) ∨ (f_X2_hasNoRow i r x = some 1 ∧ f_X13_isRow mi mr ml (nI j) x = some 0) := by
  have h256 := p2 hL
  have hp : 0 < 2 ^ L := Nat.pow_pos (by omega)
  have e1 : (1 : Int64) <<< ((nI L).toInt64 &&& 63) - 1 = lN (2 ^ L - 1) := by
    have h1 := wb_shl 1 (k := L) (by omega)
    rw [Nat.one_mul] at h1
    rw [show (1 : Int64) = lN 1 from rfl, h1, lN_sub (by omega)]
  rw [f_X2_hasNoRow, rows_ok hL h, bd_some, f_X13_isRow, ck_t (inb_nI hj (by omega)), nI_clamp (by omega), hm.1, e1, f_in, bd_some, ck_t (bz01 _), i2l_toInt, z64, pk_lT (by omega)]
  simp only [lt32, z32]
  rw [nI_toInt (n := 2 ^ L) (by omega)]
  by_cases h : 0 ≤ x.toInt ∧ x.toInt ≤ ((2 ^ L - 1 : Nat) : Int)
  · left
    obtain ⟨n, hn, hx, hn2⟩ := nI_ofI h.1
    exact ⟨n, by omega, hx, by rw [if_neg (by omega), if_pos (by omega)], by rw [if_pos h]⟩
  · right
    rw [if_neg h]
    refine ⟨?_, rfl⟩
    by_cases h1 : x.toInt < 0
    · rw [if_pos h1]
    · rw [if_neg h1, if_neg (by omega)]
theorem out_ok {P : Nat → Nat → Int32} {S : Nat → Nat → Nat → Int32} {mi : Nat → Int32} {mr : Nat → Nat → Int32} {ml : Nat → Nat → Int64} (h : GF P S mr) (x1 x2 x3 : Int32) : ∃ q m, f_X11_out P S x1 x2 x3 = some q ∧ f_X13_out mi mr ml x1 x2 x3 = some m ∧ q = m := by
  rcases fl_cases x1 with ⟨j, hj, hx, ha, hb⟩ | ⟨ha, hb⟩
  · obtain ⟨L, l, hf, hF, hM⟩ := h j hj
    have c6 := inb_nI (N := 6) hj (by omega)
    rw [f_X11_out, ha, bd_some, if_pos rfl, hx, ck_t c6, nI_clamp (by omega), f_X13_out, ← hx, hb, bd_some, if_neg n10, hx]
    rcases row_cases (mi := mi) (ml := ml) (show j < 8 by omega) hf.2.1 hF hM x2 with ⟨v, hv, hx2, hc, hd⟩ | ⟨hc, hd⟩
    · rw [hc, bd_some, if_pos rfl, ck_t c6, hd, bd_some, if_neg n10, hx2]
      by_cases e : x3 = 0
      · rw [e, outOf_ok hf hF hv, outBut_ok (by omega) hf hM hv]
        exact ⟨_, _, rfl, rfl, rfl⟩
      · rw [outOf_back hf hF hv e, outBut_back (by omega) hf hM hv e]
        exact ⟨_, _, rfl, rfl, rfl⟩
    · rw [hc, bd_some, if_neg n10, hd, bd_some, if_pos rfl]
      exact ⟨_, _, rfl, rfl, rfl⟩
  · rw [f_X11_out, ha, bd_some, if_neg n10, f_X13_out, hb, bd_some, if_pos rfl]
    exact ⟨_, _, rfl, rfl, rfl⟩
theorem step_ok {P : Nat → Nat → Int32} {S : Nat → Nat → Nat → Int32} {mi : Nat → Int32} {mr : Nat → Nat → Int32} {ml : Nat → Nat → Int64} (h : GF P S mr) (x1 x2 x3 : Int32) : ∃ q m, f_X11_step P S x1 x2 x3 = some q ∧ f_X13_step mi mr ml x1 x2 x3 = some m ∧ q = m := by
  rcases fl_cases x1 with ⟨j, hj, hx, ha, hb⟩ | ⟨ha, hb⟩
  · obtain ⟨L, l, hf, hF, hM⟩ := h j hj
    have c6 := inb_nI (N := 6) hj (by omega)
    have c8 := inb_nI (N := 8) (n := j) (by omega) (by omega)
    have h40 := hf.2.2.1
    rw [f_X11_step, ha, bd_some, if_pos rfl, hx, ck_t c6, nI_clamp (by omega), f_X13_step, ← hx, hb, bd_some, if_neg n10, hx, f_X2_tell, nI_clamp (by omega), hF.1, hM.1, hF.2.1, hM.2.1]
    by_cases e1 : x3 = 1
    · rw [if_pos e1, if_pos e1, ck_t c8]
      exact ⟨_, _, rfl, rfl, rfl⟩
    · have e2 : (nI l.length).toInt64 - 1 = Int64.ofInt ((l.length : Int) - 1) := by
        rw [nI_l (by omega)]
        apply Int64.toInt_inj.mp
        rw [Int64.toInt_sub, lN_toInt (by omega), show (1 : Int64).toInt = 1 by decide, Int64.toInt_ofInt]
      have e3 : ((nI l.length).toInt64 - 1).toInt = (l.length : Int) - 1 := by
        rw [nI_l (by omega), Int64.toInt_sub, lN_toInt (by omega), show (1 : Int64).toInt = 1 by decide, Int.bmod_def]
        split <;> omega
      rw [if_neg e1, if_neg e1, ck_t c8, f_in, bd_some, i2l_toInt, z64, e3]
      simp only [lt32, z32]
      rw [nI_toInt (by omega)]
      by_cases hr : 0 ≤ x2.toInt ∧ x2.toInt ≤ (l.length : Int) - 1
      · obtain ⟨k, hk, hx2, hk2⟩ := nI_ofI hr.1
        have hk3 : k < l.length := by omega
        obtain ⟨t, ht⟩ : ∃ t, l[k]? = some t := ⟨l[k], List.getElem?_eq_getElem hk3⟩
        obtain ⟨a0, a1, a2, a3⟩ := hF.2.2 k t ht
        obtain ⟨b1, b2, b3⟩ := hM.2.2 k t ht
        have c40 := inb_nI (N := 40) (n := k) (by omega) (by omega)
        have c320 := inb_nI (n := 40 * j + k) (N := 320) (by omega) (by omega)
        rw [if_neg (by omega), if_pos (by omega), if_pos hr, if_neg n10, hx2, mul40, ck_t c320, ck_t c320, ck_t c320, ck_t c320, ck_t c40, ck_t c40, ck_t c40, ck_t c40, nI_clamp (by omega), nI_clamp (by omega), a0, a1, a2, a3, b1, b2, b3]
        have hk0 : kI t = if oI t.2.1 = -1 then 0 else 1 := by
          obtain ⟨a, o, g⟩ := t
          cases o with
          | none => rfl
          | some b =>
            have hb' := ((hf.2.2.2 _ (List.mem_of_getElem? ht)).2.2.2 b rfl).1
            have hL8 := hf.2.1
            show (1 : Int32) = if nI b = -1 then 0 else 1
            rw [if_neg (nm1 (by omega))]
        by_cases s0 : x3 = 0
        · rw [if_pos s0, if_pos s0, hk0]
          by_cases s9 : oI t.2.1 = -1
          · rw [if_pos s9, if_pos s9]
            exact ⟨_, _, rfl, rfl, rfl⟩
          · rw [if_neg s9, if_neg s9]
            exact ⟨_, _, rfl, rfl, rfl⟩
        · rw [if_neg s0, if_neg s0]
          by_cases s2 : x3 = 2
          · rw [if_pos s2]
            exact ⟨_, _, rfl, rfl, rfl⟩
          · rw [if_neg s2]
            by_cases s3 : x3 = 3
            · rw [if_pos s3]
              exact ⟨_, _, rfl, rfl, rfl⟩
            · rw [if_neg s3]
              by_cases s4 : x3 = 4
              · rw [if_pos s4]
                exact ⟨_, _, rfl, rfl, rfl⟩
              · rw [if_neg s4]
                exact ⟨_, _, rfl, rfl, rfl⟩
      · rw [if_neg hr]
        refine ⟨-1, -1, ?_, rfl, rfl⟩
        by_cases h1 : x2.toInt < 0
        · rw [if_pos h1]
          rfl
        · rw [if_neg h1, if_neg (by omega)]
          rfl
  · rw [f_X11_step, ha, bd_some, if_neg n10, f_X13_step, hb, bd_some, if_pos rfl]
    exact ⟨_, _, rfl, rfl, rfl⟩
/-- the first row from k on that two lists bring out unlike -/
theorem apart_go {L f g : Nat} {l l2 : List FSt} {i i2 mi : Nat → Int32} {r r2 mr : Nat → Nat → Int32} {ml : Nat → Nat → Int64} (hf8 : f < 8) (hg8 : g < 8) (hf : fineF L l) (hf2 : fineF L l2) (hF : FL L l i r) (hF2 : FL L l2 i2 r2) (hM : MF L l mr f) (hM2 : MF L l2 mr g) : ∀ (d k n : Nat), k + d = 2 ^ L → d < n → ∃ x, f_X2_leastRowUnlike_2 i r i2 r2 n (nI k) = some x ∧ f_X13_apart_37 mi mr ml n (nI f) (nI g) (nI k) = some x := by
  have hL := hf.2.1
  have h256 := p2 hL
  intro d
  induction d with
  | zero =>
    intro k n hk hn
    obtain ⟨m, rfl⟩ : ∃ m, n = m + 1 := ⟨n - 1, by omega⟩
    refine ⟨-1, ?_, ?_⟩
    · rw [f_X2_leastRowUnlike_2, rows_ok hL hF, bd_some, if_pos (nI_le (by omega) (by omega))]
    · rw [f_X13_apart_37, ck_t (inb_nI hf8 (by omega)), nI_clamp (by omega), hM.1, sh1 (by omega), if_pos (nI_le (by omega) (by omega))]
  | succ d ih =>
    intro k n hk hn
    obtain ⟨m, rfl⟩ : ∃ m, n = m + 1 := ⟨n - 1, by omega⟩
    have hk2 : k < 2 ^ L := by omega
    rw [f_X2_leastRowUnlike_2, rows_ok hL hF, bd_some, if_neg (nI_ge (by omega) (by omega)), outOf_ok hf hF hk2, bd_some, outOf_ok hf2 hF2 hk2, bd_some, f_X13_apart_37, ck_t (inb_nI hf8 (by omega)), nI_clamp (by omega), hM.1, sh1 (by omega), if_neg (nI_ge (by omega) (by omega)), outBut_ok hf8 hf hM hk2, bd_some, outBut_ok hg8 hf2 hM2 hk2, bd_some]
    by_cases e : nI (runS l k) = nI (runS l2 k)
    · rw [if_pos e, if_pos e, nI_1]
      exact ih (k + 1) m (by omega) (by omega)
    · rw [if_neg e, if_neg e]
      exact ⟨_, rfl, rfl⟩
theorem unlike_S {i : Nat → Int32} {r : Nat → Nat → Int32} : ∀ (n : Nat) (x : Int32), f_X2_leastRowUnlike_S_2 i r n x = f_X2_leastRowUnlike_2 i r i r n x
  | 0, _ => rfl
  | n + 1, x => by
    rw [f_X2_leastRowUnlike_S_2, f_X2_leastRowUnlike_2]
    simp only [unlike_S n]
theorem apart_ok {P : Nat → Nat → Int32} {S : Nat → Nat → Nat → Int32} {mi : Nat → Int32} {mr : Nat → Nat → Int32} {ml : Nat → Nat → Int64} (h : GF P S mr) (x1 x2 : Int32) : ∃ q m, f_X11_apart P S x1 x2 = some q ∧ f_X13_apart mi mr ml x1 x2 = some m ∧ q = m := by
  rcases fl_cases x1 with ⟨j, hj, hx, ha, hb⟩ | ⟨ha, hb⟩
  · rcases fl_cases x2 with ⟨k, hk, hy, hc, hd⟩ | ⟨hc, hd⟩
    · obtain ⟨L, l, hf, hF, hM⟩ := h j hj
      obtain ⟨L2, l2, hf2, hF2, hM2⟩ := h k hk
      have c6 := inb_nI (N := 6) hj (by omega)
      have k6 := inb_nI (N := 6) hk (by omega)
      have c8 := inb_nI (N := 8) (n := j) (by omega) (by omega)
      have k8 := inb_nI (N := 8) (n := k) (by omega) (by omega)
      have hL8 := hf.2.1
      have hL28 := hf2.2.1
      rw [f_X11_apart, ha, bd_some, if_pos rfl, hc, bd_some, if_pos rfl, f_X13_apart, hb, bd_some, if_neg n10, hd, bd_some, if_neg n10, hx, hy]
      rw [ck_t c6, nI_clamp (by omega), f_X2_lanes, bd_some, ck_t k6, nI_clamp (by omega), f_X2_lanes, bd_some, ck_t c8, ck_t k8, hF.1, hF2.1, hM.1, hM2.1]
      by_cases e : nI L = nI L2
      · have e' : L = L2 := nI_inj (by omega) (by omega) e
        subst e'
        obtain ⟨x, hx1, hx2⟩ := apart_go (mi := mi) (ml := ml) (show j < 8 by omega) (show k < 8 by omega) hf hf2 hF hF2 hM hM2 (2 ^ L) 0 2000000 (by omega) (by have := p2 hL8; omega)
        rw [if_pos e, if_pos e, ck_t c6, ck_t k6]
        refine ⟨x, x, ?_, hx2, rfl⟩
        by_cases ej : j = k
        · subst ej
          rw [if_pos rfl, f_X2_leastRowUnlike_S, unlike_S]
          have hx1' : f_X2_leastRowUnlike_2 (P j) (S j) (P j) (S j) 2000000 0 = some x := hx1
          rw [hx1']
          rfl
        · rw [if_neg ej, f_X2_leastRowUnlike]
          have hx1' : f_X2_leastRowUnlike_2 (P j) (S j) (P k) (S k) 2000000 0 = some x := hx1
          rw [hx1']
          rfl
      · rw [if_neg e, if_neg e]
        exact ⟨_, _, rfl, rfl, rfl⟩
    · rw [f_X11_apart, ha, bd_some, if_pos rfl, hc, bd_some, if_neg n10, f_X13_apart, hb, bd_some, if_neg n10, hd, bd_some, if_pos rfl]
      exact ⟨_, _, rfl, rfl, rfl⟩
  · rw [f_X11_apart, ha, bd_some, if_neg n10, f_X13_apart, hb, bd_some, if_pos rfl]
    exact ⟨_, _, rfl, rfl, rfl⟩
