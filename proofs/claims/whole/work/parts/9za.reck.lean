/-! ===== count ===== -/
theorem count_ok {i1 : Nat → Int32} {r1 : Nat → Nat → Int32} {l1 : Nat → Nat → Int64} {i2 : Nat → Int32} {r2 : Nat → Nat → Int32} {i3 : Nat → Int32} {r3 : Nat → Nat → Int32} {u3 : Nat → Nat} {i4 : Nat → Int32} {r4 : Nat → Nat → Int32} {l4 : Nat → Nat → Int64} {mi : Nat → Int32} {mr : Nat → Nat → Int32} {ml : Nat → Nat → Int64} (hP : GP i1 r1 mi mr) (hC : GC i2 r2 mi mr) (h6 : ∃ q, f_X1_seen i3 r3 u3 = some q ∧ mi 77 = q) (h7 : ∃ q, f_X1_rights i3 r3 u3 = some q ∧ mi 78 = q) (hT : GT i4 r4 mi mr) (x : Int32) : ∃ q, f_X11_count i1 r1 l1 i2 r2 i3 r3 u3 i4 r4 l4 x = some q ∧ f_X13_count mi mr ml x = some q := by
  obtain ⟨b, hb1, hb2⟩ := GC.balls (ml := ml) hC
  obtain ⟨W, H, U, c, p, ⟨_, ⟨g3, g4, g5, m4, m5⟩, _⟩, g6, m67, _⟩ := hC
  obtain ⟨n, P, lv, _, _, p14, p46, _⟩ := hP
  obtain ⟨s6, s6a, s6b⟩ := h6
  obtain ⟨s7, s7a, s7b⟩ := h7
  obtain ⟨tn, _, t5, t2, _⟩ := hT
  rw [f_X11_count, f_X13_count, f_X5_procs, f_X0_heat, f_X0_undoable, hb1, hb2, f_X0_wide, f_X0_high, s6a, s7a, f_X9_length]
  simp only [bd_some, g3, g4, g5, g6, m4, m5, m67, p14, p46, s6b, s7b, t5, t2]
  by_cases e0 : x = 0
  · rw [if_pos e0]; exact ⟨_, rfl, rfl⟩
  rw [if_neg e0]
  by_cases e1 : x = 1
  · rw [if_pos e1]; exact ⟨_, rfl, rfl⟩
  rw [if_neg e1]
  by_cases e2 : x = 2
  · rw [if_pos e2]; exact ⟨_, rfl, rfl⟩
  rw [if_neg e2]
  by_cases e3 : x = 3
  · rw [if_pos e3]; exact ⟨_, rfl, rfl⟩
  rw [if_neg e3]
  by_cases e4 : x = 4
  · rw [if_pos e4]; exact ⟨_, rfl, rfl⟩
  rw [if_neg e4]
  by_cases e5 : x = 5
  · rw [if_pos e5]; exact ⟨_, rfl, rfl⟩
  rw [if_neg e5]
  by_cases e6 : x = 6
  · rw [if_pos e6]; exact ⟨_, rfl, rfl⟩
  rw [if_neg e6]
  by_cases e7 : x = 7
  · rw [if_pos e7]; exact ⟨_, rfl, rfl⟩
  rw [if_neg e7]
  by_cases e8 : x = 8
  · rw [if_pos e8]; exact ⟨_, rfl, rfl⟩
  rw [if_neg e8]
  exact ⟨_, rfl, rfl⟩
/-! ===== run: places and sums ===== -/
theorem l9' : (9 : Int64).toInt = 9 := by decide
theorem idx_cases (x : Int32) : (∃ w, w < 10 ∧ x = nI w ∧ ¬ x < 0 ∧ x < 10 ∧ f_X13_in x.toInt64 0 9 = some 1) ∨ ((x < 0 ∨ ¬ x < 10) ∧ f_X13_in x.toInt64 0 9 = some 0) := by
  rw [f_in, i2l_toInt, z64, l9', lt32, lt32, z32, i10]
  by_cases hc : 0 ≤ x.toInt ∧ x.toInt ≤ 9
  · obtain ⟨k, _, e1, e2⟩ := nI_ofI hc.1
    exact Or.inl ⟨k, by omega, e1, by omega, by omega, by rw [if_pos hc]⟩
  · exact Or.inr ⟨by omega, by rw [if_neg hc]⟩
def RV (r mr : Nat → Nat → Int32) : Prop := ∀ m, m < 18 → r 0 (cv m) = mr 58 m
theorem cv_hi (w : Nat) : cv (8 + w) = 10 + w := by
  unfold cv
  rw [if_neg (by omega)]
  omega
theorem cv_lo {m : Nat} (h : m < 8) : cv m = m := if_pos h
theorem rplace_ok {v a : Nat} {i mi : Nat → Int32} {r mr : Nat → Nat → Int32} {ml : Nat → Nat → Int64} (hv : okV v a) (hV : RV r mr) : (∃ m, m < 18 ∧ f_X4_placeOf i r (nI (vc v a)) = some (nI (cv m), i) ∧ f_X13_placeOf mi mr ml (nI v) (nI a) = some (nI m, mi)) ∨ (f_X4_placeOf i r (nI (vc v a)) = bd (f_X4_meet i r 2) (fun q => some (10, q)) ∧ f_X13_placeOf mi mr ml (nI v) (nI a) = some (-1, upd mi 61 2)) := by
  rcases hv with ⟨h1, h2⟩ | ⟨h1, h2⟩ | ⟨h1, h2⟩
  · left
    refine ⟨v, by omega, ?_, ?_⟩
    · rw [f_X4_placeOf, show vc v a = v from if_pos h1, cv_lo h1, if_neg (show ¬ (20 : Int32) ≤ nI v from nI_ge (b := 20) (by omega) (by omega))]
    · rw [f_X13_placeOf, if_neg (show ¬ (8 : Int32) ≤ nI v from nI_ge (b := 8) (by omega) (by omega))]
  · subst h1
    left
    refine ⟨8 + a, by omega, ?_, ?_⟩
    · rw [f_X4_placeOf, show vc 8 a = 10 + a from rfl, cv_hi, if_neg (show ¬ (20 : Int32) ≤ nI (10 + a) from nI_ge (b := 20) (by omega) (by omega))]
    · rcases idx_cases (nI a) with ⟨w, w1, w2, w3, w4, w5⟩ | ⟨w1 | w1, w2⟩
      · rw [f_X13_placeOf, if_pos (show (8 : Int32) ≤ nI 8 by decide), if_pos (show nI 8 = (8 : Int32) from rfl), f_X13_placeOf_24, w5, bd_some, if_neg n10, show (8 : Int32) + nI a = nI (8 + a) from nadd 8 a _ rfl]
      · exact absurd w1 (show ¬ nI a < (0 : Int32) from nI_nlt (b := 0) (by omega) (by omega))
      · exact absurd (show nI a < (10 : Int32) from nI_lt (b := 10) h2 (by omega)) w1
  · subst h1
    have ha : r 0 a = mr 58 a := by
      have := hV a (by omega)
      rw [cv_lo h2] at this
      exact this
    have hC : f_X4_placeOf i r (nI (vc 9 a)) = if mr 58 a < 0 then f_X4_placeOf_28 r i else if mr 58 a < 10 then some (10 + mr 58 a, i) else f_X4_placeOf_28 r i := by
      rw [f_X4_placeOf, show vc 9 a = 20 + a from rfl, if_pos (show (20 : Int32) ≤ nI (20 + a) from nI_le (a := 20) (by omega) (by omega)), show nI (20 + a) - 20 = nI a from (pk_sub (a := 20 + a) (b := 20) (by omega)).trans (by rw [Nat.add_sub_cancel_left]), ck_t (inb_nI (by omega) (by omega)), nI_clamp (by omega), ha]
    have hR : f_X13_placeOf mi mr ml (nI 9) (nI a) = f_X13_placeOf_24 mr ml mi (mr 58 a) := by
      rw [f_X13_placeOf, if_pos (show (8 : Int32) ≤ nI 9 by decide), if_neg (show ¬ nI 9 = (8 : Int32) by decide), ck_t (inb_nI (by omega) (by omega)), nI_clamp (by omega)]
    rw [hC, hR, f_X4_placeOf_28, f_X13_placeOf_24]
    rcases idx_cases (mr 58 a) with ⟨w, w1, w2, w3, w4, w5⟩ | ⟨w1, w2⟩
    · left
      refine ⟨8 + w, by omega, ?_, ?_⟩
      · rw [if_neg w3, if_pos w4, cv_hi, w2, show (10 : Int32) + nI w = nI (10 + w) from nadd 10 w _ rfl]
      · rw [w5, bd_some, if_neg n10, w2, show (8 : Int32) + nI w = nI (8 + w) from nadd 8 w _ rfl]
    · right
      rw [w2, bd_some, if_pos rfl]
      refine ⟨?_, rfl⟩
      by_cases q : mr 58 a < 0
      · rw [if_pos q]
      · rw [if_neg q, if_neg (by rcases w1 with w1 | w1; exact absurd w1 q; exact w1)]
theorem meet_t {i : Nat → Int32} {r : Nat → Nat → Int32} (h : ¬ i 12 = 0) (x : Int32) : f_X4_meet i r x = some i := by rw [f_X4_meet, if_neg h]
theorem meet_f {i : Nat → Int32} {r : Nat → Nat → Int32} (h : i 12 = 0) (x : Int32) : f_X4_meet i r x = some (upd i 12 x) := by rw [f_X4_meet, if_pos h]
theorem place_tot {v a : Nat} {i : Nat → Int32} {r : Nat → Nat → Int32} (hv : okV v a) (h : ¬ i 12 = 0) : ∃ p, p < 20 ∧ f_X4_placeOf i r (nI (vc v a)) = some (nI p, i) := by
  rcases rplace_ok (i := i) (mi := i) (r := r) (mr := fun _ m => r 0 (cv m)) (ml := fun _ _ => 0) hv (fun m _ => rfl) with ⟨m, m1, m2, _⟩ | ⟨m1, _⟩
  · exact ⟨cv m, cv_lt m1, m2⟩
  · exact ⟨10, by omega, by rw [m1, meet_t h, bd_some]; rfl⟩
theorem work_some (z x y : Int32) : ∃ v, f_X4_work z x y = some v := by
  have hd : ∀ w : Int32, ∃ v, (if y = 0 then some 0 else ck (nz y) (some w)) = some v := fun w => by
    by_cases h : y = 0
    · exact ⟨0, by rw [if_pos h]⟩
    · exact ⟨w, by rw [if_neg h, ck_t (show nz y = true from decide_eq_true h)]⟩
  rw [f_X4_work]
  by_cases h37 : z = 37
  · rw [if_pos h37]; exact hd _
  rw [if_neg h37]
  by_cases h38 : z = 38
  · rw [if_pos h38]; exact ⟨_, rfl⟩
  rw [if_neg h38]
  by_cases h42 : z = 42
  · rw [if_pos h42]; exact ⟨_, rfl⟩
  rw [if_neg h42]
  by_cases h43 : z = 43
  · rw [if_pos h43]; exact ⟨_, rfl⟩
  rw [if_neg h43]
  by_cases h45 : z = 45
  · rw [if_pos h45]; exact ⟨_, rfl⟩
  rw [if_neg h45]
  by_cases h47 : z = 47
  · rw [if_pos h47]; exact hd _
  rw [if_neg h47]
  by_cases h60 : z = 60
  · rw [if_pos h60]
    by_cases q : y ≤ x
    · exact ⟨_, if_pos q⟩
    · exact ⟨_, if_neg q⟩
  rw [if_neg h60]
  by_cases h61 : z = 61
  · rw [if_pos h61]
    by_cases q : x = y
    · exact ⟨_, if_pos q⟩
    · exact ⟨_, if_neg q⟩
  rw [if_neg h61]
  by_cases h62 : z = 62
  · rw [if_pos h62]
    by_cases q : x ≤ y
    · exact ⟨_, if_pos q⟩
    · exact ⟨_, if_neg q⟩
  rw [if_neg h62]
  by_cases q : x = y
  · exact ⟨_, if_pos q⟩
  · exact ⟨_, if_neg q⟩
theorem two_work {z : Nat} (h : opN z) (x y : Int32) : f_X13_two (nI z) x y = f_X4_work (nI z) x y := by
  rw [f_X13_two, f_X4_work]
  rcases h with rfl | rfl | rfl | rfl | rfl | rfl
  · rw [if_pos (show nI 37 = (37 : Int32) from rfl), if_pos (show nI 37 = (37 : Int32) from rfl)]
  · rw [if_neg (show ¬ nI 38 = (37 : Int32) by decide), if_neg (show ¬ nI 38 = (42 : Int32) by decide), if_neg (show ¬ nI 38 = (43 : Int32) by decide), if_neg (show ¬ nI 38 = (45 : Int32) by decide), if_neg (show ¬ nI 38 = (47 : Int32) by decide), if_neg (show ¬ nI 38 = (37 : Int32) by decide), if_pos (show nI 38 = (38 : Int32) from rfl)]
  · rw [if_neg (show ¬ nI 42 = (37 : Int32) by decide), if_pos (show nI 42 = (42 : Int32) from rfl), if_neg (show ¬ nI 42 = (37 : Int32) by decide), if_neg (show ¬ nI 42 = (38 : Int32) by decide), if_pos (show nI 42 = (42 : Int32) from rfl)]
  · rw [if_neg (show ¬ nI 43 = (37 : Int32) by decide), if_neg (show ¬ nI 43 = (42 : Int32) by decide), if_pos (show nI 43 = (43 : Int32) from rfl), if_neg (show ¬ nI 43 = (37 : Int32) by decide), if_neg (show ¬ nI 43 = (38 : Int32) by decide), if_neg (show ¬ nI 43 = (42 : Int32) by decide), if_pos (show nI 43 = (43 : Int32) from rfl)]
  · rw [if_neg (show ¬ nI 45 = (37 : Int32) by decide), if_neg (show ¬ nI 45 = (42 : Int32) by decide), if_neg (show ¬ nI 45 = (43 : Int32) by decide), if_pos (show nI 45 = (45 : Int32) from rfl), if_neg (show ¬ nI 45 = (37 : Int32) by decide), if_neg (show ¬ nI 45 = (38 : Int32) by decide), if_neg (show ¬ nI 45 = (42 : Int32) by decide), if_neg (show ¬ nI 45 = (43 : Int32) by decide), if_pos (show nI 45 = (45 : Int32) from rfl)]
  · rw [if_neg (show ¬ nI 47 = (37 : Int32) by decide), if_neg (show ¬ nI 47 = (42 : Int32) by decide), if_neg (show ¬ nI 47 = (43 : Int32) by decide), if_neg (show ¬ nI 47 = (45 : Int32) by decide), if_pos (show nI 47 = (47 : Int32) from rfl), if_neg (show ¬ nI 47 = (37 : Int32) by decide), if_neg (show ¬ nI 47 = (38 : Int32) by decide), if_neg (show ¬ nI 47 = (42 : Int32) by decide), if_neg (show ¬ nI 47 = (43 : Int32) by decide), if_neg (show ¬ nI 47 = (45 : Int32) by decide), if_pos (show nI 47 = (47 : Int32) from rfl)]
theorem op_code {z : Nat} (h : opN z ∨ z = 61 ∨ z = 60 ∨ z = 62 ∨ z = 33) : ¬ (0 : Int32) ≤ -(nI z) ∧ -(-(nI z)) = nI z ∧ -(nI z) < (10000 : Int32) := by
  rcases h with (rfl | rfl | rfl | rfl | rfl | rfl) | rfl | rfl | rfl | rfl <;> exact ⟨by decide, by decide, by decide⟩
theorem nm_1 {h : Nat} (hh : 1 ≤ h) (hb : h < 2 ^ 31) : nI h + (-1) = nI (h - 1) := by
  rw [← Int32.sub_eq_add_neg, show (1 : Int32) = nI 1 from rfl, pk_sub hh]
/-- codes that the class can reckon whatever it has met -/
def CTt (c e : Nat) (r2 : Nat → Nat → Int32) : Prop := ∀ j, c ≤ j → j < e → r2 12 j < 10000 ∨ ∃ v a, okV v a ∧ r2 12 j = nI (10000 + vc v a)
theorem cm_ct {t : MKt} (h : okM t) : cM t < 10000 ∨ ∃ v a, okV v a ∧ cM t = nI (10000 + vc v a) := by
  unfold cM
  rcases h with ⟨h1, h2, _⟩ | ⟨h1, h2⟩ | ⟨h1, h2, _⟩
  · rw [if_pos h1]
    exact Or.inl (nI_lt (b := 10000) h2 (by omega))
  · rw [if_neg (by omega), if_pos h1]
    exact Or.inr ⟨_, _, h2, rfl⟩
  · rw [if_neg (by omega), if_neg (by omega)]
    exact Or.inl (op_code (Or.inl h2)).2.2
theorem vc_lt {v a : Nat} (h : okV v a) : vc v a < 28 := by
  unfold vc
  rcases h with ⟨h1, h2⟩ | ⟨h1, h2⟩ | ⟨h1, h2⟩
  · rw [if_pos h1]; omega
  · rw [if_neg (by omega), if_pos h1]; omega
  · rw [if_neg (by omega), if_neg (by omega)]; omega
theorem reck_tot {i2 : Nat → Int32} {r2 : Nat → Nat → Int32} {l2 : Nat → Nat → Int64} {e : Nat} (he : e ≤ 900) : ∀ (d c h fu : Nat) (i : Nat → Int32) (r : Nat → Nat → Int32), c + d = e → d < fu → h ≤ 24 → CTt c e r2 → ¬ i 12 = 0 → ∃ v r', f_X4_reckon_5 i2 r2 l2 fu i r (nI e) (nI h) (nI c) = some (v, i, r') ∧ ∀ z, z ≠ 2 → r' z = r z := by
  intro d
  induction d with
  | zero =>
    intro c h fu i r hc hfu hh hT hi
    obtain ⟨fu, rfl⟩ : ∃ m, fu = m + 1 := ⟨fu - 1, by omega⟩
    refine ⟨r 2 (0 : Int32).toNatClampNeg, r, ?_, fun _ _ => rfl⟩
    rw [f_X4_reckon_5, if_pos (nI_le (by omega) (by omega)), ck_t (show inb (0 : Int32) 24 = true by decide)]
  | succ d ih =>
    intro c h fu i r hc hfu hh hT hi
    obtain ⟨fu, rfl⟩ : ∃ m, fu = m + 1 := ⟨fu - 1, by omega⟩
    have h114 : ∀ (r1 : Nat → Nat → Int32) (h1 : Nat), h1 ≤ 24 → (∀ z, z ≠ 2 → r1 z = r z) → ∃ v r', f_X4_reckon_114 i2 r2 l2 (f_X4_reckon_5 i2 r2 l2 fu) i r1 (nI e) (nI h1) (nI c) = some (v, i, r') ∧ ∀ z, z ≠ 2 → r' z = r z := fun r1 h1 hh1 hr1 => by
      rw [f_X4_reckon_114, nI_1]
      obtain ⟨v, r', a1, a2⟩ := ih (c + 1) h1 fu i r1 (by omega) (by omega) hh1 (fun j j1 j2 => hT j (by omega) j2) hi
      exact ⟨v, r', a1, fun z hz => (a2 z hz).trans (hr1 z hz)⟩
    have h110 : ∀ y : Int32, h < 24 → ∃ v r', f_X4_reckon_110 i2 r2 l2 (f_X4_reckon_5 i2 r2 l2 fu) i r (nI e) (nI h) (nI c) y (nI h) = some (v, i, r') ∧ ∀ z, z ≠ 2 → r' z = r z := fun y hl => by
      rw [f_X4_reckon_110, ck_t (inb_nI hl (by omega)), nI_1]
      exact h114 _ _ (by omega) (fun z hz => up_n hz)
    have h66 : ∃ v r', f_X4_reckon_66 i2 r2 l2 (f_X4_reckon_5 i2 r2 l2 fu) i r (nI e) (nI h) (nI c) (r2 12 c) = some (v, i, r') ∧ ∀ z, z ≠ 2 → r' z = r z := by
      rw [f_X4_reckon_66]
      by_cases q1 : r2 12 c < 0
      · rw [if_pos q1]; exact h114 _ _ hh (fun _ _ => rfl)
      rw [if_neg q1]
      by_cases q2 : 24 ≤ h
      · rw [if_pos (show (24 : Int32) ≤ nI h from nI_le (a := 24) q2 (by omega))]
        exact h114 _ _ hh (fun _ _ => rfl)
      rw [if_neg (show ¬ (24 : Int32) ≤ nI h from nI_ge (b := 24) (by omega) (by omega))]
      by_cases q3 : (10000 : Int32) ≤ r2 12 c
      · rw [if_pos q3]
        rcases hT c (by omega) (by omega) with q | ⟨v, a, ha, q⟩
        · exact absurd q (Int32.not_lt.mpr q3)
        · have hv := vc_lt ha
          obtain ⟨p, p1, p2⟩ := place_tot (r := r) ha hi
          rw [q, show nI (10000 + vc v a) - 10000 = nI (vc v a) from (pk_sub (a := 10000 + vc v a) (b := 10000) (by omega)).trans (by rw [Nat.add_sub_cancel_left]), p2, bd_some, ck_t (inb_nI p1 (by omega))]
          exact h110 _ (by omega)
      · rw [if_neg q3]
        exact h110 _ (by omega)
    rw [f_X4_reckon_5, if_neg (nI_ge (by omega) (by omega)), f_X5_codeAt, ck_t (inb_nI (by omega) (by omega)), bd_some, nI_clamp (show c < 2 ^ 31 by omega)]
    by_cases q1 : (0 : Int32) ≤ r2 12 c
    · rw [if_pos q1]; exact h66
    rw [if_neg q1]
    by_cases q2 : h < 2
    · rw [if_pos (show nI h < (2 : Int32) from nI_lt (b := 2) q2 (by omega))]; exact h66
    · rw [if_neg (show ¬ nI h < (2 : Int32) from nI_nlt (b := 2) (by omega) (by omega)), nm_1 (by omega) (by omega), nI_s1 (by omega), ck_t (inb_nI (by omega) (by omega)), ck_t (inb_nI (by omega) (by omega))]
      obtain ⟨w, hw⟩ := work_some (-(r2 12 c)) (r 2 (nI (h - 1 - 1)).toNatClampNeg) (r 2 (nI (h - 1)).toNatClampNeg)
      rw [hw, bd_some, ck_t (inb_nI (by omega) (by omega))]
      exact h114 _ _ (by omega) (fun z hz => up_n hz)
