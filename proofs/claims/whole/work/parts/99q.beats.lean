/-! ===== CELLS: beat, back ===== -/
theorem sm_le {f : Nat → Nat} {B : Nat} (h : ∀ i, f i ≤ B) : ∀ n, sm f n ≤ n * B
  | 0 => Nat.zero_le _
  | n + 1 => by
    have h1 := sm_le h n
    have h2 := h n
    show sm f n + f n ≤ (n + 1) * B
    rw [Nat.add_mul, Nat.one_mul]
    omega
theorem sm_eq0 {f : Nat → Nat} : ∀ {n : Nat}, sm f n = 0 → ∀ i, i < n → f i = 0
  | 0, _, i, hi => by omega
  | n + 1, h, i, hi => by
    have h1 : sm f n + f n = 0 := h
    by_cases e : i = n
    · subst e; omega
    · exact sm_eq0 (n := n) (by omega) i (by omega)
theorem tk_le (W : Nat) (p : Nat → Nat → Nat) (c : CT) (y : Nat) : tk W p c y ≤ W * 4 := by
  refine sm_le (fun x => ?_) W
  split
  · have := sm_le (f := fun w => (c w y x).toNat) (B := 1) (fun w => by cases c w y x <;> decide) 4
    omega
  · omega
theorem tkH_le {W H : Nat} (hW : W ≤ 10) (hH : H ≤ 10) (p : Nat → Nat → Nat) (c : CT) : sm (tk W p c) H ≤ 400 := by
  have h1 := sm_le (f := tk W p c) (B := 40) (fun y => by have := tk_le W p c y; omega) H
  omega
theorem tk_none {W H : Nat} {p : Nat → Nat → Nat} {c : CT} (hin : INC W H c) (h : sm (tk W p c) H = 0) : ∀ w y x, p y x = 3 → c w y x = false := by
  intro w y x hp
  by_cases hr : w < 4 ∧ y < H ∧ x < W
  · have h1 := sm_eq0 (sm_eq0 h y hr.2.1) x hr.2.2
    simp only [hp, if_true] at h1
    have h2 := sm_eq0 h1 w hr.1
    revert h2
    cases c w y x <;> simp
  · exact hin w y x hr
theorem mtA_false {W H : Nat} {p : Nat → Nat → Nat} {c : CT} (hin : INC W H c) : ∀ w y x, ¬ (y < H ∧ x < W) → mtA W p c w y x = false := mtA_out hin
theorem minU {U : Nat} (h : U ≤ 1000000) : (if (1000000 : Int32) < nI U + 1 then 1000000 else nI U + 1) = nI (min (U + 1) 1000000) ∧ (if nI U + 1 < (1000000 : Int32) then nI U + 1 else 1000000) = nI (min (U + 1) 1000000) := by
  rw [nI_1]
  by_cases e : U = 1000000
  · subst e
    exact ⟨by decide, by decide⟩
  · have h1 : min (U + 1) 1000000 = U + 1 := by omega
    rw [h1]
    refine ⟨if_neg (show ¬ nI 1000000 < nI (U + 1) from nI_nlt (by omega) (by omega)), ?_⟩
    by_cases e2 : U + 1 = 1000000
    · rw [e2]
      decide
    · exact if_pos (show nI (U + 1) < nI 1000000 from nI_lt (by omega) (by omega))
/-- one beat, on both sides -/
theorem beat1 {W H : Nat} {c : CT} {p : Nat → Nat → Nat} {i mi : Nat → Int32} {r mr : Nat → Nat → Int32} {ml : Nat → Nat → Int64} (h : GCp W H c p i r mi mr) : ∃ r1 r2 mr', f_X0_meetAll i r = some (nI (sm (tk W p c) H), r1) ∧ f_X0_moveAll i r1 = some r2 ∧ f_X13_beatOnce mi mr ml = some (nI (sm (tk W p c) H), mr') ∧ INC W H (mv W H (mtA W p c)) ∧ CBr 10 r2 (mv W H (mtA W p c)) ∧ MBr 69 mr' (mv W H (mtA W p c)) ∧ (∀ s, 20 ≤ s → r2 s = r s) ∧ (∀ s, s ≠ 69 → s ≠ 70 → mr' s = mr s) := by
  obtain ⟨⟨hW1, hW, hH1, hH⟩, ⟨g3, g4, g5, m4, m5⟩, hp4, hin, hC, hP, hM, hPM⟩ := h
  obtain ⟨r1, a1, a2, a3⟩ := meetAll_ok (i := i) hW hH hp4 g4 hin hC hP
  obtain ⟨r2, b1, b2, b3⟩ := moveAll_ok (i := i) (by omega) hW (by omega) hH (mtA_out hin) g3 g4 a2
  obtain ⟨m1, d1, d2, d3⟩ := beatOnce_ok (ml := ml) (by omega) hW (by omega) hH m4 m5 hp4 hM hPM
  exact ⟨r1, r2, m1, a1, b1, d1, mv_in W H _, b2, d2, fun s hs => (b3 s hs).trans (a3 s hs), d3⟩
theorem beat_go {ml : Nat → Nat → Int64} {N : Nat} (hN : N ≤ 500) : ∀ (d k n n2 : Nat) (i mi : Nat → Int32) (r mr : Nat → Nat → Int32), k + d = N → d < n → d < n2 → GC i r mi mr → ∃ i' r' mi' mr', f_X0_goOn_2 n i r (nI N) (nI k) = some (i', r') ∧ f_X13_beat_17 ml n2 mi mr (nI N) (nI k) = bd (f_X13_ballsNow mi' mr' ml) (fun q4 => some (q4, mi', mr')) ∧ GC i' r' mi' mr' := by
  intro d
  induction d with
  | zero =>
    intro k n n2 i mi r mr hk hn hn2 h
    obtain ⟨q, rfl⟩ : ∃ q, n = q + 1 := ⟨n - 1, by omega⟩
    obtain ⟨q2, rfl⟩ : ∃ q, n2 = q + 1 := ⟨n2 - 1, by omega⟩
    have e : k = N := by omega
    subst e
    refine ⟨i, r, mi, mr, ?_, ?_, h⟩
    · rw [f_X0_goOn_2, if_pos (nI_le (by omega) (by omega))]
    · rw [f_X13_beat_17, if_pos (nI_le (by omega) (by omega))]
  | succ d ih =>
    intro k n n2 i mi r mr hk hn hn2 h
    obtain ⟨q, rfl⟩ : ∃ q, n = q + 1 := ⟨n - 1, by omega⟩
    obtain ⟨q2, rfl⟩ : ∃ q, n2 = q + 1 := ⟨n2 - 1, by omega⟩
    obtain ⟨W, H, U, c, p, hp, g6, m7, hU, hh⟩ := h
    obtain ⟨r1, r2, m1, a1, a2, a3, a4, a5, a6, a7, a8⟩ := beat1 (ml := ml) hp
    obtain ⟨⟨hW1, hW, hH1, hH⟩, ⟨g3, g4, g5, m4, m5⟩, hp4, hin, hC, hP, hM, hPM⟩ := hp
    have ht := tkH_le hW hH p c
    have nk := nI_ge (a := k) (b := N) (by omega) (by omega)
    by_cases e0 : sm (tk W p c) H = 0
    · have hu := minU hU
      have hn : GC (upd (upd i 5 (i 5 + nI (sm (tk W p c) H))) 6 (nI (min (U + 1) 1000000))) r2 (upd (upd mi 66 (mi 66 + nI (sm (tk W p c) H))) 67 (nI (min (U + 1) 1000000))) m1 := by
        refine ⟨W, H, min (U + 1) 1000000, mv W H (mtA W p c), p, ⟨⟨hW1, hW, hH1, hH⟩, ⟨?_, ?_, ?_, ?_, ?_⟩, hp4, a4, a5, hP.slot a7, a6, hPM.slot (a8 68 (by omega) (by omega))⟩, pk_us, pk_us, by omega, ?_⟩
        · rw [pk_un (by omega), pk_un (by omega), g3]
        · rw [pk_un (by omega), pk_un (by omega), g4]
        · rw [pk_un (by omega), pk_us, pk_un (by omega), pk_us, g5]
        · rw [pk_un (by omega), pk_un (by omega), m4]
        · rw [pk_un (by omega), pk_un (by omega), m5]
        · have h1 : his W H p (U + 1) (mv W H (mtA W p c)) := ⟨c, hin, tk_none hin e0, rfl, hh⟩
          by_cases e2 : U = 1000000
          · rw [show min (U + 1) 1000000 = U by omega]
            exact his_pred h1
          · rw [show min (U + 1) 1000000 = U + 1 by omega]
            exact h1
      obtain ⟨i', r', mi', mr', b1, b2, b3⟩ := ih (k + 1) q q2 _ _ _ _ (by omega) (by omega) (by omega) hn
      refine ⟨i', r', mi', mr', ?_, ?_, b3⟩
      · rw [f_X0_goOn_2, if_neg nk, a1, bd_some, a2, bd_some, g6, hu.1]
        simp only []
        rw [if_pos (by rw [e0]; exact nI_le (a := 0) (b := 0) (by omega) (by omega)), f_X0_goOn_46, nI_1]
        exact b1
      · rw [f_X13_beat_17, if_neg nk, a3, bd_some, m7, hu.2]
        simp only []
        rw [if_pos (by rw [e0]; exact nI_le (a := 0) (b := 0) (by omega) (by omega)), f_X13_beat_58, nI_1]
        exact b2
    · have hn : GC (upd (upd i 5 (i 5 + nI (sm (tk W p c) H))) 6 0) r2 (upd (upd mi 66 (mi 66 + nI (sm (tk W p c) H))) 67 0) m1 := by
        refine ⟨W, H, 0, mv W H (mtA W p c), p, ⟨⟨hW1, hW, hH1, hH⟩, ⟨?_, ?_, ?_, ?_, ?_⟩, hp4, a4, a5, hP.slot a7, a6, hPM.slot (a8 68 (by omega) (by omega))⟩, pk_us, pk_us, by omega, trivial⟩
        · rw [pk_un (by omega), pk_un (by omega), g3]
        · rw [pk_un (by omega), pk_un (by omega), g4]
        · rw [pk_un (by omega), pk_us, pk_un (by omega), pk_us, g5]
        · rw [pk_un (by omega), pk_un (by omega), m4]
        · rw [pk_un (by omega), pk_un (by omega), m5]
      obtain ⟨i', r', mi', mr', b1, b2, b3⟩ := ih (k + 1) q q2 _ _ _ _ (by omega) (by omega) (by omega) hn
      refine ⟨i', r', mi', mr', ?_, ?_, b3⟩
      · rw [f_X0_goOn_2, if_neg nk, a1, bd_some, a2, bd_some]
        simp only []
        rw [if_neg (nI_nle (by omega) (by omega)), f_X0_goOn_46, nI_1]
        exact b1
      · rw [f_X13_beat_17, if_neg nk, a3, bd_some]
        simp only []
        rw [if_neg (nI_nle (by omega) (by omega)), f_X13_beat_58, nI_1]
        exact b2
theorem l1 : (1 : Int64).toInt = 1 := by decide
theorem l500 : (500 : Int64).toInt = 500 := by decide
theorem i1 : (1 : Int32).toInt = 1 := by decide
theorem i500 : (500 : Int32).toInt = 500 := by decide
theorem beats_cases (x : Int32) : (∃ N, 1 ≤ N ∧ N ≤ 500 ∧ x = nI N ∧ ¬ x < 1 ∧ x ≤ 500 ∧ f_X13_in x.toInt64 1 500 = some 1) ∨ ((x < 1 ∨ ¬ x ≤ 500) ∧ f_X13_in x.toInt64 1 500 = some 0) := by
  rw [f_in, i2l_toInt, l1, l500, lt32, le32, i1, i500]
  by_cases hc : 1 ≤ x.toInt ∧ x.toInt ≤ 500
  · obtain ⟨k, _, e1, e2⟩ := nI_ofI (x := x) (by omega)
    exact Or.inl ⟨k, by omega, by omega, e1, by omega, by omega, by rw [if_pos hc]⟩
  · exact Or.inr ⟨by omega, by rw [if_neg hc]⟩
theorem GC.balls {i mi : Nat → Int32} {r mr : Nat → Nat → Int32} {ml : Nat → Nat → Int64} (h : GC i r mi mr) : ∃ b, f_X0_balls i r = some b ∧ f_X13_ballsNow mi mr ml = some b := by
  obtain ⟨W, H, U, c, p, ⟨⟨hW1, hW, hH1, hH⟩, ⟨g3, g4, g5, m4, m5⟩, hp4, hin, hC, hP, hM, hPM⟩, _⟩ := h
  exact ⟨_, balls_ok hH g4 hin hC, ballsNow_ok hM⟩
theorem beat_ok {i mi : Nat → Int32} {r mr : Nat → Nat → Int32} {ml : Nat → Nat → Int64} (h : GC i r mi mr) (x1 : Int32) : ∃ q m, f_X11_beat i r x1 = some q ∧ f_X13_beat mi mr ml x1 = some m ∧ q.1 = m.1 ∧ GC q.2.1 q.2.2 m.2.1 m.2.2 := by
  rw [f_X11_beat, f_X13_beat]
  rcases beats_cases x1 with ⟨N, hN1, hN, e, n1, n5, hc⟩ | ⟨n1, hc⟩
  · rw [if_neg n1, if_pos n5, hc, bd_some, if_neg n10]
    subst e
    obtain ⟨i', r', mi', mr', b1, b2, b3⟩ := beat_go (ml := ml) hN N 0 2000000 2000000 i mi r mr (by omega) (by omega) (by omega) h
    obtain ⟨b, c1, c2⟩ := GC.balls (ml := ml) b3
    refine ⟨(b, i', r'), (b, mi', mr'), ?_, ?_, rfl, b3⟩
    · have A : f_X0_goOn i r (nI N) = some (i', r') := by
        rw [f_X0_goOn]
        exact b1
      rw [A, bd_some, c1, bd_some]
    · refine Eq.trans b2 ?_
      rw [c2, bd_some]
  · rw [hc, bd_some, if_pos rfl]
    refine ⟨(-2, i, r), (-2, mi, mr), ?_, rfl, rfl, h⟩
    by_cases q : x1 < 1
    · rw [if_pos q]
    · rw [if_neg q, if_neg (n1.resolve_left q)]
/-! back -/
theorem mvb_mv {W H : Nat} {m : CT} {w y x : Nat} (hw : w < 4) (hy : y < H) (hx : x < W) : mvb W H (mv W H m) w y x = m w y x := by
  rcases w4 hw with h | h | h | h <;> subst h
  · by_cases e : x + 1 = W
    · simp [mvb, mv, hy, hx, e]
    · simp [mvb, mv, hy, hx, e, show x + 1 < W by omega]
  · by_cases e : y + 1 = H
    · simp [mvb, mv, hy, hx, e]
    · simp [mvb, mv, hy, hx, e, show y + 1 < H by omega]
  · by_cases e : x = 0
    · subst e
      simp [mvb, mv, hy, hx]
    · simp [mvb, mv, hy, hx, e, show x - 1 < W by omega, show x - 1 + 1 = x by omega, show ¬ x = W by omega]
  · by_cases e : y = 0
    · subst e
      simp [mvb, mv, hy, hx]
    · simp [mvb, mv, hy, hx, e, show y - 1 < H by omega, show y - 1 + 1 = y by omega, show ¬ y = H by omega]
theorem mt_inv {P : Nat} (hP : P < 3) (a : Nat → Bool) {w : Nat} (hw : w < 4) : mt P (fun k => mt P a k) w = a w := by
  have e1 : s1w 0 = 1 ∧ s1w 1 = 0 ∧ s1w 2 = 3 ∧ s1w 3 = 2 := by decide
  have e2 : s2w 0 = 3 ∧ s2w 1 = 2 ∧ s2w 2 = 1 ∧ s2w 3 = 0 := by decide
  rcases w4 hw with h | h | h | h <;> subst h <;> simp only [mt, e1.1, e1.2.1, e1.2.2.1, e1.2.2.2, e2.1, e2.2.1, e2.2.2.1, e2.2.2.2] <;> (generalize a 0 = g0; generalize a 1 = g1; generalize a 2 = g2; generalize a 3 = g3; rcases (show P = 0 ∨ P = 1 ∨ P = 2 by omega) with e | e | e <;> subst e <;> revert g0 g1 g2 g3 <;> decide)
/-- what a beat back finds is what was there -/
theorem undo {W H : Nat} {p : Nat → Nat → Nat} {c' : CT} (hp : ∀ y x, p y x < 4) (hin : INC W H c') (hs : ∀ w y x, p y x = 3 → c' w y x = false) {w y x : Nat} (hw : w < 4) : mtA W p (mvb W H (mv W H (mtA W p c'))) w y x = c' w y x ∧ bkc W H p (mvb W H (mv W H (mtA W p c'))) (mv W H (mtA W p c')) w y x = c' w y x := by
  by_cases hr : y < H ∧ x < W
  · have h1 : ∀ k, k < 4 → mvb W H (mv W H (mtA W p c')) k y x = mt (p y x) (fun k => c' k y x) k := fun k hk => by
      rw [mvb_mv hk hr.1 hr.2]
      simp [mtA, hr.2]
    have h2 := hp y x
    unfold bkc
    rw [if_pos hr]
    by_cases e : p y x = 3
    · rw [if_pos e, h1 w hw, e]
      have h3 := hs w y x e
      refine ⟨?_, ?_⟩
      · rw [h3]
        simp [mtA, mt, e]
      · rw [h3]
        simp [mt]
    · rw [if_neg e]
      have h4 : mt (p y x) (fun k => mvb W H (mv W H (mtA W p c')) k y x) w = c' w y x := by
        rw [mt_congr (g := fun k => mt (p y x) (fun k => c' k y x) k) (fun k hk => h1 k hk) hw, mt_inv (by omega) _ hw]
      refine ⟨?_, h4⟩
      show (decide (x < W) && mt (p y x) (fun k => mvb W H (mv W H (mtA W p c')) k y x) w) = _
      rw [h4]
      simp [hr.2]
  · have h1 := hin w y x (fun q => hr q.2)
    refine ⟨?_, ?_⟩
    · rw [h1]
      exact mtA_out (mvb_in W H _) w y x hr
    · unfold bkc
      rw [if_neg hr, h1]
      exact mv_in W H _ w y x (fun q => hr q.2)
theorem back_go {ml : Nat → Nat → Int64} {N U W H : Nat} {p : Nat → Nat → Nat} (hN : N ≤ 500) (hNU : N ≤ U) : ∀ (d k n n2 : Nat) (c : CT) (i mi : Nat → Int32) (r mr : Nat → Nat → Int32), k + d = N → d < n → d < n2 → GCp W H c p i r mi mr → his W H p (U - k) c → ∃ c' r' mr', f_X0_goBack_2 n i r (nI N) (nI k) = some (upd i 6 (i 6 - nI N), r') ∧ f_X13_back_28 ml n2 mi mr (nI N) (nI k) = bd (f_X13_ballsNow (upd mi 67 (mi 67 - nI N)) mr' ml) (fun q4 => some (q4, upd mi 67 (mi 67 - nI N), mr')) ∧ GCp W H c' p i r' mi mr' ∧ his W H p (U - N) c' := by
  intro d
  induction d with
  | zero =>
    intro k n n2 c i mi r mr hk hn hn2 h hh
    obtain ⟨q, rfl⟩ : ∃ q, n = q + 1 := ⟨n - 1, by omega⟩
    obtain ⟨q2, rfl⟩ : ∃ q, n2 = q + 1 := ⟨n2 - 1, by omega⟩
    have e : k = N := by omega
    subst e
    refine ⟨c, r, mr, ?_, ?_, h, hh⟩
    · rw [f_X0_goBack_2, if_pos (nI_le (by omega) (by omega))]
    · rw [f_X13_back_28, if_pos (nI_le (by omega) (by omega))]
  | succ d ih =>
    intro k n n2 c i mi r mr hk hn hn2 h hh
    obtain ⟨q, rfl⟩ : ∃ q, n = q + 1 := ⟨n - 1, by omega⟩
    obtain ⟨q2, rfl⟩ : ∃ q, n2 = q + 1 := ⟨n2 - 1, by omega⟩
    have nk := nI_ge (a := k) (b := N) (by omega) (by omega)
    rw [show U - k = (U - (k + 1)) + 1 by omega] at hh
    obtain ⟨c', c1, c2, c3, c4⟩ := hh
    obtain ⟨⟨hW1, hW, hH1, hH⟩, ⟨g3, g4, g5, m4, m5⟩, hp4, hin, hC, hP, hM, hPM⟩ := h
    obtain ⟨r1, a1, a2, a3⟩ := moveAllBack_ok (i := i) (by omega) hW (by omega) hH (fun w y x hn => hin w y x (fun q => hn q.2)) g3 g4 hC
    obtain ⟨r2, b1, b2, b3⟩ := meetAll_ok (i := i) hW hH hp4 g4 (mvb_in W H c) a2 (hP.slot a3)
    obtain ⟨m1, d1, d2, d3⟩ := backOnce_ok (ml := ml) (by omega) hW (by omega) hH m4 m5 hp4 hM hPM
    subst c3
    have hn : GCp W H c' p i r2 mi m1 := ⟨⟨hW1, hW, hH1, hH⟩, ⟨g3, g4, g5, m4, m5⟩, hp4, c1, b2.congr (fun w hw y _ x _ => (undo hp4 c1 c2 hw).1), (hP.slot a3).slot b3, d2.congr (fun w hw y _ x _ => (undo hp4 c1 c2 hw).2), hPM.slot (d3 68 (by omega) (by omega))⟩
    obtain ⟨c'', r', mr', e1, e2, e3, e4⟩ := ih (k + 1) q q2 c' i mi r2 m1 (by omega) (by omega) (by omega) hn c4
    refine ⟨c'', r', mr', ?_, ?_, e3, e4⟩
    · rw [f_X0_goBack_2, if_neg nk, a1, bd_some, b1, bd_some, nI_1]
      exact e1
    · rw [f_X13_back_28, if_neg nk, d1, bd_some, nI_1]
      exact e2
theorem back_ok {i mi : Nat → Int32} {r mr : Nat → Nat → Int32} {ml : Nat → Nat → Int64} (h : GC i r mi mr) (x1 : Int32) : ∃ q m, f_X11_back i r x1 = some q ∧ f_X13_back mi mr ml x1 = some m ∧ q.1 = m.1 ∧ GC q.2.1 q.2.2 m.2.1 m.2.2 := by
  rw [f_X11_back, f_X13_back]
  rcases beats_cases x1 with ⟨N, hN1, hN, e, n1, n5, hc⟩ | ⟨n1, hc⟩
  · rw [if_neg n1, if_pos n5, hc, bd_some, if_neg n10, f_X0_undoable, bd_some]
    subst e
    obtain ⟨W, H, U, c, p, hp, g6, m7, hU, hh⟩ := id h
    rw [g6, m7]
    by_cases e2 : N ≤ U
    · rw [if_pos (nI_le e2 (by omega)), if_pos (nI_le e2 (by omega))]
      obtain ⟨c', r', mr', b1, b2, b3, b4⟩ := back_go (ml := ml) hN e2 N 0 2000000 2000000 c i mi r mr (by omega) (by omega) (by omega) hp hh
      have hn : GC (upd i 6 (i 6 - nI N)) r' (upd mi 67 (mi 67 - nI N)) mr' := by
        obtain ⟨q1, ⟨g3, g4, g5, m4, m5⟩, q3⟩ := b3
        refine ⟨W, H, U - N, c', p, ⟨q1, ⟨?_, ?_, ?_, ?_, ?_⟩, q3⟩, ?_, ?_, by omega, b4⟩
        · rw [pk_un (by omega), g3]
        · rw [pk_un (by omega), g4]
        · rw [pk_un (by omega), pk_un (by omega), g5]
        · rw [pk_un (by omega), m4]
        · rw [pk_un (by omega), m5]
        · rw [pk_us, g6, pk_sub e2]
        · rw [pk_us, m7, pk_sub e2]
      obtain ⟨b, c1, c2⟩ := GC.balls (ml := ml) hn
      refine ⟨(b, upd i 6 (i 6 - nI N), r'), (b, upd mi 67 (mi 67 - nI N), mr'), ?_, ?_, rfl, hn⟩
      · have A : f_X0_goBack i r (nI N) = some (upd i 6 (i 6 - nI N), r') := by
          rw [f_X0_goBack]
          exact b1
        rw [A, bd_some, c1, bd_some]
      · refine Eq.trans b2 ?_
        rw [c2, bd_some]
    · rw [if_neg (nI_ge (by omega) (by omega)), if_neg (nI_ge (by omega) (by omega))]
      exact ⟨_, _, rfl, rfl, rfl, h⟩
  · rw [hc, bd_some, if_pos rfl]
    refine ⟨(-2, i, r), (-2, mi, mr), ?_, rfl, rfl, h⟩
    by_cases q : x1 < 1
    · rw [if_pos q]
    · rw [if_neg q, if_neg (n1.resolve_left q)]
