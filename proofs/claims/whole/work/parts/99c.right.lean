/-! ===== right ===== -/
theorem often_go {i mi : Nat → Int32} {r mr : Nat → Nat → Int32} {u : Nat → Nat} {ml : Nat → Nat → Int64} {N : Nat} {x : Int32} (hN : N ≤ 20) (h14 : i 14 = nI N) (h78 : mi 78 = nI N) (he : ∀ k, k < N → r 4 k = mr 83 k) : ∀ (d k n n2 : Nat) (c : Int32), k + d = N → d < n → d < n2 → ∃ a, f_X1_putRight_94 u n i r x c (nI k) = some (a, i, r) ∧ f_X13_right__108 ml n2 mi mr x c (nI k) = some (a, mi, mr) := by
  intro d
  induction d with
  | zero =>
    intro k n n2 c hk hn hn2
    obtain ⟨m, rfl⟩ : ∃ m, n = m + 1 := ⟨n - 1, by omega⟩
    obtain ⟨m2, rfl⟩ : ∃ m, n2 = m + 1 := ⟨n2 - 1, by omega⟩
    refine ⟨c, ?_, ?_⟩
    · rw [f_X1_putRight_94, h14, if_pos (nI_le (by omega) (by omega))]
    · rw [f_X13_right__108, h78, if_pos (nI_le (by omega) (by omega))]
  | succ d ih =>
    intro k n n2 c hk hn hn2
    obtain ⟨m, rfl⟩ : ∃ m, n = m + 1 := ⟨n - 1, by omega⟩
    obtain ⟨m2, rfl⟩ : ∃ m, n2 = m + 1 := ⟨n2 - 1, by omega⟩
    have ik := inb_nI (N := 20) (n := k) (by omega) (by omega)
    rw [f_X1_putRight_94, h14, if_neg (nI_ge (by omega) (by omega)), ck_t ik, nI_clamp (by omega), he k (by omega), f_X13_right__108, h78, if_neg (nI_ge (by omega) (by omega)), ck_t ik, nI_clamp (by omega)]
    by_cases e : mr 83 k = x
    · rw [if_pos e, if_pos e, f_X1_putRight_117, f_X13_right__135, nI_1]
      exact ih (k + 1) m m2 (c + 1) (by omega) (by omega) (by omega)
    · rw [if_neg e, if_neg e, f_X1_putRight_117, f_X13_right__135, nI_1, Int32.add_zero]
      exact ih (k + 1) m m2 c (by omega) (by omega) (by omega)
theorem right_ok {i mi : Nat → Int32} {r mr : Nat → Nat → Int32} {u : Nat → Nat} {ml : Nat → Nat → Int64} (h : GW i r u mi mr) (x1 x2 x3 : Int32) : ∃ q m, f_X11_right i r u x1 x2 x3 = some q ∧ f_X13_right_ mi mr ml x1 x2 x3 = some m ∧ q.1 = m.1 ∧ GW q.2.1 q.2.2 u m.2.1 m.2.2 := by
  have same : ∀ (a : Int32), f_X1_putRight i r u x1 x2 x3 = some (a, i, r) → f_X13_right_ mi mr ml x1 x2 x3 = some (a, mi, mr) → ∃ q m, f_X11_right i r u x1 x2 x3 = some q ∧ f_X13_right_ mi mr ml x1 x2 x3 = some m ∧ q.1 = m.1 ∧ GW q.2.1 q.2.2 u m.2.1 m.2.2 := fun a A B => ⟨(a, i, r), (a, mi, mr), by rw [f_X11_right, A, bd_some], B, rfl, h⟩
  rcases id h with ⟨h1, ⟨g0, g2, g3, g4, g5⟩, ⟨m0, m1, m2, m3⟩, h8⟩ | ⟨L, l, ns, nr, tl, h1, h2, h3, ⟨g0, g1, g2, g3, g4, g5⟩, ⟨m0, m1, m2, m3⟩, ⟨b1, b2, b3⟩, h7, hS, hR⟩
  · have lm : ((0 : Int32).toInt64 - 1).toInt = -1 := by decide
    rcases tell_cases (i := i) (r := r) (u := u) (tl := 0) g5 (by omega) x1 with ⟨t, t1, t2, t3, t4, t5⟩ | ⟨t4, t5⟩
    · have t5' : f_X13_in x1.toInt64 ((0 : Int32).toInt64) 999 = some 1 := t5
      refine same (-2) ?_ ?_
      · rw [f_X1_putRight, t4, bd_some, if_pos rfl, g3]
        by_cases e : x2 < 0
        · rw [if_pos e]
        · rw [if_neg e, if_pos (by rw [le32, z32]; rw [lt32, z32] at e; omega)]
      · rw [f_X13_right_, m3, t5', bd_some, if_neg n10, m1, f_in, bd_some, i2l_toInt, z64, lm, if_neg (show ¬ (0 ≤ x2.toInt ∧ x2.toInt ≤ -1) by omega), if_pos rfl]
    · have t5' : f_X13_in x1.toInt64 ((0 : Int32).toInt64) 999 = some 0 := t5
      exact same (-2) (by rw [f_X1_putRight, t4, bd_some, if_neg n10]) (by rw [f_X13_right_, m3, t5', bd_some, if_pos rfl])
  · have hL := h1.2.1
    have h256 := p2 hL
    have lm : ((nI ns).toInt64 - 1).toInt = (ns : Int) - 1 := by
      have hh : ∀ n : Fin 21, ((nI n.val).toInt64 - 1).toInt = (n.val : Int) - 1 := by decide +kernel
      exact hh ⟨ns, by omega⟩
    rcases tell_cases (i := i) (r := r) (u := u) g5 b3 x1 with ⟨t, t1, t2, t3, t4, t5⟩ | ⟨t4, t5⟩
    · by_cases hk : 0 ≤ x2.toInt ∧ x2.toInt ≤ (ns : Int) - 1
      · obtain ⟨s, s1, s2, s3⟩ := nI_ofI (x := x2) (by omega)
        have c1 : ¬ x2 < 0 := by rw [lt32, z32]; omega
        have c2 : ¬ nI ns ≤ x2 := by rw [le32, nI_toInt (by omega)]; omega
        have c3 : f_X13_in x2.toInt64 0 ((nI ns).toInt64 - 1) = some 1 := by rw [f_in, i2l_toInt, z64, lm, if_pos hk]
        rcases rowW (r := r) (u := u) (mi := mi) (ml := ml) hL g2 h2 x3 with ⟨w, y1, y2, y3, y4⟩ | ⟨y3, y4⟩
        · by_cases hn : nr = 20
          · exact same (-3) (by rw [f_X1_putRight, t4, bd_some, if_pos rfl, if_neg c1, g3, if_neg c2, y3, bd_some, if_pos rfl, g4, hn, if_neg (show ¬ nI 20 < (20 : Int32) by decide)]) (by rw [f_X13_right_, m3, t5, bd_some, if_neg n10, m1, c3, bd_some, if_neg n10, y4, bd_some, if_neg n10, m2, hn, if_pos (show nI 20 = (20 : Int32) from rfl)])
          · have hns : nr < 20 := by omega
            have ic := inb_nI (N := 20) (n := nr) hns (by omega)
            obtain ⟨a, o1, o2⟩ := often_go (i := upd (upd i 15 x1) 14 (nI (nr + 1))) (mi := upd (upd mi 79 x1) 78 (nI (nr + 1))) (r := va_up (va_up (va_up r 3 (upd (r 3) nr x1)) 4 (upd (r 4) nr x2)) 5 (upd (r 5) nr x3)) (mr := va_up (va_up (va_up mr 83 (upd (mr 83) nr x2)) 84 (upd (mr 84) nr x3)) 85 (upd (mr 85) nr x1)) (u := u) (ml := ml) (N := nr + 1) (x := x2) (by omega) (by rw [pk_us]) (by rw [pk_us]) (fun k hk => by
              rw [up_n (show (4 : Nat) ≠ 5 by omega), up_s, up_n (show (83 : Nat) ≠ 85 by omega), up_n (show (83 : Nat) ≠ 84 by omega), up_s]
              by_cases e : k = nr
              · subst e
                rw [pk_us, pk_us]
              · rw [pk_un e, pk_un e]
                obtain ⟨a, b, c, d1, d2, d3, d4, d5, d6, d7, d8, d9⟩ := hR k (by omega)
                rw [d5, d8]) (nr + 1) 0 2000000 2000000 0 (by omega) (by omega) (by omega)
            have A : f_X1_putRight i r u x1 x2 x3 = some (a, upd (upd i 15 x1) 14 (nI (nr + 1)), va_up (va_up (va_up r 3 (upd (r 3) nr x1)) 4 (upd (r 4) nr x2)) 5 (upd (r 5) nr x3)) := by
              rw [f_X1_putRight, t4, bd_some, if_pos rfl, if_neg c1, g3, if_neg c2, y3, bd_some, if_pos rfl, g4, if_pos (show nI nr < (20 : Int32) from nI_lt (b := 20) hns (by omega)), ck_t ic, ck_t ic, f_X1_putRight_63, g4, ck_t ic, nI_clamp (by omega), nI_1, up_n (show (5 : Nat) ≠ 4 by omega), up_n (show (5 : Nat) ≠ 3 by omega), f_X1_putRight_88]
              exact o1
            have B : f_X13_right_ mi mr ml x1 x2 x3 = some (a, upd (upd mi 79 x1) 78 (nI (nr + 1)), va_up (va_up (va_up mr 83 (upd (mr 83) nr x2)) 84 (upd (mr 84) nr x3)) 85 (upd (mr 85) nr x1)) := by
              rw [f_X13_right_, m3, t5, bd_some, if_neg n10, m1, c3, bd_some, if_neg n10, y4, bd_some, if_neg n10, m2, if_neg (show ¬ nI nr = (20 : Int32) from fun q => hn (nI_inj (b := 20) (by omega) (by omega) q)), ck_t ic, ck_t ic, f_X13_right__82, pk_un (show (78 : Nat) ≠ 79 by omega), m2, ck_t ic, nI_clamp (by omega), nI_1, up_n (show (85 : Nat) ≠ 84 by omega), up_n (show (85 : Nat) ≠ 83 by omega)]
              exact o2
            refine ⟨(a, upd (upd i 15 x1) 14 (nI (nr + 1)), va_up (va_up (va_up r 3 (upd (r 3) nr x1)) 4 (upd (r 4) nr x2)) 5 (upd (r 5) nr x3)), _, by rw [f_X11_right, A, bd_some], B, rfl, Or.inr ⟨L, l, ns, nr + 1, t, ?_⟩⟩
            show GW1 L l (upd (upd i 15 x1) 14 (nI (nr + 1))) (va_up (va_up (va_up r 3 (upd (r 3) nr x1)) 4 (upd (r 4) nr x2)) 5 (upd (r 5) nr x3)) u (upd (upd mi 79 x1) 78 (nI (nr + 1))) (va_up (va_up (va_up mr 83 (upd (mr 83) nr x2)) 84 (upd (mr 84) nr x3)) 85 (upd (mr 85) nr x1)) ns (nr + 1) t
            refine ⟨h1, h2.congr ?_ ?_ ?_ ?_ ?_, h3, ⟨?_, ?_, ?_, ?_, ?_, ?_⟩, ⟨?_, ?_, ?_, ?_⟩, ⟨b1, by omega, t2⟩, ⟨?_, ?_⟩, fun k hk => ?_, fun k hk => ?_⟩
            · rw [up_n (by omega), up_n (by omega), up_n (by omega)]
            · rw [up_n (by omega), up_n (by omega), up_n (by omega)]
            · rw [up_n (by omega), up_n (by omega), up_n (by omega)]
            · rw [up_n (by omega), up_n (by omega), up_n (by omega)]
            · rw [up_n (by omega), up_n (by omega), up_n (by omega)]
            · rw [pk_un (by omega), pk_un (by omega), g0]
            · rw [pk_un (by omega), pk_un (by omega), g1]
            · rw [pk_un (by omega), pk_un (by omega), g2]
            · rw [pk_un (by omega), pk_un (by omega), g3]
            · rw [pk_us]
            · rw [pk_un (by omega), pk_us, t3]
            · rw [pk_un (by omega), pk_un (by omega), m0]
            · rw [pk_un (by omega), pk_un (by omega), m1]
            · rw [pk_us]
            · rw [pk_un (by omega), pk_us, t3]
            · rw [up_n (by omega), up_n (by omega), up_n (by omega)]
              exact h7.1
            · rw [up_n (by omega), up_n (by omega), up_n (by omega)]
              exact h7.2
            · rw [up_n (by omega), up_n (by omega), up_n (by omega), up_n (by omega), up_n (by omega), up_n (by omega), up_n (by omega), up_n (by omega), up_n (by omega), up_n (by omega), up_n (by omega), up_n (by omega), up_n (by omega), up_n (by omega), up_n (by omega), up_n (by omega), up_n (by omega), up_n (by omega)]
              exact hS k hk
            · rw [up_n (show (3 : Nat) ≠ 5 by omega), up_n (show (3 : Nat) ≠ 4 by omega), up_s, up_n (show (4 : Nat) ≠ 5 by omega), up_s, up_s, up_s, up_n (show (83 : Nat) ≠ 85 by omega), up_n (show (83 : Nat) ≠ 84 by omega), up_s, up_n (show (84 : Nat) ≠ 85 by omega), up_s]
              by_cases e : k = nr
              · subst e
                exact ⟨t, s, w, t2, by omega, y1, by rw [pk_us, t3], by rw [pk_us, s2], by rw [pk_us, y2], by rw [pk_us, t3], by rw [pk_us, s2], by rw [pk_us, y2]⟩
              · rw [pk_un e, pk_un e, pk_un e, pk_un e, pk_un e, pk_un e]
                exact hR k (by omega)
        · exact same (-2) (by rw [f_X1_putRight, t4, bd_some, if_pos rfl, if_neg c1, g3, if_neg c2, y3, bd_some, if_neg n10]) (by rw [f_X13_right_, m3, t5, bd_some, if_neg n10, m1, c3, bd_some, if_neg n10, y4, bd_some, if_pos rfl])
      · refine same (-2) ?_ (by rw [f_X13_right_, m3, t5, bd_some, if_neg n10, m1, f_in, i2l_toInt, z64, lm, if_neg hk, bd_some, if_pos rfl])
        rw [f_X1_putRight, t4, bd_some, if_pos rfl, g3]
        by_cases e : x2 < 0
        · rw [if_pos e]
        · rw [if_neg e, if_pos (by rw [le32, nI_toInt (by omega)]; rw [lt32, z32] at e; omega)]
    · exact same (-2) (by rw [f_X1_putRight, t4, bd_some, if_neg n10]) (by rw [f_X13_right_, m3, t5, bd_some, if_pos rfl])
