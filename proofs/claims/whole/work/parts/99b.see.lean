/-! ===== see, right ===== -/
theorem l999 : (999 : Int64).toInt = 999 := by decide
theorem i999 : (999 : Int32).toInt = 999 := by decide
theorem l255 : (255 : Int64).toInt = 255 := by decide
theorem tell_cases {i : Nat → Int32} {r : Nat → Nat → Int32} {u : Nat → Nat} {tl : Nat} (h : i 15 = nI tl) (ht : tl ≤ 999) (x : Int32) : (∃ t, tl ≤ t ∧ t ≤ 999 ∧ x = nI t ∧ f_X1_noTelling i r u x = some 0 ∧ f_X13_in x.toInt64 ((nI tl).toInt64) 999 = some 1) ∨ (f_X1_noTelling i r u x = some 1 ∧ f_X13_in x.toInt64 ((nI tl).toInt64) 999 = some 0) := by
  rw [f_X1_noTelling, h, f_in, i2l_toInt, i2l_toInt, l999, nI_toInt (by omega)]
  by_cases h1 : x < nI tl
  · refine Or.inr ⟨by rw [if_pos h1], ?_⟩
    rw [lt32, nI_toInt (by omega)] at h1
    rw [if_neg (by omega)]
  · rw [if_neg h1]
    rw [lt32, nI_toInt (by omega)] at h1
    by_cases h2 : x ≤ 999
    · rw [if_pos h2]
      rw [le32, i999] at h2
      obtain ⟨t, t1, t2, t3⟩ := nI_ofI (x := x) (by omega)
      exact Or.inl ⟨t, by omega, by omega, t2, rfl, by rw [if_pos (by omega)]⟩
    · rw [if_neg h2]
      rw [le32, i999] at h2
      exact Or.inr ⟨rfl, by rw [if_neg (by omega)]⟩
theorem noRow_cases {i : Nat → Int32} {r : Nat → Nat → Int32} {u : Nat → Nat} {N : Nat} (h : i 12 = nI N) (hN : N ≤ 256) (x : Int32) : (∃ v, v < N ∧ x = nI v ∧ f_X1_noRow i r u x = some 0) ∨ ((x.toInt < 0 ∨ (N : Int) ≤ x.toInt) ∧ f_X1_noRow i r u x = some 1) := by
  rw [f_X1_noRow, h]
  by_cases h1 : x < 0
  · refine Or.inr ⟨?_, by rw [if_pos h1]⟩
    rw [lt32, z32] at h1
    omega
  · rw [if_neg h1]
    rw [lt32, z32] at h1
    by_cases h2 : x < nI N
    · rw [if_pos h2]
      rw [lt32, nI_toInt (by omega)] at h2
      obtain ⟨t, t1, t2, t3⟩ := nI_ofI (x := x) (by omega)
      exact Or.inl ⟨t, by omega, t2, rfl⟩
    · rw [if_neg h2]
      rw [lt32, nI_toInt (by omega)] at h2
      exact Or.inr ⟨by omega, rfl⟩
theorem rowW {L : Nat} {l : List FSt} {i mi : Nat → Int32} {r mr : Nat → Nat → Int32} {u : Nat → Nat} {ml : Nat → Nat → Int64} (hL : L ≤ 8) (h : i 12 = nI (2 ^ L)) (hM : MF L l mr 7) (x : Int32) : (∃ v, v < 2 ^ L ∧ x = nI v ∧ f_X1_noRow i r u x = some 0 ∧ f_X13_isRow mi mr ml 7 x = some 1) ∨ (f_X1_noRow i r u x = some 1 ∧ f_X13_isRow mi mr ml 7 x = some 0) := by
  have h256 := p2 hL
  have hp : 0 < 2 ^ L := Nat.pow_pos (by omega)
  have i7 : inb 7 8 = true := inb_nI (n := 7) (N := 8) (by omega) (by omega)
  have s7 : (7 : Int32).toNatClampNeg = 7 := nI_clamp (n := 7) (by omega)
  have e1 : (1 : Int64) <<< ((nI L).toInt64 &&& 63) - 1 = lN (2 ^ L - 1) := by
    have h1 := wb_shl 1 (k := L) (by omega)
    rw [Nat.one_mul] at h1
    rw [show (1 : Int64) = lN 1 from rfl, h1, lN_sub (by omega)]
  have hR : f_X13_isRow mi mr ml 7 x = some (if 0 ≤ x.toInt ∧ x.toInt ≤ ((2 ^ L - 1 : Nat) : Int) then 1 else 0) := by
    rw [f_X13_isRow, ck_t i7, s7, hM.1, e1, f_in, bd_some, i2l_toInt, z64, pk_lT (by omega), ck_t (bz01 _)]
  rcases noRow_cases (r := r) (u := u) h h256 x with ⟨v, v1, v2, v3⟩ | ⟨v1, v2⟩
  · refine Or.inl ⟨v, v1, v2, v3, ?_⟩
    rw [hR, if_pos]
    rw [v2, nI_toInt (by omega)]
    omega
  · refine Or.inr ⟨v2, ?_⟩
    rw [hR, if_neg]
    omega
theorem see_ok {i mi : Nat → Int32} {r mr : Nat → Nat → Int32} {u : Nat → Nat} {ml : Nat → Nat → Int64} (h : GW i r u mi mr) (x1 x2 x3 : Int32) : ∃ q m, f_X11_see i r u x1 x2 x3 = some q ∧ f_X13_see mi mr ml x1 x2 x3 = some m ∧ q.1 = m.1 ∧ GW q.2.1 q.2.2 u m.2.1 m.2.2 := by
  have same : ∀ (a : Int32), f_X1_addSeen i r u x1 x2 x3 = some (a, i, r) → f_X13_see mi mr ml x1 x2 x3 = some (a, mi, mr) → ∃ q m, f_X11_see i r u x1 x2 x3 = some q ∧ f_X13_see mi mr ml x1 x2 x3 = some m ∧ q.1 = m.1 ∧ GW q.2.1 q.2.2 u m.2.1 m.2.2 := fun a A B => ⟨(a, i, r), (a, mi, mr), by rw [f_X11_see, A, bd_some], B, rfl, h⟩
  rcases id h with ⟨h1, ⟨g0, g2, g3, g4, g5⟩, ⟨m0, m1, m2, m3⟩, h8⟩ | ⟨L, l, ns, nr, tl, h1, h2, h3, ⟨g0, g1, g2, g3, g4, g5⟩, ⟨m0, m1, m2, m3⟩, ⟨b1, b2, b3⟩, h7, hS, hR⟩
  · have eR : ∀ x : Int32, (∃ v, v < 256 ∧ x = nI v ∧ f_X1_noRow i r u x = some 0 ∧ f_X13_in x.toInt64 0 255 = some 1) ∨ (f_X1_noRow i r u x = some 1 ∧ f_X13_in x.toInt64 0 255 = some 0) := fun x => by
      rcases noRow_cases (i := i) (r := r) (u := u) (N := 256) g2 (by omega) x with ⟨v, v1, v2, v3⟩ | ⟨v1, v2⟩
      · refine Or.inl ⟨v, v1, v2, v3, ?_⟩
        rw [f_in, i2l_toInt, z64, l255, if_pos]
        rw [v2, nI_toInt (by omega)]
        omega
      · refine Or.inr ⟨v2, ?_⟩
        rw [f_in, i2l_toInt, z64, l255, if_neg]
        omega
    rcases tell_cases (i := i) (r := r) (u := u) (tl := 0) g5 (by omega) x1 with ⟨t, t1, t2, t3, t4, t5⟩ | ⟨t4, t5⟩
    · have t5' : f_X13_in x1.toInt64 0 999 = some 1 := t5
      rcases eR x2 with ⟨v, v1, v2, v3, v4⟩ | ⟨v3, v4⟩
      · rcases eR x3 with ⟨w, w1, w2, w3, w4⟩ | ⟨w3, w4⟩
        · exact same (-4) (by rw [f_X1_addSeen, t4, bd_some, if_pos rfl, v3, bd_some, if_pos rfl, w3, bd_some, if_pos rfl, if_pos g0]) (by rw [f_X13_see, if_pos m0, t5', bd_some, if_neg n10, v4, bd_some, if_neg n10, w4, bd_some, if_neg n10])
        · exact same (-2) (by rw [f_X1_addSeen, t4, bd_some, if_pos rfl, v3, bd_some, if_pos rfl, w3, bd_some, if_neg n10]) (by rw [f_X13_see, if_pos m0, t5', bd_some, if_neg n10, v4, bd_some, if_neg n10, w4, bd_some, if_pos rfl])
      · exact same (-2) (by rw [f_X1_addSeen, t4, bd_some, if_pos rfl, v3, bd_some, if_neg n10]) (by rw [f_X13_see, if_pos m0, t5', bd_some, if_neg n10, v4, bd_some, if_pos rfl])
    · have t5' : f_X13_in x1.toInt64 0 999 = some 0 := t5
      exact same (-2) (by rw [f_X1_addSeen, t4, bd_some, if_neg n10]) (by rw [f_X13_see, if_pos m0, t5', bd_some, if_pos rfl])
  · have hL := h1.2.1
    have h256 := p2 hL
    have w1 : ¬ mi 76 = 0 := by rw [m0]; exact n10
    have w2 : ¬ i 10 = 0 := by rw [g0]; exact n10
    rcases tell_cases (i := i) (r := r) (u := u) g5 b3 x1 with ⟨t, t1, t2, t3, t4, t5⟩ | ⟨t4, t5⟩
    · rcases rowW (r := r) (u := u) (mi := mi) (ml := ml) hL g2 h2 x2 with ⟨v, v1, v2, v3, v4⟩ | ⟨v3, v4⟩
      · rcases rowW (r := r) (u := u) (mi := mi) (ml := ml) hL g2 h2 x3 with ⟨w, y1, y2, y3, y4⟩ | ⟨y3, y4⟩
        · by_cases hn : ns = 20
          · exact same (-3) (by rw [f_X1_addSeen, t4, bd_some, if_pos rfl, v3, bd_some, if_pos rfl, y3, bd_some, if_pos rfl, if_neg w2, g3, hn, if_neg (show ¬ nI 20 < (20 : Int32) by decide)]) (by rw [f_X13_see, if_neg w1, m3, t5, bd_some, if_neg n10, v4, bd_some, if_neg n10, y4, bd_some, if_neg n10, m1, hn, if_pos (show nI 20 = (20 : Int32) from rfl)])
          · have hns : ns < 20 := by omega
            have ic := inb_nI (N := 20) (n := ns) hns (by omega)
            have es : nI (ns + 1) - 1 = nI ns := by rw [show (1 : Int32) = nI 1 from rfl, pk_sub (by omega)]; rfl
            have A : f_X1_addSeen i r u x1 x2 x3 = some (nI ns, upd (upd i 15 x1) 13 (nI (ns + 1)), va_up (va_up (va_up r 0 (upd (r 0) ns x1)) 1 (upd (r 1) ns x2)) 2 (upd (r 2) ns x3)) := by
              rw [f_X1_addSeen, t4, bd_some, if_pos rfl, v3, bd_some, if_pos rfl, y3, bd_some, if_pos rfl, if_neg w2, g3, if_pos (show nI ns < (20 : Int32) from nI_lt (b := 20) hns (by omega)), ck_t ic, ck_t ic, f_X1_addSeen_69, g3, ck_t ic, f_X1_addSeen_94, pk_us, nI_clamp (by omega), nI_1, es, up_n (show (2 : Nat) ≠ 1 by omega), up_n (show (2 : Nat) ≠ 0 by omega)]
            have B : f_X13_see mi mr ml x1 x2 x3 = some (nI ns, upd (upd mi 79 x1) 77 (nI (ns + 1)), va_up (va_up (va_up mr 80 (upd (mr 80) ns x2)) 81 (upd (mr 81) ns x3)) 82 (upd (mr 82) ns x1)) := by
              rw [f_X13_see, if_neg w1, m3, t5, bd_some, if_neg n10, v4, bd_some, if_neg n10, y4, bd_some, if_neg n10, m1, if_neg (show ¬ nI ns = (20 : Int32) from fun q => hn (nI_inj (b := 20) (by omega) (by omega) q)), ck_t ic, ck_t ic, f_X13_see_127, pk_un (show (77 : Nat) ≠ 79 by omega), m1, ck_t ic, nI_clamp (by omega), nI_1, es, up_n (show (82 : Nat) ≠ 81 by omega), up_n (show (82 : Nat) ≠ 80 by omega)]
            refine ⟨(nI ns, upd (upd i 15 x1) 13 (nI (ns + 1)), va_up (va_up (va_up r 0 (upd (r 0) ns x1)) 1 (upd (r 1) ns x2)) 2 (upd (r 2) ns x3)), _, by rw [f_X11_see, A, bd_some], B, rfl, Or.inr ⟨L, l, ns + 1, nr, t, ?_⟩⟩
            show GW1 L l (upd (upd i 15 x1) 13 (nI (ns + 1))) (va_up (va_up (va_up r 0 (upd (r 0) ns x1)) 1 (upd (r 1) ns x2)) 2 (upd (r 2) ns x3)) u (upd (upd mi 79 x1) 77 (nI (ns + 1))) (va_up (va_up (va_up mr 80 (upd (mr 80) ns x2)) 81 (upd (mr 81) ns x3)) 82 (upd (mr 82) ns x1)) (ns + 1) nr t
            refine ⟨h1, h2.congr ?_ ?_ ?_ ?_ ?_, h3, ⟨?_, ?_, ?_, ?_, ?_, ?_⟩, ⟨?_, ?_, ?_, ?_⟩, ⟨by omega, b2, t2⟩, ⟨?_, ?_⟩, fun k hk => ?_, fun k hk => ?_⟩
            · rw [up_n (by omega), up_n (by omega), up_n (by omega)]
            · rw [up_n (by omega), up_n (by omega), up_n (by omega)]
            · rw [up_n (by omega), up_n (by omega), up_n (by omega)]
            · rw [up_n (by omega), up_n (by omega), up_n (by omega)]
            · rw [up_n (by omega), up_n (by omega), up_n (by omega)]
            · rw [pk_un (by omega), pk_un (by omega), g0]
            · rw [pk_un (by omega), pk_un (by omega), g1]
            · rw [pk_un (by omega), pk_un (by omega), g2]
            · rw [pk_us]
            · rw [pk_un (by omega), pk_un (by omega), g4]
            · rw [pk_un (by omega), pk_us, t3]
            · rw [pk_un (by omega), pk_un (by omega), m0]
            · rw [pk_us]
            · rw [pk_un (by omega), pk_un (by omega), m2]
            · rw [pk_un (by omega), pk_us, t3]
            · rw [up_n (by omega), up_n (by omega), up_n (by omega)]
              exact h7.1
            · rw [up_n (by omega), up_n (by omega), up_n (by omega)]
              exact h7.2
            · rw [up_n (show (0 : Nat) ≠ 2 by omega), up_n (show (0 : Nat) ≠ 1 by omega), up_s, up_n (show (1 : Nat) ≠ 2 by omega), up_s, up_s, up_s, up_n (show (80 : Nat) ≠ 82 by omega), up_n (show (80 : Nat) ≠ 81 by omega), up_s, up_n (show (81 : Nat) ≠ 82 by omega), up_s]
              by_cases e : k = ns
              · subst e
                exact ⟨t, v, w, t2, v1, y1, by rw [pk_us, t3], by rw [pk_us, v2], by rw [pk_us, y2], by rw [pk_us, t3], by rw [pk_us, v2], by rw [pk_us, y2]⟩
              · rw [pk_un e, pk_un e, pk_un e, pk_un e, pk_un e, pk_un e]
                exact hS k (by omega)
            · obtain ⟨a, b, c, d1, d2, d3, d4, d5, d6, d7, d8, d9⟩ := hR k hk
              rw [up_n (by omega), up_n (by omega), up_n (by omega), up_n (by omega), up_n (by omega), up_n (by omega), up_n (by omega), up_n (by omega), up_n (by omega), up_n (by omega), up_n (by omega), up_n (by omega), up_n (by omega), up_n (by omega), up_n (by omega), up_n (by omega), up_n (by omega), up_n (by omega)]
              exact ⟨a, b, c, d1, by omega, d3, d4, d5, d6, d7, d8, d9⟩
        · exact same (-2) (by rw [f_X1_addSeen, t4, bd_some, if_pos rfl, v3, bd_some, if_pos rfl, y3, bd_some, if_neg n10]) (by rw [f_X13_see, if_neg w1, m3, t5, bd_some, if_neg n10, v4, bd_some, if_neg n10, y4, bd_some, if_pos rfl])
      · exact same (-2) (by rw [f_X1_addSeen, t4, bd_some, if_pos rfl, v3, bd_some, if_neg n10]) (by rw [f_X13_see, if_neg w1, m3, t5, bd_some, if_neg n10, v4, bd_some, if_pos rfl])
    · exact same (-2) (by rw [f_X1_addSeen, t4, bd_some, if_neg n10]) (by rw [f_X13_see, if_neg w1, m3, t5, bd_some, if_pos rfl])
