/-! ===== least: both answer alike ===== -/
def GLs (i : Nat → Int32) (r : Nat → Nat → Int32) (u : Nat → Nat) (mi : Nat → Int32) (mr : Nat → Nat → Int32) : Prop := ((u 4 = 0 ∧ i 7 = -1) ∨ (u 4 = 32768 ∧ u 5 = 16384 ∧ ∃ k, k < 32 ∧ BSx k i r u)) ∧ RGs mi mr
theorem find_any {k k0 : Nat} (hk : k < 32) (hk0 : k0 < 32) {i i1 i2 : Nat → Int32} {r r1 r2 : Nat → Nat → Int32} {u : Nat → Nat} (u2 : u 4 = 32768) (u3 : u 5 = 16384) (h : BSx k0 i r u) : ∃ i' r', f_X7_find i r u i1 r1 i2 r2 (nI k) = f_X7_find_13 u i1 r1 i' r' i2 r2 ∧ BSx k i' r' u := by
  by_cases q : nI k = i 7
  · refine ⟨i, r, ?_, ?_⟩
    · rw [f_X7_find, if_pos q]
    · rw [h.1] at q
      have := nI_inj (by omega) (by omega) q
      subst this
      exact h
  · obtain ⟨g, a1, a2⟩ := fillN_go (N := 32768) (v := 0) (by omega) 32768 0 2000000 (r 4) (by omega) (by omega) (fun j hj => by omega)
    obtain ⟨i', r', b1, b2, b3, _⟩ := begn_ok hk (i := i) (r := va_up r 4 g) u2 u3 (fun p hp => by rw [up_s]; exact a2 p hp)
    refine ⟨i', r', ?_, b3, [e0W], 0, 0, b2⟩
    have a1 : f_J7_fill_53178 32768 (r 4) 0 = some g := a1
    rw [f_X7_find, if_neg q, f_X7_beginNear, u2, if_neg (show ¬ Int32.ofNat 32768 = 0 by decide), a1, bd_some, b1, bd_some]
theorem fine_map {k n w : Nat} {pl : List Nat} (hp : PthR (gsK k) n w pl) (hn : n ≤ 12) : fineF 3 (pl.map gF) := by
  obtain ⟨a, b⟩ := hp.len
  refine ⟨by omega, by omega, by rw [List.length_map, a]; omega, fun t ht => ?_⟩
  obtain ⟨g, hg, e⟩ := List.mem_map.mp ht
  rw [← e]
  exact gF_wf (gsK_in k g (b g hg))
theorem least_ok {P : Nat → Nat → Int32} {S : Nat → Nat → Nat → Int32} {i i2 mi : Nat → Int32} {r r2 mr : Nat → Nat → Int32} {u : Nat → Nat} {ml : Nat → Nat → Int64} (hF : GF P S mr) (hL : GLs i r u mi mr) (x1 x2 x3 : Int32) : (∃ q m, f_X11_least i r u i2 r2 P S x1 x2 x3 = some q ∧ f_X13_least mi mr ml x1 x2 x3 = some m ∧ q.1 = m.1 ∧ GF q.2.2.2.2.2.1 q.2.2.2.2.2.2 m.2.2 ∧ GLs q.2.1 q.2.2.1 u m.2.1 m.2.2 ∧ ∃ J, J < 6 ∧ KM J mr m.2.2) ∨ (∃ q m, (¬ x2 = i 7) ∧ Int32.ofNat (u 4) = 0 ∧ g_X11_least i r u i2 r2 P S x1 x2 x3 = some q ∧ f_X13_least mi mr ml x1 x2 x3 = some m ∧ q.1 = m.1 ∧ GF q.2.2.2.2.2.1 q.2.2.2.2.2.2 m.2.2 ∧ GLs q.2.1 q.2.2.1 (va_up (va_up u 4 32768) 5 16384) m.2.1 m.2.2 ∧ ∃ J, J < 6 ∧ KM J mr m.2.2) := by
  have refused : ∀ (a : Int32), f_X11_least i r u i2 r2 P S x1 x2 x3 = some (a, i, r, i2, r2, P, S) → f_X13_least mi mr ml x1 x2 x3 = some (a, mi, mr) → (∃ q m, f_X11_least i r u i2 r2 P S x1 x2 x3 = some q ∧ f_X13_least mi mr ml x1 x2 x3 = some m ∧ q.1 = m.1 ∧ GF q.2.2.2.2.2.1 q.2.2.2.2.2.2 m.2.2 ∧ GLs q.2.1 q.2.2.1 u m.2.1 m.2.2 ∧ ∃ J, J < 6 ∧ KM J mr m.2.2) ∨ (∃ q m, (¬ x2 = i 7) ∧ Int32.ofNat (u 4) = 0 ∧ g_X11_least i r u i2 r2 P S x1 x2 x3 = some q ∧ f_X13_least mi mr ml x1 x2 x3 = some m ∧ q.1 = m.1 ∧ GF q.2.2.2.2.2.1 q.2.2.2.2.2.2 m.2.2 ∧ GLs q.2.1 q.2.2.1 (va_up (va_up u 4 32768) 5 16384) m.2.1 m.2.2 ∧ ∃ J, J < 6 ∧ KM J mr m.2.2) := fun a A B => Or.inl ⟨_, _, A, B, rfl, hF, hL, 0, by omega, fun _ _ _ _ _ _ _ hM => hM⟩
  have o31 : (31 : Int32).toInt = 31 := by decide
  have l0 : (0 : Int64).toInt = 0 := by decide
  have l31 : (31 : Int64).toInt = 31 := by decide
  rcases fl_cases x1 with ⟨f, hf, hx, ha, hb⟩ | ⟨ha, hb⟩
  · rcases fl_cases x3 with ⟨to, hto, hz, he, hf9⟩ | ⟨he, hf9⟩
    · by_cases hr : 0 ≤ x2.toInt ∧ x2.toInt ≤ 31
      · obtain ⟨k, _, hk2, hk3⟩ := nI_ofI (x := x2) hr.1
        have hk : k < 32 := by omega
        obtain ⟨L, l, hfi, hFl, hM⟩ := hF f hf
        have hL8 := hfi.2.1
        have f6 := inb_nI (N := 6) hf (by omega)
        have f8 := inb_nI (N := 8) (n := f) (by omega) (by omega)
        have cf : (nI f).toNatClampNeg = f := nI_clamp (by omega)
        have c1 : ¬ x2 < 0 := by rw [lt32, z32]; omega
        have c2 : x2 ≤ 31 := by rw [le32, o31]; omega
        have eB : f_X13_least mi mr ml x1 x2 x3 = if nI L = 3 then (bd (f_X13_findNeeds mi mr ml (nI k)) (fun q22 => f_X13_least_50 ml 2000000 q22.1 q22.2 (nI f) (nI to) 0)) else some (-4, mi, mr) := by
          rw [f_X13_least, hb, bd_some, if_neg n10, f_in, bd_some, i2l_toInt, l0, l31, if_pos hr, if_neg n10, hf9, bd_some, if_neg n10, hx, ck_t f8, cf, hM.1, hk2, hz]
        have eA : f_X11_least i r u i2 r2 P S x1 x2 x3 = if nI L = 3 then (bd (f_X7_find i r u (P f) (S f) i2 r2 (nI k)) (fun q13 => if q13.1 = 0 then (some ((-1), q13.2.1, q13.2.2.1, q13.2.2.2.1, q13.2.2.2.2, P, S)) else (bd (f_X11_settle q13.2.2.2.1 q13.2.2.2.2 P S (nI to)) (fun q14 => some (q14.1, q13.2.1, q13.2.2.1, q13.2.2.2.1, q13.2.2.2.2, q14.2.1, q14.2.2))))) else some (-4, i, r, i2, r2, P, S) := by
          rw [f_X11_least, ha, bd_some, if_pos rfl, he, bd_some, if_pos rfl, if_neg c1, if_pos c2, hx, ck_t f6, cf, f_X2_lanes, bd_some, hFl.1, ck_t f6, hk2, hz]
        have eC : nI L = 3 → g_X11_least i r u i2 r2 P S x1 x2 x3 = bd (g_X7_find i r u (P f) (S f) i2 r2 (nI k)) (fun q13 => if q13.1 = 0 then (some ((-1), q13.2.1, q13.2.2.1, q13.2.2.2.1, q13.2.2.2.2, P, S)) else (bd (f_X11_settle q13.2.2.2.1 q13.2.2.2.2 P S (nI to)) (fun q14 => some (q14.1, q13.2.1, q13.2.2.1, q13.2.2.2.1, q13.2.2.2.2, q14.2.1, q14.2.2)))) := fun h3 => by
          rw [g_X11_least, ha, bd_some, if_pos rfl, he, bd_some, if_pos rfl, if_neg c1, if_pos c2, hx, ck_t f6, cf, f_X2_lanes, bd_some, hFl.1, if_pos h3, ck_t f6, hk2, hz]
        by_cases h3 : nI L = 3
        · rw [if_pos h3] at eA eB
          have h3' : L = 3 := nI_inj (b := 3) (by omega) (by omega) h3
          subst h3'
          have hw := tg_PW hfi
          have hun := undo_ok hfi hFl
          obtain ⟨ref0, ref1⟩ := refer_ok hf hk hto hfi (ml := ml) hM hL.2
          -- what the class answers, its search begun with i1 r1 and lengths v
          have cls : ∀ (i1 : Nat → Int32) (r1 : Nat → Nat → Int32) (v : Nat → Nat) (X : Option (Int32 × (Nat → Int32) × (Nat → Nat → Int32) × (Nat → Int32) × (Nat → Nat → Int32))), v 4 = 32768 → v 5 = 16384 → BSx k i1 r1 v → X = f_X7_find_13 v (P f) (S f) i1 r1 i2 r2 → ∃ q m, bd X (fun q13 => if q13.1 = 0 then (some ((-1), q13.2.1, q13.2.2.1, q13.2.2.2.1, q13.2.2.2.2, P, S)) else (bd (f_X11_settle q13.2.2.2.1 q13.2.2.2.2 P S (nI to)) (fun q14 => some (q14.1, q13.2.1, q13.2.2.1, q13.2.2.2.1, q13.2.2.2.2, q14.2.1, q14.2.2)))) = some q ∧ f_X13_least mi mr ml x1 x2 x3 = some m ∧ q.1 = m.1 ∧ GF q.2.2.2.2.2.1 q.2.2.2.2.2.2 m.2.2 ∧ GLs q.2.1 q.2.2.1 v m.2.1 m.2.2 ∧ ∃ J, J < 6 ∧ KM J mr m.2.2 := by
            intro i1 r1 v X v2 v3 hB hX
            obtain ⟨fi0, fi1⟩ := find13_ok hk (i1 := P f) (r1 := S f) (i2 := i2) (r2 := r2) hB hw hun
            by_cases q : ∃ n, RcN (gsK k) n (tgW l)
            · obtain ⟨n0, hn0⟩ := q
              obtain ⟨n, _, hd⟩ := RN_Dst hn0
              obtain ⟨pl, hp⟩ := hd.pth
              have h12 := Dst12 hk hw hd
              obtain ⟨i3, r3, i4, r4, a1, a2, a3⟩ := fi1 n pl hd hp
              obtain ⟨mi', mr', b1, b2, b3, b4⟩ := ref1 n pl hd hp
              have hfine := fine_map hp h12
              obtain ⟨p, s, d1, d2⟩ := settle_ok (P := P) (S := S) hto a3 hfine.2.2.1
              rw [List.length_map, hp.len.1] at d1
              refine ⟨(nI n, i3, r3, i4, r4, va_up P to p, va_up S to s), (nI n, mi', mr'), ?_, eB.trans b1, rfl, hF.put hto b3 hfine d2 b2, ⟨Or.inr ⟨v2, v3, k, hk, a2⟩, b4⟩, to, hto, b3⟩
              rw [hX, a1, bd_some, if_neg n10, d1, bd_some]
            · have q' : ∀ n, ¬ RcN (gsK k) n (tgW l) := fun n hn => q ⟨n, hn⟩
              obtain ⟨i3, r3, a1, a2⟩ := fi0 q'
              obtain ⟨mi', mr', b1, b2, b3⟩ := ref0 q'
              refine ⟨(-1, i3, r3, i2, r2, P, S), (-1, mi', mr'), ?_, eB.trans b1, rfl, hF.congr rfl rfl (b2 10 (by omega) (by omega)) (b2 11 (by omega) (by omega)) (b2 12 (by omega) (by omega)) (b2 13 (by omega) (by omega)) (b2 14 (by omega) (by omega)), ⟨Or.inr ⟨v2, v3, k, hk, a2⟩, b3⟩, 0, by omega, KM.of6 (KP.eq b2)⟩
              rw [hX, a1, bd_some, if_pos rfl]
          rcases hL.1 with ⟨u2, h5⟩ | ⟨u2, u3, k0, hk0, hB⟩
          · right
            obtain ⟨i1, r1, b1, b2, b3, _⟩ := begn_ok hk (i := i) (r := va_up (va_up r 4 (fun _ => 0)) 5 (fun _ => 0)) (u := va_up (va_up u 4 32768) 5 16384) (by rw [up_n (by omega), up_s]) (by rw [up_s]) (fun p hp => by rw [up_n (by omega), up_s])
            obtain ⟨q, m, c⟩ := cls i1 r1 (va_up (va_up u 4 32768) 5 16384) (g_X7_find i r u (P f) (S f) i2 r2 (nI k)) (by rw [up_n (by omega), up_s]) (by rw [up_s]) ⟨b3, [e0W], 0, 0, b2⟩ (by rw [g_X7_find, b1, bd_some])
            refine ⟨q, m, ?_, ?_, ?_, c.2⟩
            · rw [h5, hk2]
              exact nm1 (by omega)
            · rw [u2]
              decide
            · rw [eC h3]
              exact c.1
          · left
            obtain ⟨i1, r1, b1, b2⟩ := find_any hk hk0 (i1 := P f) (r1 := S f) (i2 := i2) (r2 := r2) u2 u3 hB
            obtain ⟨q, m, c⟩ := cls i1 r1 u _ u2 u3 b2 b1
            refine ⟨q, m, ?_, c.2⟩
            rw [eA]
            exact c.1
        · rw [if_neg h3] at eA eB
          exact refused (-4) eA eB
      · refine refused (-2) ?_ ?_
        · rw [f_X11_least, ha, bd_some, if_pos rfl, he, bd_some, if_pos rfl]
          by_cases h1 : x2 < 0
          · rw [if_pos h1]
          · rw [if_neg h1]
            rw [lt32, z32] at h1
            rw [if_neg (show ¬ x2 ≤ 31 by rw [le32, o31]; omega)]
        · rw [f_X13_least, hb, bd_some, if_neg n10, f_in, bd_some, i2l_toInt, l0, l31, if_neg hr, if_pos rfl]
    · refine refused (-2) (by rw [f_X11_least, ha, bd_some, if_pos rfl, he, bd_some, if_neg n10]) ?_
      rw [f_X13_least, hb, bd_some, if_neg n10, f_in, bd_some]
      by_cases hr : (0 : Int64).toInt ≤ x2.toInt64.toInt ∧ x2.toInt64.toInt ≤ (31 : Int64).toInt
      · rw [if_pos hr, if_neg n10, hf9, bd_some, if_pos rfl]
      · rw [if_neg hr, if_pos rfl]
  · exact refused (-2) (by rw [f_X11_least, ha, bd_some, if_neg n10]) (by rw [f_X13_least, hb, bd_some, if_pos rfl])
