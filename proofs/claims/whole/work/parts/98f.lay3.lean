/-! lay: the turns laid are put into the FLOOR, the last first -/
theorem lay80_go {L : Nat} {ls : List FSt} {i1 : Nat → Int32} {r1 : Nat → Nat → Int32} {i0 : Nat → Int32} {r0 : Nat → Nat → Int32} (h40 : ls.length ≤ 40) (hr : ∀ k t, ls[k]? = some t → r0 1 k = nI t.1 ∧ r0 2 k = nI t.2.2) (hn0 : ∀ t ∈ ls, t.2.1 = none) : ∀ (k n : Nat) (l : List FSt) (i : Nat → Int32) (r : Nat → Nat → Int32), FL L l i r → l.length + k ≤ 40 → k ≤ ls.length → k < n → ∃ i' r', f_X8_layInto_80 i1 r1 n i0 r0 i r (nI k + (-1)) = some (1, i0, r0, i', r') ∧ FL L (l ++ (ls.take k).reverse) i' r' := by
  intro k
  induction k with
  | zero =>
    intro n l i r h hl hk hn
    obtain ⟨m, rfl⟩ : ∃ m, n = m + 1 := ⟨n - 1, by omega⟩
    refine ⟨i, r, ?_, ?_⟩
    · rw [f_X8_layInto_80, if_pos neg_k0]
    · rw [List.take_zero, List.reverse_nil, List.append_nil]
      exact h
  | succ k ih =>
    intro n l i r h hl hk hn
    obtain ⟨m, rfl⟩ : ∃ m, n = m + 1 := ⟨n - 1, by omega⟩
    obtain ⟨t, ht, hd⟩ := take_c (l := ls) (k := k) (by omega)
    obtain ⟨c1, c2⟩ := hr k t ht
    have hno := hn0 t (List.mem_of_getElem? ht)
    have ic := inb_nI (N := 40) (n := k) (by omega) (by omega)
    obtain ⟨i2, r2, a1, a2⟩ := addKind_ok h (by omega) t
    have a1' : f_X2_addKind i r 0 (nI t.1) (-1) (nI t.2.2) = some (i2, r2) := by
      rw [kI, hno] at a1
      exact a1
    obtain ⟨i', r', b1, b2⟩ := ih m (l ++ [t]) i2 r2 a2 (by rw [List.length_append]; show l.length + 1 + k ≤ 40; omega) (by omega) (by omega)
    refine ⟨i', r', ?_, ?_⟩
    · rw [f_X8_layInto_80, pk_m1, if_neg (nI_pos (by omega)), ck_t ic, ck_t ic, nI_clamp (by omega), c1, c2, f_X2_addTurn, a1', bd_some, bd_some]
      exact b1
    · rw [hd]
      rw [List.append_assoc] at b2
      exact b2
theorem rev_of {α : Type} {l : List α} {z : Nat} {t : α} (h : l.reverse[z]? = some t) : z < l.length ∧ l[l.length - 1 - z]? = some t := by
  have hz : z < l.length := by
    have := (List.getElem?_eq_some_iff.mp h).1
    rw [List.length_reverse] at this
    exact this
  refine ⟨hz, ?_⟩
  rw [List.getElem?_reverse hz] at h
  exact h
theorem lay215_go {L to : Nat} {ls : List FSt} {mi : Nat → Int32} {ml : Nat → Nat → Int64} (hto : to < 6) (h40 : ls.length ≤ 40) (hmi : mi 27 = nI ls.length) (hn0 : ∀ t ∈ ls, t.2.1 = none) : ∀ (d k n : Nat) (mr : Nat → Nat → Int32), (∀ z t, ls[z]? = some t → mr 12 (279 - z) = nI t.1 ∧ mr 14 (279 - z) = nI t.2.2) → mr 10 to = nI L → mr 11 to = nI ls.length → (∀ z t, z < k → ls.reverse[z]? = some t → mr 12 (40 * to + z) = nI t.1 ∧ mr 13 (40 * to + z) = oI t.2.1 ∧ mr 14 (40 * to + z) = nI t.2.2) → k + d = ls.length → d < n → ∃ mr', f_X13_lay_215 ml n mi mr (nI to) (nI k) = some (nI ls.length, mi, mr') ∧ MF L ls.reverse mr' to ∧ KP to mr mr' := by
  intro d
  induction d with
  | zero =>
    intro k n mr hs h10 h11 hT hk hn
    obtain ⟨m, rfl⟩ : ∃ m, n = m + 1 := ⟨n - 1, by omega⟩
    refine ⟨mr, ?_, ⟨h10, by rw [h11, List.length_reverse], fun z t hz => hT z t (by have := (rev_of hz).1; omega) hz⟩, KP.rf⟩
    rw [f_X13_lay_215, hmi, if_pos (nI_le (by omega) (by omega))]
  | succ d ih =>
    intro k n mr hs h10 h11 hT hk hn
    obtain ⟨m, rfl⟩ : ∃ m, n = m + 1 := ⟨n - 1, by omega⟩
    have hkl : k < ls.reverse.length := by rw [List.length_reverse]; omega
    obtain ⟨t, htk⟩ : ∃ t, ls.reverse[k]? = some t := ⟨_, List.getElem?_eq_getElem hkl⟩
    have hq := (rev_of htk).2
    obtain ⟨c1, c2⟩ := hs _ t hq
    have hno := hn0 t (List.mem_of_getElem? hq)
    have ei : (280 : Int32) - nI ls.length + nI k = nI (279 - (ls.length - 1 - k)) := by
      rw [show (280 : Int32) = nI 280 from rfl, pk_sub (by omega), nI_add]
      congr 1
      omega
    have j1 := inb_nI (N := 320) (n := 279 - (ls.length - 1 - k)) (by omega) (by omega)
    have j2 := inb_nI (N := 320) (n := 40 * to + k) (by omega) (by omega)
    have K1 : KP to mr (va_up (va_up (va_up mr 12 (upd (mr 12) (40 * to + k) (nI t.1))) 13 (upd (mr 13) (40 * to + k) (-1))) 14 (upd (mr 14) (40 * to + k) (nI t.2.2))) := by
      intro j hj hJ
      refine ⟨?_, ?_, fun z hz => ⟨?_, ?_, ?_⟩⟩
      · rw [up_n (by omega), up_n (by omega), up_n (by omega)]
      · rw [up_n (by omega), up_n (by omega), up_n (by omega)]
      · rw [up_n (by omega), up_n (by omega), up_s, pk_un (by omega)]
      · rw [up_n (by omega), up_s, pk_un (by omega)]
      · rw [up_s, pk_un (by omega)]
    obtain ⟨mr', a1, a2, a3⟩ := ih (k + 1) m (va_up (va_up (va_up mr 12 (upd (mr 12) (40 * to + k) (nI t.1))) 13 (upd (mr 13) (40 * to + k) (-1))) 14 (upd (mr 14) (40 * to + k) (nI t.2.2))) (fun z x hz => by
      have hz2 := (List.getElem?_eq_some_iff.mp hz).1
      rw [up_n (show (12 : Nat) ≠ 14 by omega), up_n (show (12 : Nat) ≠ 13 by omega), up_s, up_s, pk_un (by omega), pk_un (by omega)]
      exact hs z x hz) (by rw [up_n (by omega), up_n (by omega), up_n (by omega)]; exact h10) (by rw [up_n (by omega), up_n (by omega), up_n (by omega)]; exact h11) (fun z x hz hx => by
      rw [up_n (show (12 : Nat) ≠ 14 by omega), up_n (show (12 : Nat) ≠ 13 by omega), up_s, up_n (show (13 : Nat) ≠ 14 by omega), up_s, up_s]
      by_cases e : z = k
      · subst e
        have : x = t := Option.some.inj (hx.symm.trans htk)
        subst this
        exact ⟨pk_us, by rw [pk_us, hno]; rfl, pk_us⟩
      · rw [pk_un (by omega), pk_un (by omega), pk_un (by omega)]
        exact hT z x (by omega) hx) (by omega) (by omega)
    refine ⟨mr', ?_, a2, K1.tr a3⟩
    rw [f_X13_lay_215, hmi, if_neg (nI_ge (by omega) (by omega)), mul40, ei, ck_t j1, ck_t j2, ck_t j2, nI_clamp (n := 40 * to + k) (by omega), nI_clamp (n := 279 - (ls.length - 1 - k)) (by omega), f_X13_lay_265, hmi, mul40, ei, ck_t j1, ck_t j2, nI_clamp (n := 40 * to + k) (by omega), nI_clamp (n := 279 - (ls.length - 1 - k)) (by omega), nI_1]
    simp only [up_n (show (13 : Nat) ≠ 12 by omega), up_n (show (14 : Nat) ≠ 13 by omega), up_n (show (14 : Nat) ≠ 12 by omega), c1, c2]
    exact a1
theorem lay_ok {P : Nat → Nat → Int32} {S : Nat → Nat → Nat → Int32} {i i2 mi : Nat → Int32} {r r2 mr : Nat → Nat → Int32} {ml : Nat → Nat → Int64} (h : GF P S mr) (x1 x2 : Int32) : ∃ q m, f_X11_lay i r i2 r2 P S x1 x2 = some q ∧ f_X13_lay mi mr ml x1 x2 = some m ∧ q.1 = m.1 ∧ GF q.2.2.2.2.2.1 q.2.2.2.2.2.2 m.2.2 ∧ ∃ J, J < 6 ∧ KM J mr m.2.2 := by
  have refused : f_X11_lay i r i2 r2 P S x1 x2 = some (-2, i, r, i2, r2, P, S) → f_X13_lay mi mr ml x1 x2 = some (-2, mi, mr) → ∃ q m, f_X11_lay i r i2 r2 P S x1 x2 = some q ∧ f_X13_lay mi mr ml x1 x2 = some m ∧ q.1 = m.1 ∧ GF q.2.2.2.2.2.1 q.2.2.2.2.2.2 m.2.2 ∧ ∃ J, J < 6 ∧ KM J mr m.2.2 := fun A B => ⟨_, _, A, B, rfl, h, 0, by omega, fun _ _ _ _ _ _ _ hM => hM⟩
  rcases fl_cases x1 with ⟨f, hf, hx, ha, hb⟩ | ⟨ha, hb⟩
  · rcases fl_cases x2 with ⟨to, hto, hz, he, hf9⟩ | ⟨he, hf9⟩
    · obtain ⟨L, l, hfi, hF, hM⟩ := h f hf
      have hL8 := hfi.2.1
      have h40 := hfi.2.2.1
      have h256 := p2 hL8
      have f6 := inb_nI (N := 6) hf (by omega)
      have f8 := inb_nI (N := 8) (n := f) (by omega) (by omega)
      have cf : (nI f).toNatClampNeg = f := nI_clamp (by omega)
      obtain ⟨g, g1, g2⟩ := fillT hfi hF (r 0)
      obtain ⟨mr1, e1, e2⟩ := findT (mi := mi) (ml := ml) (show f < 8 by omega) hfi hM
      have F := fr_X13_findTable e1
      have hM1 : MF L l mr1 f := hM.congr (F 10 (by omega)) (F 11 (by omega)) (F 12 (by omega)) (F 13 (by omega)) (F 14 (by omega))
      have K1 : KM to mr mr1 := fun j _ _ _ _ _ _ hM => hM.congr (F 10 (by omega)) (F 11 (by omega)) (F 12 (by omega)) (F 13 (by omega)) (F 14 (by omega))
      have h0 : LR f L l (runS l) [] (upd i 3 0) (va_up r 0 g) (upd mi 27 0) mr1 := by
        refine ⟨hM1, by show 0 ≤ 40; omega, fun t ht => (by cases ht), fun u hu => ⟨runS_lt hfi.2.2.2 hu, by rw [up_s]; exact g2 u hu, e2 u hu⟩, by rw [pk_us]; rfl, by rw [pk_us]; rfl, fun k t hk => by cases hk⟩
      have eA : f_X11_lay i r i2 r2 P S x1 x2 = bd (f_X8_layInto_21 (P f) (S f) 2000000 (upd i 3 0) (va_up r 0 g) i2 r2 (nI (2 ^ L)) 0) (fun q9 => if q9.1 = 0 then (some ((-3), q9.2.1, q9.2.2.1, q9.2.2.2.1, q9.2.2.2.2, P, S)) else (bd (f_X11_settle q9.2.2.2.1 q9.2.2.2.2 P S (nI to)) (fun q10 => some (q10.1, q9.2.1, q9.2.2.1, q9.2.2.2.1, q9.2.2.2.2, q10.2.1, q10.2.2)))) := by
        rw [f_X11_lay, ha, bd_some, if_pos rfl, he, bd_some, if_pos rfl, hx, ck_t f6, cf, f_X8_layInto, g1, bd_some, rows_ok hL8 hF, bd_some, hz]
      have eB : f_X13_lay mi mr ml x1 x2 = f_X13_lay_39 ml 2000000 (upd mi 27 0) mr1 (nI f) (nI to) (nI (2 ^ L)) 0 := by
        rw [f_X13_lay, hb, bd_some, if_neg n10, hf9, bd_some, if_neg n10, hx, e1, bd_some, ck_t f8, cf, hM1.1, sh1 (by omega), hz]
      rcases mendAll (to := to) (i2 := i2) (r2 := r2) (ml := ml) hL8 hf hto h40 hF (2 ^ L) 0 2000000 2000000 _ _ _ _ _ _ h0 (by omega) (by omega) (by omega) with ⟨T, ls, i', r', mi', mr', a1, a2, a3, a4⟩ | ⟨i', r', c, mi', mr', a1, a2, a3, a4, a5, a6⟩
      · obtain ⟨c1, c2, c3, c4, c5, c6, c7⟩ := a3
        have a1' : f_X8_layInto_21 (P f) (S f) 2000000 (upd i 3 0) (va_up r 0 g) i2 r2 (nI (2 ^ L)) 0 = _ := a1
        have a2' : f_X13_lay_39 ml 2000000 (upd mi 27 0) mr1 (nI f) (nI to) (nI (2 ^ L)) 0 = _ := a2
        have hwf : fineF L ls.reverse := ⟨hfi.1, hL8, by rw [List.length_reverse]; exact c2, fun t ht => (c3 t (List.mem_reverse.mp ht)).1⟩
        obtain ⟨i3, b1, b2⟩ := clear_ok (i := i2) (r := r2) (x := (P f) 4) (L := L) hF.1
        obtain ⟨i4, r4, b3, b4⟩ := lay80_go (i1 := P f) (r1 := S f) (i0 := i') (r0 := r') c2 (fun k t hk => ⟨(c7 k t hk).1, (c7 k t hk).2.1⟩) (fun t ht => (c3 t ht).2) ls.length 2000000 [] i3 r2 b2 (by show 0 + ls.length ≤ 40; omega) (by omega) (by omega)
        rw [List.take_length, List.nil_append] at b4
        obtain ⟨p, s, d1, d2⟩ := settle_ok (P := P) (S := S) hto b4 hwf.2.2.1
        rw [List.length_reverse] at d1
        have K2 : KP to mr' (va_up (va_up mr' 10 (upd (mr' 10) to (nI L))) 11 (upd (mr' 11) to (nI ls.length))) := by
          intro j hj hJ
          refine ⟨?_, ?_, fun z hz => ⟨?_, ?_, ?_⟩⟩
          · rw [up_n (by omega), up_s, pk_un hJ]
          · rw [up_s, pk_un hJ]
          · rw [up_n (by omega), up_n (by omega)]
          · rw [up_n (by omega), up_n (by omega)]
          · rw [up_n (by omega), up_n (by omega)]
        obtain ⟨mr3, k1, k2, k3⟩ := lay215_go (L := L) (ml := ml) hto c2 c6 (fun t ht => (c3 t ht).2) ls.length 0 2000000 (va_up (va_up mr' 10 (upd (mr' 10) to (nI L))) 11 (upd (mr' 11) to (nI ls.length))) (fun z t hz => by rw [up_n (by omega), up_n (by omega), up_n (by omega), up_n (by omega)]; exact ⟨(c7 z t hz).2.2.1, (c7 z t hz).2.2.2⟩) (by rw [up_n (by omega), up_s, pk_us]) (by rw [up_s, pk_us]) (fun z t hz => by omega) (by omega) (by omega)
        have A : f_X11_lay i r i2 r2 P S x1 x2 = some (nI ls.length, i', r', i4, r4, va_up P to p, va_up S to s) := by
          rw [eA, a1', f_X8_layInto_53, c5, if_pos (show nI ls.length ≤ (40 : Int32) from nI_le (b := 40) c2 (by omega)), f_X2_lanes, bd_some, b1, bd_some, m1_eq, b3, bd_some, if_neg n10, d1, bd_some]
        have B : f_X13_lay mi mr ml x1 x2 = some (nI ls.length, mi', mr3) := by
          rw [eB, a2', f_X13_lay_212]
          exact k1
        have hKM : KM to mr mr3 := (K1.tr (KM.of6 a4)).tr ((KM.ofJ K2).tr (KM.ofJ k3))
        exact ⟨_, _, A, B, rfl, h.put hto hKM hwf d2 k2, to, hto, hKM⟩
      · have a1' : f_X8_layInto_21 (P f) (S f) 2000000 (upd i 3 0) (va_up r 0 g) i2 r2 (nI (2 ^ L)) 0 = _ := a1
        have a5' : f_X13_lay_39 ml 2000000 (upd mi 27 0) mr1 (nI f) (nI to) (nI (2 ^ L)) 0 = _ := a5
        have A : f_X11_lay i r i2 r2 P S x1 x2 = some (-3, i', r', i2, r2, P, S) := by
          rw [eA, a1', f_X8_layInto_53, a2, if_neg (show ¬ nI c ≤ (40 : Int32) from nI_ge (a := 40) (by omega) (by omega)), bd_some, if_pos rfl]
        have B : f_X13_lay mi mr ml x1 x2 = some (-3, mi', mr') := by rw [eB, a5']
        have K6 : ∀ j, j < 6 → ∀ L l, l.length ≤ 40 → MF L l mr j → MF L l mr' j := fun j hj L l hl hM => a6.mf (by omega) (by omega) hl (hM.congr (F 10 (by omega)) (F 11 (by omega)) (F 12 (by omega)) (F 13 (by omega)) (F 14 (by omega)))
        refine ⟨_, _, A, B, rfl, fun j hj => ?_, to, hto, K1.tr (KM.of6 a6)⟩
        obtain ⟨L3, l3, y1, y2, y3⟩ := h j hj
        exact ⟨L3, l3, y1, y2, K6 j hj L3 l3 y1.2.2.1 y3⟩
    · exact refused (by rw [f_X11_lay, ha, bd_some, if_pos rfl, he, bd_some, if_neg n10]) (by rw [f_X13_lay, hb, bd_some, if_neg n10, hf9, bd_some, if_pos rfl])
  · exact refused (by rw [f_X11_lay, ha, bd_some, if_neg n10]) (by rw [f_X13_lay, hb, bd_some, if_pos rfl])
