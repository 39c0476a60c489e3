/-! ===== least: the class's answer ===== -/
/-- a gate as a step -/
def gF (g : Nat) : FSt := if 64 ≤ g then ((g - 64) / 32, some (g / 8 % 4), g % 8) else (g / 8, none, g % 8)
theorem gF_at : ∀ g ∈ zG, (64 ≤ g → (nI g - 64) >>> (5 &&& 31) = nI ((g - 64) / 32) ∧ (nI g >>> (3 &&& 31)) &&& 3 = nI (g / 8 % 4)) ∧ (¬ 64 ≤ g → nI g >>> (3 &&& 31) = nI (g / 8)) ∧ nI g &&& 7 = nI (g % 8) := by decide
theorem pick_ok {g L : Nat} {l : List FSt} {i : Nat → Int32} {r : Nat → Nat → Int32} (hg : g ∈ zG) (h : FL L l i r) (hl : l.length < 40) : ∃ i' r', f_X7_addPicked i r (nI g) = some (i', r') ∧ FL L (l ++ [gF g]) i' r' := by
  obtain ⟨i', r', a1, a2⟩ := addKind_ok h hl (gF g)
  obtain ⟨b1, b2, b3⟩ := gF_at g hg
  have h64 := (zG_kd g hg).2.2.1
  refine ⟨i', r', ?_, a2⟩
  rw [f_X7_addPicked, b3]
  unfold gF at a1
  by_cases q : 64 ≤ g
  · rw [if_pos q] at a1
    have a1 : f_X2_addKind i r 1 (nI ((g - 64) / 32)) (nI (g / 8 % 4)) (nI (g % 8)) = some (i', r') := a1
    rw [if_pos (h64.mpr q), (b1 q).1, (b1 q).2, f_X2_addSwap, a1, bd_some, bd_some]
  · rw [if_neg q] at a1
    have a1 : f_X2_addKind i r 0 (nI (g / 8)) (-1) (nI (g % 8)) = some (i', r') := a1
    rw [if_neg (fun z => q (h64.mp z)), b2 q, f_X2_addTurn, a1, bd_some, bd_some]
theorem picks_go {u : Nat → Nat} {i1 i : Nat → Int32} {r1 r : Nat → Nat → Int32} {l : List Nat} (hl : l.length ≤ 40) (hz : ∀ g ∈ l, g ∈ zG) (hr : ∀ j g, l[j]? = some g → r 1 j = nI g) : ∀ (c j m : Nat) (i2 : Nat → Int32) (r2 : Nat → Nat → Int32), j + c = l.length → c < m → FL 3 ((l.take j).map gF) i2 r2 → ∃ i2' r2', f_X7_find_123 u i1 r1 m i r i2 r2 (nI l.length) (nI j) = some (1, i, r, i2', r2') ∧ FL 3 (l.map gF) i2' r2' := by
  intro c
  induction c with
  | zero =>
    intro j m i2 r2 hj hm h
    obtain ⟨m', rfl⟩ : ∃ m', m = m' + 1 := ⟨m - 1, by omega⟩
    rw [show j = l.length by omega, List.take_length] at h
    refine ⟨i2, r2, ?_, h⟩
    rw [f_X7_find_123, if_pos (nI_le (by omega) (by omega))]
  | succ c ih =>
    intro j m i2 r2 hj hm h
    obtain ⟨m', rfl⟩ : ∃ m', m = m' + 1 := ⟨m - 1, by omega⟩
    have hjl : j < l.length := by omega
    obtain ⟨g, hg⟩ : ∃ g, l[j]? = some g := ⟨l[j], List.getElem?_eq_getElem hjl⟩
    have ij := inb_nI (N := 40) (n := j) (by omega) (by omega)
    obtain ⟨i3, r3, a1, a2⟩ := pick_ok (hz g (List.mem_of_getElem? hg)) h (by rw [List.length_map, List.length_take]; omega)
    obtain ⟨i4, r4, b1, b2⟩ := ih (j + 1) m' i3 r3 (by omega) (by omega) (by
      rw [List.take_succ_eq_append_getElem hjl, List.map_append]
      rw [List.getElem?_eq_getElem hjl] at hg
      rw [Option.some.inj hg]
      exact a2)
    refine ⟨i4, r4, ?_, b2⟩
    rw [f_X7_find_123, if_neg (nI_ge (by omega) (by omega)), ck_t ij, nI_clamp (by omega), hr j g hg, a1, bd_some, nI_1]
    exact b1
/-- the search's state of kind set k, whatever its radius -/
def BSx (k : Nat) (i : Nat → Int32) (r : Nat → Nat → Int32) (u : Nat → Nat) : Prop := i 7 = nI k ∧ ∃ L d j, ByS (gsK k) i r u L d j
theorem home_ok {k0 : Nat} {u : Nat → Nat} {L : List Nat} {d k a n w : Nat} {l pre : List Nat} {i i1 i2 : Nat → Int32} {r r1 r2 : Nat → Nat → Int32} (h : ByS (gsK k0) i r u L d k) (h5 : i 7 = nI k0) (hw : TbW w) (h10 : i 12 = nI w) (hd : Dst (gsK k0) w n) (hnd : n ≤ d) (han : a + n ≤ 12) (hl : PthR (gsK k0) n w l) (hpl : pre.length = a) (hpz : ∀ g ∈ pre, g ∈ zG) (hpr : ∀ j g, pre[j]? = some g → r 1 j = nI g) : ∃ i' r' i2' r2', f_X7_find_100 u i1 r1 i r i2 r2 (nI a) = some (1, i', r', i2', r2') ∧ BSx k0 i' r' u ∧ FL 3 ((pre ++ l).map gF) i2' r2' := by
  obtain ⟨v, a1, a2, _⟩ := bs_dist h hw
  have ev := (a2 n (by omega) hnd).mpr hd
  subst ev
  obtain ⟨i3, r3, b1, b2, b3⟩ := walk_go (gsK_in k0) (gsK_len k0) n a 2000000 w l i r (by omega) (by omega) (by omega) hnd h hw h10 hl
  obtain ⟨ll, lz⟩ := hl.len
  obtain ⟨i4, c1, c2⟩ := clear_ok (i := i2) (r := r2) (x := 3) (L := 3) rfl
  have hlen : (pre ++ l).length = a + n := by rw [List.length_append, hpl, ll]
  obtain ⟨i5, r5, e1, e2⟩ := picks_go (u := u) (i1 := i1) (r1 := r1) (i := i3) (r := r3) (l := pre ++ l) (by omega) (fun g hg => by
    rcases List.mem_append.mp hg with q | q
    · exact hpz g q
    · exact gsK_in k0 g (lz g q)) (fun j g hg => by
    by_cases q : j < pre.length
    · rw [List.getElem?_append_left q] at hg
      rw [b2.2.2 j (by omega)]
      exact hpr j g hg
    · rw [List.getElem?_append_right (by omega)] at hg
      have := b3 _ g hg
      rw [show a + (j - pre.length) = j by omega] at this
      exact this) (a + n) 0 2000000 i4 r2 (by omega) (by omega) c2
  refine ⟨i3, r3, i5, r5, ?_, ⟨?_, L, d, k, b2.bs h⟩, e2⟩
  · rw [f_X7_find_100, if_pos (nI_pos' (by omega)), f_X7_walkHome, h10, a1, bd_some, b1, bd_some, c1, bd_some]
    rw [hlen, nI_0] at e1
    exact e1
  · rw [b2.1 7 (by omega)]
    exact h5
theorem find69_ok {k0 : Nat} (hk0 : k0 < 32) {u : Nat → Nat} {L : List Nat} {d k w : Nat} {i i1 i2 : Nat → Int32} {r r1 r2 : Nat → Nat → Int32} (h : ByS (gsK k0) i r u L d k) (h5 : i 7 = nI k0) (hw : TbW w) (h10 : i 12 = nI w) (hend : RcN (gsK k0) d w ∨ i 11 = 1 ∨ 5040 < L.length) : ((∀ n, ¬ RcN (gsK k0) n w) → ∃ i' r', f_X7_find_69 u i1 r1 i r i2 r2 = some (0, i', r', i2, r2) ∧ BSx k0 i' r' u) ∧ (∀ n l, Dst (gsK k0) w n → PthR (gsK k0) n w l → ∃ i' r' i2' r2', f_X7_find_69 u i1 r1 i r i2 r2 = some (1, i', r', i2', r2') ∧ BSx k0 i' r' u ∧ FL 3 (l.map gF) i2' r2') := by
  obtain ⟨v, a1, a2, a3⟩ := bs_dist h hw
  by_cases q : RcN (gsK k0) d w
  · refine ⟨fun hn => absurd q (hn d), fun n l hd hl => ?_⟩
    have hnd : n ≤ d := by
      by_cases z : n ≤ d
      · exact z
      · exact absurd q (hd.2 d (by omega))
    have h12 := Dst12 hk0 hw hd
    obtain ⟨i', r', i2', r2', b1, b2, b3⟩ := home_ok (i1 := i1) (r1 := r1) (i2 := i2) (r2 := r2) (a := 0) (pre := []) h h5 hw h10 hd hnd (by omega) hl rfl (fun g hg => by cases hg) (fun j g hg => by cases hg)
    refine ⟨i', r', i2', r2', ?_, b2, b3⟩
    rw [f_X7_find_69, h10, a1, bd_some, if_pos (a3.mpr q)]
    exact b1
  · have e1 : f_X7_find_69 u i1 r1 i r i2 r2 = if (i 11) = 0 then (bd (f_X7_stepsToRim i r u) (fun q14 => f_X7_find_98 u i1 r1 q14.2.1 q14.2.2 i2 r2 q14.1)) else (f_X7_find_98 u i1 r1 i r i2 r2 (-1)) := by
      rw [f_X7_find_69, h10, a1, bd_some, if_neg (fun z => q (a3.mp z))]
    rcases h.2.2.2.2 with ⟨h9, hk⟩ | ⟨h9, hk⟩
    · have hlen : 5040 < L.length := by
        rcases hend with z | z | z
        · exact absurd z q
        · rw [h9] at z
          exact absurd z.symm n10
        · exact z
      have hup := ball_up (gsK_in k0) (d := d) h.2.1.nd (fun x hx => ⟨h.2.1.pw x hx, by
        obtain ⟨j, e⟩ := List.getElem?_of_mem hx
        exact (h.2.1.ball x (h.2.1.pw x hx)).mpr ⟨j, (List.getElem?_eq_some_iff.mp e).1, e⟩⟩)
      have hful := full_ok (d := d) hk0 (by omega) hw
      refine ⟨fun hn => absurd hful (hn 12), fun n l hd hl => ?_⟩
      have h12 := Dst12 hk0 hw hd
      have hdn : d < n := by
        by_cases z : d < n
        · exact z
        · exact absurd (RN_le hd.1 (show n ≤ d by omega)) q
      obtain ⟨m, rfl⟩ : ∃ m, n = d + m := ⟨n - d, by omega⟩
      have h5040 : 5040 < bcn 21 (bball (gsK k0) d) := by omega
      have fr3 : FRm 0 i r i (va_up r 3 (upd (r 3) 0 (nI w))) := ⟨fun _ _ => rfl, fun q _ _ h3 => up_n h3, fun j hj => by omega⟩
      have i0 : inb (0 : Int32) 13 = true := by
        have e := inb_nI (N := 13) (n := 0) (by omega) (by omega)
        rw [nI_0] at e
        exact e
      have hs := fr3.bs h
      obtain ⟨i3, r3, w', b1, b2, b3, b4, b5, b6, b7⟩ := rims_go (gsK_in k0) (gsK_len k0) (i := i) (u := u) (L := L) (k := k) (show d ≤ 13 by omega) (show m ≤ 12 by omega) (tries_ok hk0 h5040 hw hd) hw hd hl (m - 1) 1 2000000 (va_up r 3 (upd (r 3) 0 (nI w))) (by omega) (by omega) hs (by rw [up_s, pk_us])
      obtain ⟨ll, lz⟩ := hl.len
      obtain ⟨i', r', i2', r2', c1, c2, c3⟩ := home_ok (i1 := i1) (r1 := r1) (i2 := i2) (r2 := r2) (a := m) (pre := l.take m) (b2.bs hs) (by rw [b2.1 7 (by omega)]; exact h5) b4 b3 b5 (Nat.le_refl _) (by omega) b6 (by rw [List.length_take]; omega) (fun g hg => gsK_in k0 g (lz g (List.mem_of_mem_take hg))) (fun j g hg => by
        have hj := (List.getElem?_eq_some_iff.mp hg).1
        rw [List.length_take] at hj
        rw [List.getElem?_take_of_lt (by omega)] at hg
        exact b7 j g (by omega) hg)
      rw [List.take_append_drop] at c3
      refine ⟨i', r', i2', r2', ?_, c2, c3⟩
      have b1 : f_X7_stepsToRim_12 u 2000000 i (va_up r 3 (upd (r 3) 0 (nI w))) 1 = some (nI m, i3, r3) := b1
      rw [e1, if_pos h9, f_X7_stepsToRim, h10, ck_t i0, show (0 : Int32).toNatClampNeg = 0 from rfl, b1, bd_some, f_X7_find_98]
      exact c1
    · have hsh := LyB.shut (gsK_in k0) (by have := h.2.1; rw [hk] at this; exact this) rfl
      refine ⟨fun hn => ⟨i, r, ?_, h5, L, d, k, h⟩, fun n l hd hl => absurd (hsh n w hw hd.1) q⟩
      rw [e1, h9, if_neg n10, f_X7_find_98, f_X7_find_100, if_neg (by decide)]
theorem find24_ok {k0 : Nat} (hk0 : k0 < 32) {u : Nat → Nat} {w : Nat} {i1 i2 : Nat → Int32} {r1 r2 : Nat → Nat → Int32} (hw : TbW w) : ∀ (c a m : Nat) (L : List Nat) (d k : Nat) (i : Nat → Int32) (r : Nat → Nat → Int32), 13 ≤ d + c → a + c < 40 → c < m → ByS (gsK k0) i r u L d k → i 7 = nI k0 → i 12 = nI w → ∃ L' d' k' i' r', f_X7_find_24 u i1 r1 m i r i2 r2 (nI a) = f_X7_find_69 u i1 r1 i' r' i2 r2 ∧ ByS (gsK k0) i' r' u L' d' k' ∧ i' 7 = nI k0 ∧ i' 12 = nI w ∧ (RcN (gsK k0) d' w ∨ i' 11 = 1 ∨ 5040 < L'.length) := by
  intro c
  induction c with
  | zero =>
    intro a m L d k i r hd ha hm h h5 h10
    obtain ⟨m', rfl⟩ : ∃ m', m = m' + 1 := ⟨m - 1, by omega⟩
    obtain ⟨v, a1, a2, a3⟩ := bs_dist h hw
    have h9 : i 11 = 1 := by
      rcases h.2.2.2.2 with ⟨_, hk⟩ | ⟨h9, _⟩
      · have e := List.getElem?_eq_getElem hk
        have := Dst12 hk0 (h.2.1.pw _ (List.mem_of_getElem? e)) (h.2.1.lay k _ (Nat.le_refl _) hk e)
        omega
      · exact h9
    refine ⟨L, d, k, i, r, ?_, h, h5, h10, Or.inr (Or.inl h9)⟩
    rw [f_X7_find_24, if_neg (show ¬ (40 : Int32) ≤ nI a from nI_ge (b := 40) (by omega) (by omega)), h10, a1, bd_some]
    by_cases q : (0 : Int32) ≤ v
    · rw [if_pos q]
    · rw [if_neg q, h9, if_neg n10]
  | succ c ih =>
    intro a m L d k i r hd ha hm h h5 h10
    obtain ⟨m', rfl⟩ : ∃ m', m = m' + 1 := ⟨m - 1, by omega⟩
    obtain ⟨v, a1, a2, a3⟩ := bs_dist h hw
    have e : f_X7_find_24 u i1 r1 (m' + 1) i r i2 r2 (nI a) = if 0 ≤ v then (f_X7_find_69 u i1 r1 i r i2 r2) else (if (i 11) = 0 then (if 5040 < (i 8) then (f_X7_find_69 u i1 r1 i r i2 r2) else (bd (f_X7_growNear i r u) (fun q16 => f_X7_find_24 u i1 r1 m' q16.1 q16.2 i2 r2 (nI (a + 1))))) else (f_X7_find_69 u i1 r1 i r i2 r2)) := by
      rw [f_X7_find_24, if_neg (show ¬ (40 : Int32) ≤ nI a from nI_ge (b := 40) (by omega) (by omega)), h10, a1, bd_some, nI_1]
    have hl16 : L.length ≤ 16384 := h.1.2.2.2.2.1.elim (fun sl hs => hs.1)
    by_cases q : (0 : Int32) ≤ v
    · rw [if_pos q] at e
      exact ⟨L, d, k, i, r, e, h, h5, h10, Or.inl (a3.mp q)⟩
    · rw [if_neg q] at e
      rcases h.2.2.2.2 with ⟨h9, hk⟩ | ⟨h9, hk⟩
      · rw [if_pos h9, h.1.2.2.1] at e
        by_cases z : 5040 < L.length
        · rw [if_pos (show (5040 : Int32) < nI L.length from nI_lt (a := 5040) z (by omega))] at e
          exact ⟨L, d, k, i, r, e, h, h5, h10, Or.inr (Or.inr z)⟩
        · rw [if_neg (show ¬ (5040 : Int32) < nI L.length from nI_nlt (a := 5040) (by omega) (by omega))] at e
          obtain ⟨L', i', r', b1, b2, b3, b4, b5⟩ := grow_ok hk0 (gsK_len k0) h h9 (by omega)
          obtain ⟨L'', d'', k'', i'', r'', c1, c2⟩ := ih (a + 1) m' L' (d + 1) L.length i' r' (by omega) (by omega) (by omega) b2 (by rw [b3 7 (by omega)]; exact h5) (by rw [b3 12 (by omega)]; exact h10)
          refine ⟨L'', d'', k'', i'', r'', ?_, c2⟩
          rw [e, b1, bd_some]
          exact c1
      · rw [h9, if_neg n10] at e
        exact ⟨L, d, k, i, r, e, h, h5, h10, Or.inr (Or.inl h9)⟩
theorem find13_ok {k0 : Nat} (hk0 : k0 < 32) {u : Nat → Nat} {w : Nat} {i i1 i2 : Nat → Int32} {r r1 r2 : Nat → Nat → Int32} (h : BSx k0 i r u) (hw : TbW w) (hun : f_X7_undoing i1 r1 = some (nI w)) : ((∀ n, ¬ RcN (gsK k0) n w) → ∃ i' r', f_X7_find_13 u i1 r1 i r i2 r2 = some (0, i', r', i2, r2) ∧ BSx k0 i' r' u) ∧ (∀ n l, Dst (gsK k0) w n → PthR (gsK k0) n w l → ∃ i' r' i2' r2', f_X7_find_13 u i1 r1 i r i2 r2 = some (1, i', r', i2', r2') ∧ BSx k0 i' r' u ∧ FL 3 (l.map gF) i2' r2') := by
  obtain ⟨h5, L, d, k, h⟩ := h
  have h' : ByS (gsK k0) (upd i 12 (nI w)) r u L d k := (FRm.i10 0 i r (nI w)).bs h
  obtain ⟨L', d', k', i', r', a1, a2, a3, a4, a5⟩ := find24_ok hk0 (i1 := i1) (r1 := r1) (i2 := i2) (r2 := r2) hw 13 0 2000000 L d k (upd i 12 (nI w)) r (by omega) (by omega) (by omega) h' (by rw [pk_un (by omega)]; exact h5) pk_us
  have e : f_X7_find_13 u i1 r1 i r i2 r2 = f_X7_find_69 u i1 r1 i' r' i2 r2 := by
    rw [f_X7_find_13, hun, bd_some]
    exact a1
  rw [e]
  exact find69_ok hk0 a2 a3 hw a4 a5
