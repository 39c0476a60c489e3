/-! ===== look ===== -/
theorem cnt23 {mi : Nat → Int32} {mr : Nat → Nat → Int32} {ml : Nat → Nat → Int64} {x : Nat} (hx : x < 2 ^ 41) : ∀ (d c n : Nat), c + d = 41 → d < n → f_X13_look__23 mi ml n mr (lN x) (nI (cnt x c)) (nI c) = f_X13_look__52 mi ml 2000000 mr (lN x) (nI (cnt x 41)) (-1) 0 := by
  intro d
  induction d with
  | zero =>
    intro c n hk hn
    obtain ⟨m, rfl⟩ : ∃ m, n = m + 1 := ⟨n - 1, by omega⟩
    rw [f_X13_look__23, if_pos (show (40 : Int32) < nI c from nI_lt (a := 40) (by omega) (by omega)), show c = 41 by omega]
  | succ d ih =>
    intro c n hk hn
    obtain ⟨m, rfl⟩ : ∃ m, n = m + 1 := ⟨n - 1, by omega⟩
    have h1 : x / 2 ^ c < 2 ^ 64 := Nat.lt_of_le_of_lt (Nat.div_le_self _ _) (by omega)
    have hb : nI (cnt x c) + ((lN x >>> ((nI c).toInt64 &&& 63)) &&& 1).toInt32 = nI (cnt x (c + 1)) := by
      rw [pf_shr (amt64 c (by omega)) (by omega), wb_a1 h1, dm_bit]
      have hc : cnt x (c + 1) = cnt x c + (if x.testBit c then 1 else 0) := rfl
      rw [hc]
      cases x.testBit c
      · rw [show (lN (Bool.toNat false)).toInt32 = nI 0 by decide, nI_add]
        rfl
      · rw [show (lN (Bool.toNat true)).toInt32 = nI 1 by decide, nI_add]
        rfl
    rw [f_X13_look__23, if_neg (show ¬ (40 : Int32) < nI c from nI_nlt (b := c) (a := 40) (by omega) (by omega)), hb, nI_1]
    exact ih (c + 1) m (by omega) (by omega)
theorem best_go {L : Nat} {l : List FSt} {i mi : Nat → Int32} {u : Nat → Nat} {ml : Nat → Nat → Int64} {x : Nat} (hfi : fineF L l) (hu : u 9 = 10496) (h12 : i 12 = nI (2 ^ L)) (hx : x < 2 ^ 41) (hz : ∀ z, x.testBit z = true → z < l.length ∨ z = 40) : ∀ (d v n n2 : Nat) (best least : Int32) (r mr : Nat → Nat → Int32), v + d = 2 ^ L → d < n → d < n2 → MF L l mr 7 → OTS L l l.length (r 9) → (∀ z, z < 256 → r 8 z = 0) → ∃ a r' mr', f_X1_bestRow_19 i u n r (lN x) best least (nI v) = some (a, r') ∧ f_X13_look__52 mi ml n2 mr (lN x) least best (nI v) = some (a, mr') ∧ (∀ z, z < 256 → r' 8 z = 0) ∧ (∀ a, a ≠ 8 → r' a = r a) ∧ ∀ a, a ≠ 86 → mr' a = mr a := by
  have h256 := p2 hfi.2.1
  have i7 : inb 7 8 = true := inb_nI (n := 7) (N := 8) (by omega) (by omega)
  have s7 : (7 : Int32).toNatClampNeg = 7 := nI_clamp (n := 7) (by omega)
  have hL8 := hfi.2.1
  intro d
  induction d with
  | zero =>
    intro v n n2 best least r mr hk hn hn2 hM hO h8
    obtain ⟨m, rfl⟩ : ∃ m, n = m + 1 := ⟨n - 1, by omega⟩
    obtain ⟨m2, rfl⟩ : ∃ m, n2 = m + 1 := ⟨n2 - 1, by omega⟩
    refine ⟨best, r, mr, ?_, ?_, h8, fun a _ => rfl, fun a _ => rfl⟩
    · rw [f_X1_bestRow_19, h12, if_pos (nI_le (by omega) (by omega))]
    · rw [f_X13_look__52, ck_t i7, s7, hM.1, sh1 (by omega), if_pos (nI_le (by omega) (by omega))]
  | succ d ih =>
    intro v n n2 best least r mr hk hn hn2 hM hO h8
    obtain ⟨m, rfl⟩ : ∃ m, n = m + 1 := ⟨n - 1, by omega⟩
    obtain ⟨m2, rfl⟩ : ∃ m, n2 = m + 1 := ⟨n2 - 1, by omega⟩
    have hv : v < 2 ^ L := by omega
    obtain ⟨mr1, z1, z2, z3⟩ := zero_go (mi := mi) (ml := ml) (K := f_X13_look__52 mi ml m2) (x1 := lN x) (x3 := least) (x4 := best) (x5 := nI v) hL8 (2 ^ L) 0 2000000 mr hM (by omega) (by omega) (fun v hv => by omega)
    have z1' : f_X13_look__69 mi ml (f_X13_look__52 mi ml m2) 2000000 mr (lN x) least best (nI v) 0 = _ := z1
    have hM1 : MF L l mr1 7 := hM.congr (z3 10 (by omega)) (z3 11 (by omega)) (z3 12 (by omega)) (z3 13 (by omega)) (z3 14 (by omega))
    obtain ⟨g, r1, mr2, a1, a2, a3, a4, a5⟩ := heap_go (i := i) (mi := mi) (ml := ml) (K := f_X13_look__52 mi ml m2) (x3 := least) (x4 := best) hfi hu hx hz hv 41 0 2000000 2000000 0 r mr1 (by omega) (by omega) (by omega) hM1 hO (fun z hz => by rw [h8 z (by omega), z2 z hz]) (fun z hz => Or.inl (h8 z hz))
    have a1' : f_X1_greatestHeap_6 i u 2000000 r (lN x) (nI v) 0 0 = _ := a1
    have a2' : f_X13_look__103 mi ml (f_X13_look__52 mi ml m2) 2000000 mr1 (lN x) least best (nI v) 0 0 = _ := a2
    obtain ⟨r2, c1, c2, c3⟩ := clr_go (i := i) (u := u) (v := v) (g := g) (by omega) hu 41 0 2000000 r1 (by omega) (by omega) (fun z hz => by rw [a4 9 (by omega)]; exact hO.2.2 z hz) (fun z hz => by
      rcases a3 z hz with h | ⟨k, k1, k2⟩
      · exact Or.inl h
      · exact Or.inr ⟨k, by omega, k1, k2⟩)
    have c1' : f_X1_greatestHeap_73 i u 2000000 r1 (nI v) g 0 = _ := c1
    have hM2 : MF L l mr2 7 := hM1.congr (a5 10 (by omega)) (a5 11 (by omega)) (a5 12 (by omega)) (a5 13 (by omega)) (a5 14 (by omega))
    have hO2 : OTS L l l.length (r2 9) := by
      rw [c3 9 (by omega), a4 9 (by omega)]
      exact hO
    rw [f_X1_bestRow_19, h12, if_neg (nI_ge (by omega) (by omega)), f_X1_greatestHeap, a1', c1', bd_some, f_X13_look__52, ck_t i7, s7, hM.1, sh1 (by omega), if_neg (nI_ge (by omega) (by omega)), z1', a2', f_X1_bestRow_51, f_X1_bestRow_51, f_X13_look__184, f_X13_look__184, nI_1]
    by_cases e : least ≤ g
    · have e2 : ¬ g < least := by
        rw [lt32]
        rw [le32] at e
        omega
      rw [if_pos e, if_neg e2]
      obtain ⟨a, r', mr', b1, b2, b3, b4, b5⟩ := ih (v + 1) m m2 best least r2 mr2 (by omega) (by omega) (by omega) hM2 hO2 c2
      exact ⟨a, r', mr', b1, b2, b3, fun a ha => by rw [b4 a ha, c3 a ha, a4 a ha], fun a ha => by rw [b5 a ha, a5 a ha, z3 a ha]⟩
    · have e2 : g < least := by
        rw [lt32]
        rw [le32] at e
        omega
      rw [if_neg e, if_pos e2]
      obtain ⟨a, r', mr', b1, b2, b3, b4, b5⟩ := ih (v + 1) m m2 (nI v) g r2 mr2 (by omega) (by omega) (by omega) hM2 hO2 c2
      exact ⟨a, r', mr', b1, b2, b3, fun a ha => by rw [b4 a ha, c3 a ha, a4 a ha], fun a ha => by rw [b5 a ha, a5 a ha, z3 a ha]⟩
/-- look, where the count of a long's bits is right (bcL) -/
theorem look_of (hbc : ∀ x, x < 2 ^ 41 → f_J13_bitCount_95d88 (lN x) = some (nI (cnt x 41))) {i mi : Nat → Int32} {r mr : Nat → Nat → Int32} {u : Nat → Nat} {ml : Nat → Nat → Int64} (h : GW i r u mi mr) : ∃ q m, f_X11_look i r u = some q ∧ f_X13_look_ mi mr ml = some m ∧ q.1 = m.1 ∧ GW i q.2 u mi m.2 := by
  rcases id h with ⟨h1, ⟨g0, g2, g3, g4, g5⟩, ⟨m0, m1, m2, m3⟩, h8⟩ | ⟨L, l, ns, nr, tl, hG⟩
  · refine ⟨(-4, r), (-4, mr), ?_, ?_, rfl, h⟩
    · rw [f_X11_look, f_X1_watching, g0, ck_t (by decide), bd_some, if_pos rfl]
    · rw [f_X13_look_, if_pos m0]
  · obtain ⟨x, a1, a2, a3, a4⟩ := fits_ok (ml := ml) hG (kn := 999) (by omega)
    have a2' : f_X1_fitting i r u 999 = some (lN x) := a2
    have a3' : f_X13_fitOf mi mr ml 999 = some (lN x) := a3
    obtain ⟨h1, h2, h3, ⟨g0, g1, g2, g3, g4, g5⟩, ⟨m0, m1, m2, m3⟩, hb, h7, hS, hR⟩ := hG
    have h256 := p2 h1.2.1
    obtain ⟨a, r', mr', b1, b2, b3, b4, b5⟩ := best_go (mi := mi) (ml := ml) h1 h3 g2 a1 a4 (2 ^ L) 0 2000000 2000000 (-1) (nI (cnt x 41)) r mr (by omega) (by omega) (by omega) h2 h7.1 h7.2
    have b1' : f_X1_bestRow_19 i u 2000000 r (lN x) (-1) (nI (cnt x 41)) 0 = _ := b1
    have b2' : f_X13_look__52 mi ml 2000000 mr (lN x) (nI (cnt x 41)) (-1) 0 = _ := b2
    have c23 : f_X13_look__23 mi ml 2000000 mr (lN x) 0 0 = _ := cnt23 (mi := mi) (mr := mr) (ml := ml) a1 41 0 2000000 (by omega) (by omega)
    have A : f_X11_look i r u = some (a, r') := by
      rw [f_X11_look, f_X1_watching, g0, ck_t (by decide), bd_some, if_neg n10, f_X1_bestRow, a2', bd_some, hbc x a1, bd_some, b1', bd_some]
    have B : f_X13_look_ mi mr ml = some (a, mr') := by
      rw [f_X13_look_, m0, if_neg n10, a3', bd_some, c23, b2']
    refine ⟨_, _, A, B, rfl, Or.inr ⟨L, l, ns, nr, tl, h1, h2.congr (b5 10 (by omega)) (b5 11 (by omega)) (b5 12 (by omega)) (b5 13 (by omega)) (b5 14 (by omega)), h3, ⟨g0, g1, g2, g3, g4, g5⟩, ⟨m0, m1, m2, m3⟩, hb, ⟨?_, b3⟩, ?_, ?_⟩⟩
    · show OTS L l l.length (r' 9)
      rw [b4 9 (by omega)]
      exact h7.1
    · show ∀ k, k < ns → ∃ a b c, a ≤ 999 ∧ b < 2 ^ L ∧ c < 2 ^ L ∧ r' 0 k = nI a ∧ r' 1 k = nI b ∧ r' 2 k = nI c ∧ mr' 82 k = nI a ∧ mr' 80 k = nI b ∧ mr' 81 k = nI c
      rw [b4 0 (by omega), b4 1 (by omega), b4 2 (by omega), b5 80 (by omega), b5 81 (by omega), b5 82 (by omega)]
      exact hS
    · show ∀ k, k < nr → ∃ a b c, a ≤ 999 ∧ b < ns ∧ c < 2 ^ L ∧ r' 3 k = nI a ∧ r' 4 k = nI b ∧ r' 5 k = nI c ∧ mr' 85 k = nI a ∧ mr' 83 k = nI b ∧ mr' 84 k = nI c
      rw [b4 3 (by omega), b4 4 (by omega), b4 5 (by omega), b5 83 (by omega), b5 84 (by omega), b5 85 (by omega)]
      exact hR
