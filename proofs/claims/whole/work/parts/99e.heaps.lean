/-! ===== look: the heaps ===== -/
theorem clr_go {i : Nat → Int32} {u : Nat → Nat} {v : Nat} {g : Int32} (hv : v < 256) (hu : u 9 = 10496) : ∀ (d c n : Nat) (r : Nat → Nat → Int32), c + d = 41 → d < n → (∀ z, z < 10496 → ∃ w, w < 256 ∧ r 9 z = nI w) → (∀ z, z < 256 → r 8 z = 0 ∨ ∃ k, c ≤ k ∧ k < 41 ∧ r 9 (k * 256 + v) = nI z) → ∃ r', f_X1_greatestHeap_73 i u n r (nI v) g (nI c) = some (g, r') ∧ (∀ z, z < 256 → r' 8 z = 0) ∧ ∀ a, a ≠ 8 → r' a = r a := by
  intro d
  induction d with
  | zero =>
    intro c n r hk hn h9 h8
    obtain ⟨m, rfl⟩ : ∃ m, n = m + 1 := ⟨n - 1, by omega⟩
    refine ⟨r, ?_, fun z hz => ?_, fun a _ => rfl⟩
    · rw [f_X1_greatestHeap_73, if_pos (show (41 : Int32) ≤ nI c from nI_le (a := 41) (by omega) (by omega))]
    · rcases h8 z hz with h | ⟨k, k1, k2, _⟩
      · exact h
      · omega
  | succ d ih =>
    intro c n r hk hn h9 h8
    obtain ⟨m, rfl⟩ : ∃ m, n = m + 1 := ⟨n - 1, by omega⟩
    have j1 := inb_nI (N := 10496) (n := c * 256 + v) (by omega) (by omega)
    obtain ⟨w, w1, w2⟩ := h9 (c * 256 + v) (by omega)
    have j2 := inb_nI (N := 256) (n := w) w1 (by omega)
    obtain ⟨r', a1, a2, a3⟩ := ih (c + 1) m (va_up r 8 (upd (r 8) w 0)) (by omega) (by omega) (fun z hz => by rw [up_n (by omega)]; exact h9 z hz) (fun z hz => by
      rw [up_s, up_n (show (9 : Nat) ≠ 8 by omega)]
      by_cases e : z = w
      · subst e
        exact Or.inl pk_us
      · rw [pk_un e]
        rcases h8 z hz with h | ⟨k, k1, k2, k3⟩
        · exact Or.inl h
        · by_cases ek : k = c
          · subst ek
            exact absurd (nI_inj (by omega) (by omega) (k3.symm.trans w2)) e
          · exact Or.inr ⟨k, by omega, k2, k3⟩)
    refine ⟨r', ?_, a2, fun a ha => by rw [a3 a ha, up_n ha]⟩
    rw [f_X1_greatestHeap_73, if_neg (show ¬ (41 : Int32) ≤ nI c from nI_ge (b := 41) (by omega) (by omega)), mul256, hu, ck_t j1, nI_clamp (n := c * 256 + v) (by omega), w2, ck_t j2, nI_clamp (n := w) (by omega), nI_1]
    exact a1
theorem zero_go {L : Nat} {l : List FSt} {mi : Nat → Int32} {ml : Nat → Nat → Int64} {K : (Nat → Nat → Int32) → Int64 → Int32 → Int32 → Int32 → Option (Int32 × (Nat → Nat → Int32))} {x1 : Int64} {x3 x4 x5 : Int32} (hL : L ≤ 8) : ∀ (d k n : Nat) (mr : Nat → Nat → Int32), MF L l mr 7 → k + d = 2 ^ L → d < n → (∀ v, v < k → mr 86 v = 0) → ∃ mr', f_X13_look__69 mi ml K n mr x1 x3 x4 x5 (nI k) = f_X13_look__103 mi ml K 2000000 mr' x1 x3 x4 x5 0 0 ∧ (∀ v, v < 2 ^ L → mr' 86 v = 0) ∧ ∀ a, a ≠ 86 → mr' a = mr a := by
  have h256 := p2 hL
  have i7 : inb 7 8 = true := inb_nI (n := 7) (N := 8) (by omega) (by omega)
  have s7 : (7 : Int32).toNatClampNeg = 7 := nI_clamp (n := 7) (by omega)
  intro d
  induction d with
  | zero =>
    intro k n mr hM hk hn h
    obtain ⟨m, rfl⟩ : ∃ m, n = m + 1 := ⟨n - 1, by omega⟩
    refine ⟨mr, ?_, fun v hv => h v (by omega), fun a _ => rfl⟩
    rw [f_X13_look__69, ck_t i7, s7, hM.1, sh1 (by omega), if_pos (nI_le (by omega) (by omega))]
  | succ d ih =>
    intro k n mr hM hk hn h
    obtain ⟨m, rfl⟩ : ∃ m, n = m + 1 := ⟨n - 1, by omega⟩
    have ik := inb_nI (N := 256) (n := k) (by omega) (by omega)
    obtain ⟨mr', a1, a2, a3⟩ := ih (k + 1) m (va_up mr 86 (upd (mr 86) k 0)) (hM.congr (up_n (by omega)) (up_n (by omega)) (up_n (by omega)) (up_n (by omega)) (up_n (by omega))) (by omega) (by omega) (fun v hv => by
      rw [up_s]
      by_cases e : v = k
      · subst e
        exact pk_us
      · rw [pk_un e]
        exact h v (by omega))
    refine ⟨mr', ?_, a2, fun a ha => by rw [a3 a ha, up_n ha]⟩
    rw [f_X13_look__69, ck_t i7, s7, hM.1, sh1 (by omega), if_neg (nI_ge (by omega) (by omega)), ck_t ik, nI_clamp (by omega), nI_1]
    exact a1
theorem heap_go {L : Nat} {l : List FSt} {i mi : Nat → Int32} {u : Nat → Nat} {ml : Nat → Nat → Int64} {K : (Nat → Nat → Int32) → Int64 → Int32 → Int32 → Int32 → Option (Int32 × (Nat → Nat → Int32))} {x v : Nat} {x3 x4 : Int32} (hfi : fineF L l) (hu : u 9 = 10496) (hx : x < 2 ^ 41) (hz : ∀ z, x.testBit z = true → z < l.length ∨ z = 40) (hv : v < 2 ^ L) : ∀ (d c n n2 : Nat) (g : Int32) (r mr : Nat → Nat → Int32), c + d = 41 → d < n → d < n2 → MF L l mr 7 → OTS L l l.length (r 9) → (∀ v, v < 2 ^ L → r 8 v = mr 86 v) → (∀ z, z < 256 → r 8 z = 0 ∨ ∃ k, k < 41 ∧ r 9 (k * 256 + v) = nI z) → ∃ g' r' mr', f_X1_greatestHeap_6 i u n r (lN x) (nI v) g (nI c) = f_X1_greatestHeap_73 i u 2000000 r' (nI v) g' 0 ∧ f_X13_look__103 mi ml K n2 mr (lN x) x3 x4 (nI v) g (nI c) = (if g' < x3 then f_X13_look__184 mi ml K mr' (lN x) g' (nI v) (nI v) else f_X13_look__184 mi ml K mr' (lN x) x3 x4 (nI v)) ∧ (∀ z, z < 256 → r' 8 z = 0 ∨ ∃ k, k < 41 ∧ r' 9 (k * 256 + v) = nI z) ∧ (∀ a, a ≠ 8 → r' a = r a) ∧ ∀ a, a ≠ 86 → mr' a = mr a := by
  have h256 := p2 hfi.2.1
  have h40 := hfi.2.2.1
  intro d
  induction d with
  | zero =>
    intro c n n2 g r mr hk hn hn2 hM hO h8 h8b
    obtain ⟨m, rfl⟩ : ∃ m, n = m + 1 := ⟨n - 1, by omega⟩
    obtain ⟨m2, rfl⟩ : ∃ m, n2 = m + 1 := ⟨n2 - 1, by omega⟩
    refine ⟨g, r, mr, ?_, ?_, h8b, fun a _ => rfl, fun a _ => rfl⟩
    · rw [f_X1_greatestHeap_6, if_pos (show (41 : Int32) ≤ nI c from nI_le (a := 41) (by omega) (by omega))]
    · rw [f_X13_look__103, if_pos (show (40 : Int32) < nI c from nI_lt (a := 40) (by omega) (by omega))]
  | succ d ih =>
    intro c n n2 g r mr hk hn hn2 hM hO h8 h8b
    obtain ⟨m, rfl⟩ : ∃ m, n = m + 1 := ⟨n - 1, by omega⟩
    obtain ⟨m2, rfl⟩ : ∃ m, n2 = m + 1 := ⟨n2 - 1, by omega⟩
    rw [f_X1_greatestHeap_6, if_neg (show ¬ (41 : Int32) ≤ nI c from nI_ge (b := 41) (by omega) (by omega)), f_X13_look__103, if_neg (show ¬ (40 : Int32) < nI c from nI_nlt (b := c) (a := 40) (by omega) (by omega))]
    by_cases e : x.testBit c = false
    · have e2 := (bitL (n := x) (c := c) (by omega) (by omega)).mpr e
      rw [if_pos e2, if_pos e2, f_X1_greatestHeap_64, f_X13_look__162, nI_1]
      exact ih (c + 1) m m2 g r mr (by omega) (by omega) (by omega) hM hO h8 h8b
    · have e2 : ¬ _ := fun q => e ((bitL (n := x) (c := c) (by omega) (by omega)).mp q)
      have e' : x.testBit c = true := by
        cases h9 : x.testBit c
        · exact absurd h9 e
        · rfl
      have j1 := inb_nI (N := 10496) (n := c * 256 + v) (by omega) (by omega)
      have hval : r 9 (c * 256 + v) = nI (runB l c v) := by
        rcases hz c e' with h | h
        · exact hO.2.1 c h v hv
        · rw [h, runB_40 h40]
          exact hO.1 v hv
      have hB := runB_lt (c := c) hfi.2.2.2 hv
      have hb : f_X13_outBut mi mr ml 7 (nI v) 0 (nI c) = some (nI (runB l c v)) := but_ok (j := 7) (by omega) hfi hM (by omega) hv
      have j2 := inb_nI (N := 256) (n := runB l c v) (by omega) (by omega)
      have cw : (nI (runB l c v)).toNatClampNeg = runB l c v := nI_clamp (by omega)
      have e8 := h8 _ hB
      rw [if_neg e2, if_neg e2, mul256, hu, ck_t j1, nI_clamp (n := c * 256 + v) (by omega), hval, ck_t j2, ck_t j2, cw, hb, bd_some, ck_t j2, ck_t j2, cw, f_X1_greatestHeap_50, ck_t j2, cw, f_X13_look__148, ck_t j2, cw, f_X1_greatestHeap_64, f_X13_look__162, nI_1, up_s, up_s, pk_us, pk_us, e8]
      obtain ⟨g', r', mr', a1, a2, a3, a4, a5⟩ := ih (c + 1) m m2 (if g < mr 86 (runB l c v) + 1 then mr 86 (runB l c v) + 1 else g) (va_up r 8 (upd (r 8) (runB l c v) (mr 86 (runB l c v) + 1))) (va_up mr 86 (upd (mr 86) (runB l c v) (mr 86 (runB l c v) + 1))) (by omega) (by omega) (by omega) (hM.congr (up_n (by omega)) (up_n (by omega)) (up_n (by omega)) (up_n (by omega)) (up_n (by omega))) (by rw [up_n (by omega)]; exact hO) (fun z hz => by
        rw [up_s, up_s]
        by_cases ez : z = runB l c v
        · rw [ez, pk_us, pk_us]
        · rw [pk_un ez, pk_un ez]
          exact h8 z hz) (fun z hz => by
        rw [up_s, up_n (show (9 : Nat) ≠ 8 by omega)]
        by_cases ez : z = runB l c v
        · exact Or.inr ⟨c, by omega, by rw [hval, ez]⟩
        · rw [pk_un ez]
          exact h8b z hz)
      exact ⟨g', r', mr', a1, a2, a3, fun a ha => by rw [a4 a ha, up_n ha], fun a ha => by rw [a5 a ha, up_n ha]⟩
