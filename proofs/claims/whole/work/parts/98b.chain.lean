/-! ===== chain ===== -/
/-- floors but the made one and J are as they were -/
def KM (J : Nat) (mr mr' : Nat → Nat → Int32) : Prop := ∀ j, j < 8 → j ≠ 6 → j ≠ J → ∀ L l, l.length ≤ 40 → MF L l mr j → MF L l mr' j
theorem KM.of6 {J : Nat} {mr mr' : Nat → Nat → Int32} (h : KP 6 mr mr') : KM J mr mr' := fun _ hj h6 _ _ _ hl hM => h.mf hj h6 hl hM
theorem KM.ofJ {J : Nat} {mr mr' : Nat → Nat → Int32} (h : KP J mr mr') : KM J mr mr' := fun _ hj _ hJ _ _ hl hM => h.mf hj hJ hl hM
theorem KM.tr {J : Nat} {a b c : Nat → Nat → Int32} (h1 : KM J a b) (h2 : KM J b c) : KM J a c := fun j hj h6 hJ L l hl hM => h2 j hj h6 hJ L l hl (h1 j hj h6 hJ L l hl hM)
theorem GF.put {P : Nat → Nat → Int32} {S : Nat → Nat → Nat → Int32} {mr mr' : Nat → Nat → Int32} (h : GF P S mr) {to L : Nat} {l : List FSt} {p : Nat → Int32} {s : Nat → Nat → Int32} (hto : to < 6) (hK : KM to mr mr') (hf : fineF L l) (hF : FL L l p s) (hM : MF L l mr' to) : GF (va_up P to p) (va_up S to s) mr' := by
  intro j hj
  by_cases e : j = to
  · subst e
    rw [up_s, up_s]
    exact ⟨L, l, hf, hF, hM⟩
  · rw [up_n e, up_n e]
    obtain ⟨L2, l2, h1, h2, h3⟩ := h j hj
    exact ⟨L2, l2, h1, h2, hK j (by omega) (by omega) e L2 l2 h1.2.2.1 h3⟩
theorem wf_mono {L L2 : Nat} (h : L ≤ L2) {t : FSt} (ht : wfS L t) : wfS L2 t := by
  obtain ⟨h1, h2, h3, h4⟩ := ht
  exact ⟨by omega, Nat.lt_of_lt_of_le h2 (Nat.pow_le_pow_right (by omega) h), h3, fun b hb => ⟨by have := (h4 b hb).1; omega, (h4 b hb).2⟩⟩
theorem set10 {L L2 : Nat} {l : List FSt} {mr : Nat → Nat → Int32} (h : MF L l mr 6) : MF L2 l (va_up mr 10 (upd (mr 10) 6 (nI L2))) 6 ∧ KP 6 mr (va_up mr 10 (upd (mr 10) 6 (nI L2))) := by
  refine ⟨⟨by rw [up_s, pk_us], by rw [up_n (by omega)]; exact h.2.1, fun k t hk => by rw [up_n (by omega), up_n (by omega), up_n (by omega)]; exact h.2.2 k t hk⟩, fun j hj hJ => ⟨by rw [up_s, pk_un hJ], by rw [up_n (by omega)], fun k hk => ⟨by rw [up_n (by omega)], by rw [up_n (by omega)], by rw [up_n (by omega)]⟩⟩⟩
theorem mchain_go {L L2 g to : Nat} {l2 : List FSt} {mi : Nat → Int32} {ml : Nat → Nat → Int64} (hg : g < 6) (hto : to < 6) (h40 : l2.length ≤ 40) : ∀ (d k n : Nat) (l : List FSt) (mr : Nat → Nat → Int32), MF L l mr 6 → MF L2 l2 mr g → l.length + d ≤ 40 → k + d = l2.length → d < n → ∃ mr', f_X13_chain_77 mi ml n mr (nI g) (nI to) (nI k) = some (nI (l ++ l2.drop k).length, mr') ∧ MF L (l ++ l2.drop k) mr' to ∧ KM to mr mr' := by
  have ig := inb_nI (N := 8) (n := g) (by omega) (by omega)
  have it := inb_nI (N := 8) (n := to) (by omega) (by omega)
  intro d
  induction d with
  | zero =>
    intro k n l mr hM hG hl hk hn
    obtain ⟨m, rfl⟩ : ∃ m, n = m + 1 := ⟨n - 1, by omega⟩
    obtain ⟨mr', a1, a2, a3⟩ := mcopy_ok (mi := mi) (ml := ml) (show 6 < 8 by omega) (show to < 8 by omega) (by omega) (by omega) hM
    rw [List.drop_eq_nil_of_le (by omega), List.append_nil]
    refine ⟨mr', ?_, a2, KM.ofJ a3⟩
    rw [f_X13_chain_77, ck_t ig, nI_clamp (by omega), hG.2.1, if_pos (nI_le (by omega) (by omega)), show (6 : Int32) = nI 6 from rfl, a1, bd_some, ck_t it, nI_clamp (by omega), a2.2.1]
  | succ d ih =>
    intro k n l mr hM hG hl hk hn
    obtain ⟨m, rfl⟩ : ∃ m, n = m + 1 := ⟨n - 1, by omega⟩
    obtain ⟨t, ht, hd⟩ := drop_c (l := l2) (k := k) (by omega)
    obtain ⟨c1, c2, c3⟩ := hG.2.2 k t ht
    have ic := inb_nI (N := 320) (n := 40 * g + k) (by omega) (by omega)
    obtain ⟨mr1, a1, a2, a3⟩ := madd_ok (mi := mi) (ml := ml) hM (by omega) t
    obtain ⟨mr', b1, b2, b3⟩ := ih (k + 1) m (l ++ [t]) mr1 a2 (a3.mf (by omega) (by omega) h40 hG) (by rw [List.length_append]; show l.length + 1 + d ≤ 40; omega) (by omega) (by omega)
    rw [hd]
    rw [List.append_assoc] at b1 b2
    refine ⟨mr', ?_, b2, (KM.of6 a3).tr b3⟩
    rw [f_X13_chain_77, ck_t ig, nI_clamp (n := g) (by omega), hG.2.1, if_neg (nI_ge (by omega) (by omega)), mul40, ck_t ic, ck_t ic, ck_t ic, nI_clamp (by omega), c1, c2, c3, a1, bd_some, nI_1]
    exact b1
theorem max_n {a b : Nat} (ha : a ≤ 8) (hb : b ≤ 8) : (if nI a < nI b then nI b else nI a) = nI (max a b) := by
  by_cases h : a < b
  · rw [if_pos (nI_lt h (by omega)), Nat.max_eq_right (by omega)]
  · rw [if_neg (nI_nlt (by omega) (by omega)), Nat.max_eq_left (by omega)]
theorem chain_ok {P : Nat → Nat → Int32} {S : Nat → Nat → Nat → Int32} {i mi : Nat → Int32} {r mr : Nat → Nat → Int32} {ml : Nat → Nat → Int64} (h : GF P S mr) (x1 x2 x3 : Int32) : ∃ q m, f_X11_chain i r P S x1 x2 x3 = some q ∧ f_X13_chain mi mr ml x1 x2 x3 = some m ∧ q.1 = m.1 ∧ GF q.2.2.2.1 q.2.2.2.2 m.2 ∧ ∃ J, J < 6 ∧ KM J mr m.2 := by
  have refused : ∀ (a : Int32), f_X11_chain i r P S x1 x2 x3 = some (a, i, r, P, S) → f_X13_chain mi mr ml x1 x2 x3 = some (a, mr) → ∃ q m, f_X11_chain i r P S x1 x2 x3 = some q ∧ f_X13_chain mi mr ml x1 x2 x3 = some m ∧ q.1 = m.1 ∧ GF q.2.2.2.1 q.2.2.2.2 m.2 ∧ ∃ J, J < 6 ∧ KM J mr m.2 := fun a A B => ⟨_, _, A, B, rfl, h, 0, by omega, fun _ _ _ _ _ _ _ hM => hM⟩
  rcases fl_cases x1 with ⟨f, hf, hx, ha, hb⟩ | ⟨ha, hb⟩
  · rcases fl_cases x2 with ⟨g, hg, hy, hc, hd⟩ | ⟨hc, hd⟩
    · rcases fl_cases x3 with ⟨to, hto, hz, he, hf9⟩ | ⟨he, hf9⟩
      · obtain ⟨L, l, hfi, hF, hM⟩ := h f hf
        obtain ⟨L2, l2, hfi2, hF2, hM2⟩ := h g hg
        have hL8 := hfi.2.1
        have hL28 := hfi2.2.1
        have h40 := hfi.2.2.1
        have h402 := hfi2.2.2.1
        have f6 := inb_nI (N := 6) hf (by omega)
        have g6 := inb_nI (N := 6) hg (by omega)
        have f8 := inb_nI (N := 8) (n := f) (by omega) (by omega)
        have g8 := inb_nI (N := 8) (n := g) (by omega) (by omega)
        have i6 : inb 6 8 = true := inb_nI (n := 6) (N := 8) (by omega) (by omega)
        have cf : (nI f).toNatClampNeg = f := nI_clamp (by omega)
        have cg : (nI g).toNatClampNeg = g := nI_clamp (by omega)
        have eA : f_X11_chain i r P S x1 x2 x3 = (if nI (l.length + l2.length) ≤ 40 then (ck (inb (nI f) 6) (ck (inb (nI g) 6) (if f = g then (bd (f_X2_layChained_S i r (P f) (S f)) (fun q22 => bd (f_X11_settle q22.1 q22.2 P S (nI to)) (fun q24 => some (q24.1, q22.1, q22.2, q24.2.1, q24.2.2)))) else (bd (f_X2_layChained i r (P f) (S f) (P g) (S g)) (fun q23 => bd (f_X11_settle q23.1 q23.2 P S (nI to)) (fun q25 => some (q25.1, q23.1, q23.2, q25.2.1, q25.2.2))))))) else some (-3, i, r, P, S)) := by
          rw [f_X11_chain, ha, bd_some, if_pos rfl, hc, bd_some, if_pos rfl, he, bd_some, if_pos rfl, hx, hy, hz, ck_t f6, cf, f_X2_steps, bd_some, ck_t g6, cg, f_X2_steps, bd_some, hF.2.1, hF2.2.1, nI_add, ck_t f6, ck_t g6]
        have eB : f_X13_chain mi mr ml x1 x2 x3 = (if nI (l.length + l2.length) ≤ 40 then (bd (f_X13_copyFloor mi mr ml (nI f) 6) (fun q12 => f_X13_chain_77 mi ml 2000000 (va_up q12 10 (upd (q12 10) 6 (if (q12 10 f) < (q12 10 g) then (q12 10 g) else (q12 10 f)))) (nI g) (nI to) 0)) else some (-3, mr)) := by
          rw [f_X13_chain, hb, bd_some, if_neg n10, hd, bd_some, if_neg n10, hf9, bd_some, if_neg n10, hx, hy, hz, ck_t f8, ck_t g8, cf, cg, hM.2.1, hM2.2.1, nI_add]
          simp only [ck_t f8, ck_t g8, ck_t i6, six]
        by_cases hs : l.length + l2.length ≤ 40
        · rw [if_pos (show nI (l.length + l2.length) ≤ (40 : Int32) from nI_le (b := 40) hs (by omega))] at eA eB
          obtain ⟨i2, a1, a2⟩ := clear_ok (i := i) (r := r) (x := if (P f) 4 < (P g) 4 then (P g) 4 else (P f) 4) (L := max L L2) (by rw [hF.1, hF2.1]; exact max_n hL8 hL28)
          obtain ⟨i3, r3, a3, a4⟩ := addAll_ok a2 hF (by show 0 + l.length ≤ 40; omega)
          obtain ⟨i4, r4, a5, a6⟩ := addAll_ok a4 hF2 (by show l.length + l2.length ≤ 40; exact hs)
          have a6 : FL (max L L2) (l ++ l2) i4 r4 := a6
          have hll : (l ++ l2).length ≤ 40 := by rw [List.length_append]; exact hs
          obtain ⟨p, s, b1, b2⟩ := settle_ok (P := P) (S := S) hto a6 hll
          obtain ⟨mr1, c1, c2, c3⟩ := mcopy_ok (mi := mi) (ml := ml) (show f < 8 by omega) (show 6 < 8 by omega) (by omega) h40 hM
          have hMf : MF L l mr1 f := c3.mf (by omega) (by omega) h40 hM
          have hMg : MF L2 l2 mr1 g := c3.mf (by omega) (by omega) h402 hM2
          obtain ⟨d1, d2⟩ := set10 (L2 := max L L2) c2
          obtain ⟨mr', k1, k2, k3⟩ := mchain_go (mi := mi) (ml := ml) hg hto h402 l2.length 0 2000000 l _ d1 (d2.mf (by omega) (by omega) h402 hMg) hs (by omega) (by omega)
          have k1' : f_X13_chain_77 mi ml 2000000 (va_up mr1 10 (upd (mr1 10) 6 (nI (max L L2)))) (nI g) (nI to) 0 = some (nI (l ++ l2).length, mr') := k1
          have c1' : f_X13_copyFloor mi mr ml (nI f) 6 = some mr1 := c1
          have hfin : fineF (max L L2) (l ++ l2) := ⟨by have := hfi.1; omega, by omega, hll, fun t ht => by
            rcases List.mem_append.mp ht with ht | ht
            · exact wf_mono (by omega) (hfi.2.2.2 t ht)
            · exact wf_mono (by omega) (hfi2.2.2.2 t ht)⟩
          have B : f_X13_chain mi mr ml x1 x2 x3 = some (nI (l ++ l2).length, mr') := by
            rw [eB, c1', bd_some, hMf.1, hMg.1, max_n hL8 hL28, k1']
          have A : f_X11_chain i r P S x1 x2 x3 = some (nI (l ++ l2).length, i4, r4, va_up P to p, va_up S to s) := by
            rw [eA, ck_t f6, ck_t g6]
            by_cases efg : f = g
            · subst efg
              rw [if_pos rfl, f_X2_layChained_S, a1, bd_some, a3, bd_some]
              show bd (bd (f_X2_addAll i3 r3 (P f) (S f)) _) _ = _
              rw [a5, bd_some, bd_some]
              show bd (f_X11_settle i4 r4 P S (nI to)) _ = _
              rw [b1]
              rfl
            · rw [if_neg efg, f_X2_layChained, a1, bd_some, a3, bd_some]
              show bd (bd (f_X2_addAll i3 r3 (P g) (S g)) _) _ = _
              rw [a5, bd_some, bd_some]
              show bd (f_X11_settle i4 r4 P S (nI to)) _ = _
              rw [b1]
              rfl
          have hKM : KM to mr mr' := ((KM.of6 c3).tr (KM.of6 d2)).tr k3
          exact ⟨_, _, A, B, rfl, h.put hto hKM hfin b2 k2, to, hto, hKM⟩
        · rw [if_neg (show ¬ nI (l.length + l2.length) ≤ (40 : Int32) from nI_ge (a := 40) (by omega) (by omega))] at eA eB
          exact refused _ eA eB
      · exact refused (-2) (by rw [f_X11_chain, ha, bd_some, if_pos rfl, hc, bd_some, if_pos rfl, he, bd_some, if_neg n10]) (by rw [f_X13_chain, hb, bd_some, if_neg n10, hd, bd_some, if_neg n10, hf9, bd_some, if_pos rfl])
    · exact refused (-2) (by rw [f_X11_chain, ha, bd_some, if_pos rfl, hc, bd_some, if_neg n10]) (by rw [f_X13_chain, hb, bd_some, if_neg n10, hd, bd_some, if_pos rfl])
  · exact refused (-2) (by rw [f_X11_chain, ha, bd_some, if_neg n10]) (by rw [f_X13_chain, hb, bd_some, if_pos rfl])
