/-- what a row's mending comes to: both go on alike, or both have laid too many -/
def OUT (f to L : Nat) (l : List FSt) (v : Nat) (K : (Nat → Int32) → (Nat → Nat → Int32) → Int32 → Int32 → Int32 → Int32 → Option (Int32 × (Nat → Int32) × (Nat → Nat → Int32))) (mr : Nat → Nat → Int32) (cls : Option ((Nat → Int32) × (Nat → Nat → Int32))) (ref : Option (Int32 × (Nat → Int32) × (Nat → Nat → Int32))) : Prop :=
  (∃ T ls i' r' mi' mr', cls = some (i', r') ∧ ref = K mi' mr' (nI f) (nI to) (nI (2 ^ L)) (nI (v + 1)) ∧ LR f L l T ls i' r' mi' mr' ∧ KP 6 mr mr') ∨ (∃ i' r' c mi' mr', cls = some (i', r') ∧ i' 3 = nI c ∧ 41 ≤ c ∧ c ≤ 100 ∧ ref = some (-3, mi', mr') ∧ KP 6 mr mr')
theorem OUT.tr {f to L v : Nat} {l : List FSt} {K : (Nat → Int32) → (Nat → Nat → Int32) → Int32 → Int32 → Int32 → Int32 → Option (Int32 × (Nat → Int32) × (Nat → Nat → Int32))} {mr0 mr : Nat → Nat → Int32} {cls : Option ((Nat → Int32) × (Nat → Nat → Int32))} {ref : Option (Int32 × (Nat → Int32) × (Nat → Nat → Int32))} (h0 : KP 6 mr0 mr) (h : OUT f to L l v K mr cls ref) : OUT f to L l v K mr0 cls ref := by
  rcases h with ⟨T, ls, i', r', mi', mr', a1, a2, a3, a4⟩ | ⟨i', r', c, mi', mr', a1, a2, a3, a4, a5, a6⟩
  · exact Or.inl ⟨T, ls, i', r', mi', mr', a1, a2, a3, h0.tr a4⟩
  · exact Or.inr ⟨i', r', c, mi', mr', a1, a2, a3, a4, a5, h0.tr a6⟩
theorem mend2 {f to L v : Nat} {l : List FSt} {K : (Nat → Int32) → (Nat → Nat → Int32) → Int32 → Int32 → Int32 → Int32 → Option (Int32 × (Nat → Int32) × (Nat → Nat → Int32))} {ml : Nat → Nat → Int64} (hL : L ≤ 8) (hf : f < 6) (hl : l.length ≤ 40) (hv : v < 2 ^ L) : ∀ (d k n n2 : Nat) (T : Nat → Nat) (ls : List FSt) (i : Nat → Int32) (r : Nat → Nat → Int32) (mi : Nat → Int32) (mr : Nat → Nat → Int32), LR f L l T ls i r mi mr → k + d = L → d < n → d < n2 → OUT f to L l v K mr (f_X8_mendRow_49 n i r (nI v) (nI L) (nI (2 ^ L)) (nI k)) (f_X13_lay_114 ml K n2 mi mr (nI f) (nI to) (nI (2 ^ L)) (nI v) (nI k)) := by
  have h256 := p2 hL
  have iv := inb_nI (N := 256) (n := v) (by omega) (by omega)
  have if8 := inb_nI (N := 8) (n := f) (by omega) (by omega)
  intro d
  induction d with
  | zero =>
    intro k n n2 T ls i r mi mr h hk hn hn2
    obtain ⟨m, rfl⟩ : ∃ m, n = m + 1 := ⟨n - 1, by omega⟩
    obtain ⟨m2, rfl⟩ : ∃ m, n2 = m + 1 := ⟨n2 - 1, by omega⟩
    refine Or.inl ⟨T, ls, i, r, mi, mr, ?_, ?_, h, KP.rf⟩
    · rw [f_X8_mendRow_49, if_pos (nI_le (by omega) (by omega))]
    · rw [f_X13_lay_114, ck_t if8, nI_clamp (by omega), h.1.1, if_pos (nI_le (by omega) (by omega)), nI_1]
  | succ d ih =>
    intro k n n2 T ls i r mi mr h hk hn hn2
    obtain ⟨m, rfl⟩ : ∃ m, n = m + 1 := ⟨n - 1, by omega⟩
    obtain ⟨m2, rfl⟩ : ∃ m, n2 = m + 1 := ⟨n2 - 1, by omega⟩
    obtain ⟨hT, hr, hm⟩ := h.2.2.2.1 v hv
    have go := ih (k + 1) m m2 T ls i r mi mr h (by omega) (by omega) (by omega)
    rw [f_X8_mendRow_49, if_neg (nI_ge (by omega) (by omega)), ck_t iv, nI_clamp (n := v) (by omega), hr, f_X13_lay_114, ck_t if8, nI_clamp (n := f) (by omega), h.1.1, if_neg (nI_ge (by omega) (by omega)), bit_ok v k (by omega) (by omega), bd_some, dm_bit, ck_t iv, ck_t iv, ck_t iv, nI_clamp (n := v) (by omega), hm, bit_ok (T v) k (by omega) (by omega), bd_some, dm_bit]
    by_cases e : ((T v).testBit k && !v.testBit k) = false
    · rw [if_pos ((onlyL (by omega)).mpr e), f_X8_mendRow_93, f_X13_lay_178, nI_1]
      cases e1 : v.testBit k
      · rw [if_pos (show nI (Bool.toNat false) = 0 by decide)]
        cases e2 : (T v).testBit k
        · rw [if_neg (show ¬ nI (Bool.toNat false) = 1 by decide)]
          exact go
        · rw [e1, e2] at e
          cases e
      · rw [if_neg (show ¬ nI (Bool.toNat true) = 0 by decide)]
        exact go
    · obtain ⟨e1, e2⟩ : v.testBit k = false ∧ (T v).testBit k = true := by
        cases e1 : v.testBit k <;> cases e2 : (T v).testBit k <;> rw [e1, e2] at e <;> simp at e ⊢
      rw [if_neg (fun q => e ((onlyL (by omega)).mp q)), e1, e2, if_pos (show nI (Bool.toNat false) = 0 by decide), if_pos (show nI (Bool.toNat true) = 1 by decide), hld_I (by omega)]
      rcases turn_ok (ml := ml) hL hf hl h (hld_wf (a := k) hL (by omega) hT) with ⟨i2, r2, mi2, mr2, a1, a2, a3, a4⟩ | ⟨i2, r2, a1, a2, a3⟩
      · rw [a1, bd_some, a2, bd_some, if_neg n10, f_X8_mendRow_93, f_X13_lay_178, nI_1]
        exact OUT.tr a4 (ih (k + 1) m m2 _ _ i2 r2 mi2 mr2 a3 (by omega) (by omega) (by omega))
      · rw [a1, bd_some, a3, bd_some, if_pos rfl, f_X8_mendRow_93, nI_1]
        obtain ⟨i', r', c', b1, b2, b3, b4⟩ := over_49 hL h256 (show v < 256 by omega) d (k + 1) m 41 i2 r2 a2 (by omega) (by omega) (by omega) (by omega)
        exact Or.inr ⟨i', r', c', mi, mr, b1, b2, b3, by omega, rfl, KP.rf⟩
theorem mend1 {f to L v : Nat} {l : List FSt} {K : (Nat → Int32) → (Nat → Nat → Int32) → Int32 → Int32 → Int32 → Int32 → Option (Int32 × (Nat → Int32) × (Nat → Nat → Int32))} {ml : Nat → Nat → Int64} (hL : L ≤ 8) (hf : f < 6) (hl : l.length ≤ 40) (hv : v < 2 ^ L) : ∀ (d k n n2 : Nat) (T : Nat → Nat) (ls : List FSt) (i : Nat → Int32) (r : Nat → Nat → Int32) (mi : Nat → Int32) (mr : Nat → Nat → Int32), LR f L l T ls i r mi mr → k + d = L → d < n → d < n2 → OUT f to L l v K mr (f_X8_mendRow_3 n i r (nI v) (nI L) (nI (2 ^ L)) (nI k)) (f_X13_lay_48 ml K n2 mi mr (nI f) (nI to) (nI (2 ^ L)) (nI v) (nI k)) := by
  have h256 := p2 hL
  have iv := inb_nI (N := 256) (n := v) (by omega) (by omega)
  have if8 := inb_nI (N := 8) (n := f) (by omega) (by omega)
  intro d
  induction d with
  | zero =>
    intro k n n2 T ls i r mi mr h hk hn hn2
    obtain ⟨m, rfl⟩ : ∃ m, n = m + 1 := ⟨n - 1, by omega⟩
    obtain ⟨m2, rfl⟩ : ∃ m, n2 = m + 1 := ⟨n2 - 1, by omega⟩
    have go : OUT f to L l v K mr (f_X8_mendRow_49 2000000 i r (nI v) (nI L) (nI (2 ^ L)) 0) (f_X13_lay_114 ml K 2000000 mi mr (nI f) (nI to) (nI (2 ^ L)) (nI v) 0) := mend2 hL hf hl hv L 0 2000000 2000000 T ls i r mi mr h (by omega) (by omega) (by omega)
    rw [f_X8_mendRow_3, if_pos (nI_le (by omega) (by omega)), f_X13_lay_48, ck_t if8, nI_clamp (n := f) (by omega), h.1.1, if_pos (nI_le (by omega) (by omega))]
    exact go
  | succ d ih =>
    intro k n n2 T ls i r mi mr h hk hn hn2
    obtain ⟨m, rfl⟩ : ∃ m, n = m + 1 := ⟨n - 1, by omega⟩
    obtain ⟨m2, rfl⟩ : ∃ m, n2 = m + 1 := ⟨n2 - 1, by omega⟩
    obtain ⟨hT, hr, hm⟩ := h.2.2.2.1 v hv
    have go := ih (k + 1) m m2 T ls i r mi mr h (by omega) (by omega) (by omega)
    rw [f_X8_mendRow_3, if_neg (nI_ge (by omega) (by omega)), ck_t iv, nI_clamp (n := v) (by omega), hr, f_X13_lay_48, ck_t if8, nI_clamp (n := f) (by omega), h.1.1, if_neg (nI_ge (by omega) (by omega)), bit_ok v k (by omega) (by omega), bd_some, dm_bit, ck_t iv, ck_t iv, ck_t iv, nI_clamp (n := v) (by omega), hm, bit_ok (T v) k (by omega) (by omega), bd_some, dm_bit]
    by_cases e : (v.testBit k && !(T v).testBit k) = false
    · rw [if_pos ((onlyL (by omega)).mpr e), f_X8_mendRow_40, f_X13_lay_105, nI_1]
      cases e1 : v.testBit k
      · rw [if_neg (show ¬ nI (Bool.toNat false) = 1 by decide)]
        exact go
      · rw [if_pos (show nI (Bool.toNat true) = 1 by decide)]
        cases e2 : (T v).testBit k
        · rw [e1, e2] at e
          cases e
        · rw [if_neg (show ¬ nI (Bool.toNat true) = 0 by decide)]
          exact go
    · obtain ⟨e1, e2⟩ : v.testBit k = true ∧ (T v).testBit k = false := by
        cases e1 : v.testBit k <;> cases e2 : (T v).testBit k <;> rw [e1, e2] at e <;> simp at e ⊢
      rw [if_neg (fun q => e ((onlyL (by omega)).mp q)), e1, e2, if_pos (show nI (Bool.toNat true) = 1 by decide), if_pos (show nI (Bool.toNat false) = 0 by decide)]
      rcases turn_ok (ml := ml) hL hf hl h (raw_wf (a := k) (by omega) hT e2) with ⟨i2, r2, mi2, mr2, a1, a2, a3, a4⟩ | ⟨i2, r2, a1, a2, a3⟩
      · rw [a1, bd_some, a2, bd_some, if_neg n10, f_X8_mendRow_40, f_X13_lay_105, nI_1]
        exact OUT.tr a4 (ih (k + 1) m m2 _ _ i2 r2 mi2 mr2 a3 (by omega) (by omega) (by omega))
      · rw [a1, bd_some, a3, bd_some, if_pos rfl, f_X8_mendRow_40, nI_1]
        obtain ⟨i', r', c', b1, b2, b3, b4⟩ := over_3 hL h256 (show v < 256 by omega) d (k + 1) m 41 i2 r2 a2 (by omega) (by omega) (by omega) (by omega)
        exact Or.inr ⟨i', r', c', mi, mr, b1, b2, b3, by omega, rfl, KP.rf⟩
/-- all rows -/
theorem mendAll {f to L : Nat} {l : List FSt} {i1 i2 : Nat → Int32} {r1 r2 : Nat → Nat → Int32} {ml : Nat → Nat → Int64} (hL : L ≤ 8) (hf : f < 6) (hto : to < 6) (hl : l.length ≤ 40) (hF : FL L l i1 r1) : ∀ (d v n n2 : Nat) (T : Nat → Nat) (ls : List FSt) (i : Nat → Int32) (r : Nat → Nat → Int32) (mi : Nat → Int32) (mr : Nat → Nat → Int32), LR f L l T ls i r mi mr → v + d = 2 ^ L → d < n → d < n2 → (∃ T' ls' i' r' mi' mr', f_X8_layInto_21 i1 r1 n i r i2 r2 (nI (2 ^ L)) (nI v) = f_X8_layInto_53 i1 r1 i' r' i2 r2 ∧ f_X13_lay_39 ml n2 mi mr (nI f) (nI to) (nI (2 ^ L)) (nI v) = f_X13_lay_212 ml mi' (va_up (va_up mr' 10 (upd (mr' 10) to (nI L))) 11 (upd (mr' 11) to (nI ls'.length))) (nI to) ∧ LR f L l T' ls' i' r' mi' mr' ∧ KP 6 mr mr') ∨ (∃ i' r' c mi' mr', f_X8_layInto_21 i1 r1 n i r i2 r2 (nI (2 ^ L)) (nI v) = f_X8_layInto_53 i1 r1 i' r' i2 r2 ∧ i' 3 = nI c ∧ 41 ≤ c ∧ c ≤ 100 ∧ f_X13_lay_39 ml n2 mi mr (nI f) (nI to) (nI (2 ^ L)) (nI v) = some (-3, mi', mr') ∧ KP 6 mr mr') := by
  have h256 := p2 hL
  have if8 := inb_nI (N := 8) (n := f) (by omega) (by omega)
  have it8 := inb_nI (N := 8) (n := to) (by omega) (by omega)
  intro d
  induction d with
  | zero =>
    intro v n n2 T ls i r mi mr h hk hn hn2
    obtain ⟨m, rfl⟩ : ∃ m, n = m + 1 := ⟨n - 1, by omega⟩
    obtain ⟨m2, rfl⟩ : ∃ m, n2 = m + 1 := ⟨n2 - 1, by omega⟩
    refine Or.inl ⟨T, ls, i, r, mi, mr, ?_, ?_, h, KP.rf⟩
    · rw [f_X8_layInto_21, if_pos (nI_le (by omega) (by omega))]
    · rw [f_X13_lay_39, if_pos (nI_le (by omega) (by omega)), ck_t if8, ck_t it8, ck_t it8, nI_clamp (n := f) (by omega), nI_clamp (n := to) (by omega), h.1.1, h.2.2.2.2.2.1]
  | succ d ih =>
    intro v n n2 T ls i r mi mr h hk hn hn2
    obtain ⟨m, rfl⟩ : ∃ m, n = m + 1 := ⟨n - 1, by omega⟩
    obtain ⟨m2, rfl⟩ : ∃ m, n2 = m + 1 := ⟨n2 - 1, by omega⟩
    have hls := h.2.1
    have go : OUT f to L l v (f_X13_lay_39 ml m2) mr (f_X8_mendRow_3 2000000 i r (nI v) (nI L) (nI (2 ^ L)) 0) (f_X13_lay_48 ml (f_X13_lay_39 ml m2) 2000000 mi mr (nI f) (nI to) (nI (2 ^ L)) (nI v) 0) := mend1 hL hf hl (show v < 2 ^ L by omega) L 0 2000000 2000000 T ls i r mi mr h (by omega) (by omega) (by omega)
    rw [f_X8_layInto_21, if_neg (nI_ge (by omega) (by omega)), h.2.2.2.2.1, if_neg (show ¬ (40 : Int32) < nI ls.length from nI_nlt (b := ls.length) (a := 40) hls (by omega)), f_X2_lanes, bd_some, hF.1, f_X8_mendRow, f_X13_lay_39, if_neg (nI_ge (by omega) (by omega))]
    rcases go with ⟨T', ls', i', r', mi', mr', a1, a2, a3, a4⟩ | ⟨i', r', c, mi', mr', a1, a2, a3, a4, a5, a6⟩
    · rw [a1, bd_some, a2, nI_1]
      rcases ih (v + 1) m m2 T' ls' i' r' mi' mr' a3 (by omega) (by omega) (by omega) with ⟨T3, ls3, i3, r3, mi3, mr3, b1, b2, b3, b4⟩ | ⟨i3, r3, c, mi3, mr3, b1, b2, b3, b4, b5, b6⟩
      · exact Or.inl ⟨T3, ls3, i3, r3, mi3, mr3, b1, b2, b3, a4.tr b4⟩
      · exact Or.inr ⟨i3, r3, c, mi3, mr3, b1, b2, b3, b4, b5, a4.tr b6⟩
    · rw [a1, bd_some, a5, nI_1]
      refine Or.inr ⟨i', r', c, mi', mr', ?_, a2, a3, a4, rfl, a6⟩
      obtain ⟨m3, rfl⟩ : ∃ q, m = q + 1 := ⟨m - 1, by omega⟩
      rw [f_X8_layInto_21]
      by_cases e : nI (2 ^ L) ≤ nI (v + 1)
      · rw [if_pos e]
      · rw [if_neg e, if_pos (show (40 : Int32) < i' 3 by rw [a2]; exact nI_lt (a := 40) (by omega) (by omega))]
