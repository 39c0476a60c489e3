/-! ===== FLOORS made anew: adding, copying, chain ===== -/
theorem app_at {α : Type} {l : List α} {t x : α} {k : Nat} (h : (l ++ [t])[k]? = some x) : (k < l.length ∧ l[k]? = some x) ∨ (k = l.length ∧ x = t) := by
  by_cases hk : k < l.length
  · rw [List.getElem?_append_left hk] at h
    exact Or.inl ⟨hk, h⟩
  · rw [List.getElem?_append_right (by omega)] at h
    have h2 : k - l.length < 1 := (List.getElem?_eq_some_iff.mp h).1
    have h3 : k = l.length := by omega
    subst h3
    rw [Nat.sub_self] at h
    cases h
    exact Or.inr ⟨rfl, rfl⟩
theorem addKind_ok {L : Nat} {l : List FSt} {i : Nat → Int32} {r : Nat → Nat → Int32} (h : FL L l i r) (hl : l.length < 40) (t : FSt) : ∃ i' r', f_X2_addKind i r (kI t) (nI t.1) (oI t.2.1) (nI t.2.2) = some (i', r') ∧ FL L (l ++ [t]) i' r' := by
  have ic := inb_nI (N := 40) (n := l.length) hl (by omega)
  have A : f_X2_addKind i r (kI t) (nI t.1) (oI t.2.1) (nI t.2.2) = some (upd i 5 (nI (l.length + 1)), va_up (va_up (va_up (va_up r 0 (upd (r 0) l.length (kI t))) 1 (upd (r 1) l.length (nI t.1))) 2 (upd (r 2) l.length (oI t.2.1))) 3 (upd (r 3) l.length (nI t.2.2))) := by
    rw [f_X2_addKind, h.2.1, if_neg (show ¬ (40 : Int32) ≤ nI l.length from nI_ge (b := 40) hl (by omega)), ck_t ic, ck_t ic, f_X2_addKind_29, h.2.1, ck_t ic, ck_t ic, f_X2_addKind_50, h.2.1, nI_clamp (by omega), nI_1]
    simp only [up_n (show (2 : Nat) ≠ 1 by omega), up_n (show (2 : Nat) ≠ 0 by omega), up_n (show (3 : Nat) ≠ 1 by omega), up_n (show (3 : Nat) ≠ 0 by omega), up_n (show (3 : Nat) ≠ 2 by omega)]
  refine ⟨_, _, A, ?_, ?_, ?_⟩
  · rw [pk_un (by omega)]
    exact h.1
  · rw [pk_us, List.length_append]
    rfl
  · intro k x hk
    rw [up_n (show (0 : Nat) ≠ 3 by omega), up_n (show (0 : Nat) ≠ 2 by omega), up_n (show (0 : Nat) ≠ 1 by omega), up_s, up_n (show (1 : Nat) ≠ 3 by omega), up_n (show (1 : Nat) ≠ 2 by omega), up_s, up_n (show (2 : Nat) ≠ 3 by omega), up_s, up_s]
    rcases app_at hk with ⟨h1, h2⟩ | ⟨h1, h2⟩
    · rw [pk_un (by omega), pk_un (by omega), pk_un (by omega), pk_un (by omega)]
      exact h.2.2 k x h2
    · subst h1
      subst h2
      exact ⟨pk_us, pk_us, pk_us, pk_us⟩
theorem addAll_go {L L2 : Nat} {l2 : List FSt} {i1 : Nat → Int32} {r1 : Nat → Nat → Int32} (h1 : FL L2 l2 i1 r1) (h40 : l2.length ≤ 40) : ∀ (d k n : Nat) (l : List FSt) (i : Nat → Int32) (r : Nat → Nat → Int32), FL L l i r → l.length + d ≤ 40 → k + d = l2.length → d < n → ∃ i' r', f_X2_addAll_2 i1 r1 n i r (nI k) = some (i', r') ∧ FL L (l ++ l2.drop k) i' r' := by
  intro d
  induction d with
  | zero =>
    intro k n l i r h hl hk hn
    obtain ⟨m, rfl⟩ : ∃ m, n = m + 1 := ⟨n - 1, by omega⟩
    refine ⟨i, r, ?_, ?_⟩
    · rw [f_X2_addAll_2, h1.2.1, if_pos (nI_le (by omega) (by omega))]
    · rw [List.drop_eq_nil_of_le (by omega), List.append_nil]
      exact h
  | succ d ih =>
    intro k n l i r h hl hk hn
    obtain ⟨m, rfl⟩ : ∃ m, n = m + 1 := ⟨n - 1, by omega⟩
    obtain ⟨t, ht, hd⟩ := drop_c (l := l2) (k := k) (by omega)
    obtain ⟨c0, c1, c2, c3⟩ := h1.2.2 k t ht
    have ic := inb_nI (N := 40) (n := k) (by omega) (by omega)
    obtain ⟨i2, r2, a1, a2⟩ := addKind_ok h (by omega) t
    obtain ⟨i', r', b1, b2⟩ := ih (k + 1) m (l ++ [t]) i2 r2 a2 (by rw [List.length_append]; show l.length + 1 + d ≤ 40; omega) (by omega) (by omega)
    refine ⟨i', r', ?_, ?_⟩
    · rw [f_X2_addAll_2, h1.2.1, if_neg (nI_ge (by omega) (by omega)), ck_t ic, ck_t ic, ck_t ic, ck_t ic, nI_clamp (by omega), c0, c1, c2, c3, a1, bd_some, nI_1]
      exact b1
    · rw [hd]
      rw [List.append_assoc] at b2
      exact b2
theorem addAll_ok {L L2 : Nat} {l l2 : List FSt} {i i1 : Nat → Int32} {r r1 : Nat → Nat → Int32} (h : FL L l i r) (h1 : FL L2 l2 i1 r1) (hl : l.length + l2.length ≤ 40) : ∃ i' r', f_X2_addAll i r i1 r1 = some (i', r') ∧ FL L (l ++ l2) i' r' := by
  rw [f_X2_addAll]
  exact addAll_go h1 (by omega) l2.length 0 2000000 l i r h hl (by omega) (by omega)
theorem clear_ok {i : Nat → Int32} {r : Nat → Nat → Int32} {L : Nat} {x : Int32} (hx : x = nI L) : ∃ i', f_X2_clear i r x = some i' ∧ FL L [] i' r := by
  refine ⟨_, rfl, ?_, ?_, ?_⟩
  · rw [pk_un (by omega), pk_us]
    exact hx
  · rw [pk_us]
    rfl
  · intro k t h
    cases h
theorem copyFrom_ok {L : Nat} {l : List FSt} {i i1 : Nat → Int32} {r r1 : Nat → Nat → Int32} (h1 : FL L l i1 r1) (hl : l.length ≤ 40) : ∃ i' r', f_X2_copyFrom i r i1 r1 = some (i', r') ∧ FL L l i' r' := by
  obtain ⟨i2, a1, a2⟩ := clear_ok (i := i) (r := r) h1.1
  obtain ⟨i', r', b1, b2⟩ := addAll_ok a2 h1 (by show 0 + l.length ≤ 40; omega)
  refine ⟨i', r', ?_, ?_⟩
  · rw [f_X2_copyFrom, a1, bd_some, b1]
    rfl
  · exact b2
theorem settle_ok {L j : Nat} {l : List FSt} {i : Nat → Int32} {r : Nat → Nat → Int32} {P : Nat → Nat → Int32} {S : Nat → Nat → Nat → Int32} (hj : j < 6) (h1 : FL L l i r) (hl : l.length ≤ 40) : ∃ p s, f_X11_settle i r P S (nI j) = some (nI l.length, va_up P j p, va_up S j s) ∧ FL L l p s := by
  obtain ⟨p, s, a1, a2⟩ := copyFrom_ok (i := P j) (r := S j) h1 hl
  have ic := inb_nI (N := 6) hj (by omega)
  refine ⟨p, s, ?_, a2⟩
  rw [f_X11_settle, ck_t ic, nI_clamp (by omega), a1, bd_some, f_X11_settle_13, ck_t ic, nI_clamp (by omega), f_X2_steps, bd_some, up_s]
  show some (p 5, _, _) = _
  rw [a2.2.1]
/-! the reference -/
/-- all floors but J are as they were -/
def KP (J : Nat) (mr mr' : Nat → Nat → Int32) : Prop := ∀ j, j < 8 → j ≠ J → mr' 10 j = mr 10 j ∧ mr' 11 j = mr 11 j ∧ ∀ k, k < 40 → mr' 12 (40 * j + k) = mr 12 (40 * j + k) ∧ mr' 13 (40 * j + k) = mr 13 (40 * j + k) ∧ mr' 14 (40 * j + k) = mr 14 (40 * j + k)
theorem KP.rf {J : Nat} {mr : Nat → Nat → Int32} : KP J mr mr := fun j _ _ => ⟨rfl, rfl, fun k _ => ⟨rfl, rfl, rfl⟩⟩
theorem KP.tr {J : Nat} {a b c : Nat → Nat → Int32} (h1 : KP J a b) (h2 : KP J b c) : KP J a c := fun j hj hJ => by
  obtain ⟨x1, x2, x3⟩ := h1 j hj hJ
  obtain ⟨y1, y2, y3⟩ := h2 j hj hJ
  exact ⟨y1.trans x1, y2.trans x2, fun k hk => ⟨(y3 k hk).1.trans (x3 k hk).1, (y3 k hk).2.1.trans (x3 k hk).2.1, (y3 k hk).2.2.trans (x3 k hk).2.2⟩⟩
theorem KP.mf {J j L : Nat} {l : List FSt} {mr mr' : Nat → Nat → Int32} (h : KP J mr mr') (hj : j < 8) (hJ : j ≠ J) (hl : l.length ≤ 40) (hM : MF L l mr j) : MF L l mr' j := by
  obtain ⟨x1, x2, x3⟩ := h j hj hJ
  refine ⟨x1.trans hM.1, x2.trans hM.2.1, fun k t hk => ?_⟩
  have hk2 := (List.getElem?_eq_some_iff.mp hk).1
  obtain ⟨y1, y2, y3⟩ := x3 k (by omega)
  rw [y1, y2, y3]
  exact hM.2.2 k t hk
theorem six : (6 : Int32).toNatClampNeg = 6 := nI_clamp (n := 6) (by omega)
theorem madd_ok {L : Nat} {l : List FSt} {mi : Nat → Int32} {mr : Nat → Nat → Int32} {ml : Nat → Nat → Int64} (h : MF L l mr 6) (hl : l.length < 40) (t : FSt) : ∃ mr', f_X13_add mi mr ml (nI t.1) (oI t.2.1) (nI t.2.2) = some mr' ∧ MF L (l ++ [t]) mr' 6 ∧ KP 6 mr mr' := by
  have i6 : inb 6 8 = true := inb_nI (n := 6) (N := 8) (by omega) (by omega)
  have e : (240 : Int32) + nI l.length = nI (40 * 6 + l.length) := nI_add 240 l.length
  have ic := inb_nI (N := 320) (n := 40 * 6 + l.length) (by omega) (by omega)
  have A : f_X13_add mi mr ml (nI t.1) (oI t.2.1) (nI t.2.2) = some (va_up (va_up (va_up (va_up mr 12 (upd (mr 12) (40 * 6 + l.length) (nI t.1))) 13 (upd (mr 13) (40 * 6 + l.length) (oI t.2.1))) 14 (upd (mr 14) (40 * 6 + l.length) (nI t.2.2))) 11 (upd (mr 11) 6 (nI (l.length + 1)))) := by
    rw [f_X13_add, ck_t i6, six, h.2.1, e, ck_t ic, ck_t ic, f_X13_add_29, ck_t ic, ck_t i6, ck_t i6, six, nI_clamp (by omega)]
    simp only [up_n (show (11 : Nat) ≠ 13 by omega), up_n (show (11 : Nat) ≠ 12 by omega), up_n (show (14 : Nat) ≠ 13 by omega), up_n (show (14 : Nat) ≠ 12 by omega), up_n (show (13 : Nat) ≠ 12 by omega), h.2.1, nI_1]
  refine ⟨_, A, ⟨?_, ?_, ?_⟩, ?_⟩
  · rw [up_n (by omega), up_n (by omega), up_n (by omega), up_n (by omega)]
    exact h.1
  · rw [up_s, pk_us, List.length_append]
    rfl
  · intro k x hk
    rw [up_n (show (12 : Nat) ≠ 11 by omega), up_n (show (12 : Nat) ≠ 14 by omega), up_n (show (12 : Nat) ≠ 13 by omega), up_s, up_n (show (13 : Nat) ≠ 11 by omega), up_n (show (13 : Nat) ≠ 14 by omega), up_s, up_n (show (14 : Nat) ≠ 11 by omega), up_s]
    rcases app_at hk with ⟨h1, h2⟩ | ⟨h1, h2⟩
    · rw [pk_un (by omega), pk_un (by omega), pk_un (by omega)]
      exact h.2.2 k x h2
    · subst h1
      subst h2
      exact ⟨pk_us, pk_us, pk_us⟩
  · intro j hj hJ
    refine ⟨?_, ?_, fun k hk => ⟨?_, ?_, ?_⟩⟩
    · rw [up_n (by omega), up_n (by omega), up_n (by omega), up_n (by omega)]
    · rw [up_s, pk_un hJ]
    · rw [up_n (by omega), up_n (by omega), up_n (by omega), up_s, pk_un (by omega)]
    · rw [up_n (by omega), up_n (by omega), up_s, pk_un (by omega)]
    · rw [up_n (by omega), up_s, pk_un (by omega)]
theorem mcopy_go {L f to : Nat} {l : List FSt} {mi : Nat → Int32} {ml : Nat → Nat → Int64} (hf : f < 8) (ht : to < 8) (hne : f ≠ to) (h40 : l.length ≤ 40) : ∀ (d k n : Nat) (mr : Nat → Nat → Int32), MF L l mr f → mr 10 to = nI L → mr 11 to = nI l.length → (∀ z t, z < k → l[z]? = some t → mr 12 (40 * to + z) = nI t.1 ∧ mr 13 (40 * to + z) = oI t.2.1 ∧ mr 14 (40 * to + z) = nI t.2.2) → k + d = l.length → d < n → ∃ mr', f_X13_copyFloor_26 mi ml n mr (nI f) (nI to) (nI k) = some mr' ∧ MF L l mr' to ∧ KP to mr mr' := by
  have if8 := inb_nI (N := 8) hf (by omega)
  intro d
  induction d with
  | zero =>
    intro k n mr hM h10 h11 hT hk hn
    obtain ⟨m, rfl⟩ : ∃ m, n = m + 1 := ⟨n - 1, by omega⟩
    refine ⟨mr, ?_, ⟨h10, h11, fun z t hz => hT z t (by have := (List.getElem?_eq_some_iff.mp hz).1; omega) hz⟩, KP.rf⟩
    rw [f_X13_copyFloor_26, ck_t if8, nI_clamp (by omega), hM.2.1, if_pos (nI_le (by omega) (by omega))]
  | succ d ih =>
    intro k n mr hM h10 h11 hT hk hn
    obtain ⟨m, rfl⟩ : ∃ m, n = m + 1 := ⟨n - 1, by omega⟩
    have hkl : k < l.length := by omega
    obtain ⟨t, htk⟩ : ∃ t, l[k]? = some t := ⟨l[k], List.getElem?_eq_getElem hkl⟩
    obtain ⟨c1, c2, c3⟩ := hM.2.2 k t htk
    have i1 := inb_nI (N := 320) (n := 40 * f + k) (by omega) (by omega)
    have i2 := inb_nI (N := 320) (n := 40 * to + k) (by omega) (by omega)
    have K1 : KP to mr (va_up (va_up (va_up mr 12 (upd (mr 12) (40 * to + k) (nI t.1))) 13 (upd (mr 13) (40 * to + k) (oI t.2.1))) 14 (upd (mr 14) (40 * to + k) (nI t.2.2))) := by
      intro j hj hJ
      refine ⟨?_, ?_, fun z hz => ⟨?_, ?_, ?_⟩⟩
      · rw [up_n (by omega), up_n (by omega), up_n (by omega)]
      · rw [up_n (by omega), up_n (by omega), up_n (by omega)]
      · rw [up_n (by omega), up_n (by omega), up_s, pk_un (by omega)]
      · rw [up_n (by omega), up_s, pk_un (by omega)]
      · rw [up_s, pk_un (by omega)]
    obtain ⟨mr', a1, a2, a3⟩ := ih (k + 1) m _ (K1.mf hf hne h40 hM) (by rw [up_n (by omega), up_n (by omega), up_n (by omega)]; exact h10) (by rw [up_n (by omega), up_n (by omega), up_n (by omega)]; exact h11) (fun z x hz hx => by
      rw [up_n (show (12 : Nat) ≠ 14 by omega), up_n (show (12 : Nat) ≠ 13 by omega), up_s, up_n (show (13 : Nat) ≠ 14 by omega), up_s, up_s]
      by_cases e : z = k
      · subst e
        have : x = t := Option.some.inj (hx.symm.trans htk)
        subst this
        exact ⟨pk_us, pk_us, pk_us⟩
      · rw [pk_un (by omega), pk_un (by omega), pk_un (by omega)]
        exact hT z x (by omega) hx) (by omega) (by omega)
    refine ⟨mr', ?_, a2, K1.tr a3⟩
    rw [f_X13_copyFloor_26, ck_t if8, nI_clamp (n := f) (by omega), hM.2.1, if_neg (nI_ge (by omega) (by omega)), mul40, mul40, ck_t i1, ck_t i2, ck_t i1, ck_t i2, nI_clamp (n := 40 * to + k) (by omega), nI_clamp (n := 40 * f + k) (by omega), f_X13_copyFloor_80, mul40, mul40, ck_t i1, ck_t i2, nI_clamp (n := 40 * to + k) (by omega), nI_clamp (n := 40 * f + k) (by omega), nI_1]
    simp only [up_n (show (13 : Nat) ≠ 12 by omega), up_n (show (14 : Nat) ≠ 13 by omega), up_n (show (14 : Nat) ≠ 12 by omega), c1, c2, c3]
    exact a1
theorem mcopy_ok {L f to : Nat} {l : List FSt} {mi : Nat → Int32} {mr : Nat → Nat → Int32} {ml : Nat → Nat → Int64} (hf : f < 8) (ht : to < 8) (hne : f ≠ to) (h40 : l.length ≤ 40) (hM : MF L l mr f) : ∃ mr', f_X13_copyFloor mi mr ml (nI f) (nI to) = some mr' ∧ MF L l mr' to ∧ KP to mr mr' := by
  have i1 := inb_nI (N := 8) hf (by omega)
  have i2 := inb_nI (N := 8) ht (by omega)
  have K1 : KP to mr (va_up (va_up mr 10 (upd (mr 10) to (nI L))) 11 (upd (mr 11) to (nI l.length))) := by
    intro j hj hJ
    refine ⟨?_, ?_, fun z hz => ⟨?_, ?_, ?_⟩⟩
    · rw [up_n (by omega), up_s, pk_un hJ]
    · rw [up_s, pk_un hJ]
    · rw [up_n (by omega), up_n (by omega)]
    · rw [up_n (by omega), up_n (by omega)]
    · rw [up_n (by omega), up_n (by omega)]
  obtain ⟨mr', a1, a2, a3⟩ := mcopy_go (mi := mi) (ml := ml) hf ht hne h40 l.length 0 2000000 _ (K1.mf hf hne h40 hM) (by rw [up_n (by omega), up_s, pk_us]) (by rw [up_s, pk_us]) (fun z t hz => by omega) (by omega) (by omega)
  refine ⟨mr', ?_, a2, K1.tr a3⟩
  rw [f_X13_copyFloor, ck_t i1, ck_t i2, ck_t i1, ck_t i2, nI_clamp (n := f) (by omega), nI_clamp (n := to) (by omega), hM.1, hM.2.1, f_X13_copyFloor_24]
  exact a1
