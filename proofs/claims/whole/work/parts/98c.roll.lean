/-! ===== roll ===== -/
/-- how many of the bits 0 .. n-1 of v are set -/
def cnt (v : Nat) : Nat → Nat
  | 0 => 0
  | n + 1 => cnt v n + (if v.testBit n then 1 else 0)
theorem cnt_both : ∀ v, v < 1024 → f_J6_bitCount_0f7a4 (nI v) = some (nI (cnt v 10)) ∧ f_X13_bits (nI v) = some (nI (cnt v 10)) := fun v hv => co_dec (N := 1024) (P := fun v => f_J6_bitCount_0f7a4 (nI v) = some (nI (cnt v 10)) ∧ f_X13_bits (nI v) = some (nI (cnt v 10))) (by decide +kernel) hv
theorem cnt_le (v : Nat) : ∀ n, cnt v n ≤ n
  | 0 => Nat.le_refl _
  | n + 1 => by
    have := cnt_le v n
    show cnt v n + (if v.testBit n then 1 else 0) ≤ n + 1
    split <;> omega
theorem cnt_hi {v L : Nat} (h : v < 2 ^ L) : ∀ d, cnt v (L + d) = cnt v L
  | 0 => rfl
  | d + 1 => by
    have h1 : v.testBit (L + d) = false := Nat.testBit_lt_two_pow (Nat.lt_of_lt_of_le h (Nat.pow_le_pow_right (by omega) (by omega)))
    show cnt v (L + d) + (if v.testBit (L + d) then 1 else 0) = _
    rw [h1, cnt_hi h d]
    rfl
theorem cnt_L {v L : Nat} (h : v < 2 ^ L) (hL : L ≤ 10) : cnt v 10 = cnt v L := by
  have := cnt_hi h (10 - L)
  rw [show L + (10 - L) = 10 by omega] at this
  exact this
/-- the copying turns: lanes lane .. of v onto b .. -/
def rlT (v : Nat) : Nat → Nat → Nat → List FSt
  | 0, _, _ => []
  | d + 1, lane, b => if v.testBit lane then (b, none, 2 ^ lane) :: rlT v d (lane + 1) (b + 1) else rlT v d (lane + 1) b
theorem rlT_len (v : Nat) : ∀ (d lane b : Nat), cnt v lane + (rlT v d lane b).length = cnt v (lane + d)
  | 0, _, _ => rfl
  | d + 1, lane, b => by
    rw [rlT]
    have hc : cnt v (lane + 1) = cnt v lane + (if v.testBit lane then 1 else 0) := rfl
    by_cases e : v.testBit lane = true
    · rw [if_pos e]
      rw [if_pos e] at hc
      have := rlT_len v d (lane + 1) (b + 1)
      rw [show lane + 1 + d = lane + (d + 1) by omega] at this
      show cnt v lane + ((rlT v d (lane + 1) (b + 1)).length + 1) = _
      omega
    · rw [if_neg e]
      rw [if_neg e] at hc
      have := rlT_len v d (lane + 1) b
      rw [show lane + 1 + d = lane + (d + 1) by omega] at this
      omega
theorem rlT_wf {v L LL : Nat} : ∀ (d lane b : Nat), lane + d = L → L ≤ b → b + (rlT v d lane b).length ≤ LL → ∀ t ∈ rlT v d lane b, wfS LL t
  | 0, _, _, _, _, _ => fun t ht => by cases ht
  | d + 1, lane, b, hl, hb, hLL => by
    intro t ht
    rw [rlT] at ht hLL
    by_cases e : v.testBit lane = true
    · rw [if_pos e] at ht hLL
      have hLL : b + ((rlT v d (lane + 1) (b + 1)).length + 1) ≤ LL := hLL
      rcases List.mem_cons.mp ht with rfl | ht
      · refine ⟨by show b < LL; omega, Nat.pow_lt_pow_right (by omega) (by omega), ?_, fun x hx => by cases hx⟩
        show (2 ^ lane).testBit b = false
        rw [Nat.testBit_two_pow]
        exact decide_eq_false (by omega)
      · exact rlT_wf (L := L) d (lane + 1) (b + 1) (by omega) (by omega) (by omega) t ht
    · rw [if_neg e] at ht hLL
      exact rlT_wf (L := L) d (lane + 1) b (by omega) hb hLL t ht
theorem m1_eq (x : Int32) : x - 1 = x + (-1) := by rw [Int32.sub_eq_add_neg]
theorem neg_k0 : (nI 0 + (-1) : Int32) < 0 := by decide
theorem take_c {α : Type} {l : List α} {k : Nat} (h : k < l.length) : ∃ t, l[k]? = some t ∧ (l.take (k + 1)).reverse = t :: (l.take k).reverse := by
  refine ⟨l[k], List.getElem?_eq_getElem h, ?_⟩
  rw [List.take_succ_eq_append_getElem h, List.reverse_append]
  rfl
theorem backAll_go {L L2 : Nat} {l2 : List FSt} {i1 : Nat → Int32} {r1 : Nat → Nat → Int32} (h1 : FL L2 l2 i1 r1) (h40 : l2.length ≤ 40) : ∀ (k n : Nat) (l : List FSt) (i : Nat → Int32) (r : Nat → Nat → Int32), FL L l i r → l.length + k ≤ 40 → k ≤ l2.length → k < n → ∃ i' r', f_X2_addAllBack_7 i1 r1 n i r (nI k + (-1)) = some (i', r') ∧ FL L (l ++ (l2.take k).reverse) i' r' := by
  intro k
  induction k with
  | zero =>
    intro n l i r h hl hk hn
    obtain ⟨m, rfl⟩ : ∃ m, n = m + 1 := ⟨n - 1, by omega⟩
    refine ⟨i, r, ?_, ?_⟩
    · rw [f_X2_addAllBack_7, if_pos neg_k0]
    · rw [List.take_zero, List.reverse_nil, List.append_nil]
      exact h
  | succ k ih =>
    intro n l i r h hl hk hn
    obtain ⟨m, rfl⟩ : ∃ m, n = m + 1 := ⟨n - 1, by omega⟩
    obtain ⟨t, ht, hd⟩ := take_c (l := l2) (k := k) (by omega)
    obtain ⟨c0, c1, c2, c3⟩ := h1.2.2 k t ht
    have ic := inb_nI (N := 40) (n := k) (by omega) (by omega)
    obtain ⟨i2, r2, a1, a2⟩ := addKind_ok h (by omega) t
    obtain ⟨i', r', b1, b2⟩ := ih m (l ++ [t]) i2 r2 a2 (by rw [List.length_append]; show l.length + 1 + k ≤ 40; omega) (by omega) (by omega)
    refine ⟨i', r', ?_, ?_⟩
    · rw [f_X2_addAllBack_7, pk_m1, if_neg (nI_pos (by omega)), ck_t ic, ck_t ic, ck_t ic, ck_t ic, nI_clamp (by omega), c0, c1, c2, c3, a1, bd_some]
      exact b1
    · rw [hd]
      rw [List.append_assoc] at b2
      exact b2
theorem backAll_ok {L L2 : Nat} {l l2 : List FSt} {i i1 : Nat → Int32} {r r1 : Nat → Nat → Int32} (h : FL L l i r) (h1 : FL L2 l2 i1 r1) (hl : l.length + l2.length ≤ 40) : ∃ i' r', f_X2_addAllBack i r i1 r1 = some (i', r') ∧ FL L (l ++ l2.reverse) i' r' := by
  rw [f_X2_addAllBack, h1.2.1, m1_eq]
  have := backAll_go h1 (by omega) l2.length 2000000 l i r h hl (by omega) (by omega)
  rw [List.take_length] at this
  exact this
theorem bit_if {v a : Nat} (hv : v < 2 ^ 31) (ha : a < 31) : ((nI v >>> (nI a &&& 31)) &&& 1 = 0) ↔ v.testBit a = false := by
  rw [shr hv (by omega), and1 (Nat.lt_of_le_of_lt (Nat.div_le_self _ _) (by omega)), show (0 : Int32) = nI 0 from rfl, nI_eq (by have : v / 2 ^ a % 2 < 2 := Nat.mod_lt _ (by omega); omega) (by omega), dm_bit]
  cases v.testBit a <;> simp
theorem rolled_go {L LL v : Nat} {l2 : List FSt} {i1 : Nat → Int32} {r1 : Nat → Nat → Int32} (hL : L ≤ 8) (hv : v < 2 ^ L) (h1 : FL L l2 i1 r1) : ∀ (d lane n b : Nat) (l : List FSt) (i : Nat → Int32) (r : Nat → Nat → Int32), FL LL l i r → lane + d = L → l.length + (rlT v d lane b).length + l2.length ≤ 40 → d < n → ∃ i' r', f_X2_layRolled_26 i1 r1 n i r (nI v) (nI b) (nI lane) = some (i', r') ∧ FL LL (l ++ rlT v d lane b ++ l2.reverse) i' r' := by
  have h256 := p2 hL
  intro d
  induction d with
  | zero =>
    intro lane n b l i r h hk hl hn
    obtain ⟨m, rfl⟩ : ∃ m, n = m + 1 := ⟨n - 1, by omega⟩
    have hl : l.length + 0 + l2.length ≤ 40 := hl
    obtain ⟨i', r', a1, a2⟩ := backAll_ok h h1 (by omega)
    refine ⟨i', r', ?_, ?_⟩
    · rw [f_X2_layRolled_26, h1.1, if_pos (nI_le (by omega) (by omega)), a1]
      rfl
    · rw [rlT, List.append_nil]
      exact a2
  | succ d ih =>
    intro lane n b l i r h hk hl hn
    obtain ⟨m, rfl⟩ : ∃ m, n = m + 1 := ⟨n - 1, by omega⟩
    rw [rlT] at hl ⊢
    rw [f_X2_layRolled_26, h1.1, if_neg (nI_ge (by omega) (by omega))]
    by_cases e : v.testBit lane = true
    · rw [if_pos e] at hl ⊢
      have hl : l.length + ((rlT v d (lane + 1) (b + 1)).length + 1) + l2.length ≤ 40 := hl
      obtain ⟨i2, r2, a1, a2⟩ := addKind_ok h (by omega) (b, none, 2 ^ lane)
      obtain ⟨i', r', b1, b2⟩ := ih (lane + 1) m (b + 1) (l ++ [(b, none, 2 ^ lane)]) i2 r2 a2 (by omega) (by rw [List.length_append]; show l.length + 1 + _ + _ ≤ 40; omega) (by omega)
      refine ⟨i', r', ?_, ?_⟩
      · have a1' : f_X2_addKind i r 0 (nI b) (-1) (nI (2 ^ lane)) = some (i2, r2) := a1
        rw [if_neg (fun q => by rw [bit_if (by omega) (by omega)] at q; rw [q] at e; cases e), sh1 (by omega), f_X2_addTurn, a1', bd_some, bd_some, f_X2_layRolled_56, nI_1, nI_1]
        exact b1
      · rw [List.append_assoc l] at b2
        exact b2
    · rw [if_neg e] at hl ⊢
      have e' : v.testBit lane = false := by
        cases h9 : v.testBit lane
        · rfl
        · exact absurd h9 e
      rw [if_pos ((bit_if (by omega) (by omega)).mpr e'), f_X2_layRolled_56, nI_1]
      exact ih (lane + 1) m b l i r h (by omega) hl (by omega)
/-! the reference -/
theorem mback_go {L L2 f to : Nat} {l2 : List FSt} {mi : Nat → Int32} {ml : Nat → Nat → Int64} (hf : f < 6) (hto : to < 6) (h40 : l2.length ≤ 40) : ∀ (k n : Nat) (l : List FSt) (mr : Nat → Nat → Int32), MF L l mr 6 → MF L2 l2 mr f → l.length + k ≤ 40 → k ≤ l2.length → k < n → ∃ mr', f_X13_roll_162 mi ml n mr (nI f) (nI to) (nI k + (-1)) = some (nI (l ++ (l2.take k).reverse).length, mr') ∧ MF L (l ++ (l2.take k).reverse) mr' to ∧ KM to mr mr' := by
  have it := inb_nI (N := 8) (n := to) (by omega) (by omega)
  intro k
  induction k with
  | zero =>
    intro n l mr hM hG hl hk hn
    obtain ⟨m, rfl⟩ : ∃ m, n = m + 1 := ⟨n - 1, by omega⟩
    obtain ⟨mr', a1, a2, a3⟩ := mcopy_ok (mi := mi) (ml := ml) (show 6 < 8 by omega) (show to < 8 by omega) (by omega) (by omega) hM
    rw [List.take_zero, List.reverse_nil, List.append_nil]
    refine ⟨mr', ?_, a2, KM.ofJ a3⟩
    rw [f_X13_roll_162, if_pos neg_k0, show (6 : Int32) = nI 6 from rfl, a1, bd_some, ck_t it, nI_clamp (by omega), a2.2.1]
  | succ k ih =>
    intro n l mr hM hG hl hk hn
    obtain ⟨m, rfl⟩ : ∃ m, n = m + 1 := ⟨n - 1, by omega⟩
    obtain ⟨t, ht, hd⟩ := take_c (l := l2) (k := k) (by omega)
    obtain ⟨c1, c2, c3⟩ := hG.2.2 k t ht
    have ic := inb_nI (N := 320) (n := 40 * f + k) (by omega) (by omega)
    obtain ⟨mr1, a1, a2, a3⟩ := madd_ok (mi := mi) (ml := ml) hM (by omega) t
    obtain ⟨mr', b1, b2, b3⟩ := ih m (l ++ [t]) mr1 a2 (a3.mf (by omega) (by omega) h40 hG) (by rw [List.length_append]; show l.length + 1 + k ≤ 40; omega) (by omega) (by omega)
    rw [hd]
    rw [List.append_assoc] at b1 b2
    refine ⟨mr', ?_, b2, (KM.of6 a3).tr b3⟩
    rw [f_X13_roll_162, pk_m1, if_neg (nI_pos (by omega)), mul40, ck_t ic, ck_t ic, ck_t ic, nI_clamp (by omega), c1, c2, c3, a1, bd_some]
    exact b1
theorem mroll_go {L LL f to v : Nat} {l2 : List FSt} {mi : Nat → Int32} {ml : Nat → Nat → Int64} (hL : L ≤ 8) (hv : v < 2 ^ L) (hf : f < 6) (hto : to < 6) (h40 : l2.length ≤ 40) : ∀ (d lane n b : Nat) (l : List FSt) (mr : Nat → Nat → Int32), MF LL l mr 6 → MF L l2 mr f → lane + d = L → l.length + (rlT v d lane b).length + l2.length ≤ 40 → d < n → ∃ mr', f_X13_roll_109 mi ml n mr (nI f) (nI v) (nI to) (nI b) (nI lane) = some (nI (l ++ rlT v d lane b ++ l2.reverse).length, mr') ∧ MF LL (l ++ rlT v d lane b ++ l2.reverse) mr' to ∧ KM to mr mr' := by
  have h256 := p2 hL
  have if8 := inb_nI (N := 8) (n := f) (by omega) (by omega)
  intro d
  induction d with
  | zero =>
    intro lane n b l mr hM hG hk hl hn
    obtain ⟨m, rfl⟩ : ∃ m, n = m + 1 := ⟨n - 1, by omega⟩
    have hl : l.length + 0 + l2.length ≤ 40 := hl
    obtain ⟨mr', a1, a2, a3⟩ := mback_go (mi := mi) (ml := ml) hf hto h40 l2.length 2000000 l mr hM hG (by omega) (by omega) (by omega)
    rw [List.take_length] at a1 a2
    rw [rlT, List.append_nil]
    refine ⟨mr', ?_, a2, a3⟩
    rw [f_X13_roll_109, ck_t if8, nI_clamp (by omega), hG.1, if_pos (nI_le (by omega) (by omega)), ck_t if8, hG.2.1, m1_eq]
    exact a1
  | succ d ih =>
    intro lane n b l mr hM hG hk hl hn
    obtain ⟨m, rfl⟩ : ∃ m, n = m + 1 := ⟨n - 1, by omega⟩
    rw [rlT] at hl ⊢
    rw [f_X13_roll_109, ck_t if8, nI_clamp (n := f) (by omega), hG.1, if_neg (nI_ge (by omega) (by omega)), bit_ok v lane (by omega) (by omega), bd_some, dm_bit]
    by_cases e : v.testBit lane = true
    · rw [if_pos e] at hl ⊢
      have hl : l.length + ((rlT v d (lane + 1) (b + 1)).length + 1) + l2.length ≤ 40 := hl
      obtain ⟨mr1, a1, a2, a3⟩ := madd_ok (mi := mi) (ml := ml) hM (by omega) (b, none, 2 ^ lane)
      obtain ⟨mr', b1, b2, b3⟩ := ih (lane + 1) m (b + 1) (l ++ [(b, none, 2 ^ lane)]) mr1 a2 (a3.mf (by omega) (by omega) h40 hG) (by omega) (by rw [List.length_append]; show l.length + 1 + _ + _ ≤ 40; omega) (by omega)
      rw [List.append_assoc l] at b1 b2
      refine ⟨mr', ?_, b2, (KM.of6 a3).tr b3⟩
      have a1' : f_X13_add mi mr ml (nI b) (-1) (nI (2 ^ lane)) = some mr1 := a1
      rw [e, if_neg (show ¬ nI (Bool.toNat true) = 0 by decide), sh1 (by omega), a1', bd_some, f_X13_roll_146, nI_1, nI_1]
      exact b1
    · rw [if_neg e] at hl ⊢
      have e' : v.testBit lane = false := by
        cases h9 : v.testBit lane
        · rfl
        · exact absurd h9 e
      rw [e', if_pos (show nI (Bool.toNat false) = 0 by decide), f_X13_roll_146, nI_1]
      exact ih (lane + 1) m b l mr hM hG (by omega) hl (by omega)
theorem roll_ok {P : Nat → Nat → Int32} {S : Nat → Nat → Nat → Int32} {i mi : Nat → Int32} {r mr : Nat → Nat → Int32} {ml : Nat → Nat → Int64} (h : GF P S mr) (x1 x2 x3 : Int32) : ∃ q m, f_X11_roll i r P S x1 x2 x3 = some q ∧ f_X13_roll mi mr ml x1 x2 x3 = some m ∧ q.1 = m.1 ∧ GF q.2.2.2.1 q.2.2.2.2 m.2 ∧ ∃ J, J < 6 ∧ KM J mr m.2 := by
  have refused : ∀ (a : Int32), f_X11_roll i r P S x1 x2 x3 = some (a, i, r, P, S) → f_X13_roll mi mr ml x1 x2 x3 = some (a, mr) → ∃ q m, f_X11_roll i r P S x1 x2 x3 = some q ∧ f_X13_roll mi mr ml x1 x2 x3 = some m ∧ q.1 = m.1 ∧ GF q.2.2.2.1 q.2.2.2.2 m.2 ∧ ∃ J, J < 6 ∧ KM J mr m.2 := fun a A B => ⟨_, _, A, B, rfl, h, 0, by omega, fun _ _ _ _ _ _ _ hM => hM⟩
  rcases fl_cases x1 with ⟨f, hf, hx, ha, hb⟩ | ⟨ha, hb⟩
  · rcases fl_cases x3 with ⟨to, hto, hz, he, hf9⟩ | ⟨he, hf9⟩
    · obtain ⟨L, l, hfi, hF, hM⟩ := h f hf
      have hL8 := hfi.2.1
      have h40 := hfi.2.2.1
      have h256 := p2 hL8
      have hp : 0 < 2 ^ L := Nat.pow_pos (by omega)
      have f6 := inb_nI (N := 6) hf (by omega)
      have f8 := inb_nI (N := 8) (n := f) (by omega) (by omega)
      have i6 : inb 6 8 = true := inb_nI (n := 6) (N := 8) (by omega) (by omega)
      have cf : (nI f).toNatClampNeg = f := nI_clamp (by omega)
      have o32 : (1 : Int32).toInt = 1 := by decide
      have o64 : (1 : Int64).toInt = 1 := by decide
      have e1 : (1 : Int64) <<< ((nI L).toInt64 &&& 63) - 1 = lN (2 ^ L - 1) := by
        have h1 := wb_shl 1 (k := L) (by omega)
        rw [Nat.one_mul] at h1
        rw [show (1 : Int64) = lN 1 from rfl, h1, lN_sub (by omega)]
      by_cases hr : 1 ≤ x2.toInt ∧ x2.toInt ≤ ((2 ^ L - 1 : Nat) : Int)
      · obtain ⟨v, hv1, hv2, hv3⟩ := nI_ofI (x := x2) (by omega)
        have hv : v < 2 ^ L := by omega
        obtain ⟨k1, k2⟩ := cnt_both v (by omega)
        rw [cnt_L hv (by omega)] at k1 k2
        have hcl := cnt_le v L
        have hrow : f_X2_hasNoRow (P f) (S f) x2 = some 0 := by
          rcases row_cases (mi := mi) (ml := ml) (show f < 8 by omega) hL8 hF hM x2 with ⟨w, _, _, hc, _⟩ | ⟨hc, hd⟩
          · exact hc
          · rw [f_X2_hasNoRow, rows_ok hL8 hF, bd_some, if_neg (by rw [lt32, z32]; omega), hv2, if_pos (nI_lt hv (by omega))]
        have eA : f_X11_roll i r P S x1 x2 x3 = (if (8 : Int32) < nI (L + cnt v L) then some (-3, i, r, P, S) else (if nI (2 * l.length + cnt v L) ≤ 40 then (bd (f_X2_layRolled i r (P f) (S f) (nI v)) (fun q19 => bd (f_X11_settle q19.1 q19.2 P S (nI to)) (fun q20 => some (q20.1, q19.1, q19.2, q20.2.1, q20.2.2)))) else some (-3, i, r, P, S))) := by
          rw [f_X11_roll, ha, bd_some, if_pos rfl, he, bd_some, if_pos rfl, if_neg (show ¬ x2 < 1 by rw [lt32, o32]; omega), hx, ck_t f6, cf, hrow, bd_some, if_pos rfl, ck_t f6, hv2, k1, bd_some, f_X2_lanes, bd_some, f_X2_steps, bd_some, hF.1, hF.2.1, nI_add, show (2 : Int32) = nI 2 from rfl, pk_mul, nI_add, hz]
        have eB : f_X13_roll mi mr ml x1 x2 x3 = (if (8 : Int32) < nI (L + cnt v L) then some (-3, mr) else (if nI (2 * l.length + cnt v L) ≤ 40 then (bd (f_X13_copyFloor mi mr ml (nI f) 6) (fun q18 => f_X13_roll_98 mi ml (va_up q18 10 (upd (q18 10) 6 ((q18 10 f) + nI (cnt v L)))) (nI f) (nI v) (nI to))) else some (-3, mr))) := by
          rw [f_X13_roll, hb, bd_some, if_neg n10, hf9, bd_some, if_neg n10, hx, ck_t f8, cf, hM.1, e1, f_in, bd_some, i2l_toInt, o64, pk_lT (by omega), if_pos hr, if_neg n10, hv2, k2, bd_some, ck_t f8, ck_t f8, hM.2.1, nI_add, show (2 : Int32) = nI 2 from rfl, pk_mul, nI_add, hz]
          simp only [ck_t f8, ck_t i6, six]
        by_cases hs : L + cnt v L ≤ 8 ∧ 2 * l.length + cnt v L ≤ 40
        · rw [if_neg (show ¬ (8 : Int32) < nI (L + cnt v L) from nI_nlt (b := L + cnt v L) (a := 8) hs.1 (by omega)), if_pos (show nI (2 * l.length + cnt v L) ≤ (40 : Int32) from nI_le (b := 40) hs.2 (by omega))] at eA eB
          have hrl : (rlT v L 0 L).length = cnt v L := by
            have := rlT_len v L 0 L
            rw [Nat.zero_add] at this
            have h0 : cnt v 0 = 0 := rfl
            omega
          obtain ⟨i2, a1, a2⟩ := clear_ok (i := i) (r := r) (x := (P f) 4 + nI (cnt v L)) (L := L + cnt v L) (by rw [hF.1, nI_add])
          obtain ⟨i3, r3, a3, a4⟩ := addAll_ok a2 hF (by show 0 + l.length ≤ 40; omega)
          have a4 : FL (L + cnt v L) l i3 r3 := a4
          obtain ⟨i4, r4, a5, a6⟩ := rolled_go hL8 hv hF L 0 2000000 L l i3 r3 a4 (by omega) (by omega) (by omega)
          have hll : (l ++ rlT v L 0 L ++ l.reverse).length ≤ 40 := by
            rw [List.length_append, List.length_append, List.length_reverse]
            omega
          obtain ⟨p, s, b1, b2⟩ := settle_ok (P := P) (S := S) hto a6 hll
          obtain ⟨mr1, c1, c2, c3⟩ := mcopy_ok (mi := mi) (ml := ml) (show f < 8 by omega) (show 6 < 8 by omega) (by omega) h40 hM
          have hMf : MF L l mr1 f := c3.mf (by omega) (by omega) h40 hM
          obtain ⟨d1, d2⟩ := set10 (L2 := L + cnt v L) c2
          have hMf2 := d2.mf (show f < 8 by omega) (by omega) h40 hMf
          obtain ⟨mr', m1, m2, m3⟩ := mroll_go (mi := mi) (ml := ml) hL8 hv hf hto h40 L 0 2000000 L l _ d1 hMf2 (by omega) (by omega) (by omega)
          have hfin : fineF (L + cnt v L) (l ++ rlT v L 0 L ++ l.reverse) := ⟨by have := hfi.1; omega, hs.1, hll, fun t ht => by
            rcases List.mem_append.mp ht with ht | ht
            · rcases List.mem_append.mp ht with ht | ht
              · exact wf_mono (by omega) (hfi.2.2.2 t ht)
              · exact rlT_wf (L := L) L 0 L (by omega) (by omega) (by omega) t ht
            · exact wf_mono (by omega) (hfi.2.2.2 t (List.mem_reverse.mp ht))⟩
          have B : f_X13_roll mi mr ml x1 x2 x3 = some (nI (l ++ rlT v L 0 L ++ l.reverse).length, mr') := by
            have c1' : f_X13_copyFloor mi mr ml (nI f) 6 = some mr1 := c1
            rw [eB, c1', bd_some, hMf.1, nI_add, f_X13_roll_98, ck_t f8, cf, hMf2.1]
            exact m1
          have A : f_X11_roll i r P S x1 x2 x3 = some (nI (l ++ rlT v L 0 L ++ l.reverse).length, i4, r4, va_up P to p, va_up S to s) := by
            have a5' : f_X2_layRolled_26 (P f) (S f) 2000000 i3 r3 (nI v) (nI L) 0 = some (i4, r4) := a5
            rw [eA, f_X2_layRolled, k1, bd_some, a1, bd_some, a3, bd_some, hF.1, a5', bd_some, b1]
            rfl
          have hKM : KM to mr mr' := ((KM.of6 c3).tr (KM.of6 d2)).tr m3
          exact ⟨_, _, A, B, rfl, h.put hto hKM hfin b2 m2, to, hto, hKM⟩
        · by_cases h8 : L + cnt v L ≤ 8
          · rw [if_neg (show ¬ (8 : Int32) < nI (L + cnt v L) from nI_nlt (b := L + cnt v L) (a := 8) h8 (by omega)), if_neg (show ¬ nI (2 * l.length + cnt v L) ≤ (40 : Int32) from nI_ge (a := 40) (by omega) (by omega))] at eA eB
            exact refused _ eA eB
          · rw [if_pos (show (8 : Int32) < nI (L + cnt v L) from nI_lt (a := 8) (by omega) (by omega))] at eA eB
            exact refused _ eA eB
      · refine refused (-2) ?_ ?_
        · rw [f_X11_roll, ha, bd_some, if_pos rfl, he, bd_some, if_pos rfl]
          by_cases h1 : x2 < 1
          · rw [if_pos h1]
          · rw [if_neg h1, hx, ck_t f6, cf]
            rw [lt32, o32] at h1
            have hno : f_X2_hasNoRow (P f) (S f) x2 = some 1 := by
              rw [f_X2_hasNoRow, rows_ok hL8 hF, bd_some, if_neg (by rw [lt32, z32]; omega), if_neg (by rw [lt32, nI_toInt (by omega)]; omega)]
            rw [hno, bd_some, if_neg n10]
        · rw [f_X13_roll, hb, bd_some, if_neg n10, hf9, bd_some, if_neg n10, hx, ck_t f8, cf, hM.1, e1, f_in, bd_some, i2l_toInt, o64, pk_lT (by omega), if_neg hr, if_pos rfl]
    · exact refused (-2) (by rw [f_X11_roll, ha, bd_some, if_pos rfl, he, bd_some, if_neg n10]) (by rw [f_X13_roll, hb, bd_some, if_neg n10, hf9, bd_some, if_pos rfl])
  · exact refused (-2) (by rw [f_X11_roll, ha, bd_some, if_neg n10]) (by rw [f_X13_roll, hb, bd_some, if_pos rfl])
