/-! ===== FLOORS: steps over rows ===== -/
theorem sh1 {a : Nat} (h : a < 31) : (1 : Int32) <<< (nI a &&& 31) = nI (2 ^ a) := by
  have h1 := pk_shlN (n := 1) (nI a &&& 31) a (s_l a (by omega)) (by
    have := Nat.pow_lt_pow_right (a := 2) (by omega) (show a < 32 by omega)
    omega)
  rw [Nat.one_mul] at h1
  exact h1
theorem shN {t a : Nat} (ht : t < 2) (h : a < 30) : nI t <<< (nI a &&& 31) = nI (t * 2 ^ a) := pk_shlN (nI a &&& 31) a (s_l a (by omega)) (by
  have := Nat.pow_lt_pow_right (a := 2) (by omega) (show a < 30 by omega)
  have h2 : t * 2 ^ a ≤ 1 * 2 ^ a := Nat.mul_le_mul_right _ (by omega)
  omega)
theorem shr {v a : Nat} (hv : v < 2 ^ 31) (h : a < 32) : nI v >>> (nI a &&& 31) = nI (v / 2 ^ a) := pk_shrN hv (nI a &&& 31) a (s_l a h)
theorem and1 {v : Nat} (hv : v < 2 ^ 32) : nI v &&& 1 = nI (v % 2) := pk_andN hv (m := 1) 1 (by decide)
/-- a step: the lane, the other lane of a swap, the ifs -/
abbrev FSt : Type := Nat × Option Nat × Nat
def wfS (L : Nat) (t : FSt) : Prop := t.1 < L ∧ t.2.2 < 2 ^ L ∧ t.2.2.testBit t.1 = false ∧ ∀ b, t.2.1 = some b → b < L ∧ b ≠ t.1 ∧ t.2.2.testBit b = false
def kI (t : FSt) : Int32 := match t.2.1 with | none => 0 | some _ => 1
def oI (o : Option Nat) : Int32 := match o with | none => -1 | some b => nI b
def apS (t : FSt) (v : Nat) : Nat := if v &&& t.2.2 = t.2.2 then (match t.2.1 with | none => v ^^^ 2 ^ t.1 | some b => v ^^^ ((v / 2 ^ t.1 + v / 2 ^ b) % 2 * 2 ^ t.1) ^^^ ((v / 2 ^ t.1 + v / 2 ^ b) % 2 * 2 ^ b)) else v
def runS (l : List FSt) (v : Nat) : Nat := l.foldl (fun v t => apS t v) v
theorem p2 {L : Nat} (h : L ≤ 8) : 2 ^ L ≤ 256 := by
  have := Nat.pow_le_pow_right (n := 2) (by omega) h
  omega
theorem apS_lt {L : Nat} {t : FSt} {v : Nat} (ht : wfS L t) (hv : v < 2 ^ L) : apS t v < 2 ^ L := by
  obtain ⟨a, o, h⟩ := t
  obtain ⟨h1, h2, h3, h4⟩ := ht
  have ha : 2 ^ a < 2 ^ L := Nat.pow_lt_pow_right (by omega) h1
  unfold apS
  split
  · cases o with
    | none => exact Nat.xor_lt_two_pow hv ha
    | some b =>
      have hb : 2 ^ b < 2 ^ L := Nat.pow_lt_pow_right (by omega) (h4 b rfl).1
      have hm : ∀ x y : Nat, x % 2 * y ≤ y := fun x y => by
        have : x % 2 < 2 := Nat.mod_lt _ (by omega)
        have h9 : x % 2 * y ≤ 1 * y := Nat.mul_le_mul_right _ (by omega)
        omega
      exact Nat.xor_lt_two_pow (Nat.xor_lt_two_pow hv (Nat.lt_of_le_of_lt (hm _ _) ha)) (Nat.lt_of_le_of_lt (hm _ _) hb)
  · exact hv
theorem runS_lt {L : Nat} : ∀ {l : List FSt} {v : Nat}, (∀ t ∈ l, wfS L t) → v < 2 ^ L → runS l v < 2 ^ L
  | [], v, _, hv => hv
  | t :: l, v, h, hv => by
    show runS l (apS t v) < 2 ^ L
    exact runS_lt (fun x hx => h x (List.mem_cons_of_mem _ hx)) (apS_lt (h t List.mem_cons_self) hv)
/-- a FLOOR of the class -/
def FL (L : Nat) (l : List FSt) (i : Nat → Int32) (r : Nat → Nat → Int32) : Prop := i 4 = nI L ∧ i 5 = nI l.length ∧ ∀ k t, l[k]? = some t → r 0 k = kI t ∧ r 1 k = nI t.1 ∧ r 2 k = oI t.2.1 ∧ r 3 k = nI t.2.2
/-- FLOOR j of the reference -/
def MF (L : Nat) (l : List FSt) (mr : Nat → Nat → Int32) (j : Nat) : Prop := mr 10 j = nI L ∧ mr 11 j = nI l.length ∧ ∀ k t, l[k]? = some t → mr 12 (40 * j + k) = nI t.1 ∧ mr 13 (40 * j + k) = oI t.2.1 ∧ mr 14 (40 * j + k) = nI t.2.2
def fineF (L : Nat) (l : List FSt) : Prop := 1 ≤ L ∧ L ≤ 8 ∧ l.length ≤ 40 ∧ ∀ t ∈ l, wfS L t
def GF (P : Nat → Nat → Int32) (S : Nat → Nat → Nat → Int32) (mr : Nat → Nat → Int32) : Prop := ∀ j, j < 6 → ∃ L l, fineF L l ∧ FL L l (P j) (S j) ∧ MF L l mr j
theorem GF.congr {P P' : Nat → Nat → Int32} {S S' : Nat → Nat → Nat → Int32} {mr mr' : Nat → Nat → Int32} (h : GF P S mr) (hp : P' = P) (hs : S' = S) (h0 : mr' 10 = mr 10) (h1 : mr' 11 = mr 11) (h2 : mr' 12 = mr 12) (h3 : mr' 13 = mr 13) (h4 : mr' 14 = mr 14) : GF P' S' mr' := by
  subst hp
  subst hs
  unfold GF MF at h ⊢
  rw [h0, h1, h2, h3, h4]
  exact h
theorem and_eqN {v h : Nat} (hv : v < 2 ^ 31) (hh : h < 2 ^ 31) : (nI v &&& nI h = nI h) ↔ v &&& h = h := by
  rw [fa_and]
  exact nI_eq (Nat.lt_of_le_of_lt Nat.and_le_left hv) hh
theorem xor_mod2 (a b : Nat) : (a ^^^ b) % 2 = (a + b) % 2 := by
  have h : (a ^^^ b).testBit 0 = (a.testBit 0 ^^ b.testBit 0) := Nat.testBit_xor ..
  simp only [Nat.testBit_zero] at h
  rcases Nat.mod_two_eq_zero_or_one a with h1 | h1 <;> rcases Nat.mod_two_eq_zero_or_one b with h2 | h2 <;> rcases Nat.mod_two_eq_zero_or_one (a ^^^ b) with h3 | h3 <;> simp only [h1, h2, h3] at h <;> first | (exact absurd h (by decide)) | omega
theorem kI0 {t : FSt} : (kI t = 0) ↔ t.2.1 = none := by
  obtain ⟨a, o, h⟩ := t
  cases o with
  | none => exact ⟨fun _ => rfl, fun _ => rfl⟩
  | some b => exact ⟨fun q => absurd q (by show ¬ (1 : Int32) = 0; decide), fun q => by cases q⟩
theorem pass_ok {L : Nat} {l : List FSt} {i : Nat → Int32} {r : Nat → Nat → Int32} (hf : fineF L l) (h : FL L l i r) {k v : Nat} {t : FSt} (hk : l[k]? = some t) (hv : v < 2 ^ L) : f_X2_pass i r (nI v) (nI k) = some (nI (apS t v)) := by
  obtain ⟨h1, h2, h3, h4⟩ := hf
  obtain ⟨c0, c1, c2, c3⟩ := h.2.2 k t hk
  have hkl : k < 40 := by have := (List.getElem?_eq_some_iff.mp hk).1; omega
  obtain ⟨w1, w2, w3, w4⟩ := h4 t (List.mem_of_getElem? hk)
  have h256 := p2 h2
  obtain ⟨a, o, g⟩ := t
  have w2 : g < 2 ^ L := w2
  have w1 : a < L := w1
  have hi := inb_nI hkl (by omega)
  rw [f_X2_pass, ck_t hi, nI_clamp (by omega), c0, c1, c2, c3]
  unfold apS
  by_cases e : v &&& g = g
  · rw [if_pos ((and_eqN (by omega) (by omega)).mpr e), if_pos e, ck_t hi]
    cases o with
    | none =>
      rw [if_pos (kI0.mpr rfl), ck_t hi, sh1 (by omega), nx_xor]
    | some b =>
      have hb := (w4 b rfl).1
      rw [if_neg (fun q => by have := kI0.mp q; cases this), ck_t hi, ck_t hi, ck_t hi, ck_t hi]
      show some ((nI v ^^^ (((nI v >>> (nI a &&& 31)) ^^^ (nI v >>> (nI b &&& 31))) &&& 1) <<< (nI a &&& 31)) ^^^ (((nI v >>> (nI a &&& 31)) ^^^ (nI v >>> (nI b &&& 31))) &&& 1) <<< (nI b &&& 31)) = _
      have hx : v / 2 ^ a ^^^ v / 2 ^ b < 2 ^ 32 := Nat.xor_lt_two_pow (Nat.lt_of_le_of_lt (Nat.div_le_self _ _) (by omega)) (Nat.lt_of_le_of_lt (Nat.div_le_self _ _) (by omega))
      rw [shr (by omega) (by omega), shr (by omega) (by omega), nx_xor, and1 hx, xor_mod2, shN (Nat.mod_lt _ (by omega)) (by omega), shN (Nat.mod_lt _ (by omega)) (by omega), nx_xor, nx_xor]
  · rw [if_neg (fun q => e ((and_eqN (by omega) (by omega)).mp q)), if_neg e]
theorem drop_c {α : Type} {l : List α} {k : Nat} (h : k < l.length) : ∃ t, l[k]? = some t ∧ l.drop k = t :: l.drop (k + 1) := ⟨l[k], List.getElem?_eq_getElem h, List.drop_eq_getElem_cons h⟩
theorem rev_at {α : Type} {l : List α} {k : Nat} (h : k < l.length) : l.reverse[k]? = l[l.length - 1 - k]? := List.getElem?_reverse h
theorem outOf_go {L : Nat} {l l' : List FSt} {i : Nat → Int32} {r : Nat → Nat → Int32} (hf : fineF L l) (h : FL L l i r) {x : Int32} (hx : (x = 0 ∧ l' = l) ∨ (¬ x = 0 ∧ l' = l.reverse)) : ∀ (d k n v : Nat), k + d = l.length → d < n → v < 2 ^ L → f_X2_outOf_5 i r n x (nI v) (nI k) = some (nI (runS (l'.drop k) v)) := by
  have hlen : l'.length = l.length := by
    rcases hx with ⟨-, e⟩ | ⟨-, e⟩
    · rw [e]
    · rw [e, List.length_reverse]
  have h40 := hf.2.2.1
  intro d
  induction d with
  | zero =>
    intro k n v hk hn hv
    obtain ⟨m, rfl⟩ : ∃ m, n = m + 1 := ⟨n - 1, by omega⟩
    rw [f_X2_outOf_5, h.2.1, if_pos (nI_le (by omega) (by omega)), List.drop_eq_nil_of_le (by omega)]
    rfl
  | succ d ih =>
    intro k n v hk hn hv
    obtain ⟨m, rfl⟩ : ∃ m, n = m + 1 := ⟨n - 1, by omega⟩
    obtain ⟨t, ht, hd⟩ := drop_c (l := l') (k := k) (by omega)
    have hnext : ∀ t, t ∈ l → apS t v < 2 ^ L := fun t ht => apS_lt (hf.2.2.2 t ht) hv
    rw [f_X2_outOf_5, h.2.1, if_neg (nI_ge (by omega) (by omega)), hd]
    rcases hx with ⟨e1, e2⟩ | ⟨e1, e2⟩
    · rw [if_pos e1, f_X2_outOf_34]
      rw [e2] at ht
      rw [pass_ok hf h ht hv, bd_some, nI_1, ih (k + 1) m (apS t v) (by omega) (by omega) (hnext t (List.mem_of_getElem? ht))]
      rfl
    · rw [if_neg e1, f_X2_outOf_34]
      rw [e2, rev_at (by omega)] at ht
      rw [show nI l.length - 1 - nI k = nI (l.length - 1 - k) from by rw [show (1 : Int32) = nI 1 from rfl, pk_sub (by omega), pk_sub (by omega)], pass_ok hf h ht hv, bd_some, nI_1, ih (k + 1) m (apS t v) (by omega) (by omega) (hnext t (List.mem_of_getElem? ht))]
      rfl
theorem outOf_ok {L : Nat} {l : List FSt} {i : Nat → Int32} {r : Nat → Nat → Int32} (hf : fineF L l) (h : FL L l i r) {v : Nat} (hv : v < 2 ^ L) : f_X2_outOf i r (nI v) 0 = some (nI (runS l v)) := by
  have h40 := hf.2.2.1
  rw [f_X2_outOf]
  exact outOf_go hf h (Or.inl ⟨rfl, rfl⟩) l.length 0 2000000 v (by omega) (by omega) hv
theorem outOf_back {L : Nat} {l : List FSt} {i : Nat → Int32} {r : Nat → Nat → Int32} (hf : fineF L l) (h : FL L l i r) {v : Nat} (hv : v < 2 ^ L) {x : Int32} (hx : ¬ x = 0) : f_X2_outOf i r (nI v) x = some (nI (runS l.reverse v)) := by
  have h40 := hf.2.2.1
  rw [f_X2_outOf]
  exact outOf_go hf h (Or.inr ⟨hx, rfl⟩) l.length 0 2000000 v (by omega) (by omega) hv
/-! the reference's side -/
theorem bit_ok (v a : Nat) (hv : v < 2 ^ 31) (ha : a < 32) : f_X13_bit (nI v) (nI a) = some (nI (v / 2 ^ a % 2)) := by
  rw [f_X13_bit, shr hv ha, and1 (Nat.lt_of_le_of_lt (Nat.div_le_self _ _) (by omega))]
theorem or_pow {a b : Nat} (h : a ≠ b) : 2 ^ a ||| 2 ^ b = 2 ^ a ^^^ 2 ^ b := by
  apply Nat.eq_of_testBit_eq
  intro i
  rw [Nat.testBit_or, Nat.testBit_xor, Nat.testBit_two_pow, Nat.testBit_two_pow]
  by_cases h1 : a = i
  · by_cases h2 : b = i
    · exact absurd (h1.trans h2.symm) h
    · simp [h1, h2]
  · simp [h1]
theorem done_ok {L : Nat} {t : FSt} {v : Nat} (hL : L ≤ 8) (ht : wfS L t) (hv : v < 2 ^ L) : f_X13_done (nI t.1) (oI t.2.1) (nI t.2.2) (nI v) = some (nI (apS t v)) := by
  obtain ⟨a, o, g⟩ := t
  obtain ⟨w1, w2, w3, w4⟩ := ht
  have w2 : g < 2 ^ L := w2
  have w1 : a < L := w1
  have h256 := p2 hL
  rw [f_X13_done]
  unfold apS
  by_cases e : v &&& g = g
  · rw [if_pos ((and_eqN (by omega) (by omega)).mpr e), if_pos e]
    cases o with
    | none =>
      show (if (-1 : Int32) = -1 then some (nI v ^^^ (1 : Int32) <<< (nI a &&& 31)) else _) = some (nI (v ^^^ 2 ^ a))
      rw [if_pos rfl, sh1 (by omega), nx_xor]
    | some b =>
      have hb := w4 b rfl
      have hb1 : b < L := hb.1
      rw [if_neg (show ¬ oI (some b) = -1 from nm1 (by omega))]
      show bd (f_X13_bit (nI v) (nI a)) (fun q3 => bd (f_X13_bit (nI v) (nI b)) (fun q4 => if q3 = q4 then some (nI v) else some (nI v ^^^ ((1 : Int32) <<< (nI a &&& 31) ||| (1 : Int32) <<< (nI b &&& 31))))) = some (nI (v ^^^ ((v / 2 ^ a + v / 2 ^ b) % 2 * 2 ^ a) ^^^ ((v / 2 ^ a + v / 2 ^ b) % 2 * 2 ^ b)))
      rw [bit_ok v a (by omega) (by omega), bd_some, bit_ok v b (by omega) (by omega), bd_some]
      have m1 : v / 2 ^ a % 2 < 2 := Nat.mod_lt _ (by omega)
      have m2 : v / 2 ^ b % 2 < 2 := Nat.mod_lt _ (by omega)
      by_cases e2 : v / 2 ^ a % 2 = v / 2 ^ b % 2
      · rw [if_pos (by rw [e2]), show (v / 2 ^ a + v / 2 ^ b) % 2 = 0 by omega]
        simp
      · rw [if_neg (fun q => e2 (nI_inj (by omega) (by omega) q)), show (v / 2 ^ a + v / 2 ^ b) % 2 = 1 by omega, sh1 (by omega), sh1 (by omega), fa_or, nx_xor, or_pow (fun q => hb.2.1 q.symm), Nat.one_mul, Nat.one_mul, Nat.xor_assoc]
  · rw [if_neg (fun q => e ((and_eqN (by omega) (by omega)).mp q)), if_neg e]
theorem mul40 {j k : Nat} : 40 * nI j + nI k = nI (40 * j + k) := by
  rw [show (40 : Int32) = nI 40 from rfl, pk_mul, nI_add]
theorem outBut_go {L j : Nat} {l l' : List FSt} {mi : Nat → Int32} {mr : Nat → Nat → Int32} {ml : Nat → Nat → Int64} (hj : j < 8) (hf : fineF L l) (h : MF L l mr j) {x : Int32} (hx : (x = 0 ∧ l' = l) ∨ (¬ x = 0 ∧ l' = l.reverse)) : ∀ (d k n v : Nat), k + d = l.length → d < n → v < 2 ^ L → f_X13_outBut_6 mi mr ml n (nI j) x (-1) (nI v) (nI k) = some (nI (runS (l'.drop k) v)) := by
  have hlen : l'.length = l.length := by
    rcases hx with ⟨-, e⟩ | ⟨-, e⟩
    · rw [e]
    · rw [e, List.length_reverse]
  have h40 := hf.2.2.1
  have ij := inb_nI (N := 8) hj (by omega)
  have cj : (nI j).toNatClampNeg = j := nI_clamp (by omega)
  have stp : ∀ (K : Int32 → Int32 → Int32 → Int32 → Int32 → Option Int32) (k z v : Nat) (t : FSt), l[z]? = some t → v < 2 ^ L → f_X13_outBut_37 mi mr ml K (nI j) x (-1) (nI v) (nI k) (nI z) = K (nI j) x (-1) (nI (apS t v)) (nI (k + 1)) := by
    intro K k z v t ht hv
    have hz : z < 40 := by have := (List.getElem?_eq_some_iff.mp ht).1; omega
    obtain ⟨c1, c2, c3⟩ := h.2.2 z t ht
    have i3 := inb_nI (n := 40 * j + z) (N := 320) (by omega) (by omega)
    rw [f_X13_outBut_37, if_neg (nm1 (by omega)), mul40, ck_t i3, ck_t i3, ck_t i3, nI_clamp (by omega), c1, c2, c3, done_ok hf.2.1 (hf.2.2.2 t (List.mem_of_getElem? ht)) hv, bd_some, f_X13_outBut_83, nI_1]
  intro d
  induction d with
  | zero =>
    intro k n v hk hn hv
    obtain ⟨m, rfl⟩ : ∃ m, n = m + 1 := ⟨n - 1, by omega⟩
    rw [f_X13_outBut_6, ck_t ij, cj, h.2.1, if_pos (nI_le (by omega) (by omega)), List.drop_eq_nil_of_le (by omega)]
    rfl
  | succ d ih =>
    intro k n v hk hn hv
    obtain ⟨m, rfl⟩ : ∃ m, n = m + 1 := ⟨n - 1, by omega⟩
    obtain ⟨t, ht, hd⟩ := drop_c (l := l') (k := k) (by omega)
    have hnext : ∀ t, t ∈ l → apS t v < 2 ^ L := fun t ht => apS_lt (hf.2.2.2 t ht) hv
    rw [f_X13_outBut_6, ck_t ij, cj, h.2.1, if_neg (nI_ge (by omega) (by omega)), hd]
    rcases hx with ⟨e1, e2⟩ | ⟨e1, e2⟩
    · rw [e2] at ht
      rw [if_pos e1, stp _ k k v t ht hv, ih (k + 1) m (apS t v) (by omega) (by omega) (hnext t (List.mem_of_getElem? ht))]
      rfl
    · rw [e2, rev_at (by omega)] at ht
      rw [if_neg e1, ck_t ij, show nI l.length - 1 - nI k = nI (l.length - 1 - k) from by rw [show (1 : Int32) = nI 1 from rfl, pk_sub (by omega), pk_sub (by omega)], stp _ k _ v t ht hv, ih (k + 1) m (apS t v) (by omega) (by omega) (hnext t (List.mem_of_getElem? ht))]
      rfl
theorem outBut_ok {L j : Nat} {l : List FSt} {mi : Nat → Int32} {mr : Nat → Nat → Int32} {ml : Nat → Nat → Int64} (hj : j < 8) (hf : fineF L l) (h : MF L l mr j) {v : Nat} (hv : v < 2 ^ L) : f_X13_outBut mi mr ml (nI j) (nI v) 0 (-1) = some (nI (runS l v)) := by
  have h40 := hf.2.2.1
  rw [f_X13_outBut]
  exact outBut_go hj hf h (Or.inl ⟨rfl, rfl⟩) l.length 0 2000000 v (by omega) (by omega) hv
theorem outBut_back {L j : Nat} {l : List FSt} {mi : Nat → Int32} {mr : Nat → Nat → Int32} {ml : Nat → Nat → Int64} (hj : j < 8) (hf : fineF L l) (h : MF L l mr j) {v : Nat} (hv : v < 2 ^ L) {x : Int32} (hx : ¬ x = 0) : f_X13_outBut mi mr ml (nI j) (nI v) x (-1) = some (nI (runS l.reverse v)) := by
  have h40 := hf.2.2.1
  rw [f_X13_outBut]
  exact outBut_go hj hf h (Or.inr ⟨hx, rfl⟩) l.length 0 2000000 v (by omega) (by omega) hv
