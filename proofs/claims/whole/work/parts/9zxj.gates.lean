/-! ===== least: the reference's gates ===== -/
def ACd : List Nat := List.range 24 ++ (List.range' 72 16 ++ List.range' 112 8)
def vGc (k c : Nat) : Bool := if 64 ≤ c then (!(c % 8).testBit ((c - 64) / 32) && (!(c % 8).testBit (c / 8 % 4) && k.testBit (3 + cnt (c % 8) 10))) else (!(c % 8).testBit (c / 8) && k.testBit (cnt (c % 8) 10))
def flA (k t : Nat) : List Nat := (ACd.take t).filter (vGc k)
theorem flA_48 : ∀ k : Fin 32, flA k.1 48 = gsK k.1 := by decide
theorem flA_succ {k t c : Nat} (h : ACd[t]? = some c) : flA k (t + 1) = flA k t ++ (if vGc k c = true then [c] else []) := by
  obtain ⟨a, b⟩ := List.getElem?_eq_some_iff.mp h
  unfold flA
  rw [List.take_succ_eq_append_getElem a, List.filter_append, b]
  congr 1
  cases q : vGc k c <;> simp [q]
theorem flA_le {k t : Nat} (hk : k < 32) : (flA k t).length ≤ 18 := by
  have h : (flA k t).length ≤ (flA k 48).length := by
    have e : ACd.take 48 = ACd := by decide
    show ((ACd.take t).filter _).length ≤ ((ACd.take 48).filter _).length
    rw [e]
    exact ((List.take_sublist t ACd).filter _).length_le
  have e48 : flA k 48 = gsK k := flA_48 ⟨k, hk⟩
  rw [e48] at h
  have := gsK_len k
  omega
theorem bit_if1 {v a : Nat} (hv : v < 2 ^ 31) (ha : a < 31) : ((nI v >>> (nI a &&& 31)) &&& 1 = 1) ↔ v.testBit a = true := by
  rw [shr hv (by omega), and1 (Nat.lt_of_le_of_lt (Nat.div_le_self _ _) (by omega)), dm_bit]
  cases v.testBit a <;> decide
def Fr24 (i : Nat → Int32) (r : Nat → Nat → Int32) (i' : Nat → Int32) (r' : Nat → Nat → Int32) : Prop := (∀ q, q ≠ 24 → i' q = i q) ∧ ∀ q, q < 21 ∨ 23 < q → r' q = r q
theorem Fr24.rf (i : Nat → Int32) (r : Nat → Nat → Int32) : Fr24 i r i r := ⟨fun _ _ => rfl, fun _ _ => rfl⟩
theorem Fr24.tr {i i' i'' : Nat → Int32} {r r' r'' : Nat → Nat → Int32} (h : Fr24 i r i' r') (g : Fr24 i' r' i'' r'') : Fr24 i r i'' r'' := ⟨fun q hq => (g.1 q hq).trans (h.1 q hq), fun q hq => (g.2 q hq).trans (h.2 q hq)⟩
theorem gate_ok {lst : List Nat} {i : Nat → Int32} {r : Nat → Nat → Int32} {l : Nat → Nat → Int64} {c : Nat} {x y z : Int32} (hG : GA lst i r) (hl : lst.length < 18) (hx : x = nI (gF c).1) (hy : y = oI (gF c).2.1) (hz : z = nI (gF c).2.2) : ∃ i' r', f_X13_gate i r l x y z = some (i', r') ∧ GA (lst ++ [c]) i' r' ∧ Fr24 i r i' r' := by
  subst hx hy hz
  have ic := inb_nI (N := 18) (n := lst.length) hl (by omega)
  refine ⟨upd i 24 (nI (lst.length + 1)), va_up (va_up (va_up r 21 (upd (r 21) lst.length (nI (gF c).1))) 22 (upd (r 22) lst.length (oI (gF c).2.1))) 23 (upd (r 23) lst.length (nI (gF c).2.2)), ?_, ⟨?_, fun j g hg => ?_⟩, fun q hq => pk_un hq, fun q hq => ?_⟩
  · rw [f_X13_gate, hG.1, ck_t ic, ck_t ic, f_X13_gate_20, hG.1, ck_t ic, nI_1, nI_clamp (by omega)]
    simp only [up_n (show (23 : Nat) ≠ 22 by omega), up_n (show (23 : Nat) ≠ 21 by omega)]
  · rw [pk_us, List.length_append]
    rfl
  · rw [up_n (show (21 : Nat) ≠ 23 by omega), up_n (show (21 : Nat) ≠ 22 by omega), up_s, up_n (show (22 : Nat) ≠ 23 by omega), up_s, up_s]
    by_cases q : j < lst.length
    · rw [List.getElem?_append_left q] at hg
      rw [pk_un (by omega), pk_un (by omega), pk_un (by omega)]
      exact hG.2 j g hg
    · rw [List.getElem?_append_right (by omega)] at hg
      have h1 : j - lst.length < 1 := (List.getElem?_eq_some_iff.mp hg).1
      have e : j = lst.length := by omega
      subst e
      rw [Nat.sub_self] at hg
      have e : c = g := Option.some.inj hg
      subst e
      exact ⟨pk_us, pk_us, pk_us⟩
  · rw [up_n (by omega), up_n (by omega), up_n (by omega)]
theorem gturn_go {k a : Nat} (hk : k < 32) (ha : a < 3) {l : Nat → Nat → Int64} {K7 : (Nat → Int32) → (Nat → Nat → Int32) → Int32 → Int32 → Option ((Nat → Int32) × (Nat → Nat → Int32))} (hc : ∀ s, s < 8 → ACd[8 * a + s]? = some (8 * a + s)) : ∀ (d s n : Nat) (i : Nat → Int32) (r : Nat → Nat → Int32), s + d = 8 → d < n → GA (flA k (8 * a + s)) i r → ∃ i' r', f_X13_findGates_14 l K7 n i r (nI k) (nI a) (nI s) = K7 i' r' (nI k) (nI (a + 1)) ∧ GA (flA k (8 * a + 8)) i' r' ∧ Fr24 i r i' r' := by
  intro d
  induction d with
  | zero =>
    intro s n i r hs hn hG
    obtain ⟨m, rfl⟩ : ∃ m, n = m + 1 := ⟨n - 1, by omega⟩
    have e : s = 8 := by omega
    subst e
    refine ⟨i, r, ?_, hG, Fr24.rf i r⟩
    rw [f_X13_findGates_14, if_pos (show (8 : Int32) ≤ nI 8 from nI_le (a := 8) (by omega) (by omega)), nI_1]
  | succ d ih =>
    intro s n i r hs hn hG
    obtain ⟨m, rfl⟩ : ∃ m, n = m + 1 := ⟨n - 1, by omega⟩
    have hsc := flA_succ (k := k) (hc s (by omega))
    have hle := flA_le (k := k) (t := 8 * a + s + 1) hk
    have hbits := (cnt_both s (by omega)).2
    have hcl := cnt_le s 10
    have ev : vGc k (8 * a + s) = (!s.testBit a && k.testBit (cnt s 10)) := by
      unfold vGc
      rw [if_neg (by omega), show (8 * a + s) % 8 = s by omega, show (8 * a + s) / 8 = a by omega]
    have eg : gF (8 * a + s) = (a, none, s) := by
      unfold gF
      rw [if_neg (by omega), show (8 * a + s) % 8 = s by omega, show (8 * a + s) / 8 = a by omega]
    rw [ev] at hsc
    rw [f_X13_findGates_14, if_neg (show ¬ (8 : Int32) ≤ nI s from nI_ge (b := 8) (by omega) (by omega))]
    have skip : flA k (8 * a + s + 1) = flA k (8 * a + s) → ∃ i' r', f_X13_findGates_47 l K7 (f_X13_findGates_14 l K7 m) i r (nI k) (nI a) (nI s) = K7 i' r' (nI k) (nI (a + 1)) ∧ GA (flA k (8 * a + 8)) i' r' ∧ Fr24 i r i' r' := fun e => by
      rw [f_X13_findGates_47, nI_1]
      exact ih (s + 1) m i r (by omega) (by omega) (by rw [← Nat.add_assoc, e]; exact hG)
    cases q1 : s.testBit a with
    | true =>
      rw [q1, Bool.not_true, Bool.false_and, if_neg (by decide), List.append_nil] at hsc
      rw [if_neg (fun z => by rw [(bit_if (by omega) (by omega)).mp z] at q1; cases q1)]
      exact skip hsc
    | false =>
      rw [if_pos ((bit_if (by omega) (by omega)).mpr q1), hbits, bd_some]
      cases q2 : k.testBit (cnt s 10) with
      | false =>
        rw [q2, Bool.and_false, if_neg (by decide), List.append_nil] at hsc
        rw [if_neg (fun z => by rw [(bit_if1 (by omega) (by omega)).mp z] at q2; cases q2)]
        exact skip hsc
      | true =>
        rw [q1, q2, if_pos (show (!false && true) = true from rfl)] at hsc
        rw [hsc, List.length_append] at hle
        have hle : (flA k (8 * a + s)).length + 1 ≤ 18 := hle
        obtain ⟨i1, r1, b1, b2, b3⟩ := gate_ok (l := l) (c := 8 * a + s) (x := nI a) (y := -1) (z := nI s) hG (by omega) (by rw [eg]) (by rw [eg]; rfl) (by rw [eg])
        rw [← hsc] at b2
        obtain ⟨i', r', c1, c2, c3⟩ := ih (s + 1) m i1 r1 (by omega) (by omega) b2
        refine ⟨i', r', ?_, c2, b3.tr c3⟩
        rw [if_pos ((bit_if1 (by omega) (by omega)).mpr q2), b1, bd_some, f_X13_findGates_47, nI_1]
        exact c1
theorem gswap_go {k a b t : Nat} (hk : k < 32) (hab : a < b) (hb : b < 3) {l : Nat → Nat → Int64} {K61 : (Nat → Int32) → (Nat → Nat → Int32) → Int32 → Int32 → Option ((Nat → Int32) × (Nat → Nat → Int32))} {K70 : (Nat → Int32) → (Nat → Nat → Int32) → Int32 → Int32 → Int32 → Option ((Nat → Int32) × (Nat → Nat → Int32))} (hc : ∀ s, s < 8 → ACd[t + s]? = some (64 + 32 * a + 8 * b + s)) : ∀ (d s n : Nat) (i : Nat → Int32) (r : Nat → Nat → Int32), s + d = 8 → d < n → GA (flA k (t + s)) i r → ∃ i' r', f_X13_findGates_78 l K61 K70 n i r (nI k) (nI a) (nI b) (nI s) = K70 i' r' (nI k) (nI a) (nI (b + 1)) ∧ GA (flA k (t + 8)) i' r' ∧ Fr24 i r i' r' := by
  intro d
  induction d with
  | zero =>
    intro s n i r hs hn hG
    obtain ⟨m, rfl⟩ : ∃ m, n = m + 1 := ⟨n - 1, by omega⟩
    have e : s = 8 := by omega
    subst e
    refine ⟨i, r, ?_, hG, Fr24.rf i r⟩
    rw [f_X13_findGates_78, if_pos (show (8 : Int32) ≤ nI 8 from nI_le (a := 8) (by omega) (by omega)), nI_1]
  | succ d ih =>
    intro s n i r hs hn hG
    obtain ⟨m, rfl⟩ : ∃ m, n = m + 1 := ⟨n - 1, by omega⟩
    have hsc := flA_succ (k := k) (hc s (by omega))
    have hle := flA_le (k := k) (t := t + s + 1) hk
    have hbits := (cnt_both s (by omega)).2
    have hcl := cnt_le s 10
    have m1 : (64 + 32 * a + 8 * b + s) % 8 = s := by omega
    have m2 : (64 + 32 * a + 8 * b + s - 64) / 32 = a := by omega
    have m3 : (64 + 32 * a + 8 * b + s) / 8 % 4 = b := by omega
    have ev : vGc k (64 + 32 * a + 8 * b + s) = (!s.testBit a && (!s.testBit b && k.testBit (3 + cnt s 10))) := by
      unfold vGc
      rw [if_pos (by omega), m1, m2, m3]
    have eg : gF (64 + 32 * a + 8 * b + s) = (a, some b, s) := by
      unfold gF
      rw [if_pos (by omega), m1, m2, m3]
    rw [ev] at hsc
    rw [f_X13_findGates_78, if_neg (show ¬ (8 : Int32) ≤ nI s from nI_ge (b := 8) (by omega) (by omega))]
    have skip : flA k (t + s + 1) = flA k (t + s) → ∃ i' r', f_X13_findGates_126 l K61 K70 (f_X13_findGates_78 l K61 K70 m) i r (nI k) (nI a) (nI b) (nI s) = K70 i' r' (nI k) (nI a) (nI (b + 1)) ∧ GA (flA k (t + 8)) i' r' ∧ Fr24 i r i' r' := fun e => by
      rw [f_X13_findGates_126, nI_1]
      exact ih (s + 1) m i r (by omega) (by omega) (by rw [← Nat.add_assoc, e]; exact hG)
    cases q1 : s.testBit a with
    | true =>
      rw [q1, Bool.not_true, Bool.false_and, if_neg (by decide), List.append_nil] at hsc
      rw [if_neg (fun z => by rw [(bit_if (by omega) (by omega)).mp z] at q1; cases q1)]
      exact skip hsc
    | false =>
      rw [if_pos ((bit_if (by omega) (by omega)).mpr q1)]
      cases q3 : s.testBit b with
      | true =>
        rw [q3, Bool.not_true, Bool.false_and, Bool.and_false, if_neg (by decide), List.append_nil] at hsc
        rw [if_neg (fun z => by rw [(bit_if (by omega) (by omega)).mp z] at q3; cases q3)]
        exact skip hsc
      | false =>
        rw [if_pos ((bit_if (by omega) (by omega)).mpr q3), hbits, bd_some, show (3 : Int32) + nI (cnt s 10) = nI (3 + cnt s 10) from nI_add 3 _]
        cases q2 : k.testBit (3 + cnt s 10) with
        | false =>
          rw [q2, Bool.and_false, Bool.and_false, if_neg (by decide), List.append_nil] at hsc
          rw [if_neg (fun z => by rw [(bit_if1 (by omega) (by omega)).mp z] at q2; cases q2)]
          exact skip hsc
        | true =>
          rw [q1, q2, q3, if_pos (show (!false && (!false && true)) = true from rfl)] at hsc
          rw [hsc, List.length_append] at hle
          have hle : (flA k (t + s)).length + 1 ≤ 18 := hle
          obtain ⟨i1, r1, b1, b2, b3⟩ := gate_ok (l := l) (c := 64 + 32 * a + 8 * b + s) (x := nI a) (y := nI b) (z := nI s) hG (by omega) (by rw [eg]) (by rw [eg]; rfl) (by rw [eg])
          rw [← hsc] at b2
          obtain ⟨i', r', c1, c2, c3⟩ := ih (s + 1) m i1 r1 (by omega) (by omega) b2
          refine ⟨i', r', ?_, c2, b3.tr c3⟩
          rw [if_pos ((bit_if1 (by omega) (by omega)).mpr q2), b1, bd_some, f_X13_findGates_126, nI_1]
          exact c1
theorem AC_t : ∀ a : Fin 3, ∀ s : Fin 8, ACd[8 * a.1 + s.1]? = some (8 * a.1 + s.1) := by decide
theorem AC_s : ∀ s : Fin 8, ACd[24 + s.1]? = some (64 + 32 * 0 + 8 * 1 + s.1) ∧ ACd[32 + s.1]? = some (64 + 32 * 0 + 8 * 2 + s.1) ∧ ACd[40 + s.1]? = some (64 + 32 * 1 + 8 * 2 + s.1) := by decide
/-- one swap pair, seen from the loop over the other lane -/
theorem gpair {k a b t n : Nat} (hk : k < 32) (hab : a < b) (hb : b < 3) {l : Nat → Nat → Int64} {K61 : (Nat → Int32) → (Nat → Nat → Int32) → Int32 → Int32 → Option ((Nat → Int32) × (Nat → Nat → Int32))} (hc : ∀ s, s < 8 → ACd[t + s]? = some (64 + 32 * a + 8 * b + s)) {i : Nat → Int32} {r : Nat → Nat → Int32} (hG : GA (flA k t) i r) : ∃ i' r', f_X13_findGates_70 l K61 (n + 1) i r (nI k) (nI a) (nI b) = f_X13_findGates_70 l K61 n i' r' (nI k) (nI a) (nI (b + 1)) ∧ GA (flA k (t + 8)) i' r' ∧ Fr24 i r i' r' := by
  obtain ⟨i', r', a1, a2, a3⟩ := gswap_go hk hab hb (l := l) (K61 := K61) (K70 := f_X13_findGates_70 l K61 n) hc 8 0 2000000 i r (by omega) (by omega) hG
  refine ⟨i', r', ?_, a2, a3⟩
  rw [f_X13_findGates_70, if_neg (show ¬ (3 : Int32) ≤ nI b from nI_ge (b := 3) (by omega) (by omega))]
  exact a1
theorem gates_ok {k : Nat} (hk : k < 32) (i : Nat → Int32) (r : Nat → Nat → Int32) (l : Nat → Nat → Int64) : ∃ i' r', f_X13_findGates i r l (nI k) = some (i', r') ∧ GA (gsK k) i' r' ∧ Fr24 i r i' r' := by
  have h0 : GA (flA k (8 * 0 + 0)) (upd i 24 0) r := ⟨pk_us, fun j g hg => by cases hg⟩
  have st7 : ∀ a n i r, a < 3 → GA (flA k (8 * a + 0)) i r → ∃ i' r', f_X13_findGates_7 l (n + 1) i r (nI k) (nI a) = f_X13_findGates_7 l n i' r' (nI k) (nI (a + 1)) ∧ GA (flA k (8 * a + 8)) i' r' ∧ Fr24 i r i' r' := fun a n i r ha hG => by
    obtain ⟨i', r', a1, a2, a3⟩ := gturn_go hk ha (l := l) (K7 := f_X13_findGates_7 l n) (fun s hs => AC_t ⟨a, ha⟩ ⟨s, hs⟩) 8 0 2000000 i r (by omega) (by omega) hG
    refine ⟨i', r', ?_, a2, a3⟩
    rw [f_X13_findGates_7, if_neg (show ¬ (3 : Int32) ≤ nI a from nI_ge (b := 3) (by omega) (by omega))]
    exact a1
  obtain ⟨N, eN⟩ : ∃ N, N + 4 = 2000000 := ⟨1999996, rfl⟩
  obtain ⟨i1, r1, a1, a2, a3⟩ := st7 0 (N + 3) _ _ (by omega) h0
  obtain ⟨i2, r2, b1, b2, b3⟩ := st7 1 (N + 2) i1 r1 (by omega) a2
  obtain ⟨i3, r3, c1, c2, c3⟩ := st7 2 (N + 1) i2 r2 (by omega) b2
  have e61 : ∀ a n i r, a < 3 → f_X13_findGates_61 l (n + 1) i r (nI k) (nI a) = f_X13_findGates_70 l (f_X13_findGates_61 l n) 2000000 i r (nI k) (nI a) (nI (a + 1)) := fun a n i r ha => by
    rw [f_X13_findGates_61, if_neg (show ¬ (3 : Int32) ≤ nI a from nI_ge (b := 3) (by omega) (by omega)), nI_1]
  have e70 : ∀ a n K i r, f_X13_findGates_70 l K (n + 1) i r (nI k) (nI a) (nI 3) = K i r (nI k) (nI (a + 1)) := fun a n K i r => by
    rw [f_X13_findGates_70, if_pos (show (3 : Int32) ≤ nI 3 from nI_le (a := 3) (by omega) (by omega)), nI_1]
  obtain ⟨i4, r4, d1, d2, d3⟩ := gpair (n := N + 3) hk (show 0 < 1 by omega) (by omega) (l := l) (K61 := f_X13_findGates_61 l (N + 3)) (fun s hs => (AC_s ⟨s, hs⟩).1) c2
  obtain ⟨i5, r5, f1, f2, f3⟩ := gpair (n := N + 2) hk (show 0 < 2 by omega) (by omega) (l := l) (K61 := f_X13_findGates_61 l (N + 3)) (fun s hs => (AC_s ⟨s, hs⟩).2.1) d2
  obtain ⟨i6, r6, g1, g2, g3⟩ := gpair (n := N + 3) hk (show 1 < 2 by omega) (by omega) (l := l) (K61 := f_X13_findGates_61 l (N + 2)) (fun s hs => (AC_s ⟨s, hs⟩).2.2) f2
  refine ⟨i6, r6, ?_, ?_, ?_⟩
  · have x1 : f_X13_findGates_7 l (N + 4) (upd i 24 0) r (nI k) (nI 0) = f_X13_findGates_61 l 2000000 i3 r3 (nI k) 0 := by
      rw [a1, b1, c1, f_X13_findGates_7, if_pos (show (3 : Int32) ≤ nI (2 + 1) from nI_le (a := 3) (by omega) (by omega))]
    have x2 : f_X13_findGates_61 l (N + 4) i3 r3 (nI k) (nI 0) = f_X13_findGates_61 l (N + 3) i5 r5 (nI k) (nI 1) := by
      rw [e61 0 (N + 3) i3 r3 (by omega), ← eN, d1, f1]
      exact e70 0 (N + 1) _ i5 r5
    have x3 : f_X13_findGates_61 l (N + 3) i5 r5 (nI k) (nI 1) = f_X13_findGates_61 l (N + 2) i6 r6 (nI k) (nI 2) := by
      rw [e61 1 (N + 2) i5 r5 (by omega), ← eN, g1]
      exact e70 1 (N + 2) _ i6 r6
    have x4 : f_X13_findGates_61 l (N + 2) i6 r6 (nI k) (nI 2) = some (i6, r6) := by
      rw [e61 2 (N + 1) i6 r6 (by omega), ← eN]
      have := e70 2 (N + 3) (f_X13_findGates_61 l (N + 1)) i6 r6
      refine this.trans ?_
      rw [f_X13_findGates_61, if_pos (show (3 : Int32) ≤ nI (2 + 1) from nI_le (a := 3) (by omega) (by omega))]
    rw [f_X13_findGates, ← eN]
    rw [← eN] at x1
    exact x1.trans (x2.trans (x3.trans x4))
  · rw [← flA_48 ⟨k, hk⟩]
    exact g2
  · have z : Fr24 i r (upd i 24 0) r := ⟨fun q hq => pk_un hq, fun _ _ => rfl⟩
    exact z.tr (a3.tr (b3.tr (c3.tr (d3.tr (f3.tr g3)))))
