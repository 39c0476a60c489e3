/-! ===== program: FACTORS ===== -/
theorem tb1 {T v : Nat} (hT : T < 2 ^ 31) (hv : v < 32) : (((nI T >>> (nI v &&& 31)) &&& 1) = 1) ↔ T.testBit v = true := by
  have h1 : T / 2 ^ v < 2 ^ 32 := Nat.lt_of_le_of_lt (Nat.div_le_self _ _) (by omega)
  have h2 : T / 2 ^ v % 2 < 2 := Nat.mod_lt _ (by omega)
  rw [shr hT hv, and1 h1, Nat.testBit_eq_decide_div_mod_eq, decide_eq_true_iff]
  constructor
  · intro h
    exact nI_inj (b := 1) (by omega) (by omega) h
  · intro h
    rw [h]
    rfl
/-- a FACTOR may stand here: a number, or a VAR whose letter isn't barred -/
def fineA (b : Nat → Nat) (N bar : Nat) (t : Nat × Nat) : Prop := tkK b N t = 2 ∨ ∃ v, ltN b N t = some v ∧ bar.testBit v = false
theorem cA_fine {b : Nat → Nat} {N M k p bar : Nat} {r1 mr r0 r2 : Nat → Nat → Int32} {l1 l2 : Nat → Nat → Int64} {i0 i1 i2 : Nat → Int32} (hX : CX b N M r1 l1 mr) (h : CA b N M k i1) (h8 : i0 8 = nI bar) (hb : bar < 2 ^ 31) (hf : fineA b N bar (tok b N k)) : f_X6_countAtom i0 r0 i1 r1 l1 i2 r2 l2 = f_X6_countAtom_40 r0 r1 l1 i2 r2 l2 i0 i1 1 := by
  rw [f_X6_countAtom, cletter hX h, bd_some, f_X9_kind, bd_some]
  by_cases hk : tkK b N (tok b N k) = 2
  · rw [if_pos ((kind_sm (x := 2) h (c := 2) (by omega) rfl).mpr hk), f_X6_countAtom_35]
  · rw [if_neg (fun z => hk ((kind_sm (x := 2) h (c := 2) (by omega) rfl).mp z))]
    rcases hf with q | ⟨v, ho, ht⟩
    · exact absurd q hk
    · have hv9 := (ltN_lt ho).1
      rw [ho, if_neg (oI_m1 (by omega)), h8, if_pos (show ((nI bar >>> (oI (some v) &&& 31)) &&& 1) = 0 from (tb0 hb (by omega)).mpr ht), f_X6_countAtom_35]
theorem cA_no {b : Nat → Nat} {N M k p bar : Nat} {r1 mr r0 r2 : Nat → Nat → Int32} {l1 l2 : Nat → Nat → Int64} {i0 i1 i2 : Nat → Int32} (hX : CX b N M r1 l1 mr) (h : CA b N M k i1) (h7 : i0 7 = nI p) (h8 : i0 8 = nI bar) (hb : bar < 2 ^ 31) (hf : ¬ fineA b N bar (tok b N k)) : f_X6_countAtom i0 r0 i1 r1 l1 i2 r2 l2 = some (upd i0 7 (nI (p + 1)), i1) := by
  have h40 : f_X6_countAtom_39 r0 r1 l1 i2 r2 l2 i0 i1 = some (upd i0 7 (nI (p + 1)), i1) := by
    rw [f_X6_countAtom_39, f_X6_countAtom_40, if_pos rfl, h7, nI_1]
  rw [f_X6_countAtom, cletter hX h, bd_some, f_X9_kind, bd_some, if_neg (fun z => hf (Or.inl ((kind_sm (x := 2) h (c := 2) (by omega) rfl).mp z)))]
  cases ho : ltN b N (tok b N k) with
  | none => rw [if_pos (show oI none = -1 from rfl), h40]
  | some v =>
    have hv9 := (ltN_lt ho).1
    rw [if_neg (oI_m1 (by omega)), h8, if_neg (show ¬ ((nI bar >>> (oI (some v) &&& 31)) &&& 1) = 0 from fun z => hf (Or.inr ⟨v, ho, (tb0 hb (by omega)).mp z⟩)), h40]
theorem s21_1 {r1 : Nat → Nat → Int32} {l1 l2 : Nat → Nat → Int64} (n : Nat) {i0 : Nat → Int32} {r0 : Nat → Nat → Int32} {i1 i2 : Nat → Int32} {r2 : Nat → Nat → Int32} {x : Nat} (hx : x ≤ 900) : f_X6_readSum_21 r1 l1 l2 (n + 1) i0 r0 i1 i2 r2 1 (nI x) = if i1 8 = 40 then (bd (f_X6_openBracket i0 r0 i1 r1 l1 i2 r2 l2) (fun q20 => f_X6_readSum_21 r1 l1 l2 n q20.1 q20.2.1 q20.2.2 i2 r2 1 (nI (x + 1)))) else (bd (f_X6_countAtom i0 r0 i1 r1 l1 i2 r2 l2) (fun q13 => if q13.2 8 = 2 then (bd (f_X9_number q13.2 r1 l1) (fun q17 => bd (f_X5_addCode i2 r2 l2 q17) (fun q18 => bd (f_X9_advance q13.2 r1 l1) (fun q19 => Gs r1 l1 l2 2000000 n q13.1 r0 q19 q18.1 q18.2 x)))) else (bd (f_X6_readVar q13.1 r0 q13.2 r1 l1 i2 r2 l2) (fun q15 => bd (f_X5_addCode i2 r2 l2 (10000 + q15.1)) (fun q16 => Gs r1 l1 l2 2000000 n q13.1 r0 q15.2 q16.1 q16.2 x))))) := by
  rw [f_X6_readSum_21, if_neg (show ¬ (900 : Int32) < nI x from nI_nlt (a := 900) (by omega) (by omega)), if_neg n10, f_X9_kind, bd_some]
  simp only [f_X6_readSum_110, nI_1, f_X9_kind, bd_some, r105]
def FacOK (b : Nat → Nat) (N M : Nat) (r1 : Nat → Nat → Int32) (l1 l2 ml : Nat → Nat → Int64) (bar d : Nat) : Prop := ∀ (k B p e n x : Nat) (CL : List Int32) (ML : List MKt) (i0 : Nat → Int32) (r0 : Nat → Nat → Int32) (i1 i2 : Nat → Int32) (r2 : Nat → Nat → Int32) (mi : Nat → Int32) (mr : Nat → Nat → Int32), CX b N M r1 l1 mr → SS b N M k B p bar CL ML i0 i1 i2 r2 mi mr → B ≤ 6 → 6 ≤ B + d → p ≤ 12 → CL.length + e ≤ k → ML.length ≤ CL.length → M + 2 ≤ k + n → x ≤ k → (∃ k' p' fe n' x' L i0' r0' i1' i2' r2' mi' mr', k < k' ∧ f_X13_readFactor (f_X13_readTerms d) mi mr ml = some (.inl (mi', mr')) ∧ f_X6_readSum_21 r1 l1 l2 n i0 r0 i1 i2 r2 1 (nI x) = Gs r1 l1 l2 fe n' i0' r0' i1' i2' r2' x' ∧ SS b N M k' B p' bar (CL ++ L.map cM) (ML ++ L) i0' i1' i2' r2' mi' mr' ∧ KC i0 r0 i2 r2 i0' r0' i2' r2' ∧ (∀ j, j ≤ B → r0' 2 j = r0 2 j) ∧ CL.length + L.length + e ≤ k' ∧ M + 2 ≤ k' + n' ∧ x' < k' ∧ p' = p + nA L ∧ p' ≤ 12 ∧ (∀ t ∈ L, okM t) ∧ (∀ m, pfd L m = some (m + 1)) ∧ B < fe ∧ mr' 1 = mr 1) ∨ (∃ i0' r0' i1' i2' r2' mi' mr' c, f_X13_readFactor (f_X13_readTerms d) mi mr ml = some (.inr (mi', mr')) ∧ f_X6_readSum_21 r1 l1 l2 n i0 r0 i1 i2 r2 1 (nI x) = some (i0', r0', i1', i2', r2') ∧ FT i1' mi' ∧ KC i0 r0 i2 r2 i0' r0' i2' r2' ∧ c ≤ 900 ∧ i2' 15 = nI c)
theorem fac_atom {b : Nat → Nat} {N M bar d k B p e n x : Nat} {r1 : Nat → Nat → Int32} {l1 l2 ml : Nat → Nat → Int64} {CL : List Int32} {ML : List MKt} {i0 : Nat → Int32} {r0 : Nat → Nat → Int32} {i1 i2 : Nat → Int32} {r2 : Nat → Nat → Int32} {mi : Nat → Int32} {mr : Nat → Nat → Int32} (hbar : bar < 2 ^ 31) (hX : CX b N M r1 l1 mr) (h : SS b N M k B p bar CL ML i0 i1 i2 r2 mi mr) (hB : B ≤ 6) (hp : p ≤ 12) (hc : CL.length + e ≤ k) (hm : ML.length ≤ CL.length) (hn : M + 2 ≤ k + n) (hx : x ≤ k) (hno : ¬ isS b N (tok b N k) 40 = true) : (∃ k' p' fe n' x' L i0' r0' i1' i2' r2' mi' mr', k < k' ∧ f_X13_readFactor (f_X13_readTerms d) mi mr ml = some (.inl (mi', mr')) ∧ f_X6_readSum_21 r1 l1 l2 n i0 r0 i1 i2 r2 1 (nI x) = Gs r1 l1 l2 fe n' i0' r0' i1' i2' r2' x' ∧ SS b N M k' B p' bar (CL ++ L.map cM) (ML ++ L) i0' i1' i2' r2' mi' mr' ∧ KC i0 r0 i2 r2 i0' r0' i2' r2' ∧ (∀ j, j ≤ B → r0' 2 j = r0 2 j) ∧ CL.length + L.length + e ≤ k' ∧ M + 2 ≤ k' + n' ∧ x' < k' ∧ p' = p + nA L ∧ p' ≤ 12 ∧ (∀ t ∈ L, okM t) ∧ (∀ m, pfd L m = some (m + 1)) ∧ B < fe ∧ mr' 1 = mr 1) ∨ (∃ i0' r0' i1' i2' r2' mi' mr' c, f_X13_readFactor (f_X13_readTerms d) mi mr ml = some (.inr (mi', mr')) ∧ f_X6_readSum_21 r1 l1 l2 n i0 r0 i1 i2 r2 1 (nI x) = some (i0', r0', i1', i2', r2') ∧ FT i1' mi' ∧ KC i0 r0 i2 r2 i0' r0' i2' r2' ∧ c ≤ 900 ∧ i2' 15 = nI c) := by
  obtain ⟨hA, ⟨h6, h7, h8⟩, ⟨m5, m4, m3⟩, hCL, hML⟩ := h
  have hM := hX.2.1
  have hkM := hA.1.1
  obtain ⟨n, rfl⟩ : ∃ m, n = m + 1 := ⟨n - 1, by omega⟩
  have hin := ca_in hX hA.1
  have n40 : ¬ i1 8 = 40 := fun z => hno ((kind_if (c := 40) hA.1 (by omega) (by omega) rfl).mp z)
  have s40 : f_X13_isSign mi mr ml 40 = some 0 := by
    have : f_X13_isSign mi mr ml (nI 40) = some (if isS b N (tok b N k) 40 = true then 1 else 0) := isSign_ok (by omega) hA.2.1
    rw [if_neg hno] at this
    exact this
  have hH := s21_1 (r1 := r1) (l1 := l1) (l2 := l2) n (i0 := i0) (r0 := r0) (i1 := i1) (i2 := i2) (r2 := r2) (x := x) (by omega)
  rw [if_neg n40] at hH
  have h6' : upd i0 7 (nI (p + 1)) 6 = nI B := by rw [pk_un (by omega)]; exact h6
  have hK7 : ∀ s, s ≠ 6 → s ≠ 7 → upd i0 7 (nI (p + 1)) s = i0 s := fun s _ s7 => pk_un s7
  -- a fault of the class ahead of what is added
  have fault : ∀ (i' mi' : Nat → Int32) (mr' : Nat → Nat → Int32) (y : Int32), f_X13_readFactor (f_X13_readTerms d) mi mr ml = some (.inr (mi', mr')) → FT i' mi' → f_X6_readSum_21 r1 l1 l2 (n + 1) i0 r0 i1 i2 r2 1 (nI x) = bd (f_X5_addCode i2 r2 l2 y) (fun q16 => Gs r1 l1 l2 2000000 n (upd i0 7 (nI (p + 1))) r0 i' q16.1 q16.2 x) → (∃ i0' r0' i1' i2' r2' mi' mr' c, f_X13_readFactor (f_X13_readTerms d) mi mr ml = some (.inr (mi', mr')) ∧ f_X6_readSum_21 r1 l1 l2 (n + 1) i0 r0 i1 i2 r2 1 (nI x) = some (i0', r0', i1', i2', r2') ∧ FT i1' mi' ∧ KC i0 r0 i2 r2 i0' r0' i2' r2' ∧ c ≤ 900 ∧ i2' 15 = nI c) := by
    intro i' mi' mr' y e1 e2 e3
    obtain ⟨j2, s2, c2, a1, a2, a3, a4, a5⟩ := fm_code (r2 := r2) (l2 := l2) (show CL.length ≤ 900 by omega) hCL.1 y
    obtain ⟨m, rfl⟩ : ∃ m, n = m + 1 := ⟨n - 1, by omega⟩
    obtain ⟨r0', j3, s3, c3, b1, b2, b3, b4, b5, b6⟩ := fm_Gs (r1 := r1) (l1 := l1) (l2 := l2) 1999999 m (r0 := r0) (r2 := s2) (x := x) e2.1 h6' hB a2 a3
    rw [a1, bd_some] at e3
    exact ⟨_, r0', i', j3, s3, mi', mr', c3, e1, e3.trans b1, e2, ⟨hK7, b2, fun s hs => (b5 s hs).trans (a4 s hs), fun s hs => (b6 s hs).trans (a5 s hs)⟩, b3, b4⟩
  by_cases hk : tkK b N (tok b N k) = 2
  · -- a number
    have hf : fineA b N bar (tok b N k) := Or.inl hk
    obtain ⟨c1, c2⟩ := cnum hX hA.1 hk
    have hm7 : mi 7 = nI (vN b (tok b N k)) := hA.2.1.2.2.2.2.1 hk
    have hv4 : vN b (tok b N k) < 10000 := tkK2 hk
    have hR : f_X13_readFactor (f_X13_readTerms d) mi mr ml = if 12 ≤ p then some (.inr (upd (upd mi 8 4) 9 (mi 4), mr)) else bd (f_X13_mark (upd mi 54 (nI (p + 1))) mr ml 0 (mi 7) 0) (fun q22 => bd (f_X13_scan q22.1 q22.2 ml) (fun q23 => some (.inl (q23, q22.2)))) := by
      have k2 : mi 6 = 2 := (hand_if (x := 2) hA.2.1 (c := 2) (by omega) rfl).mpr hk
      rw [f_X13_readFactor, s40, bd_some, if_pos rfl, if_pos k2, f_X13_readFactor_79, f_X13_readFactor_84, need1, bt_l, if_pos k2, m4]
      by_cases q : 12 ≤ p
      · rw [if_pos (show (12 : Int32) ≤ nI p from nI_le (a := 12) q (by omega)), if_pos q, f_X13_readFactor_111, need0, bt_r]
      · rw [if_neg (show ¬ (12 : Int32) ≤ nI p from nI_ge (b := 12) (by omega) (by omega)), if_neg q, f_X13_readFactor_111, need1, bt_l, m4, nI_1]
    rw [cA_fine (p := p) hX hA.1 h8 hbar hf, f_X6_countAtom_40, if_neg n10, h7] at hH
    by_cases q : 12 ≤ p
    · right
      obtain ⟨i', a1, a2⟩ := both_fail hX hA (c := 4) (by decide)
      rw [if_neg (show ¬ nI p < (12 : Int32) from nI_nlt (b := 12) q (by omega)), a1, bd_some, bd_some, nI_1] at hH
      dsimp only at hH
      rw [if_neg (show ¬ i' 8 = 2 by rw [a2.1.2.1]; decide), fm_var a2.1, bd_some] at hH
      rw [if_pos q] at hR
      exact fault i' _ mr _ hR a2 hH
    · left
      rw [if_pos (show nI p < (12 : Int32) from nI_lt (b := 12) (by omega) (by omega)), bd_some, nI_1] at hH
      dsimp only at hH
      obtain ⟨a0, i', mi', a1, a2, a3, a4⟩ := both_adv (ml := ml) hX hA (by omega)
      obtain ⟨j2, s2, b1, b2, b3, b4⟩ := addCode_ok (l2 := l2) hCL (show CL.length < 900 by omega) (nI (vN b (tok b N k)))
      rw [if_pos ((kind_sm (x := 2) hA.1 (c := 2) (by omega) rfl).mpr hk), f_X9_number, ck_t hin, bd_some, c1, b1, bd_some, a1, bd_some] at hH
      obtain ⟨mj, ms, d1, d2, d3, d4⟩ := mark_ok (ml := ml) (hML.mi (mi' := upd mi 54 (nI (p + 1))) (pk_un (by omega))) (show ML.length < 1000 by omega) (0, vN b (tok b N k), 0)
      have d1 : f_X13_mark (upd mi 54 (nI (p + 1))) mr ml 0 (nI (vN b (tok b N k))) 0 = some (mj, ms) := d1
      have hA2 : AT b N M k i1 mj := hA.mi (fun s s3 s9 => by rw [d3 s (by omega), pk_un (by omega)])
      have hX2 : CX b N M r1 l1 ms := hX.mr (d4 1 (by omega) (by omega) (by omega))
      obtain ⟨z0, i9, mi9, z1, z2, z3, z4⟩ := both_adv (ml := ml) hX2 hA2 (by omega)
      have e9 : i9 = i' := Option.some.inj (z1.symm.trans a1)
      subst e9
      rw [if_neg q, hm7, d1, bd_some, z2, bd_some] at hR
      have g : ∀ s, s ≠ 4 → s ≠ 5 → s ≠ 6 → s ≠ 7 → s ≠ 49 → s ≠ 54 → mi9 s = mi s := fun s s4 s5 s6 s7 s49 s54 => by rw [z4 s s4 s5 s6 s7, d3 s s49, pk_un s54]
      refine ⟨k + 1, p + 1, 2000000, n, x, [(0, vN b (tok b N k), 0)], _, r0, i9, j2, s2, mi9, ms, by omega, hR, hH, ⟨z3, ⟨h6', pk_us, ?_⟩, ⟨?_, ?_, ?_⟩, b2, d2.mi ?_⟩, ⟨hK7, rfl, b3, b4⟩, fun _ _ => rfl, ?_, by omega, by omega, rfl, by omega, fun t ht => ?_, fun m => rfl, by omega, d4 1 (by omega) (by omega) (by omega)⟩
      · rw [pk_un (by omega)]; exact h8
      · rw [g 55 (by omega) (by omega) (by omega) (by omega) (by omega) (by omega), m5]
      · rw [z4 54 (by omega) (by omega) (by omega) (by omega), d3 54 (by omega), pk_us]
      · rw [g 53 (by omega) (by omega) (by omega) (by omega) (by omega) (by omega), m3]
      · exact z4 49 (by omega) (by omega) (by omega) (by omega)
      · show CL.length + 1 + e ≤ k + 1
        omega
      · rw [List.mem_singleton.mp ht]
        exact Or.inl ⟨rfl, hv4, rfl⟩
  · have k2 : ¬ mi 6 = 2 := fun z => hk ((hand_if (x := 2) hA.2.1 (c := 2) (by omega) rfl).mp z)
    have c2 : ¬ i1 8 = 2 := fun z => hk ((kind_sm (x := 2) hA.1 (c := 2) (by omega) rfl).mp z)
    have hR0 : f_X13_readFactor (f_X13_readTerms d) mi mr ml = bd (f_X13_isVar mi mr ml) (fun q32 => if q32 = 0 then (f_X13_readFactor_84 (f_X13_readTerms d) ml mi mr 0) else (f_X13_readFactor_79 (f_X13_readTerms d) ml mi mr)) := by
      rw [f_X13_readFactor, s40, bd_some, if_pos rfl, if_neg k2]
    rw [misVar hX hA.2.1, bd_some] at hR0
    cases ho : ltN b N (tok b N k) with
    | none =>
      right
      have hf : ¬ fineA b N bar (tok b N k) := fun z => by
        rcases z with z | ⟨v, z, -⟩
        · exact hk z
        · rw [ho] at z; cases z
      obtain ⟨i', a1, a2⟩ := both_fail hX hA (c := 1) i01
      rw [ho, isSn, if_pos rfl, f_X13_readFactor_84, need0, bt_r] at hR0
      rw [cA_no hX hA.1 h7 h8 hbar hf, bd_some] at hH
      dsimp only at hH
      rw [if_neg c2, f_X6_readVar, cletter hX hA.1, ho, bd_some, if_pos (show oI none = -1 from rfl), a1, bd_some, bd_some] at hH
      exact fault i' _ mr _ hR0 a2 hH
    | some v =>
      have hv9 := (ltN_lt ho).1
      rw [ho, if_pos (show (some v).isSome = true from rfl), if_neg n10, f_X13_readFactor_79, f_X13_readFactor_84, need1, bt_l, if_neg k2, misLetter hX hA.2.1, bd_some, ho] at hR0
      have hR1 : f_X13_readFactor (f_X13_readTerms d) mi mr ml = if bar.testBit v = true then f_X13_readFactor_207 (f_X13_readTerms d) ml mi mr 0 else f_X13_readFactor_207 (f_X13_readTerms d) ml mi mr 1 := by
        rw [hR0]
        by_cases hv : v < 8
        · obtain ⟨g1, g2⟩ := mlet hX hA.2.1 ho hv
          rw [if_pos (show isL (some v) = true from decide_eq_true hv), if_neg n10, ck_t g1, g2, bd_some, m3]
          by_cases ht : bar.testBit v = true
          · rw [if_pos ((tb1 hbar (by omega)).mpr ht), if_pos ht, f_X13_readFactor_196, if_neg n10]
          · rw [if_neg (fun z => ht ((tb1 hbar (by omega)).mp z)), if_neg ht, f_X13_readFactor_196, if_pos rfl]
        · have e8 : v = 8 := by omega
          subst e8
          rw [isL8, if_pos rfl, m3]
          have t8 : (((nI bar >>> ((8 : Int32) &&& 31)) &&& 1) = 1) ↔ bar.testBit 8 = true := tb1 (v := 8) hbar (by omega)
          by_cases ht : bar.testBit 8 = true
          · rw [if_pos (t8.mpr ht), if_pos ht, f_X13_readFactor_196, if_neg n10]
          · rw [if_neg (fun z => ht (t8.mp z)), if_neg ht, f_X13_readFactor_196, if_pos rfl]
      by_cases ht : bar.testBit v = true
      · right
        have hf : ¬ fineA b N bar (tok b N k) := fun z => by
          rcases z with z | ⟨w, z, z2⟩
          · exact hk z
          · rw [ho] at z
            have := Option.some.inj z
            subst this
            rw [ht] at z2
            cases z2
        obtain ⟨i', a1, a2⟩ := both_fail hX hA (c := 3) (by decide)
        rw [if_pos ht, f_X13_readFactor_207, need0, bt_r] at hR1
        rw [cA_no hX hA.1 h7 h8 hbar hf, bd_some] at hH
        dsimp only at hH
        rw [if_neg c2, f_X6_readVar, cletter hX hA.1, ho, bd_some, if_neg (oI_m1 (by omega)), pk_un (show (8 : Nat) ≠ 7 by omega), h8, if_neg (show ¬ ((nI bar >>> (oI (some v) &&& 31)) &&& 1) = 0 from fun z => by have := (tb0 hbar (by omega)).mp z; rw [ht] at this; cases this), a1, bd_some, bd_some] at hH
        exact fault i' _ mr _ hR1 a2 hH
      · have ht0 := bF ht
        have hf : fineA b N bar (tok b N k) := Or.inr ⟨v, ho, ht0⟩
        rw [if_neg ht, f_X13_readFactor_207, need1, bt_l, m4] at hR1
        rw [cA_fine (p := p) hX hA.1 h8 hbar hf, f_X6_countAtom_40, if_neg n10, h7] at hH
        by_cases q : 12 ≤ p
        · right
          obtain ⟨i', a1, a2⟩ := both_fail hX hA (c := 4) (by decide)
          rw [if_neg (show ¬ nI p < (12 : Int32) from nI_nlt (b := 12) q (by omega)), a1, bd_some, bd_some, nI_1] at hH
          dsimp only at hH
          rw [if_neg (show ¬ i' 8 = 2 by rw [a2.1.2.1]; decide), fm_var a2.1, bd_some] at hH
          rw [if_pos (show (12 : Int32) ≤ nI p from nI_le (a := 12) q (by omega)), f_X13_readFactor_226, need0, bt_r] at hR1
          exact fault i' _ mr _ hR1 a2 hH
        · rw [if_pos (show nI p < (12 : Int32) from nI_lt (b := 12) (by omega) (by omega)), bd_some, nI_1] at hH
          dsimp only at hH
          rw [if_neg c2] at hH
          rw [if_neg (show ¬ (12 : Int32) ≤ nI p from nI_ge (b := 12) (by omega) (by omega)), f_X13_readFactor_226, need1, bt_l, m4, nI_1, m3] at hR1
          have hA2 : AT b N M k i1 (upd mi 54 (nI (p + 1))) := hA.mi (fun s s3 s9 => pk_un (by omega))
          rcases wVar (r0 := r0) (i0 := upd i0 7 (nI (p + 1))) (i2 := i2) (r2 := r2) (l2 := l2) (ml := ml) hX hA2 hbar (by rw [pk_un (by omega)]; exact h8) with ⟨k', w, a, i', mi', w0, w1, w2, w3, w4, w5, w6⟩ | ⟨y, i', mi', w2, w3, w4⟩
          · left
            obtain ⟨j2, s2, b1, b2, b3, b4⟩ := addCode_ok (l2 := l2) hCL (show CL.length < 900 by have := w4.1.1; omega) (10000 + nI (vc w a))
            have F := fr_X13_readVar w3
            have F' : ∀ s, ¬ (s = 4 ∨ s = 5 ∨ s = 6 ∨ s = 7 ∨ s = 8 ∨ s = 9 ∨ s = 56 ∨ s = 57) → mi' s = upd mi 54 (nI (p + 1)) s := F
            have hML2 : MLp ML mi' mr := hML.mi (by rw [F' 49 (by omega), pk_un (by omega)])
            obtain ⟨mj, ms, d1, d2, d3, d4⟩ := mark_ok (ml := ml) hML2 (show ML.length < 1000 by have := w4.1.1; omega) (1, w, a)
            have d1 : f_X13_mark mi' mr ml 1 (nI w) (nI a) = some (mj, ms) := d1
            rw [w2, bd_some] at hH
            dsimp only at hH
            rw [b1, bd_some] at hH
            rw [w3, bt_l, w5, w6, d1, bd_some] at hR1
            have g : ∀ s, ¬ (s = 4 ∨ s = 5 ∨ s = 6 ∨ s = 7 ∨ s = 8 ∨ s = 9 ∨ s = 56 ∨ s = 57) → s ≠ 49 → mj s = upd mi 54 (nI (p + 1)) s := fun s hs h49 => (d3 s h49).trans (F' s hs)
            have ec : [(1, w, a)].map cM = [(10000 : Int32) + nI (vc w a)] := by
              show [nI (10000 + vc w a)] = _
              rw [show (10000 : Int32) = nI 10000 from rfl, nI_add]
            refine ⟨k', p + 1, 2000000, n, x, [(1, w, a)], _, r0, i', j2, s2, mj, ms, w0, hR1, hH, ⟨w4.mi (fun s s3 s9 => d3 s (by omega)), ⟨h6', pk_us, ?_⟩, ⟨?_, ?_, ?_⟩, ?_, d2⟩, ⟨hK7, rfl, b3, b4⟩, fun _ _ => rfl, ?_, by omega, by omega, rfl, by omega, fun t ht => ?_, fun m => rfl, by omega, d4 1 (by omega) (by omega) (by omega)⟩
            · rw [pk_un (by omega)]; exact h8
            · rw [g 55 (by omega) (by omega), pk_un (by omega), m5]
            · rw [g 54 (by omega) (by omega), pk_us]
            · rw [g 53 (by omega) (by omega), pk_un (by omega), m3]
            · rw [ec]; exact b2
            · show CL.length + 1 + e ≤ k'
              omega
            · rw [List.mem_singleton.mp ht]
              exact Or.inr (Or.inl ⟨rfl, w1⟩)
          · right
            rw [w2, bd_some] at hH
            dsimp only at hH
            rw [w3, bt_r] at hR1
            exact fault i' mi' mr _ hR1 w4 hH
