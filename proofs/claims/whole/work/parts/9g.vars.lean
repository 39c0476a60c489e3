/-! ===== program: VARs read ===== -/
theorem encL_mono : ∀ (l : List Nat) (x : Nat), x ≤ encL l x
  | [], x => Nat.le_refl x
  | c :: l, x => by
    have h := encL_mono l (x * 256 + c)
    show x ≤ encL l (x * 256 + c)
    omega
theorem encL_cons (c : Nat) (l : List Nat) (x : Nat) : encL (c :: l) x = encL l (x * 256 + c) := rfl
theorem txL_cons (b : Nat → Nat) (d p : Nat) : txL b (d + 1) p = b p :: txL b d (p + 1) := rfl
theorem encL_lt : ∀ (l : List Nat) (x m : Nat), (∀ c ∈ l, c < 256) → x < 123 * 2 ^ (8 * m) → encL l x < 123 * 2 ^ (8 * (m + l.length))
  | [], x, m, _, h => h
  | c :: l, x, m, hb, h => by
    have hc := hb c List.mem_cons_self
    have e8 : 2 ^ (8 * (m + 1)) = 2 ^ (8 * m) * 256 := by rw [show 8 * (m + 1) = 8 * m + 8 by omega, Nat.pow_add]
    have := encL_lt l (x * 256 + c) (m + 1) (fun z hz => hb z (List.mem_cons_of_mem _ hz)) (by rw [e8]; omega)
    rw [show m + (c :: l).length = m + 1 + l.length by rw [List.length_cons]; omega]
    exact this
theorem tkK1 {b : Nat → Nat} {N k : Nat} (h : tkK b N (tok b N k) = 1) : (tok b N k).1 < N ∧ smL (b (tok b N k).1) = true ∧ (tok b N k).2 = rn smL b N (tok b N k).1 ∧ 1 ≤ (tok b N k).2 - (tok b N k).1 ∧ (tok b N k).2 - (tok b N k).1 ≤ 8 := by
  have he : (tok b N k).2 = ep b N (tok b N k).1 := rfl
  unfold tkK at h
  by_cases c1 : N ≤ (tok b N k).1
  · rw [if_pos c1] at h; omega
  · rw [if_neg c1] at h
    by_cases c2 : smL (b (tok b N k).1) = true
    · rw [if_pos c2] at h
      have q8 : (tok b N k).2 - (tok b N k).1 ≤ 8 := by
        refine Classical.byContradiction fun q9 => ?_
        rw [if_neg q9] at h
        omega
      have hg := (ep_gt (b := b) (show (tok b N k).1 < N by omega)).1
      exact ⟨by omega, c2, by rw [he, ep, if_neg c1, if_pos c2], by omega, q8⟩
    · rw [if_neg c2] at h
      by_cases c3 : dg (b (tok b N k).1) = true
      · rw [if_pos c3] at h; split at h <;> omega
      · rw [if_neg c3] at h; split at h <;> omega
theorem tx_enc {b : Nat → Nat} {N k : Nat} (h : tkK b N (tok b N k) = 1) : encL (tx b (tok b N k)) 0 < 2 ^ 63 ∧ ((tok b N k).2 - (tok b N k).1 = 1 → encL (tx b (tok b N k)) 0 = b (tok b N k).1) ∧ (¬ (tok b N k).2 - (tok b N k).1 = 1 → 256 ≤ encL (tx b (tok b N k)) 0) ∧ (∀ c ∈ tx b (tok b N k), 97 ≤ c ∧ c ≤ 122) := by
  obtain ⟨h1, h2, h3, h4, h5⟩ := tkK1 h
  have hsm : ∀ c ∈ tx b (tok b N k), 97 ≤ c ∧ c ≤ 122 := fun c hc => by
    obtain ⟨z, z1, z2, z3⟩ := txL_mem _ _ _ hc
    have := of_decide_eq_true (rn_all (q := smL) (b := b) (N := N) z1 (by omega))
    rw [z3]
    exact this
  obtain ⟨d, hd⟩ : ∃ d, (tok b N k).2 - (tok b N k).1 = d + 1 := ⟨(tok b N k).2 - (tok b N k).1 - 1, by omega⟩
  have hx : tx b (tok b N k) = b (tok b N k).1 :: txL b d ((tok b N k).1 + 1) := by rw [tx, hd]; rfl
  have hc := of_decide_eq_true h2
  refine ⟨?_, fun e => ?_, fun e => ?_, hsm⟩
  · rw [hx, encL_cons]
    have := encL_lt (txL b d ((tok b N k).1 + 1)) (0 * 256 + b (tok b N k).1) 0 (fun c hc => by
      have := hsm c (by rw [hx]; exact List.mem_cons_of_mem _ hc)
      omega) (by omega)
    rw [txL_len] at this
    have h7 := Nat.pow_le_pow_right (n := 2) (by omega) (show 8 * (0 + d) ≤ 56 by omega)
    omega
  · rw [hx, show d = 0 by omega, encL_cons, Nat.zero_mul, Nat.zero_add]
    rfl
  · obtain ⟨d2, hd2⟩ : ∃ d2, d = d2 + 1 := ⟨d - 1, by omega⟩
    rw [hx, hd2, txL_cons, encL_cons, encL_cons]
    have := encL_mono (txL b d2 ((tok b N k).1 + 1 + 1)) ((0 * 256 + b (tok b N k).1) * 256 + b ((tok b N k).1 + 1))
    omega
/-- the letter at hand: 0 .. 7 for a .. h, 8 for z -/
def ltN (b : Nat → Nat) (N : Nat) (t : Nat × Nat) : Option Nat := if tkK b N t = 1 ∧ t.2 - t.1 = 1 then (if 97 ≤ b t.1 ∧ b t.1 ≤ 104 then some (b t.1 - 97) else if b t.1 = 122 then some 8 else none) else none
theorem ltN_lt {b : Nat → Nat} {N v : Nat} {t : Nat × Nat} (h : ltN b N t = some v) : v < 9 ∧ tkK b N t = 1 ∧ t.2 - t.1 = 1 ∧ (v < 8 → b t.1 = 97 + v) ∧ (v = 8 → b t.1 = 122) := by
  unfold ltN at h
  by_cases c : tkK b N t = 1 ∧ t.2 - t.1 = 1
  · rw [if_pos c] at h
    by_cases c1 : 97 ≤ b t.1 ∧ b t.1 ≤ 104
    · rw [if_pos c1] at h
      have := Option.some.inj h
      exact ⟨by omega, c.1, c.2, fun _ => by omega, fun _ => by omega⟩
    · rw [if_neg c1] at h
      by_cases c2 : b t.1 = 122
      · rw [if_pos c2] at h
        have := Option.some.inj h
        exact ⟨by omega, c.1, c.2, fun _ => by omega, fun _ => c2⟩
      · rw [if_neg c2] at h
        cases h
  · rw [if_neg c] at h
    cases h
theorem ltN_1 {b : Nat → Nat} {N : Nat} {t : Nat × Nat} (h : tkK b N t = 1) (hd : t.2 - t.1 = 1) (hc : 97 ≤ b t.1 ∧ b t.1 ≤ 104) : ltN b N t = some (b t.1 - 97) := by
  unfold ltN
  rw [if_pos (show tkK b N t = 1 ∧ t.2 - t.1 = 1 from ⟨h, hd⟩), if_pos hc]
theorem ltN_z {b : Nat → Nat} {N : Nat} {t : Nat × Nat} (h : tkK b N t = 1) (hd : t.2 - t.1 = 1) (hc : b t.1 = 122) : ltN b N t = some 8 := by
  unfold ltN
  rw [if_pos (show tkK b N t = 1 ∧ t.2 - t.1 = 1 from ⟨h, hd⟩), if_neg (show ¬ (97 ≤ b t.1 ∧ b t.1 ≤ 104) from fun z => by omega), if_pos hc]
theorem ltN_no {b : Nat → Nat} {N : Nat} {t : Nat × Nat} (hc : ¬ (97 ≤ b t.1 ∧ b t.1 ≤ 104)) (h2 : ¬ b t.1 = 122) : ltN b N t = none := by
  unfold ltN
  by_cases h : tkK b N t = 1 ∧ t.2 - t.1 = 1
  · rw [if_pos h, if_neg hc, if_neg h2]
  · rw [if_neg h]
theorem ltN_d {b : Nat → Nat} {N : Nat} {t : Nat × Nat} (hd : ¬ t.2 - t.1 = 1) : ltN b N t = none := by
  unfold ltN
  rw [if_neg (show ¬ (tkK b N t = 1 ∧ t.2 - t.1 = 1) from fun z => hd z.2)]
theorem ltN_k {b : Nat → Nat} {N : Nat} {t : Nat × Nat} (hd : ¬ tkK b N t = 1) : ltN b N t = none := by
  unfold ltN
  rw [if_neg (show ¬ (tkK b N t = 1 ∧ t.2 - t.1 = 1) from fun z => hd z.1)]
theorem cletter {b : Nat → Nat} {N M k : Nat} {r : Nat → Nat → Int32} {l : Nat → Nat → Int64} {mr : Nat → Nat → Int32} {i : Nat → Int32} (hX : CX b N M r l mr) (h : CA b N M k i) : f_X9_letter i r l = some (oI (ltN b N (tok b N k))) := by
  have hM := hX.2.1
  have hkM := h.1
  rw [f_X9_letter, ck_t (ca_in hX h), h.2.2.1, nI_clamp (by omega)]
  by_cases hk : tkK b N (tok b N k) = 1
  · obtain ⟨e1, e2, e3, e4⟩ := tx_enc hk
    rw [if_pos ((kind_sm (x := 1) h (c := 1) (by omega) rfl).mpr hk), (hX.2.2.2.1 k hkM).2.2.2.1 hk]
    generalize encL (tx b (tok b N k)) 0 = e at e1 e2 e3
    have l97 : (97 : Int64).toInt = 97 := by decide
    have l104 : (104 : Int64).toInt = 104 := by decide
    have h43 : f_X9_letter_43 i r l (lN e) = some (if e = 122 then 8 else -1) := by
      rw [f_X9_letter_43]
      by_cases q : e = 122
      · rw [if_pos (show lg_cmp (lN e) 122 = 0 from lgc_eq.mpr (by rw [q]; rfl)), if_pos q]
      · rw [if_neg (show ¬ lg_cmp (lN e) 122 = 0 from fun z => q ((pk_lEQ (b := 122) e1 (by omega)).mp (lgc_eq.mp z))), if_neg q]
    have hlt : (lg_cmp (lN e) 97 < 0) ↔ e < 97 := by rw [lgc_lt, pk_lT e1, l97]; omega
    have hgt : (0 < lg_cmp (lN e) 104) ↔ 104 < e := by rw [lgc_gt, pk_lT e1, l104]; omega
    by_cases hin : 97 ≤ e ∧ e ≤ 104
    · have hd : (tok b N k).2 - (tok b N k).1 = 1 := Classical.byContradiction fun q => by have := e3 q; omega
      have he := e2 hd
      rw [ltN_1 hk hd (by omega), if_neg (show ¬ lg_cmp (lN e) 97 < 0 from fun z => by have := hlt.mp z; omega), if_neg (show ¬ 0 < lg_cmp (lN e) 104 from fun z => by have := hgt.mp z; omega), show (97 : Int64) = lN 97 from rfl, lN_sub hin.1, lN_i, he]
      rfl
    · have hh : (if lg_cmp (lN e) 97 < 0 then f_X9_letter_43 i r l (lN e) else if 0 < lg_cmp (lN e) 104 then f_X9_letter_43 i r l (lN e) else some ((lN e - 97).toInt32)) = f_X9_letter_43 i r l (lN e) := by
        by_cases q : e < 97
        · rw [if_pos (hlt.mpr q)]
        · rw [if_neg (fun z => q (hlt.mp z)), if_pos (hgt.mpr (by omega))]
      rw [hh, h43]
      by_cases q : e = 122
      · have hd : (tok b N k).2 - (tok b N k).1 = 1 := Classical.byContradiction fun q => by have := e3 q; omega
        rw [ltN_z hk hd (by rw [← e2 hd]; exact q), if_pos q]
        rfl
      · have hl : ltN b N (tok b N k) = none := by
          by_cases hd : (tok b N k).2 - (tok b N k).1 = 1
          · have he := e2 hd
            exact ltN_no (by omega) (by omega)
          · exact ltN_d hd
        rw [hl, if_neg q]
        rfl
  · rw [if_neg (fun z => hk ((kind_sm (x := 1) h (c := 1) (by omega) rfl).mp z)), ltN_k hk]
    rfl
def isL (o : Option Nat) : Bool := match o with | none => false | some v => decide (v < 8)
theorem l104' : (104 : Int64).toInt = 104 := by decide
theorem l97' : (97 : Int64).toInt = 97 := by decide
theorem misLetter {b : Nat → Nat} {N M k : Nat} {r mr : Nat → Nat → Int32} {l ml : Nat → Nat → Int64} {mi : Nat → Int32} (hX : CX b N M r l mr) (h : TSt b N mi (tok b N k)) : f_X13_isLetter mi mr ml = some (if isL (ltN b N (tok b N k)) = true then 1 else 0) := by
  have hN := hX.1
  have hle := tok_le b N k
  have no : isL none = false := rfl
  rw [f_X13_isLetter]
  by_cases hk : tkK b N (tok b N k) = 1
  · obtain ⟨h1, h2, h3, h4, h5⟩ := tkK1 hk
    have hc := of_decide_eq_true h2
    rw [if_pos ((hand_if (x := 1) h (c := 1) (by omega) rfl).mpr hk), h.2.2.1, h.2.1, pk_sub hle.1]
    by_cases hd : (tok b N k).2 - (tok b N k).1 = 1
    · rw [hd, if_pos (show nI 1 = 1 from rfl), ck_t (inb_nI (by omega) (by omega)), nI_clamp (by omega), (hX.2.2.2.2.2 _ h1).2, f_in, bd_some, show s8 (b (tok b N k).1) = nI (b (tok b N k).1) from fa_byte_small (by omega), i2l_toInt, nI_toInt (by omega), l97', l104']
      by_cases c1 : 97 ≤ b (tok b N k).1 ∧ b (tok b N k).1 ≤ 104
      · have hz : isL (ltN b N (tok b N k)) = true := by rw [ltN_1 hk hd c1]; exact decide_eq_true (by omega)
        rw [if_pos hz, if_pos (show (97 : Int) ≤ (b (tok b N k).1 : Int) ∧ (b (tok b N k).1 : Int) ≤ 104 from by omega), if_neg n10]
      · have hz : ¬ isL (ltN b N (tok b N k)) = true := by
          by_cases c2 : b (tok b N k).1 = 122
          · rw [ltN_z hk hd c2]; decide
          · rw [ltN_no c1 c2]; decide
        rw [if_neg hz, if_neg (show ¬ ((97 : Int) ≤ (b (tok b N k).1 : Int) ∧ (b (tok b N k).1 : Int) ≤ 104) from by omega), if_pos rfl]
    · rw [if_neg (show ¬ nI ((tok b N k).2 - (tok b N k).1) = 1 from fun z => hd (nI_inj (b := 1) (by omega) (by omega) z)), ltN_d hd]
      rfl
  · rw [if_neg (fun z => hk ((hand_if (x := 1) h (c := 1) (by omega) rfl).mp z)), ltN_k hk]
    rfl
theorem isW_z {b : Nat → Nat} {N k : Nat} : isW b N (tok b N k) 19 = true ↔ ltN b N (tok b N k) = some 8 := by
  constructor
  · intro h
    obtain ⟨h1, h2⟩ := of_decide_eq_true h
    obtain ⟨e1, e2⟩ := txL_eq.mp h2
    have e1 : (tok b N k).2 - (tok b N k).1 = 1 := e1
    have e2 : b ((tok b N k).1 + 0) = 122 := e2 0 (by decide)
    rw [Nat.add_zero] at e2
    exact ltN_z h1 e1 e2
  · intro h
    obtain ⟨h1, h2, h3, h4, h5⟩ := ltN_lt h
    refine decide_eq_true ⟨h2, txL_eq.mpr ⟨h3, fun j hj => ?_⟩⟩
    have hj : j < 1 := hj
    rw [show j = 0 by omega, Nat.add_zero]
    exact h5 rfl
theorem isLn : (if isL none = true then (1 : Int32) else 0) = 0 := rfl
theorem isL8 : (if isL (some 8) = true then (1 : Int32) else 0) = 0 := rfl
theorem isSn : (if (none : Option Nat).isSome = true then (1 : Int32) else 0) = 0 := rfl
theorem misVar {b : Nat → Nat} {N M k : Nat} {r mr : Nat → Nat → Int32} {l ml : Nat → Nat → Int64} {mi : Nat → Int32} (hX : CX b N M r l mr) (h : TSt b N mi (tok b N k)) : f_X13_isVar mi mr ml = some (if (ltN b N (tok b N k)).isSome = true then 1 else 0) := by
  rw [f_X13_isVar, misLetter hX h, bd_some]
  cases ho : ltN b N (tok b N k) with
  | none =>
    have hz : ¬ isW b N (tok b N k) 19 = true := fun z => by rw [isW_z, ho] at z; cases z
    rw [isLn, if_pos rfl, at_is hX h (by omega), bd_some, if_neg hz]
    rfl
  | some v =>
    by_cases hv : v < 8
    · rw [if_pos (show isL (some v) = true from decide_eq_true hv), if_neg n10]
      rfl
    · have hv9 := (ltN_lt ho).1
      have hz : isW b N (tok b N k) 19 = true := isW_z.mpr (by rw [ho, show v = 8 by omega])
      rw [if_neg (show ¬ isL (some v) = true from fun z => hv (of_decide_eq_true z)), if_pos rfl, at_is hX h (by omega), bd_some, if_pos hz, if_neg n10]
      rfl
theorem mlet {b : Nat → Nat} {N M k v : Nat} {r mr : Nat → Nat → Int32} {l : Nat → Nat → Int64} {mi : Nat → Int32} (hX : CX b N M r l mr) (h : TSt b N mi (tok b N k)) (hl : ltN b N (tok b N k) = some v) (hv : v < 8) : inb (mi 4) 900 = true ∧ f_X13_letter (mr 1 (mi 4).toNatClampNeg) = some (nI v) := by
  have hN := hX.1
  obtain ⟨h1, h2, h3, h4, h5⟩ := ltN_lt hl
  obtain ⟨g1, g2, g3, g4, g5⟩ := tkK1 h2
  rw [h.2.1, nI_clamp (by omega), (hX.2.2.2.2.2 _ g1).2, show s8 (b (tok b N k).1) = nI (b (tok b N k).1) from fa_byte_small (by have := h4 hv; omega), f_X13_letter, h4 hv, show (97 : Int32) = nI 97 from rfl, pk_sub (by omega), show 97 + v - 97 = v by omega]
  exact ⟨inb_nI (by omega) (by omega), rfl⟩
/-- a VAR: its kind (0 .. 7 a letter, 8 a told place, 9 a place by a letter), its place -/
def okV (v a : Nat) : Prop := (v < 8 ∧ a = 0) ∨ (v = 8 ∧ a < 10) ∨ (v = 9 ∧ a < 8)
def vc (v a : Nat) : Nat := if v < 8 then v else if v = 8 then 10 + a else 20 + a
theorem fm_place {i0 i i2 : Nat → Int32} {r0 r r2 : Nat → Nat → Int32} {l l2 : Nat → Nat → Int64} (h : FM i) : f_X6_readPlace i0 r0 i r l i2 r2 l2 = some (0, i) := by
  rw [f_X6_readPlace, fm_let h, bd_some, f_X9_number, ck_t (fm_in h), bd_some, f_X9_kind, bd_some, h.2.1, if_neg (by decide), f_X6_readPlace_32, if_pos rfl, if_pos rfl, f_X6_readPlace_48, fm_fail h]
  rfl
theorem fm_var {i0 i i2 : Nat → Int32} {r0 r r2 : Nat → Nat → Int32} {l l2 : Nat → Nat → Int64} (h : FM i) : f_X6_readVar i0 r0 i r l i2 r2 l2 = some (0, i) := by
  rw [f_X6_readVar, fm_let h, bd_some, if_pos rfl, fm_fail h]
  rfl
theorem oI_m1 {v : Nat} (h : v < 2 ^ 31) : ¬ oI (some v) = -1 := nm1N h
/-- a place within the brackets of z -/
theorem place_ok {b : Nat → Nat} {N M k bar : Nat} {r mr r0 r2 : Nat → Nat → Int32} {l ml l2 : Nat → Nat → Int64} {i mi i0 i2 : Nat → Int32} (hX : CX b N M r l mr) (h : AT b N M k i mi) (hb : bar < 2 ^ 31) (h8 : i0 8 = nI bar) : (∃ v a i' mi', k < M ∧ okV v a ∧ f_X6_readPlace i0 r0 i r l i2 r2 l2 = some (nI (vc v a), i') ∧ bd (f_X13_isLetter mi mr ml) (fun q24 => if q24 = 0 then (bt (f_X13_number (upd mi 56 8) mr ml 0 9) (fun q25 => f_X13_readVar_166 mr ml (upd q25.2 57 q25.1)) (fun t25 => some (.inr (t25)))) else (ck (inb (mi 4) 900) (bd (f_X13_letter (mr 1 (mi 4).toNatClampNeg)) (fun q26 => if ((nI bar >>> (q26 &&& 31)) &&& 1) = 0 then (f_X13_readVar_138 mr ml (upd (upd mi 56 9) 57 q26) 1) else (f_X13_readVar_138 mr ml (upd (upd mi 56 9) 57 q26) 0))))) = f_X13_readVar_166 mr ml mi' ∧ AT b N M (k + 1) i' mi' ∧ mi' 56 = nI v ∧ mi' 57 = nI a) ∨ (∃ x i' mi', f_X6_readPlace i0 r0 i r l i2 r2 l2 = some (x, i') ∧ bd (f_X13_isLetter mi mr ml) (fun q24 => if q24 = 0 then (bt (f_X13_number (upd mi 56 8) mr ml 0 9) (fun q25 => f_X13_readVar_166 mr ml (upd q25.2 57 q25.1)) (fun t25 => some (.inr (t25)))) else (ck (inb (mi 4) 900) (bd (f_X13_letter (mr 1 (mi 4).toNatClampNeg)) (fun q26 => if ((nI bar >>> (q26 &&& 31)) &&& 1) = 0 then (f_X13_readVar_138 mr ml (upd (upd mi 56 9) 57 q26) 1) else (f_X13_readVar_138 mr ml (upd (upd mi 56 9) 57 q26) 0))))) = some (.inr mi') ∧ FT i' mi') := by
  have hin := ca_in hX h.1
  rw [f_X6_readPlace, cletter hX h.1, bd_some, f_X9_number, ck_t hin, bd_some, f_X9_kind, bd_some, misLetter hX h.2.1, bd_some]
  have h56 : AT b N M k i (upd mi 56 8) := h.mi (fun s _ _ => pk_un (by omega))
  by_cases hk : tkK b N (tok b N k) = 2
  · have ho : ltN b N (tok b N k) = none := ltN_k (by omega)
    obtain ⟨c1, c2⟩ := cnum hX h.1 hk
    rw [if_pos ((kind_sm (x := 2) h.1 (c := 2) (by omega) rfl).mpr hk), f_X6_readPlace_32, if_neg n10, f_X6_readPlace_58, if_neg n10, c1, ho, isLn, if_pos rfl]
    rcases wNum (lo := 0) (hi := 9) (ml := ml) hX h56 (by omega) (by omega) with ⟨d0, d1, d2, d3, i', mi', d4, d5, d6⟩ | ⟨d1, i', mi', d4, d5, d6⟩
    · left
      have d5 : f_X13_number (upd mi 56 8) mr ml 0 9 = some (.inl (nI (vN b (tok b N k)), mi')) := d5
      obtain ⟨z0, i9, mi9, z1, z2, z3, z4⟩ := both_adv (ml := ml) hX h (by omega)
      have F := fr_X13_number d5
      have d4 : f_X9_wantNumber i r l 0 9 = some (nI (vN b (tok b N k)), i') := d4
      rw [f_X9_wantNumber, ck_t hin, if_pos ((kind_sm (x := 2) h.1 (c := 2) (by omega) rfl).mpr hk), c1, if_neg (nI_pos (by omega)), if_pos (show nI (vN b (tok b N k)) ≤ (9 : Int32) from nI_le (b := 9) d3 (by omega)), z1, bd_some] at d4
      have e9 : i9 = i' := congrArg Prod.snd (Option.some.inj d4)
      refine ⟨8, vN b (tok b N k), i', upd mi' 57 (nI (vN b (tok b N k))), d0, Or.inr (Or.inl ⟨rfl, by omega⟩), ?_, ?_, ?_, ?_, pk_us⟩
      · rw [if_pos (show nI (vN b (tok b N k)) < (10 : Int32) from nI_lt (b := 10) (by omega) (by omega)), f_X6_readPlace_78, if_neg n10, f_X6_readPlace_103, z1, bd_some, if_neg n10, show (10 : Int32) = nI 10 from rfl, nI_add, e9]
        rfl
      · rw [d5, bt_l]
      · exact d6.mi (fun s _ _ => pk_un (by omega))
      · have F6 : mi' 56 = upd mi 56 8 56 := F 56 (by omega)
        rw [pk_un (by omega), F6, pk_us]
        rfl
    · right
      have d5 : f_X13_number (upd mi 56 8) mr ml 0 9 = some (.inr mi') := d5
      have d4 : f_X9_wantNumber i r l 0 9 = some (nI 0, i') := d4
      have hv : ¬ vN b (tok b N k) ≤ 9 := fun z => d1 ⟨hk, by omega, z⟩
      have hv4 : vN b (tok b N k) < 10000 := tkK2 hk
      obtain ⟨i9, z1, z2⟩ := both_fail hX h (c := 2) (by decide)
      rw [f_X9_wantNumber, ck_t hin, if_pos ((kind_sm (x := 2) h.1 (c := 2) (by omega) rfl).mpr hk), c1, if_neg (nI_pos (by omega)), if_neg (show ¬ nI (vN b (tok b N k)) ≤ (9 : Int32) from nI_ge (a := 9) (by omega) (by omega)), f_X9_wantNumber_36, z1, bd_some] at d4
      have e9 : i9 = i' := congrArg Prod.snd (Option.some.inj d4)
      exact ⟨0, i', mi', by rw [if_neg (show ¬ nI (vN b (tok b N k)) < (10 : Int32) from nI_nlt (b := 10) (by omega) (by omega)), z1, e9]; rfl, by rw [d5, bt_r], d6⟩
  · rw [if_neg (fun z => hk ((kind_sm (x := 2) h.1 (c := 2) (by omega) rfl).mp z)), f_X6_readPlace_32, if_pos rfl]
    cases ho : ltN b N (tok b N k) with
    | none =>
      right
      obtain ⟨i', a1, a2⟩ := both_fail hX h56 (c := 1) i01
      refine ⟨0, i', _, by rw [if_pos (show oI none = -1 from rfl), f_X6_readPlace_48, a1]; rfl, ?_, a2⟩
      rw [isLn, if_pos rfl, f_X13_number, look_n (fun z => hk ((hand_if (x := 2) h56.2.1 (c := 2) (by omega) rfl).mp z)), bt_r, bt_r]
    | some v =>
      have hv9 := (ltN_lt ho).1
      rw [if_neg (oI_m1 (by omega))]
      by_cases hv : v < 8
      · obtain ⟨m1, m2⟩ := mlet hX h.2.1 ho hv
        rw [if_neg (show ¬ oI (some v) = 8 from fun z => by have := nI_inj (b := 8) (by omega) (by omega) z; omega), f_X6_readPlace_58, if_pos rfl, f_X6_readPlace_78, if_pos rfl, h8, if_pos (show isL (some v) = true from decide_eq_true hv), if_neg n10, ck_t m1, m2, bd_some]
        show (∃ v1 a i' mi', k < M ∧ okV v1 a ∧ (if ((nI bar >>> (nI v &&& 31)) &&& 1) = 0 then f_X6_readPlace_103 i0 r0 r l i2 r2 l2 i (nI v) _ 0 else _) = some (nI (vc v1 a), i') ∧ _) ∨ (∃ x i' mi', (if ((nI bar >>> (nI v &&& 31)) &&& 1) = 0 then f_X6_readPlace_103 i0 r0 r l i2 r2 l2 i (nI v) _ 0 else _) = some (x, i') ∧ _)
        by_cases ht : bar.testBit v = false
        · left
          have hA : AT b N M k i (upd (upd mi 56 9) 57 (nI v)) := h.mi (fun s _ _ => by rw [pk_un (by omega), pk_un (by omega)])
          obtain ⟨z0, i9, mi9, z1, z2, z3, z4⟩ := both_adv (ml := ml) hX hA (by rw [(ltN_lt ho).2.1]; omega)
          refine ⟨9, v, i9, mi9, z0, Or.inr (Or.inr ⟨rfl, hv⟩), ?_, ?_, z3, ?_, ?_⟩
          · rw [if_pos ((tb0 hb (by omega)).mpr ht), f_X6_readPlace_103, z1, bd_some, if_pos rfl, show (20 : Int32) = nI 20 from rfl, nI_add]
            rfl
          · rw [if_pos ((tb0 hb (by omega)).mpr ht), f_X13_readVar_138, need1, bt_l, z2, bd_some]
          · rw [z4 56 (by omega) (by omega) (by omega) (by omega), pk_un (by omega), pk_us]
            rfl
          · rw [z4 57 (by omega) (by omega) (by omega) (by omega), pk_us]
        · right
          have hA : AT b N M k i (upd (upd mi 56 9) 57 (nI v)) := h.mi (fun s _ _ => by rw [pk_un (by omega), pk_un (by omega)])
          obtain ⟨i', a1, a2⟩ := both_fail hX hA (c := 3) (by decide)
          exact ⟨0, i', _, by rw [if_neg (fun z => ht ((tb0 hb (by omega)).mp z)), a1]; rfl, by rw [if_neg (fun z => ht ((tb0 hb (by omega)).mp z)), f_X13_readVar_138, need0, bt_r], a2⟩
      · right
        have e8 : v = 8 := by omega
        subst e8
        obtain ⟨i', a1, a2⟩ := both_fail hX h56 (c := 1) i01
        refine ⟨0, i', _, by rw [if_pos (show oI (some 8) = 8 from rfl), f_X6_readPlace_48, a1]; rfl, ?_, a2⟩
        rw [isL8, if_pos rfl, f_X13_number, look_n (fun z => hk ((hand_if (x := 2) h56.2.1 (c := 2) (by omega) rfl).mp z)), bt_r, bt_r]
theorem wVar {b : Nat → Nat} {N M k bar : Nat} {r mr r0 r2 : Nat → Nat → Int32} {l ml l2 : Nat → Nat → Int64} {i mi i0 i2 : Nat → Int32} (hX : CX b N M r l mr) (h : AT b N M k i mi) (hb : bar < 2 ^ 31) (h8 : i0 8 = nI bar) : (∃ k' v a i' mi', k < k' ∧ okV v a ∧ f_X6_readVar i0 r0 i r l i2 r2 l2 = some (nI (vc v a), i') ∧ f_X13_readVar mi mr ml (nI bar) = some (.inl mi') ∧ AT b N M k' i' mi' ∧ mi' 56 = nI v ∧ mi' 57 = nI a) ∨ (∃ x i' mi', f_X6_readVar i0 r0 i r l i2 r2 l2 = some (x, i') ∧ f_X13_readVar mi mr ml (nI bar) = some (.inr mi') ∧ FT i' mi') := by
  rw [f_X6_readVar, cletter hX h.1, bd_some, f_X13_readVar, misVar hX h.2.1, bd_some, h8]
  cases ho : ltN b N (tok b N k) with
  | none =>
    right
    obtain ⟨i', a1, a2⟩ := both_fail hX h (c := 1) i01
    exact ⟨0, i', _, by rw [if_pos (show oI none = -1 from rfl), a1]; rfl, by rw [isSn, need0, bt_r], a2⟩
  | some v =>
    have hv9 := (ltN_lt ho).1
    have hk1 := (ltN_lt ho).2.1
    rw [if_neg (oI_m1 (by omega)), if_pos (show (some v).isSome = true from rfl), need1, bt_l, misLetter hX h.2.1, bd_some, ho]
    show (∃ k' v1 a i' mi', k < k' ∧ okV v1 a ∧ (if ((nI bar >>> (nI v &&& 31)) &&& 1) = 0 then (bd (f_X9_advance i r l) (fun q9 => if nI v = 8 then (bd (f_X9_wantKind q9 r l 91) (fun q10 => bd (f_X6_readPlace i0 r0 q10 r l i2 r2 l2) (fun q11 => bd (f_X9_wantKind q11.2 r l 93) (fun q12 => some (q11.1, q12))))) else (some (nI v, q9)))) else (bd (f_X9_fail i r l 3) (fun q13 => some (0, q13)))) = some (nI (vc v1 a), i') ∧ _) ∨ (∃ x i' mi', (if ((nI bar >>> (nI v &&& 31)) &&& 1) = 0 then (bd (f_X9_advance i r l) (fun q9 => if nI v = 8 then (bd (f_X9_wantKind q9 r l 91) (fun q10 => bd (f_X6_readPlace i0 r0 q10 r l i2 r2 l2) (fun q11 => bd (f_X9_wantKind q11.2 r l 93) (fun q12 => some (q11.1, q12))))) else (some (nI v, q9)))) else (bd (f_X9_fail i r l 3) (fun q13 => some (0, q13)))) = some (x, i') ∧ _)
    by_cases hv : v < 8
    · obtain ⟨m1, m2⟩ := mlet hX h.2.1 ho hv
      have hA : AT b N M k i (upd (upd mi 56 (nI v)) 57 0) := h.mi (fun s _ _ => by rw [pk_un (by omega), pk_un (by omega)])
      rw [if_pos (show isL (some v) = true from decide_eq_true hv), if_neg n10, ck_t m1, m2, bd_some]
      by_cases ht : bar.testBit v = false
      · left
        obtain ⟨z0, i9, mi9, z1, z2, z3, z4⟩ := both_adv (ml := ml) hX hA (by omega)
        refine ⟨k + 1, v, 0, i9, mi9, by omega, Or.inl ⟨hv, rfl⟩, ?_, ?_, z3, ?_, ?_⟩
        · rw [if_pos ((tb0 hb (by omega)).mpr ht), z1, bd_some, if_neg (show ¬ nI v = 8 from fun z => by have := nI_inj (b := 8) (by omega) (by omega) z; omega), vc, if_pos hv]
        · rw [if_pos ((tb0 hb (by omega)).mpr ht), f_X13_readVar_54, need1, bt_l, z2]
          rfl
        · rw [z4 56 (by omega) (by omega) (by omega) (by omega), pk_un (by omega), pk_us]
        · rw [z4 57 (by omega) (by omega) (by omega) (by omega), pk_us]
          rfl
      · right
        obtain ⟨i', a1, a2⟩ := both_fail hX hA (c := 3) (by decide)
        exact ⟨0, i', _, by rw [if_neg (fun z => ht ((tb0 hb (by omega)).mp z)), a1]; rfl, by rw [if_neg (fun z => ht ((tb0 hb (by omega)).mp z)), f_X13_readVar_54, need0, bt_r], a2⟩
    · have e8 : v = 8 := by omega
      subst e8
      rw [isL8, if_pos rfl]
      have tb8 : ((nI bar >>> ((8 : Int32) &&& 31)) &&& 1 = 0) ↔ bar.testBit 8 = false := tb0 (v := 8) hb (by omega)
      by_cases ht : bar.testBit 8 = false
      · obtain ⟨z0, i9, mi9, z1, z2, z3, z4⟩ := both_adv (ml := ml) hX h (by omega)
        rw [if_pos (show ((nI bar >>> (nI 8 &&& 31)) &&& 1) = 0 from tb8.mpr ht), z1, bd_some, if_pos (show nI 8 = 8 from rfl), if_pos (tb8.mpr ht), f_X13_readVar_78, need1, bt_l, z2, bd_some]
        rcases wSign (c := 91) (x := 91) (ml := ml) hX z3 (by omega) (by omega) rfl with ⟨b0, b1, i5, mi5, b2, b3, b4⟩ | ⟨b1, i5, mi5, b2, b3, b4⟩
        · rw [b2, bd_some, b3, bt_l]
          rcases place_ok (r0 := r0) (i2 := i2) (r2 := r2) (l2 := l2) (ml := ml) hX b4 hb h8 with ⟨v, a, i6, mi6, c0, c1, c2, c3, c4, c5, c6⟩ | ⟨x, i6, mi6, c2, c3, c4⟩
          · rw [c2, bd_some, c3, f_X13_readVar_166]
            rcases wSign (c := 93) (x := 93) (ml := ml) hX c4 (by omega) (by omega) rfl with ⟨e0, e1, i7, mi7, e2, e3, e4⟩ | ⟨e1, i7, mi7, e2, e3, e4⟩
            · left
              have F := fr_X13_sign e3
              exact ⟨_, v, a, i7, mi7, by omega, c1, by rw [e2]; rfl, by rw [e3, bt_l], e4, by rw [F 56 (by omega), c5], by rw [F 57 (by omega), c6]⟩
            · right
              exact ⟨_, i7, mi7, by rw [e2]; rfl, by rw [e3, bt_r], e4⟩
          · right
            exact ⟨x, i6, mi6, by rw [c2, bd_some, fm_kind c4.1 (by decide)]; rfl, by rw [c3], c4⟩
        · right
          exact ⟨0, i5, mi5, by rw [b2, bd_some, fm_place b4.1, bd_some, fm_kind b4.1 (by decide)]; rfl, by rw [b3, bt_r], b4⟩
      · right
        obtain ⟨i', a1, a2⟩ := both_fail hX h (c := 3) (by decide)
        exact ⟨0, i', _, by rw [if_neg (show ¬ ((nI bar >>> (nI 8 &&& 31)) &&& 1) = 0 from fun z => ht (tb8.mp z)), a1]; rfl, by rw [if_neg (fun z => ht (tb8.mp z)), f_X13_readVar_78, need0, bt_r], a2⟩
