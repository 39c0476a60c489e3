/-! ===== program: names, and which STEP stands at hand ===== -/
theorem kyC_iff {b : Nat → Nat} {N w : Nat} {t : Nat × Nat} (hw : w < 19) : (kyC b N t = nI (kap.getD w 0)) ↔ isW b N t w = true := by
  obtain ⟨e1, e2⟩ := kap_ok w hw
  rw [kyC]
  by_cases hk : tkK b N t = 1
  · rw [if_pos hk, kyT_iff e2, ← e1]
    exact ⟨fun q => decide_eq_true ⟨hk, q⟩, fun q => (of_decide_eq_true q).2⟩
  · rw [if_neg hk]
    exact ⟨fun q => absurd q.symm (nm1N (by omega)), fun q => absurd (of_decide_eq_true q).1 hk⟩
theorem kyC_range (b : Nat → Nat) (N : Nat) (t : Nat × Nat) : (∃ j, j < 19 ∧ kyC b N t = nI j) ∨ kyC b N t = -1 := by
  rw [kyC]
  by_cases hk : tkK b N t = 1
  · rw [if_pos hk]
    rcases kyT_range (tx b t) with ⟨j, h1, -, h3⟩ | ⟨-, h⟩
    · exact Or.inl ⟨j, h1, h3⟩
    · exact Or.inr h
  · rw [if_neg hk]
    exact Or.inr rfl
theorem mstep {b : Nat → Nat} {N M k : Nat} {r mr : Nat → Nat → Int32} {l ml : Nat → Nat → Int64} {mi : Nat → Int32} (hX : CX b N M r l mr) (h : TSt b N mi (tok b N k)) : (∃ j, j < 8 ∧ kyC b N (tok b N k) = nI j ∧ f_X13_stepAtHand mi mr ml = some (nI j)) ∨ ((∀ j, j < 8 → ¬ kyC b N (tok b N k) = nI j) ∧ f_X13_stepAtHand mi mr ml = some (-1)) := by
  have is : ∀ w, w < 19 → f_X13_is w mi mr ml = some (if kyC b N (tok b N k) = nI (kap.getD w 0) then 1 else 0) := fun w hw => by
    rw [at_is hX h (show w < 20 by omega)]
    by_cases q : isW b N (tok b N k) w = true
    · rw [if_pos q, if_pos ((kyC_iff hw).mpr q)]
    · rw [if_neg q, if_neg (fun z => q ((kyC_iff hw).mp z))]
  have s5 : f_X13_is 5 mi mr ml = some (if kyC b N (tok b N k) = nI 0 then 1 else 0) := is 5 (by omega)
  have s6 : f_X13_is 6 mi mr ml = some (if kyC b N (tok b N k) = nI 1 then 1 else 0) := is 6 (by omega)
  have s7 : f_X13_is 7 mi mr ml = some (if kyC b N (tok b N k) = nI 2 then 1 else 0) := is 7 (by omega)
  have s1 : f_X13_is 1 mi mr ml = some (if kyC b N (tok b N k) = nI 3 then 1 else 0) := is 1 (by omega)
  have s3 : f_X13_is 3 mi mr ml = some (if kyC b N (tok b N k) = nI 4 then 1 else 0) := is 3 (by omega)
  have s8 : f_X13_is 8 mi mr ml = some (if kyC b N (tok b N k) = nI 5 then 1 else 0) := is 8 (by omega)
  have s9 : f_X13_is 9 mi mr ml = some (if kyC b N (tok b N k) = nI 6 then 1 else 0) := is 9 (by omega)
  have s10 : f_X13_is 10 mi mr ml = some (if kyC b N (tok b N k) = nI 7 then 1 else 0) := is 10 (by omega)
  rw [f_X13_stepAtHand, s5, bd_some]
  by_cases q0 : kyC b N (tok b N k) = nI 0
  · left; exact ⟨0, by omega, q0, by rw [if_pos q0, if_neg n10]; rfl⟩
  · rw [if_neg q0, if_pos rfl, s6, bd_some]
    by_cases q1 : kyC b N (tok b N k) = nI 1
    · left; exact ⟨1, by omega, q1, by rw [if_pos q1, if_neg n10]; rfl⟩
    · rw [if_neg q1, if_pos rfl, s7, bd_some]
      by_cases q2 : kyC b N (tok b N k) = nI 2
      · left; exact ⟨2, by omega, q2, by rw [if_pos q2, if_neg n10]; rfl⟩
      · rw [if_neg q2, if_pos rfl, s1, bd_some]
        by_cases q3 : kyC b N (tok b N k) = nI 3
        · left; exact ⟨3, by omega, q3, by rw [if_pos q3, if_neg n10]; rfl⟩
        · rw [if_neg q3, if_pos rfl, s3, bd_some]
          by_cases q4 : kyC b N (tok b N k) = nI 4
          · left; exact ⟨4, by omega, q4, by rw [if_pos q4, if_neg n10]; rfl⟩
          · rw [if_neg q4, if_pos rfl, s8, bd_some]
            by_cases q5 : kyC b N (tok b N k) = nI 5
            · left; exact ⟨5, by omega, q5, by rw [if_pos q5, if_neg n10]; rfl⟩
            · rw [if_neg q5, if_pos rfl, s9, bd_some]
              by_cases q6 : kyC b N (tok b N k) = nI 6
              · left; exact ⟨6, by omega, q6, by rw [if_pos q6, if_neg n10]; rfl⟩
              · rw [if_neg q6, if_pos rfl, s10, bd_some]
                by_cases q7 : kyC b N (tok b N k) = nI 7
                · left; exact ⟨7, by omega, q7, by rw [if_pos q7, if_neg n10]; rfl⟩
                · right
                  refine ⟨fun j hj z => ?_, by rw [if_neg q7, if_pos rfl]⟩
                  match j, hj with
                  | 0, _ => exact q0 z
                  | 1, _ => exact q1 z
                  | 2, _ => exact q2 z
                  | 3, _ => exact q3 z
                  | 4, _ => exact q4 z
                  | 5, _ => exact q5 z
                  | 6, _ => exact q6 z
                  | 7, _ => exact q7 z
theorem mheld {b : Nat → Nat} {N M k : Nat} {r mr : Nat → Nat → Int32} {l ml : Nat → Nat → Int64} {mi : Nat → Int32} (hX : CX b N M r l mr) (h : TSt b N mi (tok b N k)) : (∃ j, j < 17 ∧ kyC b N (tok b N k) = nI j ∧ f_X13_isHeld mi mr ml = some 1) ∨ ((∀ j, j < 17 → ¬ kyC b N (tok b N k) = nI j) ∧ f_X13_isHeld mi mr ml = some 0) := by
  have is : ∀ w, w < 19 → f_X13_is w mi mr ml = some (if kyC b N (tok b N k) = nI (kap.getD w 0) then 1 else 0) := fun w hw => by
    rw [at_is hX h (show w < 20 by omega)]
    by_cases q : isW b N (tok b N k) w = true
    · rw [if_pos q, if_pos ((kyC_iff hw).mpr q)]
    · rw [if_neg q, if_neg (fun z => q ((kyC_iff hw).mp z))]
  have s4 : f_X13_is 4 mi mr ml = some (if kyC b N (tok b N k) = nI 8 then 1 else 0) := is 4 (by omega)
  have s11 : f_X13_is 11 mi mr ml = some (if kyC b N (tok b N k) = nI 9 then 1 else 0) := is 11 (by omega)
  have s12 : f_X13_is 12 mi mr ml = some (if kyC b N (tok b N k) = nI 10 then 1 else 0) := is 12 (by omega)
  have s13 : f_X13_is 13 mi mr ml = some (if kyC b N (tok b N k) = nI 11 then 1 else 0) := is 13 (by omega)
  have s14 : f_X13_is 14 mi mr ml = some (if kyC b N (tok b N k) = nI 12 then 1 else 0) := is 14 (by omega)
  have s15 : f_X13_is 15 mi mr ml = some (if kyC b N (tok b N k) = nI 13 then 1 else 0) := is 15 (by omega)
  have s16 : f_X13_is 16 mi mr ml = some (if kyC b N (tok b N k) = nI 14 then 1 else 0) := is 16 (by omega)
  have s17 : f_X13_is 17 mi mr ml = some (if kyC b N (tok b N k) = nI 15 then 1 else 0) := is 17 (by omega)
  have s18 : f_X13_is 18 mi mr ml = some (if kyC b N (tok b N k) = nI 16 then 1 else 0) := is 18 (by omega)
  rw [f_X13_isHeld]
  rcases mstep (ml := ml) hX h with ⟨j, hj, e1, e2⟩ | ⟨hno, e2⟩
  · left
    exact ⟨j, by omega, e1, by rw [e2, bd_some, if_neg (nm1N (by omega))]⟩
  · rw [e2, bd_some, if_pos rfl, s4, bd_some]
    by_cases q8 : kyC b N (tok b N k) = nI 8
    · left; exact ⟨8, by omega, q8, by rw [if_pos q8, if_neg n10]⟩
    · rw [if_neg q8, if_pos rfl, s11, bd_some]
      by_cases q9 : kyC b N (tok b N k) = nI 9
      · left; exact ⟨9, by omega, q9, by rw [if_pos q9, if_neg n10]⟩
      · rw [if_neg q9, if_pos rfl, s12, bd_some]
        by_cases q10 : kyC b N (tok b N k) = nI 10
        · left; exact ⟨10, by omega, q10, by rw [if_pos q10, if_neg n10]⟩
        · rw [if_neg q10, if_pos rfl, s13, bd_some]
          by_cases q11 : kyC b N (tok b N k) = nI 11
          · left; exact ⟨11, by omega, q11, by rw [if_pos q11, if_neg n10]⟩
          · rw [if_neg q11, if_pos rfl, s14, bd_some]
            by_cases q12 : kyC b N (tok b N k) = nI 12
            · left; exact ⟨12, by omega, q12, by rw [if_pos q12, if_neg n10]⟩
            · rw [if_neg q12, if_pos rfl, s15, bd_some]
              by_cases q13 : kyC b N (tok b N k) = nI 13
              · left; exact ⟨13, by omega, q13, by rw [if_pos q13, if_neg n10]⟩
              · rw [if_neg q13, if_pos rfl, s16, bd_some]
                by_cases q14 : kyC b N (tok b N k) = nI 14
                · left; exact ⟨14, by omega, q14, by rw [if_pos q14, if_neg n10]⟩
                · rw [if_neg q14, if_pos rfl, s17, bd_some]
                  by_cases q15 : kyC b N (tok b N k) = nI 15
                  · left; exact ⟨15, by omega, q15, by rw [if_pos q15, if_neg n10]⟩
                  · rw [if_neg q15, if_pos rfl, s18, bd_some]
                    by_cases q16 : kyC b N (tok b N k) = nI 16
                    · left; exact ⟨16, by omega, q16, by rw [if_pos q16, if_neg n10]⟩
                    · right
                      refine ⟨fun j hj z => ?_, by rw [if_neg q16, if_pos rfl]⟩
                      by_cases h8 : j < 8
                      · exact hno j h8 z
                      · have hj' : j = 8 ∨ j = 9 ∨ j = 10 ∨ j = 11 ∨ j = 12 ∨ j = 13 ∨ j = 14 ∨ j = 15 ∨ j = 16 := by omega
                        rcases hj' with e | e | e | e | e | e | e | e | e <;> subst e
                        · exact q8 z
                        · exact q9 z
                        · exact q10 z
                        · exact q11 z
                        · exact q12 z
                        · exact q13 z
                        · exact q14 z
                        · exact q15 z
                        · exact q16 z
/-! a name as two numbers -/
def nm5 (l : List Nat) (x : Nat) : Nat := l.foldl (fun x c => x * 32 + (c - 96)) x
def nm5R (l : List Nat) : Nat := l.foldr (fun c x => x * 32 + (c - 96)) 0
def okNm (t : List Nat) : Prop := 2 ≤ t.length ∧ t.length ≤ 8 ∧ ∀ c ∈ t, 97 ≤ c ∧ c ≤ 122
theorem nm5R_inj : ∀ (l m : List Nat), (∀ c ∈ l, 97 ≤ c ∧ c ≤ 122) → (∀ c ∈ m, 97 ≤ c ∧ c ≤ 122) → nm5R l = nm5R m → l = m
  | [], [], _, _, _ => rfl
  | [], d :: m, _, hm, h => by
    have h1 := hm d List.mem_cons_self
    have h : 0 = nm5R m * 32 + (d - 96) := h
    omega
  | c :: l, [], hl, _, h => by
    have h1 := hl c List.mem_cons_self
    have h : nm5R l * 32 + (c - 96) = 0 := h
    omega
  | c :: l, d :: m, hl, hm, h => by
    have h1 := hl c List.mem_cons_self
    have h2 := hm d List.mem_cons_self
    have h : nm5R l * 32 + (c - 96) = nm5R m * 32 + (d - 96) := h
    have e1 : c = d := by omega
    have e2 : nm5R l = nm5R m := by omega
    rw [e1, nm5R_inj l m (fun x hx => hl x (List.mem_cons_of_mem _ hx)) (fun x hx => hm x (List.mem_cons_of_mem _ hx)) e2]
theorem nm5_inj {l m : List Nat} (hl : ∀ c ∈ l, 97 ≤ c ∧ c ≤ 122) (hm : ∀ c ∈ m, 97 ≤ c ∧ c ≤ 122) (h : nm5 l 0 = nm5 m 0) : l = m := by
  have e : ∀ l : List Nat, nm5 l 0 = nm5R l.reverse := fun l => by
    show l.foldl (fun x c => x * 32 + (c - 96)) 0 = l.reverse.foldr (fun c x => x * 32 + (c - 96)) 0
    rw [List.foldr_reverse]
  rw [e, e] at h
  have := nm5R_inj l.reverse m.reverse (fun c hc => hl c (List.mem_reverse.mp hc)) (fun c hc => hm c (List.mem_reverse.mp hc)) h
  exact List.reverse_inj.mp this
theorem nm5_lt : ∀ (l : List Nat) (x m : Nat), (∀ c ∈ l, 97 ≤ c ∧ c ≤ 122) → x < 2 ^ (5 * m) → nm5 l x < 2 ^ (5 * (m + l.length))
  | [], x, m, _, h => h
  | c :: l, x, m, hb, h => by
    have hc := hb c List.mem_cons_self
    have e8 : 2 ^ (5 * (m + 1)) = 2 ^ (5 * m) * 32 := by rw [show 5 * (m + 1) = 5 * m + 5 by omega, Nat.pow_add]
    have := nm5_lt l (x * 32 + (c - 96)) (m + 1) (fun z hz => hb z (List.mem_cons_of_mem _ hz)) (by rw [e8]; omega)
    rw [show m + (c :: l).length = m + 1 + l.length by rw [List.length_cons]; omega]
    exact this
/-- two names are one in both or in neither -/
theorem nm_eq {t u : List Nat} (ht : okNm t) (hu : okNm u) : (lN (encL t 0) = lN (encL u 0) ↔ t = u) ∧ (lN (nm5 t 0) = lN (nm5 u 0) ↔ t = u) := by
  have enc : ∀ t : List Nat, okNm t → encL t 0 < 2 ^ 63 := fun t ht => by
    obtain ⟨h1, h2, h3⟩ := ht
    match t, h1, h2, h3 with
    | c :: l, h1, h2, h3 =>
      have hc := h3 c List.mem_cons_self
      rw [List.length_cons] at h2
      rw [encL_cons]
      have := encL_lt l (0 * 256 + c) 0 (fun z hz => by have := h3 z (List.mem_cons_of_mem _ hz); omega) (by omega)
      have h7 := Nat.pow_le_pow_right (n := 2) (by omega) (show 8 * (0 + l.length) ≤ 56 by omega)
      omega
  have n5 : ∀ t : List Nat, okNm t → nm5 t 0 < 2 ^ 63 := fun t ht => by
    obtain ⟨h1, h2, h3⟩ := ht
    have := nm5_lt t 0 0 h3 (by decide)
    have h7 := Nat.pow_le_pow_right (n := 2) (by omega) (show 5 * (0 + t.length) ≤ 63 by omega)
    omega
  rw [pk_lEQ (enc t ht) (enc u hu), pk_lEQ (n5 t ht) (n5 u hu)]
  refine ⟨⟨fun h => encL_inj (fun c hc => by have := ht.2.2 c hc; omega) (fun c hc => by have := hu.2.2 c hc; omega) h, fun h => by rw [h]⟩, ⟨fun h => nm5_inj ht.2.2 hu.2.2 h, fun h => by rw [h]⟩⟩
theorem nm_go {b : Nat → Nat} {N e : Nat} {mi : Nat → Int32} {mr : Nat → Nat → Int32} {ml : Nat → Nat → Int64} (hN : N ≤ 900) (hb : BM b N (mr 1)) (he : e ≤ N) (h5 : mi 5 = nI e) : ∀ (d p m x n : Nat), p + d = e → d < n → (∀ k, p ≤ k → k < p + d → 97 ≤ b k ∧ b k ≤ 122) → m + d ≤ 8 → x < 2 ^ (5 * m) → f_X13_nameAtHand_55 mr ml n mi (lN x) (nI p) = some (.inl (lN (nm5 (txL b d p) x), mi)) := by
  intro d
  induction d with
  | zero =>
    intro p m x n hp hn hl hm hx
    obtain ⟨n, rfl⟩ : ∃ m, n = m + 1 := ⟨n - 1, by omega⟩
    rw [f_X13_nameAtHand_55, h5, if_pos (nI_le (by omega) (by omega))]
    rfl
  | succ d ih =>
    intro p m x n hp hn hl hm hx
    obtain ⟨n, rfl⟩ : ∃ m, n = m + 1 := ⟨n - 1, by omega⟩
    have hc := hl p (Nat.le_refl _) (by omega)
    have e8 : 2 ^ (5 * (m + 1)) = 2 ^ (5 * m) * 32 := by rw [show 5 * (m + 1) = 5 * m + 5 by omega, Nat.pow_add]
    have hle : 2 ^ (5 * (m + 1)) ≤ 2 ^ 40 := Nat.pow_le_pow_right (by omega) (by omega)
    have hx2 : x * 32 + (b p - 96) < 2 ^ (5 * (m + 1)) := by rw [e8]; omega
    have hx3 : x * 2 ^ 5 < 2 ^ 64 := Nat.lt_of_le_of_lt (Nat.le_add_right _ (b p - 96)) (Nat.lt_of_lt_of_le hx2 (Nat.le_trans hle (by decide)))
    have hx4 : b p - 96 < 2 ^ 64 := Nat.lt_of_lt_of_le (show b p - 96 < 32 by omega) (by decide)
    have h0 : (lN x <<< ((5 : Int32).toInt64 &&& 63)) ||| (((mr 1 p) - 96).toInt64) = lN (x * 32 + (b p - 96)) := by
      rw [(hb p (by omega)).2, show s8 (b p) = nI (b p) from fa_byte_small (by omega), show (96 : Int32) = nI 96 from rfl, pk_sub (by omega), nI_l (by omega)]
      show (lN x <<< ((nI 5).toInt64 &&& 63)) ||| lN (b p - 96) = _
      rw [wb_shl x (k := 5) (by omega), wb_or hx3 hx4, show x * 2 ^ 5 = 2 ^ 5 * x from Nat.mul_comm _ _, ← Nat.two_pow_add_eq_or_of_lt (show b p - 96 < 2 ^ 5 by omega), show 2 ^ 5 * x + (b p - 96) = x * 32 + (b p - 96) by rw [Nat.mul_comm]]
    rw [f_X13_nameAtHand_55, h5, if_neg (nI_ge (by omega) (by omega)), ck_t (inb_nI (by omega) (by omega)), nI_clamp (by omega), h0, nI_1, ih (p + 1) (m + 1) (x * 32 + (b p - 96)) n (by omega) (by omega) (fun k k1 k2 => hl k (by omega) (by omega)) (by omega) hx2]
    rfl
theorem wName {b : Nat → Nat} {N M k : Nat} {r mr : Nat → Nat → Int32} {l ml : Nat → Nat → Int64} {i mi : Nat → Int32} (hX : CX b N M r l mr) (h : AT b N M k i mi) : (f_X9_seesName i r l = some 1 ∧ f_X9_word i r l = some (lN (encL (tx b (tok b N k)) 0)) ∧ f_X13_nameAtHand mi mr ml = some (.inl (lN (nm5 (tx b (tok b N k)) 0), mi)) ∧ okNm (tx b (tok b N k)) ∧ tkK b N (tok b N k) = 1) ∨ (∃ w i' mi', f_X9_seesName i r l = some 0 ∧ f_X9_word i r l = some w ∧ f_X9_fail i r l 1 = some i' ∧ f_X13_nameAtHand mi mr ml = some (.inr mi') ∧ FT i' mi') := by
  have hM := hX.2.1
  have hkM := h.1.1
  have hin := ca_in hX h.1
  have hle := tok_le b N k
  have l255 : (255 : Int64).toInt = 255 := by decide
  obtain ⟨i', a1, a2⟩ := both_fail hX h (c := 1) i01
  rw [f_X9_seesName, f_X9_word, ck_t hin, ck_t hin, h.1.2.2.1, nI_clamp (by omega)]
  by_cases hk : tkK b N (tok b N k) = 1
  · obtain ⟨e1, e2, e3, e4⟩ := tx_enc hk
    obtain ⟨g1, g2, g3, g4, g5⟩ := tkK1 hk
    rw [if_pos ((kind_sm (x := 1) h.1 (c := 1) (by omega) rfl).mpr hk), (hX.2.2.2.1 k hkM).2.2.2.1 hk]
    have hcmp : (lg_cmp (lN (encL (tx b (tok b N k)) 0)) 255 ≤ 0) ↔ encL (tx b (tok b N k)) 0 ≤ 255 := by
      have hg : (0 < lg_cmp (lN (encL (tx b (tok b N k)) 0)) 255) ↔ 255 < encL (tx b (tok b N k)) 0 := by rw [lgc_gt, pk_lT e1, l255]; omega
      constructor
      · intro q
        refine Classical.byContradiction fun z => ?_
        have := hg.mpr (by omega)
        rw [le32] at q
        rw [lt32] at this
        omega
      · intro q
        have : ¬ (0 < lg_cmp (lN (encL (tx b (tok b N k)) 0)) 255) := fun z => by have := hg.mp z; omega
        rw [lt32] at this
        rw [le32]
        omega
    have hN1 : f_X13_nameAtHand mi mr ml = f_X13_nameAtHand_27 mr ml mi (if (tok b N k).2 - (tok b N k).1 ≤ 1 then 0 else 1) := by
      rw [f_X13_nameAtHand, if_pos ((hand_if (x := 1) h.2.1 (c := 1) (by omega) rfl).mpr hk), h.2.1.2.2.1, h.2.1.2.1, pk_sub hle.1]
      by_cases q : (tok b N k).2 - (tok b N k).1 ≤ 1
      · rw [if_pos (show nI ((tok b N k).2 - (tok b N k).1) ≤ (1 : Int32) from nI_le (b := 1) q (by omega)), if_pos q, f_X13_nameAtHand_26]
      · rw [if_neg (show ¬ nI ((tok b N k).2 - (tok b N k).1) ≤ (1 : Int32) from nI_ge (a := 1) (by omega) (by omega)), if_neg q]
    by_cases hd : (tok b N k).2 - (tok b N k).1 = 1
    · right
      have hb122 := of_decide_eq_true g2
      refine ⟨_, i', _, ?_, rfl, a1, ?_, a2⟩
      · rw [if_pos (hcmp.mpr (by rw [e2 hd]; omega))]
      · rw [hN1, if_pos (by omega), f_X13_nameAtHand_27, need0, bt_r]
    · rw [if_neg (fun z => by have := hcmp.mp z; have := e3 hd; omega), h.1.2.2.2.2.1]
      rw [if_neg (by omega), f_X13_nameAtHand_27, need1, bt_l] at hN1
      rcases mheld (ml := ml) hX h.2.1 with ⟨j, hj, q1, q2⟩ | ⟨hno, q2⟩
      · right
        refine ⟨_, i', _, ?_, rfl, a1, ?_, a2⟩
        · rw [q1, if_neg (nI_pos (by omega)), if_pos (show nI j ≤ (16 : Int32) from nI_le (b := 16) (by omega) (by omega))]
        · rw [hN1, q2, bd_some, if_neg n10, f_X13_nameAtHand_44, need0, bt_r]
      · left
        refine ⟨?_, rfl, ?_, ⟨?_, ?_, e4⟩, hk⟩
        · rcases kyC_range b N (tok b N k) with ⟨j, hj, q⟩ | q
          · have h17 : ¬ j < 17 := fun z => hno j z q
            rw [q, if_neg (nI_pos (by omega)), if_neg (show ¬ nI j ≤ (16 : Int32) from nI_ge (a := 16) (by omega) (by omega))]
          · rw [q, if_pos (by decide)]
        · rw [hN1, q2, bd_some, if_pos rfl, f_X13_nameAtHand_44, need1, bt_l, h.2.1.2.1]
          exact nm_go hX.1 hX.2.2.2.2.2 hle.2 h.2.1.2.2.1 ((tok b N k).2 - (tok b N k).1) (tok b N k).1 0 0 2000000 (by omega) (by omega) (fun z z1 z2 => by
            have := of_decide_eq_true (rn_all (q := smL) (b := b) (N := N) z1 (by omega))
            exact this) (by omega) (by decide)
        · rw [tx, txL_len]; omega
        · rw [tx, txL_len]; omega
  · right
    refine ⟨_, i', _, ?_, rfl, a1, ?_, a2⟩
    · rw [if_neg (fun z => hk ((kind_sm (x := 1) h.1 (c := 1) (by omega) rfl).mp z))]
    · rw [f_X13_nameAtHand, if_neg (fun z => hk ((hand_if (x := 1) h.2.1 (c := 1) (by omega) rfl).mp z)), f_X13_nameAtHand_26, f_X13_nameAtHand_27, need0, bt_r]
