/-! ===== TOKENS: both readers at one TOKEN ===== -/
theorem bt_l {α β γ : Type} (a : α) (k : α → Option γ) (k2 : β → Option γ) : bt (some (.inl a)) k k2 = k a := rfl
theorem bt_r {α β γ : Type} (a : β) (k : α → Option γ) (k2 : β → Option γ) : bt (some (.inr a)) k k2 = k2 a := rfl
def CX (b : Nat → Nat) (N M : Nat) (r : Nat → Nat → Int32) (l : Nat → Nat → Int64) (mr : Nat → Nat → Int32) : Prop := N ≤ 900 ∧ M ≤ 900 ∧ (tok b N M).1 = N ∧ (∀ k, k ≤ M → TKr b N r l k) ∧ (∀ k, k < M → (tok b N k).1 < N) ∧ BM b N (mr 1)
def CA (b : Nat → Nat) (N M k : Nat) (i : Nat → Int32) : Prop := k ≤ M ∧ i 6 = nI (M + 1) ∧ i 7 = nI k ∧ i 8 = kC b N (tok b N k) ∧ i 9 = kyC b N (tok b N k) ∧ i 10 = 0 ∧ i 11 = -1
def AT (b : Nat → Nat) (N M k : Nat) (i mi : Nat → Int32) : Prop := CA b N M k i ∧ TSt b N mi (tok b N k) ∧ mi 8 = 0 ∧ mi 9 = -1
def FM (i : Nat → Int32) : Prop := ¬ i 10 = 0 ∧ i 8 = 3 ∧ i 9 = -1 ∧ ∃ k, k ≤ 900 ∧ i 7 = nI k
def FT (i mi : Nat → Int32) : Prop := FM i ∧ i 10 = mi 8 ∧ i 11 = mi 9
theorem CX.mr {b : Nat → Nat} {N M : Nat} {r : Nat → Nat → Int32} {l : Nat → Nat → Int64} {mr mr' : Nat → Nat → Int32} (h : CX b N M r l mr) (e : mr' 1 = mr 1) : CX b N M r l mr' := ⟨h.1, h.2.1, h.2.2.1, h.2.2.2.1, h.2.2.2.2.1, by rw [e]; exact h.2.2.2.2.2⟩
theorem TSt.mi {b : Nat → Nat} {N : Nat} {mi mi' : Nat → Int32} {t : Nat × Nat} (h : TSt b N mi t) (e : ∀ s, 3 ≤ s → s ≤ 9 → mi' s = mi s) : TSt b N mi' t := by
  obtain ⟨h3, h4, h5, h6, h7, h8⟩ := h
  exact ⟨(e 3 (by omega) (by omega)).trans h3, (e 4 (by omega) (by omega)).trans h4, (e 5 (by omega) (by omega)).trans h5, (e 6 (by omega) (by omega)).trans h6, fun q => (e 7 (by omega) (by omega)).trans (h7 q), fun q => (e 7 (by omega) (by omega)).trans (h8 q)⟩
theorem AT.mi {b : Nat → Nat} {N M k : Nat} {i mi mi' : Nat → Int32} (h : AT b N M k i mi) (e : ∀ s, 3 ≤ s → s ≤ 9 → mi' s = mi s) : AT b N M k i mi' := ⟨h.1, h.2.1.mi e, (e 8 (by omega) (by omega)).trans h.2.2.1, (e 9 (by omega) (by omega)).trans h.2.2.2⟩
theorem FT.mi {i mi mi' : Nat → Int32} (h : FT i mi) (e8 : mi' 8 = mi 8) (e9 : mi' 9 = mi 9) : FT i mi' := ⟨h.1, h.2.1.trans e8.symm, h.2.2.trans e9.symm⟩
theorem tk_end {b : Nat → Nat} {N M k : Nat} {r : Nat → Nat → Int32} {l : Nat → Nat → Int64} {mr : Nat → Nat → Int32} (hX : CX b N M r l mr) (hk : k ≤ M) : (tkK b N (tok b N k) = 0) ↔ k = M := by
  obtain ⟨x1, x2, x3, x4, x5, x6⟩ := hX
  constructor
  · intro h
    refine Classical.byContradiction fun q => ?_
    have h1 := x5 k (by omega)
    unfold tkK at h
    rw [if_neg (by omega)] at h
    by_cases c2 : smL (b (tok b N k).1) = true
    · rw [if_pos c2] at h; split at h <;> omega
    · rw [if_neg c2] at h
      by_cases c3 : dg (b (tok b N k).1) = true
      · rw [if_pos c3] at h; split at h <;> omega
      · rw [if_neg c3] at h; split at h <;> omega
  · intro h
    rw [h, tkK, if_pos (by omega)]
theorem cadv {b : Nat → Nat} {N M k : Nat} {r : Nat → Nat → Int32} {l : Nat → Nat → Int64} {mr : Nat → Nat → Int32} {i : Nat → Int32} (hX : CX b N M r l mr) (h : CA b N M k i) (hk : k < M) : ∃ i', f_X9_advance i r l = some i' ∧ CA b N M (k + 1) i' ∧ ∀ s, s ≠ 7 → s ≠ 8 → s ≠ 9 → i' s = i s := by
  obtain ⟨x1, x2, x3, x4, x5, x6⟩ := hX
  obtain ⟨h1, h6, h7, h8, h9, h10, h11⟩ := h
  have hin := inb_nI (n := k + 1) (N := 901) (by omega) (by omega)
  obtain ⟨t1, t2, t3, t4, t5⟩ := x4 (k + 1) (by omega)
  refine ⟨upd (upd (upd i 7 (nI (k + 1))) 8 (r 1 (k + 1))) 9 (r 2 (k + 1)), ?_, ?_, ?_⟩
  · rw [f_X9_advance, h10, if_pos rfl, h6, h7, show (1 : Int32) = nI 1 from rfl, pk_sub (by omega), if_neg (nI_ge (by omega) (by omega)), nI_add, ck_t hin, ck_t hin, nI_clamp (by omega)]
  · refine ⟨by omega, ?_, ?_, ?_, ?_, ?_, ?_⟩
    · rw [pk_un (by omega), pk_un (by omega), pk_un (by omega), h6]
    · rw [pk_un (by omega), pk_un (by omega), pk_us]
    · rw [pk_un (by omega), pk_us, t1]
    · rw [pk_us, t2]
    · rw [pk_un (by omega), pk_un (by omega), pk_un (by omega), h10]
    · rw [pk_un (by omega), pk_un (by omega), pk_un (by omega), h11]
  · intro s s7 s8 s9
    rw [pk_un s9, pk_un s8, pk_un s7]
theorem mscan {b : Nat → Nat} {N M k : Nat} {r : Nat → Nat → Int32} {l ml : Nat → Nat → Int64} {mr : Nat → Nat → Int32} {mi : Nat → Int32} (hX : CX b N M r l mr) (h : TSt b N mi (tok b N k)) : ∃ mi', f_X13_scan mi mr ml = some mi' ∧ TSt b N mi' (tok b N (k + 1)) ∧ ∀ s, s ≠ 4 → s ≠ 5 → s ≠ 6 → s ≠ 7 → mi' s = mi s := by
  obtain ⟨mi', a1, a2⟩ := mscan_ok (ml := ml) hX.1 hX.2.2.2.2.2 (tok_le b N k).2 h.1 h.2.2.1
  exact ⟨mi', a1, a2, fun s s4 s5 s6 s7 => fr_X13_scan a1 s (by omega)⟩
/-- both go on -/
theorem both_adv {b : Nat → Nat} {N M k : Nat} {r : Nat → Nat → Int32} {l ml : Nat → Nat → Int64} {mr : Nat → Nat → Int32} {i mi : Nat → Int32} (hX : CX b N M r l mr) (h : AT b N M k i mi) (hk : ¬ tkK b N (tok b N k) = 0) : k < M ∧ ∃ i' mi', f_X9_advance i r l = some i' ∧ f_X13_scan mi mr ml = some mi' ∧ AT b N M (k + 1) i' mi' ∧ ∀ s, s ≠ 4 → s ≠ 5 → s ≠ 6 → s ≠ 7 → mi' s = mi s := by
  have hkM : k < M := by
    have h1 := h.1.1
    have h2 : k ≠ M := fun q => hk ((tk_end hX h1).mpr q)
    omega
  obtain ⟨i', a1, a2, a3⟩ := cadv hX h.1 hkM
  obtain ⟨mi', b1, b2, b3⟩ := mscan (ml := ml) hX h.2.1
  exact ⟨hkM, i', mi', a1, b1, ⟨a2, b2, by rw [b3 8 (by omega) (by omega) (by omega) (by omega)]; exact h.2.2.1, by rw [b3 9 (by omega) (by omega) (by omega) (by omega)]; exact h.2.2.2⟩, b3⟩
theorem need1 {mi : Nat → Int32} {mr : Nat → Nat → Int32} {ml : Nat → Nat → Int64} (c : Int32) : f_X13_need mi mr ml 1 c = some (.inl mi) := by
  rw [f_X13_need, if_neg n10]
theorem need0 {mi : Nat → Int32} {mr : Nat → Nat → Int32} {ml : Nat → Nat → Int64} (c : Int32) : f_X13_need mi mr ml 0 c = some (.inr (upd (upd mi 8 c) 9 (mi 4))) := by
  rw [f_X13_need, if_pos rfl, f_X13_wrong]
  rfl
/-- both fail -/
theorem both_fail {b : Nat → Nat} {N M k : Nat} {r : Nat → Nat → Int32} {l : Nat → Nat → Int64} {mr : Nat → Nat → Int32} {i mi : Nat → Int32} (hX : CX b N M r l mr) (h : AT b N M k i mi) {c : Int32} (hc : ¬ c = 0) : ∃ i', f_X9_fail i r l c = some i' ∧ FT i' (upd (upd mi 8 c) 9 (mi 4)) := by
  obtain ⟨x1, x2, x3, x4, x5, x6⟩ := hX
  obtain ⟨⟨h1, h6, h7, h8, h9, h10, h11⟩, hT, hm8, hm9⟩ := h
  refine ⟨upd (upd (upd (upd i 10 c) 11 (r 3 k)) 8 3) 9 (-1), ?_, ⟨?_, ?_, ?_, k, by omega, ?_⟩, ?_, ?_⟩
  · rw [f_X9_fail, h10, if_pos rfl, h7, ck_t (inb_nI (by omega) (by omega)), nI_clamp (by omega)]
  · rw [pk_un (by omega), pk_un (by omega), pk_un (by omega), pk_us]
    exact hc
  · rw [pk_un (by omega), pk_us]
  · rw [pk_us]
  · rw [pk_un (by omega), pk_un (by omega), pk_un (by omega), pk_un (by omega), h7]
  · rw [pk_un (by omega), pk_un (by omega), pk_un (by omega), pk_us, pk_un (by omega), pk_us]
  · rw [pk_un (by omega), pk_un (by omega), pk_us, pk_us, (x4 k h1).2.2.1, hT.2.1]
/-! behind a fault nothing moves -/
theorem fm_upd {i : Nat → Int32} (h : FM i) : upd (upd i 8 3) 9 (-1) = i := by
  rw [fa_upd_same (show i 8 = 3 from h.2.1), fa_upd_same h.2.2.1]
theorem fm_fail {i : Nat → Int32} {r : Nat → Nat → Int32} {l : Nat → Nat → Int64} (h : FM i) (c : Int32) : f_X9_fail i r l c = some i := by
  rw [f_X9_fail, if_neg h.1, fm_upd h]
theorem fm_adv {i : Nat → Int32} {r : Nat → Nat → Int32} {l : Nat → Nat → Int64} (h : FM i) : f_X9_advance i r l = some i := by
  rw [f_X9_advance, if_neg h.1]
theorem fm_key {i : Nat → Int32} {r : Nat → Nat → Int32} {l : Nat → Nat → Int64} (h : FM i) {c : Int32} (hc : ¬ (-1) = c) : f_X9_wantKey i r l c = some i := by
  rw [f_X9_wantKey, h.2.2.1, if_neg hc, fm_fail h]
  rfl
theorem fm_kind {i : Nat → Int32} {r : Nat → Nat → Int32} {l : Nat → Nat → Int64} (h : FM i) {c : Int32} (hc : ¬ 3 = c) : f_X9_wantKind i r l c = some i := by
  rw [f_X9_wantKind, h.2.1, if_neg hc, fm_fail h]
  rfl
theorem fm_sees {i : Nat → Int32} {r : Nat → Nat → Int32} {l : Nat → Nat → Int64} (h : FM i) : f_X9_seesName i r l = some 0 := by
  rw [f_X9_seesName, h.2.1, if_neg (by decide)]
theorem fm_name {i : Nat → Int32} {r : Nat → Nat → Int32} {l : Nat → Nat → Int64} (h : FM i) : f_X9_wantName i r l = some i := by
  rw [f_X9_wantName, fm_sees h, bd_some, if_pos rfl, fm_fail h]
  rfl
theorem fm_in {i : Nat → Int32} (h : FM i) : inb (i 7) 901 = true := by
  obtain ⟨k, h1, h2⟩ := h.2.2.2
  rw [h2]
  exact inb_nI (by omega) (by omega)
theorem fm_num {i : Nat → Int32} {r : Nat → Nat → Int32} {l : Nat → Nat → Int64} (h : FM i) (x y : Int32) : f_X9_wantNumber i r l x y = some (x, i) := by
  rw [f_X9_wantNumber, ck_t (fm_in h), h.2.1, if_neg (by decide), fm_fail h]
  rfl
theorem fm_let {i : Nat → Int32} {r : Nat → Nat → Int32} {l : Nat → Nat → Int64} (h : FM i) : f_X9_letter i r l = some (-1) := by
  rw [f_X9_letter, ck_t (fm_in h), h.2.1, if_neg (by decide)]
theorem fm_failed {i : Nat → Int32} {r : Nat → Nat → Int32} {l : Nat → Nat → Int64} (h : FM i) : f_X9_failed i r l = some 1 := by
  rw [f_X9_failed, if_neg h.1]
theorem ca_failed {b : Nat → Nat} {N M k : Nat} {i : Nat → Int32} {r : Nat → Nat → Int32} {l : Nat → Nat → Int64} (h : CA b N M k i) : f_X9_failed i r l = some 0 := by
  rw [f_X9_failed, if_pos h.2.2.2.2.2.1]
/-! what stands at hand -/
def kap : List Nat := [17, 3, 18, 4, 8, 0, 1, 2, 5, 6, 7, 9, 10, 11, 12, 13, 14, 15, 16]
theorem kap_ok : ∀ w, w < 19 → swd.getD w [] = kwd.getD (kap.getD w 0) [] ∧ kap.getD w 0 < 19 := by decide +kernel
theorem key_iff {b : Nat → Nat} {N M k w : Nat} {i : Nat → Int32} (h : CA b N M k i) (hw : w < 19) : (i 9 = nI (kap.getD w 0)) ↔ isW b N (tok b N k) w = true := by
  obtain ⟨e1, e2⟩ := kap_ok w hw
  rw [h.2.2.2.2.1, kyC]
  by_cases hk : tkK b N (tok b N k) = 1
  · rw [if_pos hk, kyT_iff e2, ← e1]
    exact ⟨fun q => decide_eq_true ⟨hk, q⟩, fun q => (of_decide_eq_true q).2⟩
  · rw [if_neg hk]
    exact ⟨fun q => absurd q.symm (nm1N (by omega)), fun q => absurd (of_decide_eq_true q).1 hk⟩
theorem kind_iff {b : Nat → Nat} {N M k c : Nat} {i : Nat → Int32} (h : CA b N M k i) (hc : 33 ≤ c) (hc2 : c < 2 ^ 31) : (i 8 = nI c) ↔ isS b N (tok b N k) c = true := by
  have hk5 := tkK_lt b N (tok b N k)
  rw [h.2.2.2.1, kC]
  by_cases h4 : tkK b N (tok b N k) = 4
  · rw [if_pos h4]
    refine ⟨fun q => ?_, fun q => ?_⟩
    · have := nI_inj (a := 3) (by omega) hc2 q
      omega
    · have := (of_decide_eq_true q).1
      omega
  · rw [if_neg h4]
    by_cases h3 : tkK b N (tok b N k) = 3
    · have hb := sg_bnd (tkK3 h3).2
      rw [if_pos h3]
      exact ⟨fun q => decide_eq_true ⟨h3, nI_inj (by omega) hc2 q⟩, fun q => by rw [(of_decide_eq_true q).2]⟩
    · rw [if_neg h3]
      refine ⟨fun q => ?_, fun q => absurd (of_decide_eq_true q).1 h3⟩
      have := nI_inj (by omega) hc2 q
      omega
theorem kind_small {b : Nat → Nat} {N M k c : Nat} {i : Nat → Int32} (h : CA b N M k i) (hc : c < 3) : (i 8 = nI c) ↔ tkK b N (tok b N k) = c := by
  have hk5 := tkK_lt b N (tok b N k)
  rw [h.2.2.2.1, kC]
  by_cases h4 : tkK b N (tok b N k) = 4
  · rw [if_pos h4]
    refine ⟨fun q => ?_, fun q => by omega⟩
    have := nI_inj (a := 3) (by omega) (by omega) q
    omega
  · rw [if_neg h4]
    by_cases h3 : tkK b N (tok b N k) = 3
    · have hb := sg_bnd (tkK3 h3).2
      rw [if_pos h3]
      refine ⟨fun q => ?_, fun q => by omega⟩
      have := nI_inj (by omega) (by omega) q
      omega
    · rw [if_neg h3]
      exact ⟨fun q => nI_inj (by omega) (by omega) q, fun q => by rw [q]⟩
theorem hand_iff {b : Nat → Nat} {N c : Nat} {mi : Nat → Int32} {t : Nat × Nat} (h : TSt b N mi t) (hc : c < 5) : (mi 6 = nI c) ↔ tkK b N t = c := by
  have hk5 := tkK_lt b N t
  rw [h.2.2.2.1]
  exact ⟨fun q => nI_inj (by omega) (by omega) q, fun q => by rw [q]⟩
theorem key_if {b : Nat → Nat} {N M k w : Nat} {i : Nat → Int32} {x : Int32} (h : CA b N M k i) (hw : w < 19) (hx : x = nI (kap.getD w 0)) : (i 9 = x) ↔ isW b N (tok b N k) w = true := by
  rw [hx]
  exact key_iff h hw
theorem kind_if {b : Nat → Nat} {N M k c : Nat} {i : Nat → Int32} {x : Int32} (h : CA b N M k i) (hc : 33 ≤ c) (hc2 : c < 2 ^ 31) (hx : x = nI c) : (i 8 = x) ↔ isS b N (tok b N k) c = true := by
  rw [hx]
  exact kind_iff h hc hc2
theorem kind_sm {b : Nat → Nat} {N M k c : Nat} {i : Nat → Int32} {x : Int32} (h : CA b N M k i) (hc : c < 3) (hx : x = nI c) : (i 8 = x) ↔ tkK b N (tok b N k) = c := by
  rw [hx]
  exact kind_small h hc
theorem hand_if {b : Nat → Nat} {N c : Nat} {mi : Nat → Int32} {t : Nat × Nat} {x : Int32} (h : TSt b N mi t) (hc : c < 5) (hx : x = nI c) : (mi 6 = x) ↔ tkK b N t = c := by
  rw [hx]
  exact hand_iff h hc
theorem at_is {b : Nat → Nat} {N M k w : Nat} {r : Nat → Nat → Int32} {l ml : Nat → Nat → Int64} {mr : Nat → Nat → Int32} {mi : Nat → Int32} (hX : CX b N M r l mr) (h : TSt b N mi (tok b N k)) (hw : w < 20) : f_X13_is w mi mr ml = some (if isW b N (tok b N k) w = true then 1 else 0) := is_ok hw hX.1 hX.2.2.2.2.2 (tok_le b N k) h
theorem isW_k {b : Nat → Nat} {N w : Nat} {t : Nat × Nat} (h : isW b N t w = true) : tkK b N t = 1 := (of_decide_eq_true h).1
theorem isS_k {b : Nat → Nat} {N w : Nat} {t : Nat × Nat} (h : isS b N t w = true) : tkK b N t = 3 := (of_decide_eq_true h).1
theorem i01 : ¬ (1 : Int32) = 0 := by decide
theorem wKey {b : Nat → Nat} {N M k w : Nat} {r : Nat → Nat → Int32} {l ml : Nat → Nat → Int64} {mr : Nat → Nat → Int32} {i mi : Nat → Int32} {c : Int32} (hX : CX b N M r l mr) (h : AT b N M k i mi) (hw : w < 19) (hc : c = nI (kap.getD w 0)) : (k < M ∧ isW b N (tok b N k) w = true ∧ ∃ i' mi', f_X9_wantKey i r l c = some i' ∧ f_X13_word w mi mr ml = some (.inl mi') ∧ AT b N M (k + 1) i' mi') ∨ (isW b N (tok b N k) w = false ∧ ∃ i' mi', f_X9_wantKey i r l c = some i' ∧ f_X13_word w mi mr ml = some (.inr mi') ∧ FT i' mi') := by
  subst hc
  rw [f_X9_wantKey, f_X13_word, at_is hX h.2.1 (by omega), bd_some]
  by_cases e : isW b N (tok b N k) w = true
  · left
    obtain ⟨a0, i', mi', a1, a2, a3, a4⟩ := both_adv (ml := ml) hX h (by rw [isW_k e]; omega)
    exact ⟨a0, e, i', mi', by rw [if_pos ((key_iff h.1 hw).mpr e), a1]; rfl, by rw [if_pos e, need1, bt_l, a2]; rfl, a3⟩
  · right
    obtain ⟨i', a1, a2⟩ := both_fail hX h (c := 1) i01
    exact ⟨bF e, i', _, by rw [if_neg (fun q => e ((key_iff h.1 hw).mp q)), a1]; rfl, by rw [if_neg e, need0, bt_r], a2⟩
theorem wSign {b : Nat → Nat} {N M k c : Nat} {r : Nat → Nat → Int32} {l ml : Nat → Nat → Int64} {mr : Nat → Nat → Int32} {i mi : Nat → Int32} {x : Int32} (hX : CX b N M r l mr) (h : AT b N M k i mi) (hc : 33 ≤ c) (hc2 : c < 2 ^ 31) (hx : x = nI c) : (k < M ∧ isS b N (tok b N k) c = true ∧ ∃ i' mi', f_X9_wantKind i r l x = some i' ∧ f_X13_sign mi mr ml x = some (.inl mi') ∧ AT b N M (k + 1) i' mi') ∨ (isS b N (tok b N k) c = false ∧ ∃ i' mi', f_X9_wantKind i r l x = some i' ∧ f_X13_sign mi mr ml x = some (.inr mi') ∧ FT i' mi') := by
  subst hx
  rw [f_X9_wantKind, f_X13_sign, isSign_ok hc2 h.2.1, bd_some]
  by_cases e : isS b N (tok b N k) c = true
  · left
    obtain ⟨a0, i', mi', a1, a2, a3, a4⟩ := both_adv (ml := ml) hX h (by rw [isS_k e]; omega)
    exact ⟨a0, e, i', mi', by rw [if_pos ((kind_iff h.1 hc hc2).mpr e), a1]; rfl, by rw [if_pos e, need1, bt_l, a2]; rfl, a3⟩
  · right
    obtain ⟨i', a1, a2⟩ := both_fail hX h (c := 1) i01
    exact ⟨bF e, i', _, by rw [if_neg (fun q => e ((kind_iff h.1 hc hc2).mp q)), a1]; rfl, by rw [if_neg e, need0, bt_r], a2⟩
theorem tkK2 {b : Nat → Nat} {N k : Nat} (h : tkK b N (tok b N k) = 2) : valL (tx b (tok b N k)) 0 < 10000 := by
  have he : (tok b N k).2 = ep b N (tok b N k).1 := rfl
  unfold tkK at h
  by_cases c1 : N ≤ (tok b N k).1
  · rw [if_pos c1] at h; omega
  · rw [if_neg c1] at h
    by_cases c2 : smL (b (tok b N k).1) = true
    · rw [if_pos c2] at h; split at h <;> omega
    · rw [if_neg c2] at h
      by_cases c3 : dg (b (tok b N k).1) = true
      · rw [if_pos c3] at h
        have q4 : (tok b N k).2 - (tok b N k).1 ≤ 4 := by
          refine Classical.byContradiction fun q9 => ?_
          rw [if_neg q9] at h
          omega
        have hep : (tok b N k).2 = rn dg b N (tok b N k).1 := by rw [he, ep, if_neg c1, if_neg c2, if_pos c3]
        have w := (nq_ok (b := b) ((tok b N k).2 - (tok b N k).1) (tok b N k).1 0 0 (fun z z1 z2 => rn_all (q := dg) (N := N) z1 (by have := (tok_le b N k).1; omega)) (by omega) (by decide)).2
        have h4 := Nat.pow_le_pow_right (n := 10) (by omega) (show 0 + ((tok b N k).2 - (tok b N k).1) ≤ 4 by omega)
        exact Nat.lt_of_lt_of_le w h4
      · rw [if_neg c3] at h; split at h <;> omega
/-- the number at hand -/
def vN (b : Nat → Nat) (t : Nat × Nat) : Nat := valL (tx b t) 0
theorem cnum {b : Nat → Nat} {N M k : Nat} {r : Nat → Nat → Int32} {l : Nat → Nat → Int64} {mr : Nat → Nat → Int32} {i : Nat → Int32} (hX : CX b N M r l mr) (h : CA b N M k i) (hk : tkK b N (tok b N k) = 2) : (l 4 (i 7).toNatClampNeg).toInt32 = nI (vN b (tok b N k)) ∧ inb (i 7) 901 = true := by
  obtain ⟨h1, h6, h7, h8⟩ := h
  have hM := hX.2.1
  rw [h7, nI_clamp (by omega), (hX.2.2.2.1 k h1).2.2.2.2 hk, lN_i]
  exact ⟨rfl, inb_nI (by omega) (by omega)⟩
theorem ca_in {b : Nat → Nat} {N M k : Nat} {r : Nat → Nat → Int32} {l : Nat → Nat → Int64} {mr : Nat → Nat → Int32} {i : Nat → Int32} (hX : CX b N M r l mr) (h : CA b N M k i) : inb (i 7) 901 = true := by
  have hM := hX.2.1
  have h1 := h.1
  rw [h.2.2.1]
  exact inb_nI (by omega) (by omega)
theorem look_2 {mi : Nat → Int32} {mr : Nat → Nat → Int32} {ml : Nat → Nat → Int64} {v lo hi : Nat} (h6 : mi 6 = 2) (h7 : mi 7 = nI v) (hv : v < 2 ^ 31) (hlo : lo < 2 ^ 31) (hhi : hi < 2 ^ 31) : f_X13_look mi mr ml (nI lo) (nI hi) = if lo ≤ v ∧ v ≤ hi then some (.inl (nI v, mi)) else some (.inr (upd (upd mi 8 2) 9 (mi 4))) := by
  rw [f_X13_look, if_pos h6, f_X13_look_14, need1, bt_l, f_in, bd_some, h7, i2l_toInt, i2l_toInt, i2l_toInt, nI_toInt hlo, nI_toInt hv, nI_toInt hhi]
  by_cases q : lo ≤ v ∧ v ≤ hi
  · rw [if_pos q, if_pos (by omega), need1, bt_l, h7]
  · rw [if_neg q, if_neg (by omega), need0, bt_r]
theorem look_n {mi : Nat → Int32} {mr : Nat → Nat → Int32} {ml : Nat → Nat → Int64} (h6 : ¬ mi 6 = 2) (x y : Int32) : f_X13_look mi mr ml x y = some (.inr (upd (upd mi 8 1) 9 (mi 4))) := by
  rw [f_X13_look, if_neg h6, f_X13_look_14, need0, bt_r]
theorem wNum {b : Nat → Nat} {N M k lo hi : Nat} {r : Nat → Nat → Int32} {l ml : Nat → Nat → Int64} {mr : Nat → Nat → Int32} {i mi : Nat → Int32} (hX : CX b N M r l mr) (h : AT b N M k i mi) (hlo : lo < 2 ^ 31) (hhi : hi < 2 ^ 31) : (k < M ∧ tkK b N (tok b N k) = 2 ∧ lo ≤ vN b (tok b N k) ∧ vN b (tok b N k) ≤ hi ∧ ∃ i' mi', f_X9_wantNumber i r l (nI lo) (nI hi) = some (nI (vN b (tok b N k)), i') ∧ f_X13_number mi mr ml (nI lo) (nI hi) = some (.inl (nI (vN b (tok b N k)), mi')) ∧ AT b N M (k + 1) i' mi') ∨ (¬ (tkK b N (tok b N k) = 2 ∧ lo ≤ vN b (tok b N k) ∧ vN b (tok b N k) ≤ hi) ∧ ∃ i' mi', f_X9_wantNumber i r l (nI lo) (nI hi) = some (nI lo, i') ∧ f_X13_number mi mr ml (nI lo) (nI hi) = some (.inr mi') ∧ FT i' mi') := by
  by_cases hk : tkK b N (tok b N k) = 2
  · obtain ⟨c1, c2⟩ := cnum hX h.1 hk
    have hv : vN b (tok b N k) < 10000 := tkK2 hk
    have hm7 : mi 7 = nI (vN b (tok b N k)) := h.2.1.2.2.2.2.1 hk
    rw [f_X13_number, look_2 ((hand_if (x := 2) h.2.1 (c := 2) (by omega) rfl).mpr hk) hm7 (by omega) hlo hhi, f_X9_wantNumber, ck_t c2, if_pos ((kind_sm (x := 2) h.1 (c := 2) (by omega) rfl).mpr hk), c1]
    by_cases q : lo ≤ vN b (tok b N k) ∧ vN b (tok b N k) ≤ hi
    · left
      obtain ⟨a0, i', mi', a1, a2, a3, a4⟩ := both_adv (ml := ml) hX h (by omega)
      exact ⟨a0, hk, q.1, q.2, i', mi', by rw [if_neg (nI_nlt q.1 (by omega)), if_pos (nI_le q.2 (by omega)), a1]; rfl, by rw [if_pos q, bt_l, a2]; rfl, a3⟩
    · right
      obtain ⟨i', a1, a2⟩ := both_fail hX h (c := 2) (by decide)
      refine ⟨fun z => q z.2, i', _, ?_, by rw [if_neg q, bt_r], a2⟩
      by_cases q1 : vN b (tok b N k) < lo
      · rw [if_pos (nI_lt q1 hlo), f_X9_wantNumber_36, a1]
        rfl
      · rw [if_neg (nI_nlt (by omega) (by omega)), if_neg (nI_ge (by omega) (by omega)), f_X9_wantNumber_36, a1]
        rfl
  · right
    obtain ⟨i', a1, a2⟩ := both_fail hX h (c := 1) i01
    refine ⟨fun z => hk z.1, i', _, ?_, ?_, a2⟩
    · rw [f_X9_wantNumber, ck_t (ca_in hX h.1), if_neg (fun z => hk ((kind_sm (x := 2) h.1 (c := 2) (by omega) rfl).mp z)), a1]
      rfl
    · rw [f_X13_number, look_n (fun z => hk ((hand_if (x := 2) h.2.1 (c := 2) (by omega) rfl).mp z)), bt_r]
/-- the beginning of both -/
theorem both_begin {i mi : Nat → Int32} {r mr : Nat → Nat → Int32} {l ml : Nat → Nat → Int64} (h : GT i r mi mr) : ∃ b N M i' l' r' mi', f_X9_begin i r l = some (i', l', r') ∧ f_X13_begin mi mr ml = some mi' ∧ CX b N M r' l' mr ∧ AT b N M 0 i' mi' ∧ mi' 2 = 0 := by
  obtain ⟨N, hN, h5, h2, hb, h8, h9⟩ := h
  obtain ⟨b, hC, hM⟩ := hb.bytes
  have h0 : CSm b N 0 0 (upd i 6 0) r l := ⟨by rw [pk_un (by omega), h5], by rw [pk_us]; rfl, by omega, by omega, rfl, hC, fun k hk => by omega⟩
  obtain ⟨M, i', l', r', a1, ⟨b1, b2, b3, b4, b5⟩, a3, a4⟩ := scan_go hN N 0 2000000 0 0 _ l r (by omega) (by omega) (by omega) h0
  have e0 : (0 : Int32).toNatClampNeg = 0 := by decide
  have i0 : inb 0 901 = true := inb_nI (n := 0) (N := 901) (by omega) (by omega)
  obtain ⟨t1, t2, t3, t4, t5⟩ := b4 0 (by omega)
  have m3 : upd (upd (upd (upd (upd mi 3 (mi 2)) 2 0) 5 0) 8 0) 9 (-1) 3 = nI N := by
    rw [pk_un (by omega), pk_un (by omega), pk_un (by omega), pk_un (by omega), pk_us, h2]
  have m5 : upd (upd (upd (upd (upd mi 3 (mi 2)) 2 0) 5 0) 8 0) 9 (-1) 5 = nI 0 := by
    rw [pk_un (by omega), pk_un (by omega), pk_us]
    rfl
  obtain ⟨mi', c1, c2⟩ := mscan_ok (ml := ml) hN hM (Nat.zero_le N) m3 m5
  have F := fr_X13_scan c1
  refine ⟨b, N, M, upd (upd (upd (upd (upd i' 7 0) 8 (r' 1 0)) 9 (r' 2 0)) 10 0) 11 (-1), l', r', mi', ?_, ?_, ⟨hN, b2, b3, b4, b5, hM⟩, ⟨⟨Nat.zero_le _, ?_, ?_, ?_, ?_, ?_, ?_⟩, c2, ?_, ?_⟩, ?_⟩
  · rw [f_X9_begin, f_X9_scan]
    have a1 : f_X9_scan_9 2000000 (upd i 6 0) l r 0 0 = some (i', l', r') := a1
    rw [a1, bd_some, ck_t i0, ck_t i0, f_X9_begin_34, e0]
  · rw [f_X13_begin, f_X13_begin_23, c1]
    rfl
  · rw [pk_un (by omega), pk_un (by omega), pk_un (by omega), pk_un (by omega), pk_un (by omega)]
    exact b1
  · rw [pk_un (by omega), pk_un (by omega), pk_un (by omega), pk_un (by omega), pk_us]
    rfl
  · rw [pk_un (by omega), pk_un (by omega), pk_un (by omega), pk_us, t1]
  · rw [pk_un (by omega), pk_un (by omega), pk_us, t2]
  · rw [pk_un (by omega), pk_us]
  · rw [pk_us]
  · rw [F 8 (by omega), pk_un (by omega), pk_us]
  · rw [F 9 (by omega), pk_us]
  · rw [F 2 (by omega), pk_un (by omega), pk_un (by omega), pk_un (by omega), pk_us]
