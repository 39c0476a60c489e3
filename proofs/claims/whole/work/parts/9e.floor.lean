/-! ===== floor: the text of a FLOOR read ===== -/
theorem tb0 {T v : Nat} (hT : T < 2 ^ 31) (hv : v < 32) : (((nI T >>> (nI v &&& 31)) &&& 1) = 0) ↔ T.testBit v = false := by
  have h1 : T / 2 ^ v < 2 ^ 32 := Nat.lt_of_le_of_lt (Nat.div_le_self _ _) (by omega)
  have h2 : T / 2 ^ v % 2 < 2 := Nat.mod_lt _ (by omega)
  rw [shr hT hv, and1 h1, Nat.testBit_eq_decide_div_mod_eq, decide_eq_false_iff_not]
  constructor
  · intro h
    have := nI_inj (b := 0) (by omega) (by omega) h
    omega
  · intro h
    rw [show T / 2 ^ v % 2 = 0 by omega]
    rfl
theorem bit_or {T v j : Nat} : (T ||| 2 ^ v).testBit j = (T.testBit j || decide (v = j)) := by
  rw [Nat.testBit_or, Nat.testBit_two_pow]
theorem cnt_up {p q : Nat → Bool} {v : Nat} : ∀ n, v < n → p v = false → q v = true → (∀ j, j ≠ v → q j = p j) → fa_cnt q n = fa_cnt p n + 1
  | 0, h, _, _, _ => by omega
  | n + 1, h, h1, h2, h3 => by
    by_cases e : v = n
    · subst e
      rw [fa_cnt_yes h2, fa_cnt_no h1, fa_cnt_cong (p := q) (q := p) (fun k hk => h3 k (by omega))]
    · have ih := cnt_up n (by omega) h1 h2 h3
      have e2 := h3 n (fun z => e z.symm)
      cases hq : q n with
      | true => rw [fa_cnt_yes hq, fa_cnt_yes (e2.symm.trans hq), ih]
      | false => rw [fa_cnt_no hq, fa_cnt_no (e2.symm.trans hq), ih]
theorem wLane {b : Nat → Nat} {N M k L T : Nat} {r r2 mr : Nat → Nat → Int32} {l ml : Nat → Nat → Int64} {i i2 mi : Nat → Int32} (hX : CX b N M r l mr) (h : AT b N M k i mi) (hL1 : 1 ≤ L) (hL : L ≤ 8) (hT : T < 2 ^ 31) (hi2 : i2 4 = nI L) (hm : mr 10 6 = nI L) : (k < M ∧ ∃ v i' mi', v < L ∧ T.testBit v = false ∧ f_X3_readLane i r l i2 r2 (nI T) = some (nI v, i') ∧ f_X13_lane mi mr ml (nI T) = some (.inl (nI v, mi')) ∧ AT b N M (k + 1) i' mi') ∨ (∃ i' mi', f_X3_readLane i r l i2 r2 (nI T) = some (nI 0, i') ∧ f_X13_lane mi mr ml (nI T) = some (.inr mi') ∧ FT i' mi') := by
  have i6 : inb 6 8 = true := inb_nI (n := 6) (N := 8) (by omega) (by omega)
  have eL : nI L - 1 = nI (L - 1) := by rw [show (1 : Int32) = nI 1 from rfl, pk_sub hL1]
  have hin := ca_in hX h.1
  rw [f_X3_readLane, f_X9_kind, bd_some, f_X13_lane, ck_t i6, six, hm, eL]
  by_cases hk : tkK b N (tok b N k) = 2
  · obtain ⟨c1, c2⟩ := cnum hX h.1 hk
    have hv : vN b (tok b N k) < 10000 := tkK2 hk
    have hm7 : mi 7 = nI (vN b (tok b N k)) := h.2.1.2.2.2.2.1 hk
    have hk2 : i 8 = 2 := (kind_sm (x := 2) h.1 (c := 2) (by omega) rfl).mpr hk
    have hl : f_X13_look mi mr ml 0 (nI (L - 1)) = if 0 ≤ vN b (tok b N k) ∧ vN b (tok b N k) ≤ L - 1 then some (.inl (nI (vN b (tok b N k)), mi)) else some (.inr (upd (upd mi 8 2) 9 (mi 4))) := look_2 (lo := 0) ((hand_if (x := 2) h.2.1 (c := 2) (by omega) rfl).mpr hk) hm7 (by omega) (by omega) (by omega)
    rw [if_pos hk2, f_X9_number, ck_t hin, bd_some, f_X2_lanes, bd_some, hi2, c1, hl]
    by_cases hvL : vN b (tok b N k) < L
    · rw [if_neg (nI_ge hvL (by omega)), bd_some, if_pos (show 0 ≤ vN b (tok b N k) ∧ vN b (tok b N k) ≤ L - 1 from ⟨by omega, by omega⟩), bt_l]
      by_cases ht : T.testBit (vN b (tok b N k)) = false
      · left
        rcases wNum (lo := 0) (hi := L - 1) (ml := ml) hX h (by omega) (by omega) with ⟨a0, a1, a2, a3, i', mi', a4, a5, a6⟩ | ⟨q, -⟩
        · have a4 : f_X9_wantNumber i r l 0 (nI (L - 1)) = some (nI (vN b (tok b N k)), i') := a4
          obtain ⟨z0, i9, mi9, z1, z2, z3, z4⟩ := both_adv (ml := ml) hX h (by omega)
          have a5 : f_X13_number mi mr ml 0 (nI (L - 1)) = some (.inl (nI (vN b (tok b N k)), mi')) := a5
          rw [f_X13_number, hl, if_pos (show 0 ≤ vN b (tok b N k) ∧ vN b (tok b N k) ≤ L - 1 from ⟨by omega, by omega⟩), bt_l, z2, bd_some] at a5
          have e9 : mi9 = mi' := congrArg Prod.snd (Sum.inl.inj (Option.some.inj a5))
          subst e9
          refine ⟨a0, vN b (tok b N k), i', mi9, hvL, ht, ?_, ?_, a6⟩
          · rw [if_pos ((tb0 hT (by omega)).mpr ht), f_X3_readLane_47, f_X2_lanes, bd_some, hi2, eL, a4]
            rfl
          · rw [if_pos ((tb0 hT (by omega)).mpr ht), f_X13_lane_29, need1, bt_l, z2]
            rfl
        · exact absurd ⟨hk, by omega, by omega⟩ q
      · right
        obtain ⟨i', a1, a2⟩ := both_fail hX h (c := 3) (by decide)
        refine ⟨i', _, ?_, ?_, a2⟩
        · rw [if_neg (fun z => ht ((tb0 hT (by omega)).mp z)), a1, bd_some, f_X3_readLane_47, f_X2_lanes, bd_some, fm_num a2.1]
          rfl
        · rw [if_neg (fun z => ht ((tb0 hT (by omega)).mp z)), f_X13_lane_29, need0, bt_r]
    · right
      obtain ⟨i', a1, a2⟩ := both_fail hX h (c := 2) (by decide)
      refine ⟨i', _, ?_, ?_, a2⟩
      · rw [if_pos (nI_le (by omega) (by omega)), f_X3_readLane_47, f_X2_lanes, bd_some, hi2, eL, f_X9_wantNumber, ck_t hin, if_pos hk2, c1, if_neg (nI_pos (by omega)), if_neg (nI_ge (by omega) (by omega)), f_X9_wantNumber_36, a1]
        rfl
      · rw [if_neg (show ¬ (0 ≤ vN b (tok b N k) ∧ vN b (tok b N k) ≤ L - 1) from fun z => by omega), bt_r]
  · right
    obtain ⟨i', a1, a2⟩ := both_fail hX h (c := 1) i01
    have hk2 : ¬ i 8 = 2 := fun z => hk ((kind_sm (x := 2) h.1 (c := 2) (by omega) rfl).mp z)
    refine ⟨i', _, ?_, ?_, a2⟩
    · rw [if_neg hk2, f_X3_readLane_47, f_X2_lanes, bd_some, f_X9_wantNumber, ck_t hin, if_neg hk2, a1]
      rfl
    · rw [look_n (fun z => hk ((hand_if (x := 2) h.2.1 (c := 2) (by omega) rfl).mp z)), bt_r]
theorem fm_lane {i i2 : Nat → Int32} {r r2 : Nat → Nat → Int32} {l : Nat → Nat → Int64} (h : FM i) (x : Int32) : f_X3_readLane i r l i2 r2 x = some (nI 0, i) := by
  rw [f_X3_readLane, f_X9_kind, bd_some, h.2.1, if_neg (by decide), f_X3_readLane_47, f_X2_lanes, bd_some, fm_num h]
  rfl
theorem fm_ifs {i i2 : Nat → Int32} {r r2 : Nat → Nat → Int32} {l : Nat → Nat → Int64} (h : FM i) (n : Nat) (x y z : Int32) : f_X3_readIfs_5 r l i2 r2 (n + 1) i x y z = some (y, i) := by
  rw [f_X3_readIfs_5]
  by_cases e : (8 : Int32) < z
  · rw [if_pos e]
  · rw [if_neg e, f_X9_key, bd_some, h.2.2.1, if_neg (by decide)]
theorem ifs_go {b : Nat → Nat} {N M L T : Nat} {r r2 mr : Nat → Nat → Int32} {l ml : Nat → Nat → Int64} {i2 : Nat → Int32} {xa xb : Int32} (hX : CX b N M r l mr) (hL1 : 1 ≤ L) (hL : L ≤ 8) (hT : T < 2 ^ L) (hi2 : i2 4 = nI L) (hm : mr 10 6 = nI L) : ∀ (d k n s : Nat) (i mi : Nat → Int32) (fu fv : Nat), M ≤ k + d → d + 1 < fu → d + 1 < fv → AT b N M k i mi → s < 2 ^ L → (∀ j, s.testBit j = true → T.testBit j = false) → n + 1 ≤ fa_cnt (fun j => (T ||| s).testBit j) L → (∃ k' s' i' mi', k ≤ k' ∧ f_X3_readIfs_5 r l i2 r2 fu i (nI T) (nI s) (nI n) = some (nI s', i') ∧ f_X13_readStep_98 ml fv mi mr xa xb (nI T) (nI s) = bt (f_X13_sign mi' mr ml 59) (fun q14 => bd (f_X13_add q14 mr ml xa xb (nI s')) (fun q15 => some (.inl (q14, q15)))) (fun t14 => some (.inr (t14, mr))) ∧ AT b N M k' i' mi' ∧ s' < 2 ^ L ∧ ∀ j, s'.testBit j = true → T.testBit j = false) ∨ (∃ z i' mi', f_X3_readIfs_5 r l i2 r2 fu i (nI T) (nI s) (nI n) = some (z, i') ∧ f_X13_readStep_98 ml fv mi mr xa xb (nI T) (nI s) = some (.inr (mi', mr)) ∧ FT i' mi') := by
  have hp := p2 hL
  intro d
  induction d with
  | zero =>
    intro k n s i mi fu fv hk hfu hfv h hs hd hc
    obtain ⟨fu, rfl⟩ : ∃ m, fu = m + 1 := ⟨fu - 1, by omega⟩
    obtain ⟨fv, rfl⟩ : ∃ m, fv = m + 1 := ⟨fv - 1, by omega⟩
    have hkM : k = M := by have := h.1.1; omega
    have e0 := (tk_end hX h.1.1).mpr hkM
    have hw : ¬ isW b N (tok b N k) 3 = true := fun z => by have := isW_k z; omega
    have hn : n ≤ 8 := by have := fa_cnt_le (fun j => (T ||| s).testBit j) L; omega
    left
    refine ⟨k, s, i, mi, Nat.le_refl _, ?_, ?_, h, hs, hd⟩
    · rw [f_X3_readIfs_5, if_neg (show ¬ (8 : Int32) < nI n from nI_nlt (a := 8) (by omega) (by omega)), f_X9_key, bd_some, if_neg (fun z => hw ((key_if (x := 4) h.1 (w := 3) (by omega) rfl).mp z))]
    · rw [f_X13_readStep_98, at_is hX h.2.1 (by omega), bd_some, if_neg hw, if_pos rfl]
  | succ d ih =>
    intro k n s i mi fu fv hk hfu hfv h hs hd hc
    obtain ⟨fu, rfl⟩ : ∃ m, fu = m + 1 := ⟨fu - 1, by omega⟩
    obtain ⟨fv, rfl⟩ : ∃ m, fv = m + 1 := ⟨fv - 1, by omega⟩
    have hn : n ≤ 8 := by have := fa_cnt_le (fun j => (T ||| s).testBit j) L; omega
    rw [f_X3_readIfs_5, if_neg (show ¬ (8 : Int32) < nI n from nI_nlt (a := 8) (by omega) (by omega)), f_X9_key, bd_some, f_X13_readStep_98, at_is hX h.2.1 (by omega), bd_some]
    by_cases hw : isW b N (tok b N k) 3 = true
    · rw [if_pos ((key_if (x := 4) h.1 (w := 3) (by omega) rfl).mpr hw), if_pos hw, if_neg n10]
      obtain ⟨a0, i1, mi1, a1, a2, a3, a4⟩ := both_adv (ml := ml) hX h (by rw [isW_k hw]; omega)
      have hor : T ||| s < 2 ^ L := Nat.or_lt_two_pow hT hs
      rw [a1, bd_some, a2, bd_some, fa_or]
      rcases wLane (r2 := r2) (ml := ml) (T := T ||| s) hX a3 hL1 hL (by omega) hi2 hm with ⟨b0, v, i3, mi3, b1, b2, b3, b4, b5⟩ | ⟨i3, mi3, b3, b4, b5⟩
      · rw [b3, bd_some, b4, bt_l, nI_1]
        show (∃ k' s' i' mi', k ≤ k' ∧ f_X3_readIfs_5 r l i2 r2 fu i3 (nI T) (nI s ||| (1 : Int32) <<< (nI v &&& 31)) (nI (n + 1)) = some (nI s', i') ∧ f_X13_readStep_98 ml fv mi3 mr xa xb (nI T) (nI s ||| (1 : Int32) <<< (nI v &&& 31)) = _ ∧ _) ∨ (∃ z i' mi', f_X3_readIfs_5 r l i2 r2 fu i3 (nI T) (nI s ||| (1 : Int32) <<< (nI v &&& 31)) (nI (n + 1)) = some (z, i') ∧ f_X13_readStep_98 ml fv mi3 mr xa xb (nI T) (nI s ||| (1 : Int32) <<< (nI v &&& 31)) = _ ∧ _)
        rw [sh1 (by omega), fa_or]
        have hv2 : 2 ^ v < 2 ^ L := Nat.pow_lt_pow_right (by omega) b1
        rw [Nat.testBit_or, Bool.or_eq_false_iff] at b2
        have hd2 : ∀ j, (s ||| 2 ^ v).testBit j = true → T.testBit j = false := fun j hj => by
          rw [bit_or, Bool.or_eq_true] at hj
          rcases hj with hj | hj
          · exact hd j hj
          · rw [← of_decide_eq_true hj]; exact b2.1
        have hc2 : n + 1 + 1 ≤ fa_cnt (fun j => (T ||| (s ||| 2 ^ v)).testBit j) L := by
          rw [cnt_up (p := fun j => (T ||| s).testBit j) (v := v) L b1 (by show (T ||| s).testBit v = false; rw [Nat.testBit_or, b2.1, b2.2]; rfl) (by show (T ||| (s ||| 2 ^ v)).testBit v = true; rw [Nat.testBit_or, bit_or, decide_eq_true rfl, Bool.or_true, Bool.or_true]) (fun j hj => by
            show (T ||| (s ||| 2 ^ v)).testBit j = (T ||| s).testBit j
            rw [Nat.testBit_or, bit_or, Nat.testBit_or, decide_eq_false (fun z => hj z.symm), Bool.or_false])]
          omega
        rcases ih (k + 1 + 1) (n + 1) (s ||| 2 ^ v) i3 mi3 fu fv (by omega) (by omega) (by omega) b5 (Nat.or_lt_two_pow hs hv2) hd2 hc2 with ⟨k', s', i', mi', c0, c1, c2, c3, c4, c5⟩ | ⟨z, i', mi', c1, c2, c3⟩
        · exact Or.inl ⟨k', s', i', mi', by omega, c1, c2, c3, c4, c5⟩
        · exact Or.inr ⟨z, i', mi', c1, c2, c3⟩
      · right
        obtain ⟨fu, rfl⟩ : ∃ m, fu = m + 1 := ⟨fu - 1, by omega⟩
        rw [b3, bd_some, b4, bt_r]
        exact ⟨_, i3, mi3, fm_ifs b5.1 fu _ _ _, rfl, b5⟩
    · left
      exact ⟨k, s, i, mi, Nat.le_refl _, by rw [if_neg (fun z => hw ((key_if (x := 4) h.1 (w := 3) (by omega) rfl).mp z))], by rw [if_neg hw, if_pos rfl], h, hs, hd⟩
def lnT (a : Nat) (o : Option Nat) : Nat := match o with | none => 2 ^ a | some c => 2 ^ a ||| 2 ^ c
/-- what is left of a STEP, once its lanes are read -/
theorem step_tail {b : Nat → Nat} {N M k L T a : Nat} {o : Option Nat} {ls : List FSt} {r r2 mr : Nat → Nat → Int32} {l ml : Nat → Nat → Int64} {i i2 mi : Nat → Int32} {y : Int32} (hX : CX b N M r l mr) (hL1 : 1 ≤ L) (hL : L ≤ 8) (hF : FL L ls i2 r2) (hM : MF L ls mr 6) (hl : ls.length < 40) (h : AT b N M k i mi) (ha : a < L) (ho : ∀ c, o = some c → c < L ∧ c ≠ a) (hy : y = 0 ↔ o = none) (hT : T = lnT a o) : (∃ k' t i' mi' i3 r3, k ≤ k' ∧ f_X3_readStep_79 r l i i2 r2 y (nI a) (nI T) (oI o) = some (i', i3, r3) ∧ f_X13_readStep_98 ml 2000000 mi mr (nI a) (oI o) (nI T) 0 = bt (f_X13_sign mi' mr ml 59) (fun q14 => bd (f_X13_add q14 mr ml (nI t.1) (oI t.2.1) (nI t.2.2)) (fun q15 => some (.inl (q14, q15)))) (fun t14 => some (.inr (t14, mr))) ∧ AT b N M k' i' mi' ∧ wfS L t ∧ FL L (ls ++ [t]) i3 r3) ∨ (∃ i' mi', f_X3_readStep_79 r l i i2 r2 y (nI a) (nI T) (oI o) = some (i', i2, r2) ∧ f_X13_readStep_98 ml 2000000 mi mr (nI a) (oI o) (nI T) 0 = some (.inr (mi', mr)) ∧ FT i' mi') := by
  have hM9 := hX.2.1
  have ha2 : 2 ^ a < 2 ^ L := Nat.pow_lt_pow_right (by omega) ha
  have hTL : T < 2 ^ L := by
    rw [hT]
    cases o with
    | none => exact ha2
    | some c => exact Nat.or_lt_two_pow ha2 (Nat.pow_lt_pow_right (by omega) (ho c rfl).1)
  have hTa : T.testBit a = true := by
    rw [hT]
    cases o with
    | none => show (2 ^ a).testBit a = true; rw [Nat.testBit_two_pow, decide_eq_true rfl]
    | some c => show (2 ^ a ||| 2 ^ c).testBit a = true; rw [Nat.testBit_or, Nat.testBit_two_pow, decide_eq_true rfl, Bool.true_or]
  have hc : 0 + 1 ≤ fa_cnt (fun j => (T ||| 0).testBit j) L := by
    have := cnt_up (p := fun _ => false) (q := fun j => decide (a = j)) (v := a) L ha rfl (decide_eq_true rfl) (fun j hj => decide_eq_false (fun z => hj z.symm))
    have mono : ∀ n, fa_cnt (fun j => decide (a = j)) n ≤ fa_cnt (fun j => (T ||| 0).testBit j) n := by
      intro n
      induction n with
      | zero => exact Nat.le_refl _
      | succ n ihn =>
        by_cases e : a = n
        · rw [fa_cnt_yes (decide_eq_true e), fa_cnt_yes (by show (T ||| 0).testBit n = true; rw [Nat.or_zero, ← e]; exact hTa)]
          omega
        · rw [fa_cnt_no (decide_eq_false e)]
          cases hq : (T ||| 0).testBit n with
          | true => rw [fa_cnt_yes (p := fun j => (T ||| 0).testBit j) hq]; omega
          | false => rw [fa_cnt_no (p := fun j => (T ||| 0).testBit j) hq]; exact ihn
    have := mono L
    omega
  rcases ifs_go (r2 := r2) (ml := ml) (xa := nI a) (xb := oI o) hX hL1 hL hTL hF.1 hM.1 (M - k) k 0 0 i mi 2000000 2000000 (by omega) (by omega) (by omega) h (Nat.two_pow_pos L) (fun j hj => by rw [Nat.zero_testBit] at hj; cases hj) hc with ⟨k', s', i', mi', c0, c1, c2, c3, c4, c5⟩ | ⟨z, i', mi', c1, c2, c3⟩
  · left
    have c1 : f_X3_readIfs i r l i2 r2 (nI T) = some (nI s', i') := c1
    obtain ⟨i3, r3, d1, d2⟩ := addKind_ok hF hl (a, o, s')
    have hwf : wfS L (a, o, s') := by
      refine ⟨ha, c4, ?_, fun c hco => ⟨(ho c hco).1, (ho c hco).2, ?_⟩⟩
      · refine bF fun q => ?_
        have := c5 a q
        rw [hTa] at this
        cases this
      · refine bF fun q => ?_
        have q2 := c5 c q
        have hco : o = some c := hco
        rw [hT, hco] at q2
        have q3 : (2 ^ a ||| 2 ^ c).testBit c = true := by rw [bit_or, decide_eq_true rfl, Bool.or_true]
        have q2 : (2 ^ a ||| 2 ^ c).testBit c = false := q2
        rw [q3] at q2
        cases q2
    refine ⟨k', (a, o, s'), i', mi', i3, r3, c0, ?_, c2, c3, hwf, d2⟩
    rw [f_X3_readStep_79, c1, bd_some, ca_failed c3.1, bd_some, if_pos rfl]
    cases o with
    | none =>
      have d1 : f_X2_addKind i2 r2 0 (nI a) (-1) (nI s') = some (i3, r3) := d1
      rw [if_pos (hy.mpr rfl), f_X2_addTurn, d1]
      rfl
    | some c =>
      have d1 : f_X2_addKind i2 r2 1 (nI a) (nI c) (nI s') = some (i3, r3) := d1
      rw [if_neg (fun q => by have := hy.mp q; cases this), f_X2_addSwap]
      show bd (bd (f_X2_addKind i2 r2 1 (nI a) (nI c) (nI s')) (fun q2 => some (q2.1, q2.2))) (fun q14 => some (i', q14.1, q14.2)) = _
      rw [d1]
      rfl
  · right
    have c1 : f_X3_readIfs i r l i2 r2 (nI T) = some (z, i') := c1
    refine ⟨i', mi', ?_, c2, c3⟩
    rw [f_X3_readStep_79, c1, bd_some, fm_failed c3.1, bd_some, if_neg i01]
