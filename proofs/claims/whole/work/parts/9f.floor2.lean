/-! ===== floor: its STEPS, and the call ===== -/
theorem fm_79 {i i2 : Nat → Int32} {r r2 : Nat → Nat → Int32} {l : Nat → Nat → Int64} (h : FM i) (y a t o : Int32) : f_X3_readStep_79 r l i i2 r2 y a t o = some (i, i2, r2) := by
  rw [f_X3_readStep_79, f_X3_readIfs, show (2000000 : Nat) = 1999999 + 1 from rfl, fm_ifs h, bd_some, fm_failed h, bd_some, if_neg i01]
theorem isW_ne {b : Nat → Nat} {N : Nat} {t : Nat × Nat} {w v : Nat} (h : isW b N t w = true) (hne : swd.getD w [] ≠ swd.getD v []) : isW b N t v = false := bF fun q => hne ((of_decide_eq_true h).2.symm.trans (of_decide_eq_true q).2)
theorem rstep_ok {b : Nat → Nat} {N M k L : Nat} {ls : List FSt} {r r2 mr : Nat → Nat → Int32} {l ml : Nat → Nat → Int64} {i i2 mi : Nat → Int32} (hX : CX b N M r l mr) (hL1 : 1 ≤ L) (hL : L ≤ 8) (hF : FL L ls i2 r2) (hM : MF L ls mr 6) (hl : ls.length ≤ 40) (h : AT b N M k i mi) (hw : isW b N (tok b N k) 1 = true ∨ isW b N (tok b N k) 2 = true) : (∃ k' t i' mi' i3 r3, k < k' ∧ ls.length < 40 ∧ f_X3_readStep i r l i2 r2 = some (i', i3, r3) ∧ f_X13_readStep mi mr ml = bt (f_X13_sign mi' mr ml 59) (fun q14 => bd (f_X13_add q14 mr ml (nI t.1) (oI t.2.1) (nI t.2.2)) (fun q15 => some (.inl (q14, q15)))) (fun t14 => some (.inr (t14, mr))) ∧ AT b N M k' i' mi' ∧ wfS L t ∧ FL L (ls ++ [t]) i3 r3) ∨ (∃ i' mi', f_X3_readStep i r l i2 r2 = some (i', i2, r2) ∧ f_X13_readStep mi mr ml = some (.inr (mi', mr)) ∧ FT i' mi') := by
  have i6 : inb 6 8 = true := inb_nI (n := 6) (N := 8) (by omega) (by omega)
  have hne : swd.getD 1 [] ≠ swd.getD 2 [] := by decide
  have hk1 : tkK b N (tok b N k) = 1 := by rcases hw with q | q <;> exact isW_k q
  -- the reference up to its lanes
  have hR : ∀ x1 : Int32, (x1 = if isW b N (tok b N k) 1 = true then 1 else 0) → f_X13_readStep mi mr ml = if 40 ≤ ls.length then some (.inr (upd (upd mi 8 4) 9 (mi 4), mr)) else bd (f_X13_scan mi mr ml) (fun q19 => bt (f_X13_lane q19 mr ml 0) (fun q20 => if x1 = 0 then (f_X13_readStep_77 ml q20.2 mr x1 q20.1 (-1)) else (bt (f_X13_lane q20.2 mr ml ((1 : Int32) <<< (q20.1 &&& 31))) (fun q21 => f_X13_readStep_77 ml q21.2 mr x1 q20.1 q21.1) (fun t21 => some (.inr (t21, mr))))) (fun t20 => some (.inr (t20, mr)))) := by
    intro x1 hx1
    have e26 : f_X13_readStep mi mr ml = f_X13_readStep_26 ml mi mr x1 1 := by
      rw [f_X13_readStep, at_is hX h.2.1 (by omega), bd_some]
      by_cases q : isW b N (tok b N k) 1 = true
      · rw [hx1, if_pos q, if_neg n10, f_X13_readStep_21]
      · have q2 : isW b N (tok b N k) 2 = true := by rcases hw with z | z; exact absurd z q; exact z
        rw [hx1, if_neg q, if_pos rfl, at_is hX h.2.1 (by omega), bd_some, if_pos q2, if_neg n10, f_X13_readStep_21]
    rw [e26, f_X13_readStep_26, need1, bt_l, ck_t i6, six, hM.2.1]
    by_cases q : 40 ≤ ls.length
    · rw [if_pos (show (40 : Int32) ≤ nI ls.length from nI_le (a := 40) q (by omega)), if_pos q, f_X13_readStep_48, need0, bt_r]
    · rw [if_neg (show ¬ (40 : Int32) ≤ nI ls.length from nI_ge (b := 40) (by omega) (by omega)), if_neg q, f_X13_readStep_48, need1, bt_l]
  have hR := hR _ rfl
  rw [hR, f_X3_readStep, f_X2_steps, bd_some, hF.2.1]
  by_cases q40 : 40 ≤ ls.length
  · right
    obtain ⟨i', a1, a2⟩ := both_fail hX h (c := 4) (by decide)
    exact ⟨i', _, by rw [if_neg (show ¬ nI ls.length < (40 : Int32) from nI_nlt (b := 40) q40 (by omega)), a1]; rfl, by rw [if_pos q40], a2⟩
  · rw [if_pos (show nI ls.length < (40 : Int32) from nI_lt (b := 40) (by omega) (by omega)), if_neg q40, f_X9_key, bd_some]
    obtain ⟨a0, i1, mi1, a1, a2, a3, a4⟩ := both_adv (ml := ml) hX h (by omega)
    rw [a2, bd_some]
    have hlane := wLane (r2 := r2) (ml := ml) (T := 0) hX a3 hL1 hL (by omega) hF.1 hM.1
    by_cases q : isW b N (tok b N k) 1 = true
    · rw [if_pos ((key_if (x := 3) h.1 (w := 1) (by omega) rfl).mpr q), f_X3_readStep_34, a1, bd_some, if_pos q]
      rcases hlane with ⟨b0, v, i3, mi3, b1, b2, b3, b4, b5⟩ | ⟨i3, mi3, b3, b4, b5⟩
      · have b3 : f_X3_readLane i1 r l i2 r2 0 = some (nI v, i3) := b3
        have b4 : f_X13_lane mi1 mr ml 0 = some (.inl (nI v, mi3)) := b4
        rw [b3, bd_some, if_neg n10, b4, bt_l, if_neg n10]
        show (∃ k' t i' mi' i4 r4, k < k' ∧ ls.length < 40 ∧ bd (f_X3_readLane i3 r l i2 r2 ((1 : Int32) <<< (nI v &&& 31))) (fun q17 => f_X3_readStep_79 r l q17.2 i2 r2 1 (nI v) (((1 : Int32) <<< (nI v &&& 31)) ||| ((1 : Int32) <<< (q17.1 &&& 31))) q17.1) = some (i', i4, r4) ∧ bt (f_X13_lane mi3 mr ml ((1 : Int32) <<< (nI v &&& 31))) (fun q21 => f_X13_readStep_77 ml q21.2 mr 1 (nI v) q21.1) (fun t21 => some (.inr (t21, mr))) = _ ∧ _) ∨ (∃ i' mi', bd (f_X3_readLane i3 r l i2 r2 ((1 : Int32) <<< (nI v &&& 31))) (fun q17 => f_X3_readStep_79 r l q17.2 i2 r2 1 (nI v) (((1 : Int32) <<< (nI v &&& 31)) ||| ((1 : Int32) <<< (q17.1 &&& 31))) q17.1) = some (i', i2, r2) ∧ bt (f_X13_lane mi3 mr ml ((1 : Int32) <<< (nI v &&& 31))) (fun q21 => f_X13_readStep_77 ml q21.2 mr 1 (nI v) q21.1) (fun t21 => some (.inr (t21, mr))) = _ ∧ _)
        have hp9 := Nat.pow_lt_pow_right (a := 2) (by omega) (show v < 9 by omega)
        rw [sh1 (by omega)]
        rcases wLane (r2 := r2) (ml := ml) (T := 2 ^ v) hX b5 hL1 hL (by omega) hF.1 hM.1 with ⟨c0, w, i4, mi4, c1, c2, c3, c4, c5⟩ | ⟨i4, mi4, c3, c4, c5⟩
        · rw [c3, bd_some, c4, bt_l]
          have hwv : w ≠ v := fun z => by rw [z, Nat.testBit_two_pow, decide_eq_true rfl] at c2; cases c2
          have e2 : ((1 : Int32) <<< (nI v &&& 31)) ||| ((1 : Int32) <<< (nI w &&& 31)) = nI (2 ^ v ||| 2 ^ w) := by rw [sh1 (by omega), sh1 (by omega), fa_or]
          rcases step_tail (ml := ml) (o := some w) (T := 2 ^ v ||| 2 ^ w) (y := 1) (a := v) hX hL1 hL hF hM (by omega) c5 b1 (fun c hc => by cases hc; exact ⟨c1, hwv⟩) ⟨fun z => absurd z n10, fun z => by cases z⟩ rfl with ⟨k', t, i', mi', i5, r5, d0, d1, d2, d3, d4, d5⟩ | ⟨i', mi', d1, d2, d3⟩
          · left
            refine ⟨k', t, i', mi', i5, r5, by omega, by omega, ?_, ?_, d3, d4, d5⟩
            · show f_X3_readStep_79 r l i4 i2 r2 1 (nI v) (nI (2 ^ v) ||| ((1 : Int32) <<< (nI w &&& 31))) (nI w) = _
              rw [sh1 (by omega), fa_or]
              exact d1
            · show f_X13_readStep_77 ml mi4 mr 1 (nI v) (nI w) = _
              rw [f_X13_readStep_77, if_neg n10, f_X13_readStep_92, e2]
              exact d2
          · right
            refine ⟨i', mi', ?_, ?_, d3⟩
            · show f_X3_readStep_79 r l i4 i2 r2 1 (nI v) (nI (2 ^ v) ||| ((1 : Int32) <<< (nI w &&& 31))) (nI w) = _
              rw [sh1 (by omega), fa_or]
              exact d1
            · show f_X13_readStep_77 ml mi4 mr 1 (nI v) (nI w) = _
              rw [f_X13_readStep_77, if_neg n10, f_X13_readStep_92, e2]
              exact d2
        · right
          exact ⟨i4, mi4, by rw [c3, bd_some, fm_79 c5.1], by rw [c4, bt_r], c5⟩
      · right
        have b3 : f_X3_readLane i1 r l i2 r2 0 = some (nI 0, i3) := b3
        have b4 : f_X13_lane mi1 mr ml 0 = some (.inr mi3) := b4
        exact ⟨i3, mi3, by rw [b3, bd_some, if_neg n10, fm_lane b5.1, bd_some, fm_79 b5.1], by rw [b4, bt_r], b5⟩
    · rw [if_neg (fun z => q ((key_if (x := 3) h.1 (w := 1) (by omega) rfl).mp z)), f_X3_readStep_34, a1, bd_some, if_neg q]
      rcases hlane with ⟨b0, v, i3, mi3, b1, b2, b3, b4, b5⟩ | ⟨i3, mi3, b3, b4, b5⟩
      · have b3 : f_X3_readLane i1 r l i2 r2 0 = some (nI v, i3) := b3
        have b4 : f_X13_lane mi1 mr ml 0 = some (.inl (nI v, mi3)) := b4
        have hp9 := Nat.pow_lt_pow_right (a := 2) (by omega) (show v < 9 by omega)
        have e2 : ((1 : Int32) <<< (nI v &&& 31)) ||| 0 = nI (2 ^ v) := by rw [sh1 (by omega), show (0 : Int32) = nI 0 from rfl, fa_or, Nat.or_zero]
        rw [b3, bd_some, if_pos rfl, b4, bt_l, if_pos rfl]
        rcases step_tail (ml := ml) (o := none) (T := 2 ^ v) (y := 0) (a := v) hX hL1 hL hF hM (by omega) b5 b1 (fun c hc => by cases hc) ⟨fun _ => rfl, fun _ => rfl⟩ rfl with ⟨k', t, i', mi', i5, r5, d0, d1, d2, d3, d4, d5⟩ | ⟨i', mi', d1, d2, d3⟩
        · left
          refine ⟨k', t, i', mi', i5, r5, by omega, by omega, ?_, ?_, d3, d4, d5⟩
          · show f_X3_readStep_79 r l i3 i2 r2 0 (nI v) ((1 : Int32) <<< (nI v &&& 31)) (-1) = _
            rw [sh1 (by omega)]
            exact d1
          · show f_X13_readStep_77 ml mi3 mr 0 (nI v) (-1) = _
            rw [f_X13_readStep_77, if_pos rfl, f_X13_readStep_92, e2]
            exact d2
        · right
          refine ⟨i', mi', ?_, ?_, d3⟩
          · show f_X3_readStep_79 r l i3 i2 r2 0 (nI v) ((1 : Int32) <<< (nI v &&& 31)) (-1) = _
            rw [sh1 (by omega)]
            exact d1
          · show f_X13_readStep_77 ml mi3 mr 0 (nI v) (-1) = _
            rw [f_X13_readStep_77, if_pos rfl, f_X13_readStep_92, e2]
            exact d2
      · right
        have b3 : f_X3_readLane i1 r l i2 r2 0 = some (nI 0, i3) := b3
        have b4 : f_X13_lane mi1 mr ml 0 = some (.inr mi3) := b4
        exact ⟨i3, mi3, by rw [b3, bd_some, if_pos rfl, fm_79 b5.1], by rw [b4, bt_r], b5⟩
theorem fm_loop {i i2 : Nat → Int32} {r r2 : Nat → Nat → Int32} {l : Nat → Nat → Int64} (h : FM i) (n : Nat) (x : Int32) : f_X3_readInto_41 (n + 1) i l r i2 r2 x = some (0, i, l, r, i2, r2) := by
  have h90 : f_X3_readInto_90 i l r i2 r2 = some (0, i, l, r, i2, r2) := by
    rw [f_X3_readInto_90, fm_kind h (by decide), bd_some, fm_failed h, bd_some, if_neg i01]
  rw [f_X3_readInto_41]
  by_cases e : (40 : Int32) < x
  · rw [if_pos e, h90]
  · rw [if_neg e, f_X9_key, bd_some, h.2.2.1, if_neg (by decide), bd_some, if_neg (by decide), h90]
theorem ca_end {b : Nat → Nat} {N M k : Nat} {r : Nat → Nat → Int32} {l : Nat → Nat → Int64} {mr : Nat → Nat → Int32} {i : Nat → Int32} (hX : CX b N M r l mr) (h : CA b N M k i) (hk : k = M) : f_X9_advance i r l = some i := by
  have hM := hX.2.1
  rw [f_X9_advance, h.2.2.2.2.2.1, if_pos rfl, h.2.1, h.2.2.1, show (1 : Int32) = nI 1 from rfl, pk_sub (by omega), if_pos (nI_le (by omega) (by omega))]
theorem floop {b : Nat → Nat} {N M L : Nat} {r : Nat → Nat → Int32} {l ml : Nat → Nat → Int64} (hL1 : 1 ≤ L) (hL : L ≤ 8) : ∀ (d k : Nat) (ls : List FSt) (i mi i2 : Nat → Int32) (r2 mr : Nat → Nat → Int32) (fu fv : Nat), M ≤ k + d → d + 1 < fu → d + 1 < fv → CX b N M r l mr → AT b N M k i mi → FL L ls i2 r2 → MF L ls mr 6 → fineF L ls → (∃ ls' i' mi' i3 r3 mr', f_X3_readInto_41 fu i l r i2 r2 (nI ls.length) = some (1, i', l, r, i3, r3) ∧ f_X13_readFloor_34 ml fv mi mr = some (.inl (mi', mr')) ∧ fineF L ls' ∧ FL L ls' i3 r3 ∧ MF L ls' mr' 6 ∧ KP 6 mr mr' ∧ i' 10 = mi' 8 ∧ i' 11 = mi' 9) ∨ (∃ i' mi' i3 r3 mr', f_X3_readInto_41 fu i l r i2 r2 (nI ls.length) = some (0, i', l, r, i3, r3) ∧ f_X13_readFloor_34 ml fv mi mr = some (.inr (mi', mr')) ∧ FT i' mi' ∧ KP 6 mr mr') := by
  intro d
  induction d with
  | zero =>
    intro k ls i mi i2 r2 mr fu fv hk hfu hfv hX h hF hM hfi
    obtain ⟨fu, rfl⟩ : ∃ m, fu = m + 1 := ⟨fu - 1, by omega⟩
    obtain ⟨fv, rfl⟩ : ∃ m, fv = m + 1 := ⟨fv - 1, by omega⟩
    have hkM : k = M := by have := h.1.1; omega
    have e0 := (tk_end hX h.1.1).mpr hkM
    have h40 := hfi.2.2.1
    have n18 : ¬ i 9 = 18 := fun z => by have := isW_k ((key_if (x := 18) h.1 (w := 2) (by omega) rfl).mp z); omega
    have n3 : ¬ i 9 = 3 := fun z => by have := isW_k ((key_if (x := 3) h.1 (w := 1) (by omega) rfl).mp z); omega
    left
    refine ⟨ls, i, mi, i2, r2, mr, ?_, ?_, hfi, hF, hM, KP.rf, h.1.2.2.2.2.2.1.trans h.2.2.1.symm, h.1.2.2.2.2.2.2.trans h.2.2.2.symm⟩
    · rw [f_X3_readInto_41, if_neg (show ¬ (40 : Int32) < nI ls.length from nI_nlt (a := 40) (by omega) (by omega)), f_X9_key, bd_some, if_neg n18, bd_some, if_neg n3, f_X3_readInto_90, f_X9_wantKind, if_pos ((kind_sm (x := 0) h.1 (c := 0) (by omega) rfl).mpr e0), ca_end hX h.1 hkM, bd_some, bd_some, ca_failed h.1, bd_some, if_pos rfl]
    · rw [f_X13_readFloor_34, if_pos ((hand_if (x := 0) h.2.1 (c := 0) (by omega) rfl).mpr e0)]
  | succ d ih =>
    intro k ls i mi i2 r2 mr fu fv hk hfu hfv hX h hF hM hfi
    obtain ⟨fu, rfl⟩ : ∃ m, fu = m + 1 := ⟨fu - 1, by omega⟩
    obtain ⟨fv, rfl⟩ : ∃ m, fv = m + 1 := ⟨fv - 1, by omega⟩
    have h40 := hfi.2.2.1
    rw [f_X3_readInto_41, if_neg (show ¬ (40 : Int32) < nI ls.length from nI_nlt (a := 40) (by omega) (by omega)), f_X9_key, bd_some, bd_some, f_X13_readFloor_34]
    by_cases hw : isW b N (tok b N k) 1 = true ∨ isW b N (tok b N k) 2 = true
    · have hk1 : tkK b N (tok b N k) = 1 := by rcases hw with q | q <;> exact isW_k q
      have hsel : (if i 9 = 18 then f_X3_readInto_70 (f_X3_readInto_41 fu) i l r i2 r2 (nI ls.length) else (if i 9 = 3 then f_X3_readInto_70 (f_X3_readInto_41 fu) i l r i2 r2 (nI ls.length) else f_X3_readInto_90 i l r i2 r2)) = f_X3_readInto_70 (f_X3_readInto_41 fu) i l r i2 r2 (nI ls.length) := by
        by_cases q : i 9 = 18
        · rw [if_pos q]
        · rw [if_neg q, if_pos]
          rcases hw with z | z
          · exact (key_if (x := 3) h.1 (w := 1) (by omega) rfl).mpr z
          · exact absurd ((key_if (x := 18) h.1 (w := 2) (by omega) rfl).mpr z) q
      rw [hsel, if_neg (fun z => by have := (hand_if (x := 0) h.2.1 (c := 0) (by omega) rfl).mp z; omega), f_X3_readInto_70]
      rcases rstep_ok (ml := ml) hX hL1 hL hF hM h40 h hw with ⟨k', t, i', mi', i3, r3, a0, a1, a2, a3, a4, a5, a6⟩ | ⟨i', mi', a2, a3, a4⟩
      · rw [a2, bd_some, a3]
        show (∃ ls' i9 mi9 i4 r4 mr', bd (f_X9_wantKind i' r l 59) (fun q13 => f_X3_readInto_41 fu q13 l r i3 r3 (nI ls.length + 1)) = some (1, i9, l, r, i4, r4) ∧ _) ∨ (∃ i9 mi9 i4 r4 mr', bd (f_X9_wantKind i' r l 59) (fun q13 => f_X3_readInto_41 fu q13 l r i3 r3 (nI ls.length + 1)) = some (0, i9, l, r, i4, r4) ∧ _)
        rcases wSign (c := 59) (x := 59) (ml := ml) hX a4 (by omega) (by omega) rfl with ⟨b0, b1, i5, mi5, b2, b3, b4⟩ | ⟨b1, i5, mi5, b2, b3, b4⟩
        · obtain ⟨mr2, c1, c2, c3⟩ := madd_ok (mi := mi5) (ml := ml) hM (by omega) t
          have hX2 : CX b N M r l mr2 := hX.mr ((fr_X13_add c1) 1 (by omega))
          have hfi2 : fineF L (ls ++ [t]) := ⟨hL1, hL, by rw [List.length_append]; show ls.length + 1 ≤ 40; omega, fun x hx => by
            rcases List.mem_append.mp hx with q | q
            · exact hfi.2.2.2 x q
            · rw [List.mem_singleton.mp q]; exact a5⟩
          have hlen : nI ls.length + 1 = nI (ls ++ [t]).length := by rw [List.length_append, nI_1]; rfl
          rw [b2, bd_some, b3, bt_l, c1, bd_some, bt_l, hlen]
          rcases ih (k' + 1) (ls ++ [t]) i5 mi5 i3 r3 mr2 fu fv (by omega) (by omega) (by omega) hX2 b4 a6 c2 hfi2 with ⟨ls', i9, mi9, i4, r4, mr', e1, e2, e3, e4, e5, e6, e7, e8⟩ | ⟨i9, mi9, i4, r4, mr', e1, e2, e3, e4⟩
          · exact Or.inl ⟨ls', i9, mi9, i4, r4, mr', e1, e2, e3, e4, e5, c3.tr e6, e7, e8⟩
          · exact Or.inr ⟨i9, mi9, i4, r4, mr', e1, e2, e3, c3.tr e4⟩
        · right
          obtain ⟨fu, rfl⟩ : ∃ m, fu = m + 1 := ⟨fu - 1, by omega⟩
          exact ⟨i5, mi5, i3, r3, mr, by rw [b2, bd_some, fm_loop b4.1], by rw [b3, bt_r, bt_r], b4, KP.rf⟩
      · right
        obtain ⟨fu, rfl⟩ : ∃ m, fu = m + 1 := ⟨fu - 1, by omega⟩
        exact ⟨i', mi', i2, r2, mr, by rw [a2, bd_some, fm_kind a4.1 (by decide), bd_some, fm_loop a4.1], by rw [a3, bt_r], a4, KP.rf⟩
    · have n18 : ¬ i 9 = 18 := fun z => hw (Or.inr ((key_if (x := 18) h.1 (w := 2) (by omega) rfl).mp z))
      have n3 : ¬ i 9 = 3 := fun z => hw (Or.inl ((key_if (x := 3) h.1 (w := 1) (by omega) rfl).mp z))
      rw [if_neg n18, if_neg n3, f_X3_readInto_90, f_X9_wantKind]
      by_cases e0 : tkK b N (tok b N k) = 0
      · left
        have hkM := (tk_end hX h.1.1).mp e0
        refine ⟨ls, i, mi, i2, r2, mr, ?_, ?_, hfi, hF, hM, KP.rf, h.1.2.2.2.2.2.1.trans h.2.2.1.symm, h.1.2.2.2.2.2.2.trans h.2.2.2.symm⟩
        · rw [if_pos ((kind_sm (x := 0) h.1 (c := 0) (by omega) rfl).mpr e0), ca_end hX h.1 hkM, bd_some, bd_some, ca_failed h.1, bd_some, if_pos rfl]
        · rw [if_pos ((hand_if (x := 0) h.2.1 (c := 0) (by omega) rfl).mpr e0)]
      · right
        obtain ⟨i', a1, a2⟩ := both_fail hX h (c := 1) i01
        refine ⟨i', _, i2, r2, mr, ?_, ?_, a2, KP.rf⟩
        · rw [if_neg (fun z => e0 ((kind_sm (x := 0) h.1 (c := 0) (by omega) rfl).mp z)), a1, bd_some, bd_some, fm_failed a2.1, bd_some, if_neg i01]
        · rw [if_neg (fun z => e0 ((hand_if (x := 0) h.2.1 (c := 0) (by omega) rfl).mp z)), f_X13_readStep, at_is hX h.2.1 (by omega), bd_some, if_neg (fun z => hw (Or.inl z)), if_pos rfl, at_is hX h.2.1 (by omega), bd_some, if_neg (fun z => hw (Or.inr z)), if_pos rfl, f_X13_readStep_26, need0, bt_r, bt_r]
theorem GT.empty {i mi : Nat → Int32} {r mr : Nat → Nat → Int32} (h2 : mi 2 = 0) (h8 : i 10 = mi 8) (h9 : i 11 = mi 9) : GT (upd i 5 0) r mi mr := ⟨0, by omega, pk_us, h2, fun k hk => by omega, by rw [pk_un (by omega)]; exact h8, by rw [pk_un (by omega)]; exact h9⟩
theorem floor_ok {P : Nat → Nat → Int32} {S : Nat → Nat → Nat → Int32} {i i2 mi : Nat → Int32} {r r2 mr : Nat → Nat → Int32} {l ml : Nat → Nat → Int64} {f : List Value} (hT : GT i r mi mr) (h : GF P S mr) (x1 : Int32) : ∃ q m, f_X11_floor i r l i2 r2 P S x1 = some q ∧ f_X13_floor mi mr ml f x1 = some m ∧ q.1 = m.1 ∧ GT q.2.1 q.2.2.2.1 m.2.1 m.2.2 ∧ GF q.2.2.2.2.2.2.1 q.2.2.2.2.2.2.2 m.2.2 ∧ ∃ J, J < 6 ∧ KM J mr m.2.2 := by
  rcases fl_cases x1 with ⟨j, hj, hx, ha, hb⟩ | ⟨ha, hb⟩
  · obtain ⟨b, N, M, i', l', r', mi', b1, b2, hX, hA, hm2⟩ := both_begin (l := l) (ml := ml) hT
    have i6 : inb 6 8 = true := inb_nI (n := 6) (N := 8) (by omega) (by omega)
    -- a fault: what both leave
    have fault : ∀ (i9 mi9 i3 : Nat → Int32) (r3 mr9 : Nat → Nat → Int32), f_X3_readInto i r l i2 r2 = some (0, i9, l', r', i3, r3) → f_X13_readFloor mi' mr ml = some (.inr (mi9, mr9)) → FT i9 mi9 → KP 6 mr mr9 → ∃ q m, f_X11_floor i r l i2 r2 P S x1 = some q ∧ f_X13_floor mi mr ml f x1 = some m ∧ q.1 = m.1 ∧ GT q.2.1 q.2.2.2.1 m.2.1 m.2.2 ∧ GF q.2.2.2.2.2.2.1 q.2.2.2.2.2.2.2 m.2.2 ∧ ∃ J, J < 6 ∧ KM J mr m.2.2 := by
      intro i9 mi9 i3 r3 mr9 e1 e2 e3 e4
      have F := fr_X13_readFloor e2
      refine ⟨(-1, upd i9 5 0, l', r', i3, r3, P, S), (-1, mi9, mr9), ?_, ?_, rfl, ?_, ?_, 0, by omega, KM.of6 e4⟩
      · rw [f_X11_floor, ha, bd_some, if_pos rfl, e1, bd_some, f_X9_empty, bd_some, if_pos rfl]
      · rw [f_X13_floor, hb, bd_some, if_neg n10, b2, bd_some, e2, bt_r]
      · exact GT.empty (by rw [F.1 2 (by omega)]; exact hm2) e3.2.1 e3.2.2
      · intro z hz
        obtain ⟨L, ls, z1, z2, z3⟩ := h z hz
        exact ⟨L, ls, z1, z2, e4.mf (by omega) (by omega) z1.2.2.1 z3⟩
    have K11 : KP 6 mr (va_up mr 11 (upd (mr 11) 6 0)) := by
      intro z hz hz6
      refine ⟨?_, ?_, fun y hy => ⟨?_, ?_, ?_⟩⟩
      · rw [up_n (by omega)]
      · rw [up_s, pk_un hz6]
      · rw [up_n (by omega)]
      · rw [up_n (by omega)]
      · rw [up_n (by omega)]
    have hX1 : CX b N M r' l' (va_up mr 11 (upd (mr 11) 6 0)) := hX.mr (up_n (by omega))
    have hun : f_X3_readInto i r l i2 r2 = bd (f_X9_wantKey i' r' l' 17) (fun q19 => bd (f_X9_wantNumber q19 r' l' 1 8) (fun q20 => bd (f_X2_clear i2 r2 q20.1) (fun q21 => bd (f_X9_wantKind q20.2 r' l' 59) (fun q22 => f_X3_readInto_41 2000000 q22 l' r' q21 r2 0)))) := by
      rw [f_X3_readInto, b1, bd_some]
    have hur : f_X13_readFloor mi' mr ml = bt (f_X13_word 0 mi' (va_up mr 11 (upd (mr 11) 6 0)) ml) (fun q7 => bt (f_X13_number q7 (va_up mr 11 (upd (mr 11) 6 0)) ml 1 8) (fun q8 => f_X13_readFloor_28 ml q8.2 (va_up (va_up mr 11 (upd (mr 11) 6 0)) 10 (upd (mr 10) 6 q8.1))) (fun t8 => some (.inr (t8, va_up mr 11 (upd (mr 11) 6 0))))) (fun t7 => some (.inr (t7, va_up mr 11 (upd (mr 11) 6 0)))) := by
      rw [f_X13_readFloor]
      simp only [ck_t i6, six]
    rcases wKey (w := 0) (c := 17) (ml := ml) hX1 hA (by omega) rfl with ⟨c0, c1, i3, mi3, c2, c3, c4⟩ | ⟨c1, i3, mi3, c2, c3, c4⟩
    · rcases wNum (lo := 1) (hi := 8) (ml := ml) hX1 c4 (by omega) (by omega) with ⟨d0, d1, d2, d3, i4, mi4, d4, d5, d6⟩ | ⟨-, i4, mi4, d4, d5, d6⟩
      · have d4 : f_X9_wantNumber i3 r' l' 1 8 = some (nI (vN b (tok b N (0 + 1))), i4) := d4
        have d5 : f_X13_number mi3 (va_up mr 11 (upd (mr 11) 6 0)) ml 1 8 = some (.inl (nI (vN b (tok b N (0 + 1))), mi4)) := d5
        generalize hLv : vN b (tok b N (0 + 1)) = L at d2 d3 d4 d5
        have K10 : KP 6 mr (va_up (va_up mr 11 (upd (mr 11) 6 0)) 10 (upd (mr 10) 6 (nI L))) := by
          intro z hz hz6
          refine ⟨?_, ?_, fun y hy => ⟨?_, ?_, ?_⟩⟩
          · rw [up_s, pk_un hz6]
          · rw [up_n (by omega), up_s, pk_un hz6]
          · rw [up_n (by omega), up_n (by omega)]
          · rw [up_n (by omega), up_n (by omega)]
          · rw [up_n (by omega), up_n (by omega)]
        have hX2 : CX b N M r' l' (va_up (va_up mr 11 (upd (mr 11) 6 0)) 10 (upd (mr 10) 6 (nI L))) := hX.mr (by rw [up_n (by omega), up_n (by omega)])
        have hMF : MF L [] (va_up (va_up mr 11 (upd (mr 11) 6 0)) 10 (upd (mr 10) 6 (nI L))) 6 := ⟨by rw [up_s, pk_us], by rw [up_n (by omega), up_s, pk_us]; rfl, fun z t hz => by cases hz⟩
        obtain ⟨i5, e1, e2⟩ := clear_ok (i := i2) (r := r2) (x := nI L) (L := L) rfl
        rcases wSign (c := 59) (x := 59) (ml := ml) hX2 d6 (by omega) (by omega) rfl with ⟨g0, g1, i7, mi7, g2, g3, g4⟩ | ⟨g1, i7, mi7, g2, g3, g4⟩
        · have hM9 := hX.2.1
          rcases floop (ml := ml) d2 d3 M (0 + 1 + 1 + 1) [] i7 mi7 i5 r2 _ 2000000 2000000 (by omega) (by omega) (by omega) hX2 g4 e2 hMF ⟨d2, d3, by decide, fun t ht => by cases ht⟩ with ⟨ls', i9, mi9, i8, r8, mr', p1, p2', p3, p4, p5, p6, p7, p8⟩ | ⟨i9, mi9, i8, r8, mr', p1, p2', p3, p4⟩
          · have p1 : f_X3_readInto_41 2000000 i7 l' r' i5 r2 0 = some (1, i9, l', r', i8, r8) := p1
            have A : f_X3_readInto i r l i2 r2 = some (1, i9, l', r', i8, r8) := by
              rw [hun, c2, bd_some, d4, bd_some, e1, bd_some, g2, bd_some, p1]
            have B : f_X13_readFloor mi' mr ml = some (.inl (mi9, mr')) := by
              rw [hur, c3, bt_l, d5, bt_l, f_X13_readFloor_28, g3, bt_l, p2']
            obtain ⟨p, s, t1, t2⟩ := settle_ok (P := P) (S := S) hj p4 p3.2.2.1
            obtain ⟨mr2, u1, u2, u3⟩ := mcopy_ok (mi := mi9) (ml := ml) (show 6 < 8 by omega) (show j < 8 by omega) (by omega) p3.2.2.1 p5
            have u1 : f_X13_copyFloor mi9 mr' ml 6 (nI j) = some mr2 := u1
            have KK : KM j mr mr2 := (KM.of6 (K10.tr p6)).tr (KM.ofJ u3)
            have F := fr_X13_readFloor B
            refine ⟨(nI ls'.length, upd i9 5 0, l', r', i8, r8, va_up P j p, va_up S j s), (nI ls'.length, mi9, mr2), ?_, ?_, rfl, ?_, GF.put h hj KK p3 t2 u2, j, hj, KK⟩
            · rw [f_X11_floor, ha, bd_some, if_pos rfl, A, bd_some, f_X9_empty, bd_some, if_neg n10, hx, t1]
              rfl
            · rw [f_X13_floor, hb, bd_some, if_neg n10, b2, bd_some, B, bt_l, hx, u1, bd_some, ck_t (inb_nI (by omega) (by omega)), nI_clamp (by omega), u2.2.1]
            · exact GT.empty (by rw [F.1 2 (by omega)]; exact hm2) p7 p8
          · have p1 : f_X3_readInto_41 2000000 i7 l' r' i5 r2 0 = some (0, i9, l', r', i8, r8) := p1
            exact fault i9 mi9 i8 r8 mr' (by rw [hun, c2, bd_some, d4, bd_some, e1, bd_some, g2, bd_some, p1]) (by rw [hur, c3, bt_l, d5, bt_l, f_X13_readFloor_28, g3, bt_l, p2']) p3 (K10.tr p4)
        · exact fault i7 mi7 i5 r2 _ (by rw [hun, c2, bd_some, d4, bd_some, e1, bd_some, g2, bd_some, show (2000000 : Nat) = 1999999 + 1 from rfl, fm_loop g4.1]) (by rw [hur, c3, bt_l, d5, bt_l, f_X13_readFloor_28, g3, bt_r]) g4 K10
      · have d4 : f_X9_wantNumber i3 r' l' 1 8 = some (nI 1, i4) := d4
        have d5 : f_X13_number mi3 (va_up mr 11 (upd (mr 11) 6 0)) ml 1 8 = some (.inr mi4) := d5
        exact fault i4 mi4 _ r2 _ (by rw [hun, c2, bd_some, d4, bd_some, f_X2_clear, bd_some, fm_kind d6.1 (by decide), bd_some, show (2000000 : Nat) = 1999999 + 1 from rfl, fm_loop d6.1]) (by rw [hur, c3, bt_l, d5, bt_r]) d6 K11
    · exact fault i3 mi3 _ r2 _ (by rw [hun, c2, bd_some, fm_num c4.1, bd_some, f_X2_clear, bd_some, fm_kind c4.1 (by decide), bd_some, show (2000000 : Nat) = 1999999 + 1 from rfl, fm_loop c4.1]) (by rw [hur, c3, bt_r]) c4 K11
  · obtain ⟨N, hN, h5, h2, hbr, h8, h9⟩ := hT
    refine ⟨(-2, upd i 5 0, l, r, i2, r2, P, S), (-2, upd mi 2 0, mr), ?_, ?_, rfl, ⟨0, by omega, pk_us (f := i) (k := 5), pk_us (f := mi) (k := 2), fun k hk => by omega, ?_, ?_⟩, h, 0, by omega, fun _ _ _ _ _ _ _ hM => hM⟩
    · rw [f_X11_floor, ha, bd_some, if_neg n10, f_X9_empty]
      rfl
    · rw [f_X13_floor, hb, bd_some, if_pos rfl]
    · show upd i 5 0 10 = upd mi 2 0 8
      rw [pk_un (by omega), pk_un (by omega), h8]
    · show upd i 5 0 11 = upd mi 2 0 9
      rw [pk_un (by omega), pk_un (by omega), h9]
