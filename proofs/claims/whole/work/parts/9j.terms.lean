/-! ===== program: TERMS, and a SUM as a whole ===== -/
theorem op_bnd {b : Nat → Nat} {N : Nat} {t : Nat × Nat} (h : isOp b N t = true) : tkK b N t = 3 ∧ opN (b t.1) ∧ 37 ≤ b t.1 ∧ b t.1 ≤ 47 ∧ ¬ b t.1 = 40 ∧ ¬ b t.1 = 41 := by
  obtain ⟨h1, h2⟩ := of_decide_eq_true h
  exact ⟨h1, h2, by omega, by omega, by omega, by omega⟩
/-- what follows a FACTOR, up to where no sign asks for another -/
theorem terms_go {b : Nat → Nat} {N M bar d B : Nat} {r1 : Nat → Nat → Int32} {l1 l2 ml : Nat → Nat → Int64} (hF : FacOK b N M r1 l1 l2 ml bar d) (hB : B ≤ 6) (hBd : 6 ≤ B + d) : ∀ (g k p e fe n x fv : Nat) (CL : List Int32) (ML : List MKt) (i0 : Nat → Int32) (r0 : Nat → Nat → Int32) (i1 i2 : Nat → Int32) (r2 : Nat → Nat → Int32) (mi : Nat → Int32) (mr : Nat → Nat → Int32), M ≤ k + g → g < fv → CX b N M r1 l1 mr → SS b N M k B p bar CL ML i0 i1 i2 r2 mi mr → p ≤ 12 → CL.length + e ≤ k → ML.length ≤ CL.length → M + 2 ≤ k + n → x ≤ k → B < fe → r0 2 B = 0 → (∃ k' p' fe' n' x' L i0' r0' i1' i2' r2' mi' mr', k ≤ k' ∧ f_X13_readTerms_4 (f_X13_readTerms d) ml fv mi mr = some (.inl (mi', mr')) ∧ Es r1 l1 l2 fe n i0 r0 i1 i2 r2 x = Es r1 l1 l2 fe' n' i0' r0' i1' i2' r2' x' ∧ SS b N M k' B p' bar (CL ++ L.map cM) (ML ++ L) i0' i1' i2' r2' mi' mr' ∧ KC i0 r0 i2 r2 i0' r0' i2' r2' ∧ (∀ j, j < B → r0' 2 j = r0 2 j) ∧ CL.length + L.length + e ≤ k' ∧ M + 2 ≤ k' + n' ∧ x' ≤ k' ∧ p' = p + nA L ∧ p' ≤ 12 ∧ (∀ t ∈ L, okM t) ∧ (∀ m, pfd L (m + 1) = some (m + 1)) ∧ B < fe' ∧ ¬ isOp b N (tok b N k') = true ∧ mr' 1 = mr 1) ∨ (∃ i0' r0' i1' i2' r2' mi' mr' c, f_X13_readTerms_4 (f_X13_readTerms d) ml fv mi mr = some (.inr (mi', mr')) ∧ Es r1 l1 l2 fe n i0 r0 i1 i2 r2 x = some (i0', r0', i1', i2', r2') ∧ FT i1' mi' ∧ KC i0 r0 i2 r2 i0' r0' i2' r2' ∧ c ≤ 900 ∧ i2' 15 = nI c) := by
  intro g
  induction g with
  | zero =>
    intro k p e fe n x fv CL ML i0 r0 i1 i2 r2 mi mr hk hfv hX h hp hc hm hn hx hfe hw
    obtain ⟨fv, rfl⟩ : ∃ m, fv = m + 1 := ⟨fv - 1, by omega⟩
    have hkM : k = M := by have := h.1.1.1; omega
    have e0 := (tk_end hX h.1.1.1).mpr hkM
    have hop : ¬ isOp b N (tok b N k) = true := fun z => by have := (op_bnd z).1; omega
    left
    refine ⟨k, p, fe, n, x, [], i0, r0, i1, i2, r2, mi, mr, Nat.le_refl _, ?_, rfl, ?_, KC.rf, fun _ _ => rfl, hc, hn, hx, rfl, hp, (fun t ht => by cases ht), fun m => rfl, hfe, hop, rfl⟩
    · rw [f_X13_readTerms_4, misOp h.1.2.1, bd_some, if_neg hop, if_pos rfl]
    · rw [List.map_nil, List.append_nil, List.append_nil]
      exact h
  | succ g ih =>
    intro k p e fe n x fv CL ML i0 r0 i1 i2 r2 mi mr hk hfv hX h hp hc hm hn hx hfe hw
    obtain ⟨fv, rfl⟩ : ∃ m, fv = m + 1 := ⟨fv - 1, by omega⟩
    obtain ⟨fe, rfl⟩ : ∃ m, fe = m + 1 := ⟨fe - 1, by omega⟩
    have hM := hX.2.1
    have hkM := h.1.1.1
    rw [f_X13_readTerms_4, misOp h.1.2.1, bd_some]
    by_cases hop : isOp b N (tok b N k) = true
    · obtain ⟨o1, o2, o3, o4, o5, o6⟩ := op_bnd hop
      obtain ⟨hA, ⟨h6, h7, h8⟩, ⟨m5, m4, m3⟩, hCL, hML⟩ := h
      obtain ⟨a0, i', mi', a1, a2, a3, a4⟩ := both_adv (ml := ml) hX hA (by omega)
      have n41 : ¬ i1 8 = 41 := fun z => o6 (of_decide_eq_true ((kind_if (c := 41) hA.1 (by omega) (by omega) rfl).mp z)).2
      have hE : Es r1 l1 l2 (fe + 1) n i0 r0 i1 i2 r2 x = f_X6_readSum_21 r1 l1 l2 n i0 (va_up r0 2 (upd (r0 2) B (nI (b (tok b N k).1)))) i' i2 r2 1 (nI (x + 1)) := by
        have h47 := ef47_op (r1 := r1) (l1 := l1) (l2 := l2) (r0 := r0) (i2 := i2) (r2 := r2) hA.1 h6 hB hop a1
        have h4 : f_X6_endFactor_4 r1 l1 l2 (fe + 1) i0 r0 i1 i2 r2 = some (1, i0, va_up r0 2 (upd (r0 2) B (nI (b (tok b N k).1))), i', i2, r2) := by
          rw [f_X6_endFactor_4]
          by_cases q : i0 6 ≤ 0
          · rw [if_pos q, h47]
          · rw [if_neg q, f_X9_kind, bd_some, if_neg n41, h47]
        rw [Es, h4, bd_some, f_X6_readSum_110, nI_1]
      have m7 : mi 7 = nI (b (tok b N k).1) := hA.2.1.2.2.2.2.2 o1
      have hS1 : SS b N M (k + 1) B p bar CL ML i0 i' i2 r2 mi' mr := ⟨a3, ⟨h6, h7, h8⟩, ⟨by rw [a4 55 (by omega) (by omega) (by omega) (by omega), m5], by rw [a4 54 (by omega) (by omega) (by omega) (by omega), m4], by rw [a4 53 (by omega) (by omega) (by omega) (by omega), m3]⟩, hCL, hML.mi (a4 49 (by omega) (by omega) (by omega) (by omega))⟩
      rw [if_pos hop, if_neg n10, a2, bd_some, hE, m7]
      rcases hF (k + 1) B p (e + 1) n (x + 1) CL ML i0 (va_up r0 2 (upd (r0 2) B (nI (b (tok b N k).1)))) i' i2 r2 mi' mr hX hS1 hB hBd hp (by omega) hm (by omega) (by omega) with ⟨k2, p2, fe2, n2, x2, L1, j0, q0, j1, j2, q2, mj, mq, f1, f2, f3, f4, f5, f6, f7, f8, f9, f10, f11, f12, f13, f14, f15⟩ | ⟨j0, q0, j1, j2, q2, mj, mq, c, f1, f2, f3, f4, f5, f6⟩
      · have hX2 : CX b N M r1 l1 mq := hX.mr f15
        obtain ⟨gA, ⟨g6, g7, g8⟩, ⟨gm5, gm4, gm3⟩, gCL, gML⟩ := f4
        have hk2 := gA.1.1
        have w2 : q0 2 B = nI (b (tok b N k).1) := by rw [f6 B (Nat.le_refl _), up_s, pk_us]
        have lC : (CL ++ L1.map cM).length = CL.length + L1.length := by rw [List.length_append, List.length_map]
        have lM : (ML ++ L1).length = ML.length + L1.length := List.length_append
        obtain ⟨s2, t2, b1, b2, b3, b4⟩ := dw_1 (r1 := r1) (l1 := l1) (l2 := l2) (i1 := j1) g6 hB w2 (by omega) (by omega) gCL (by omega)
        obtain ⟨mj3, mq3, d1, d2, d3, d4⟩ := mark_ok (ml := ml) gML (by omega) (2, b (tok b N k).1, 0)
        have d1 : f_X13_mark mj mq ml 2 (nI (b (tok b N k).1)) 0 = some (mj3, mq3) := d1
        rw [f2, bt_l, d1, bd_some, f3, Gs, b1, bd_some]
        have hX3 : CX b N M r1 l1 mq3 := hX2.mr (d4 1 (by omega) (by omega) (by omega))
        have ecL : CL ++ L1.map cM ++ [-(nI (b (tok b N k).1))] = CL ++ (L1 ++ [(2, b (tok b N k).1, 0)]).map cM := by
          rw [List.map_append, List.append_assoc]
          rfl
        have emL : ML ++ L1 ++ [(2, b (tok b N k).1, 0)] = ML ++ (L1 ++ [(2, b (tok b N k).1, 0)]) := List.append_assoc ..
        have hS3 : SS b N M k2 B p2 bar (CL ++ (L1 ++ [(2, b (tok b N k).1, 0)]).map cM) (ML ++ (L1 ++ [(2, b (tok b N k).1, 0)])) j0 j1 s2 t2 mj3 mq3 := ⟨gA.mi (fun s s3 s9 => d3 s (by omega)), ⟨g6, g7, g8⟩, ⟨by rw [d3 55 (by omega), gm5], by rw [d3 54 (by omega), gm4], by rw [d3 53 (by omega), gm3]⟩, by rw [← ecL]; exact b2, by rw [← emL]; exact d2⟩
        have lL : (L1 ++ [(2, b (tok b N k).1, 0)]).length = L1.length + 1 := by rw [List.length_append]; rfl
        have lC3 : (CL ++ (L1 ++ [(2, b (tok b N k).1, 0)]).map cM).length = CL.length + L1.length + 1 := by rw [List.length_append, List.length_map, lL]; omega
        have lM3 : (ML ++ (L1 ++ [(2, b (tok b N k).1, 0)])).length = ML.length + L1.length + 1 := by rw [List.length_append, lL]; omega
        have kc : KC i0 r0 i2 r2 j0 (va_up q0 2 (upd (q0 2) B 0)) s2 t2 := ⟨f5.1, by rw [up_n (by omega), f5.2.1, up_n (by omega)], fun s hs => (b3 s hs).trans (f5.2.2.1 s hs), fun s hs => (b4 s hs).trans (f5.2.2.2 s hs)⟩
        have nA1 : nA (L1 ++ [(2, b (tok b N k).1, 0)]) = nA L1 := by rw [nA_app]; show nA L1 + (0 + 0) = nA L1; omega
        rcases ih k2 p2 e fe2 n2 x2 fv (CL ++ (L1 ++ [(2, b (tok b N k).1, 0)]).map cM) (ML ++ (L1 ++ [(2, b (tok b N k).1, 0)])) j0 (va_up q0 2 (upd (q0 2) B 0)) j1 s2 t2 mj3 mq3 (by omega) (by omega) hX3 hS3 f11 (by omega) (by omega) f8 (by omega) f14 (by rw [up_s, pk_us]) with ⟨k', p', fe', n', x', L2, y0, z0, y1, y2, z2, my, mz, t1, t2', t3, t4, t5, t6, t7, t8, t9, t10, t11, t12, t13, t14, t15, t16⟩ | ⟨y0, z0, y1, y2, z2, my, mz, c, t1, t2', t3, t4, t5, t6⟩
        · left
          refine ⟨k', p', fe', n', x', (L1 ++ [(2, b (tok b N k).1, 0)]) ++ L2, y0, z0, y1, y2, z2, my, mz, by omega, t2', t3, ?_, kc.tr t5, fun j hj => ?_, ?_, t8, t9, ?_, t11, fun t ht => ?_, fun m => ?_, t14, t15, ?_⟩
          · rw [List.map_append, ← List.append_assoc, ← List.append_assoc]
            exact t4
          · rw [t6 j hj, up_s, pk_un (by omega), f6 j (by omega), up_s, pk_un (by omega)]
          · rw [List.length_append, lL]
            omega
          · rw [nA_app, nA1]
            omega
          · rcases List.mem_append.mp ht with q | q
            · rcases List.mem_append.mp q with q | q
              · exact f12 t q
              · rw [List.mem_singleton.mp q]
                exact Or.inr (Or.inr ⟨rfl, o2, rfl⟩)
            · exact t12 t q
          · rw [pfd_app _ L2 (m + 1) (m + 1) (by
              rw [pfd_app L1 _ (m + 1) (m + 2) (f13 (m + 1)), pfd_cons, if_pos rfl, if_pos (by omega)]
              rfl)]
            exact t13 m
          · exact t16.trans ((d4 1 (by omega) (by omega) (by omega)).trans f15)
        · right
          exact ⟨y0, z0, y1, y2, z2, my, mz, c, t1, t2', t3, kc.tr t4, t5, t6⟩
      · right
        refine ⟨j0, q0, j1, j2, q2, mj, mq, c, by rw [f1, bt_r], f2, f3, ⟨f4.1, by rw [f4.2.1, up_n (by omega)], f4.2.2.1, f4.2.2.2⟩, f5, f6⟩
    · left
      refine ⟨k, p, fe + 1, n, x, [], i0, r0, i1, i2, r2, mi, mr, Nat.le_refl _, ?_, rfl, ?_, KC.rf, fun _ _ => rfl, hc, hn, hx, rfl, hp, (fun t ht => by cases ht), fun m => rfl, hfe, hop, rfl⟩
      · rw [if_neg hop, if_pos rfl]
      · rw [List.map_nil, List.append_nil, List.append_nil]
        exact h
theorem fac_all {b : Nat → Nat} {N M bar : Nat} {r1 : Nat → Nat → Int32} {l1 l2 ml : Nat → Nat → Int64} (hbar : bar < 2 ^ 31) : ∀ d, FacOK b N M r1 l1 l2 ml bar d := by
  intro d
  induction d with
  | zero =>
    intro k B p e n x CL ML i0 r0 i1 i2 r2 mi mr hX h hB hBd hp hc hm hn hx
    by_cases hno : isS b N (tok b N k) 40 = true
    · right
      obtain ⟨hA, ⟨h6, h7, h8⟩, ⟨m5, m4, m3⟩, hCL, hML⟩ := h
      have hM := hX.2.1
      have hkM := hA.1.1
      obtain ⟨n, rfl⟩ : ∃ m, n = m + 2 := ⟨n - 2, by omega⟩
      obtain ⟨i', a1, a2⟩ := both_fail hX hA (c := 4) (by decide)
      have s40 : f_X13_isSign mi mr ml 40 = some (if isS b N (tok b N k) 40 = true then 1 else 0) := isSign_ok (c := 40) (by omega) hA.2.1
      have hH := s21_1 (r1 := r1) (l1 := l1) (l2 := l2) (n + 1) (i0 := i0) (r0 := r0) (i1 := i1) (i2 := i2) (r2 := r2) (x := x) (by omega)
      rw [if_pos ((kind_if (x := 40) (c := 40) hA.1 (by omega) (by omega) rfl).mpr hno), f_X6_openBracket, h6, if_neg (show ¬ nI B < (6 : Int32) from nI_nlt (b := 6) (by omega) (by omega)), a1, bd_some, bd_some] at hH
      obtain ⟨n, rfl⟩ | rfl : (∃ m, n = m + 1) ∨ n = 0 := by
        cases n with
        | zero => exact Or.inr rfl
        | succ m => exact Or.inl ⟨m, rfl⟩
      · obtain ⟨y0, z0, y2, z2, c, b1, b2, b3, b4⟩ := fm_H (r1 := r1) (l1 := l1) (l2 := l2) n (r0 := r0) (r2 := r2) (x := x + 1) a2.1 h6 hB (show CL.length ≤ 900 by omega) hCL.1
        exact ⟨y0, z0, i', y2, z2, _, mr, c, by rw [f_X13_readFactor, s40, bd_some, if_pos hno, if_neg n10, m5, if_pos (show (6 : Int32) ≤ nI B from nI_le (a := 6) (by omega) (by omega)), f_X13_readFactor_24, need0, bt_r], hH.trans b1, a2, b2, b3, b4⟩
      · have hkM2 : ¬ tkK b N (tok b N k) = 0 := by rw [isS_k hno]; omega
        have : k ≠ M := fun z => hkM2 ((tk_end hX hkM).mpr z)
        omega
    · exact fac_atom hbar hX h hB hp hc hm hn hx hno
  | succ d ih =>
    intro k B p e n x CL ML i0 r0 i1 i2 r2 mi mr hX h hB hBd hp hc hm hn hx
    by_cases hno : isS b N (tok b N k) 40 = true
    · obtain ⟨hA, ⟨h6, h7, h8⟩, ⟨m5, m4, m3⟩, hCL, hML⟩ := id h
      have hM := hX.2.1
      have hkM := hA.1.1
      have hkM2 : k ≠ M := fun z => by have := (tk_end hX hkM).mpr z; rw [isS_k hno] at this; omega
      obtain ⟨n, rfl⟩ : ∃ m, n = m + 3 := ⟨n - 3, by omega⟩
      have s40 : f_X13_isSign mi mr ml 40 = some (if isS b N (tok b N k) 40 = true then 1 else 0) := isSign_ok (c := 40) (by omega) hA.2.1
      have hH := s21_1 (r1 := r1) (l1 := l1) (l2 := l2) (n + 2) (i0 := i0) (r0 := r0) (i1 := i1) (i2 := i2) (r2 := r2) (x := x) (by omega)
      rw [if_pos ((kind_if (x := 40) (c := 40) hA.1 (by omega) (by omega) rfl).mpr hno), f_X6_openBracket, h6] at hH
      have hR : f_X13_readFactor (f_X13_readTerms (d + 1)) mi mr ml = if 6 ≤ B then some (.inr (upd (upd mi 8 4) 9 (mi 4), mr)) else bd (f_X13_scan (upd mi 55 (nI (B + 1))) mr ml) (fun q18 => bt (f_X13_readTerms (d + 1) q18 mr ml) (fun q19 => bt (f_X13_sign q19.1 q19.2 ml 41) (fun q20 => some (.inl ((upd q20 55 ((q20 55) - 1)), q19.2))) (fun t20 => some (.inr (t20, q19.2)))) (fun t19 => some (.inr (t19.1, t19.2)))) := by
        rw [f_X13_readFactor, s40, bd_some, if_pos hno, if_neg n10, m5]
        by_cases q : 6 ≤ B
        · rw [if_pos (show (6 : Int32) ≤ nI B from nI_le (a := 6) q (by omega)), if_pos q, f_X13_readFactor_24, need0, bt_r]
        · rw [if_neg (show ¬ (6 : Int32) ≤ nI B from nI_ge (b := 6) (by omega) (by omega)), if_neg q, f_X13_readFactor_24, need1, bt_l, m5, nI_1]
      by_cases q6 : 6 ≤ B
      · right
        obtain ⟨i', a1, a2⟩ := both_fail hX hA (c := 4) (by decide)
        rw [if_neg (show ¬ nI B < (6 : Int32) from nI_nlt (b := 6) (by omega) (by omega)), a1, bd_some, bd_some] at hH
        rw [if_pos q6] at hR
        obtain ⟨y0, z0, y2, z2, c, b1, b2, b3, b4⟩ := fm_H (r1 := r1) (l1 := l1) (l2 := l2) n (r0 := r0) (r2 := r2) (x := x + 1) a2.1 h6 hB (show CL.length ≤ 900 by omega) hCL.1
        exact ⟨y0, z0, i', y2, z2, _, mr, c, hR, hH.trans b1, a2, b2, b3, b4⟩
      · have hA1 : AT b N M k i1 (upd mi 55 (nI (B + 1))) := hA.mi (fun s s3 s9 => pk_un (by omega))
        obtain ⟨a0, i', mi', a1, a2, a3, a4⟩ := both_adv (ml := ml) hX hA1 (by rw [isS_k hno]; omega)
        rw [if_pos (show nI B < (6 : Int32) from nI_lt (b := 6) (by omega) (by omega)), nI_1, ck_t (inb_nI (by omega) (by omega)), a1, bd_some, bd_some, nI_clamp (by omega)] at hH
        dsimp only at hH
        rw [if_neg q6, a2, bd_some] at hR
        have k0 : KC i0 r0 i2 r2 (upd i0 6 (nI (B + 1))) (va_up r0 2 (upd (r0 2) (B + 1) 0)) i2 r2 := ⟨fun s s6 _ => pk_un s6, up_n (by omega), fun _ _ => rfl, fun _ _ => rfl⟩
        have hS1 : SS b N M (k + 1) (B + 1) p bar CL ML (upd i0 6 (nI (B + 1))) i' i2 r2 mi' mr := ⟨a3, ⟨pk_us, by rw [pk_un (by omega)]; exact h7, by rw [pk_un (by omega)]; exact h8⟩, ⟨by rw [a4 55 (by omega) (by omega) (by omega) (by omega), pk_us], by rw [a4 54 (by omega) (by omega) (by omega) (by omega), pk_un (by omega), m4], by rw [a4 53 (by omega) (by omega) (by omega) (by omega), pk_un (by omega), m3]⟩, hCL, hML.mi (by rw [a4 49 (by omega) (by omega) (by omega) (by omega), pk_un (by omega)])⟩
        have hT : f_X13_readTerms (d + 1) mi' mr ml = bt (f_X13_readFactor (f_X13_readTerms d) mi' mr ml) (fun q10 => f_X13_readTerms_4 (f_X13_readTerms d) ml 2000000 q10.1 q10.2) (fun t10 => some (.inr (t10.1, t10.2))) := by
          rw [f_X13_readTerms, f_X13_readTerms_e]
        rw [hT] at hR
        rcases ih (k + 1) (B + 1) p e (n + 2) (x + 1) CL ML (upd i0 6 (nI (B + 1))) (va_up r0 2 (upd (r0 2) (B + 1) 0)) i' i2 r2 mi' mr hX hS1 (by omega) (by omega) hp (by omega) hm (by omega) (by omega) with ⟨k2, p2, fe2, n2, x2, L1, j0, q0, j1, j2, q2, mj, mq, f1, f2, f3, f4, f5, f6, f7, f8, f9, f10, f11, f12, f13, f14, f15⟩ | ⟨j0, q0, j1, j2, q2, mj, mq, c, f1, f2, f3, f4, f5, f6⟩
        · have hX2 : CX b N M r1 l1 mq := hX.mr f15
          have w2 : q0 2 (B + 1) = 0 := by rw [f6 (B + 1) (Nat.le_refl _), up_s, pk_us]
          have lC : (CL ++ L1.map cM).length = CL.length + L1.length := by rw [List.length_append, List.length_map]
          have lM : (ML ++ L1).length = ML.length + L1.length := List.length_append
          have hk2 := f4.1.1.1
          rw [f3, Gs, dw_0 f4.2.1.1 (by omega) w2, bd_some] at hH
          dsimp only at hH
          rw [f2, bt_l] at hR
          rcases terms_go ih (B := B + 1) (by omega) (by omega) M k2 p2 e fe2 n2 x2 2000000 (CL ++ L1.map cM) (ML ++ L1) j0 q0 j1 j2 q2 mj mq (by omega) (by omega) hX2 f4 f11 (by omega) (by omega) f8 (by omega) f14 w2 with ⟨k3, p3, fe3, n3, x3, L2, y0, z0, y1, y2, z2, my, mz, t1, t2, t3, t4, t5, t6, t7, t8, t9, t10, t11, t12, t13, t14, t15, t16⟩ | ⟨y0, z0, y1, y2, z2, my, mz, c, t1, t2, t3, t4, t5, t6⟩
          · rw [t3] at hH
            rw [t2, bt_l] at hR
            have hX3 : CX b N M r1 l1 mz := hX2.mr t16
            obtain ⟨gA, ⟨g6, g7, g8⟩, ⟨gm5, gm4, gm3⟩, gCL, gML⟩ := t4
            have hk3 := gA.1.1
            have lC2 : (CL ++ L1.map cM ++ L2.map cM).length = CL.length + L1.length + L2.length := by rw [List.length_append, lC, List.length_map]
            obtain ⟨fe3, rfl⟩ : ∃ m, fe3 = m + 1 := ⟨fe3 - 1, by omega⟩
            have eL : CL ++ L1.map cM ++ L2.map cM = CL ++ (L1 ++ L2).map cM := by rw [List.map_append, List.append_assoc]
            have eM : ML ++ L1 ++ L2 = ML ++ (L1 ++ L2) := List.append_assoc ..
            have hE : Es r1 l1 l2 (fe3 + 1) n3 y0 z0 y1 y2 z2 x3 = if y1 8 = 41 then bd (f_X9_advance y1 r1 l1) (fun q24 => Gs r1 l1 l2 fe3 n3 (upd y0 6 (nI B)) z0 q24 y2 z2 x3) else bd (f_X6_endFactor_47 r1 l1 l2 y0 z0 y1 y2 z2) (fun q11 => f_X6_readSum_110 r1 l1 l2 (f_X6_readSum_21 r1 l1 l2 n3) q11.2.1 q11.2.2.1 q11.2.2.2.1 q11.2.2.2.2.1 q11.2.2.2.2.2 q11.1 (nI x3)) := by
              rw [Es, f_X6_endFactor_4, g6, if_neg (show ¬ nI (B + 1) ≤ 0 from nI_nle (by omega) (by omega)), f_X9_kind, bd_some]
              by_cases q : y1 8 = 41
              · rw [if_pos q, if_pos q, bd_bd, show nI (B + 1) - 1 = nI B from nI_pred B]
                simp only [bd_bd]
                rfl
              · rw [if_neg q, if_neg q]
            rcases wSign (c := 41) (x := 41) (ml := ml) hX3 gA (by omega) (by omega) rfl with ⟨b0, b1, i5, mi5, b2, b3, b4⟩ | ⟨b1, i5, mi5, b2, b3, b4⟩
            · left
              have q41 : y1 8 = 41 := (kind_if (c := 41) gA.1 (by omega) (by omega) rfl).mpr b1
              obtain ⟨i6, e1, e2, e3⟩ := cadv hX3 gA.1 b0
              have e56 : i6 = i5 := by
                rw [f_X9_wantKind, if_pos q41, e1] at b2
                exact Option.some.inj b2
              subst e56
              rw [hE, if_pos q41, e1, bd_some] at hH
              rw [b3, bt_l] at hR
              have F := fr_X13_sign b3
              have F' : ∀ s, ¬ (s = 4 ∨ s = 5 ∨ s = 6 ∨ s = 7 ∨ s = 8 ∨ s = 9) → mi5 s = my s := F
              have e55 : mi5 55 - 1 = nI B := by rw [F' 55 (by omega), gm5]; exact nI_pred B
              rw [e55] at hR
              refine ⟨k3 + 1, p3, fe3, n3, x3, L1 ++ L2, upd y0 6 (nI B), z0, i6, y2, z2, upd mi5 55 (nI B), mz, by omega, hR, hH, ⟨b4.mi (fun s s3 s9 => pk_un (by omega)), ⟨pk_us, by rw [pk_un (by omega)]; exact g7, by rw [pk_un (by omega)]; exact g8⟩, ⟨pk_us, by rw [pk_un (by omega), F' 54 (by omega), gm4], by rw [pk_un (by omega), F' 53 (by omega), gm3]⟩, by rw [← eL]; exact gCL, by rw [← eM]; exact gML.mi (by rw [pk_un (by omega), F' 49 (by omega)])⟩, ?_, fun j hj => ?_, ?_, by omega, by omega, ?_, t11, fun t ht => ?_, fun m => ?_, by omega, t16.trans f15⟩
              · have kk := (k0.tr f5).tr t5
                exact ⟨fun s s6 s7 => by rw [pk_un s6]; exact kk.1 s s6 s7, kk.2.1, kk.2.2.1, kk.2.2.2⟩
              · rw [t6 j (by omega), f6 j (by omega), up_s, pk_un (by omega)]
              · rw [List.length_append]
                omega
              · rw [nA_app]
                omega
              · rcases List.mem_append.mp ht with q | q
                · exact f12 t q
                · exact t12 t q
              · rw [pfd_app L1 L2 m (m + 1) (f13 m)]
                exact t13 m
            · right
              have n41 : ¬ y1 8 = 41 := fun z => by have := (kind_if (c := 41) gA.1 (by omega) (by omega) rfl).mp z; rw [this] at b1; cases b1
              have e1 : f_X9_fail y1 r1 l1 1 = some i5 := by
                rw [f_X9_wantKind, if_neg n41] at b2
                obtain ⟨z9, w1, w2⟩ := both_fail hX3 gA (c := 1) i01
                rw [w1] at b2 ⊢
                exact b2
              obtain ⟨n3, rfl⟩ : ∃ m, n3 = m + 1 := ⟨n3 - 1, by omega⟩
              rw [hE, if_neg n41, ef47_not gA.1 t15, g6, if_neg (show ¬ nI (B + 1) ≤ 0 from nI_nle (by omega) (by omega)), e1, bd_some, bd_some, f_X6_readSum_110, s21_0] at hH
              rw [b3, bt_r] at hR
              exact ⟨_, _, i5, _, _, mi5, mz, _, hR, hH, b4, (k0.tr f5).tr t5, (show (CL ++ L1.map cM ++ L2.map cM).length ≤ 900 by omega), gCL.1⟩
          · right
            rw [t1, bt_r] at hR
            exact ⟨y0, z0, y1, y2, z2, my, mz, c, hR, hH.trans t2, t3, (k0.tr f5).tr t4, t5, t6⟩
        · right
          rw [f1, bt_r, bt_r] at hR
          exact ⟨j0, q0, j1, j2, q2, mj, mq, c, hR, hH.trans f2, f3, k0.tr f4, f5, f6⟩
    · exact fac_atom hbar hX h hB hp hc hm hn hx hno
