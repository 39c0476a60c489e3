/-! ===== program: one STEP of a body that opens nothing ===== -/
theorem rOne_go {b : Nat → Nat} {N M k n j O : Nat} {r1 mr : Nat → Nat → Int32} {l1 ml : Nat → Nat → Int64} {mi : Nat → Int32} {F : (Nat → Int32) → (Nat → Nat → Int32) → (Nat → Nat → Int64) → Option (((Nat → Int32) × (Nat → Nat → Int64) × (Nat → Nat → Int32)) ⊕ ((Nat → Int32) × (Nat → Nat → Int64) × (Nat → Nat → Int32)))} (h48 : mi 48 = nI n) (h50 : mi 50 = nI O) (hn : n ≤ 60) (hO : O ≤ 6) (hj : j < 8) (hs : f_X13_stepAtHand mi mr ml = some (nI j)) : f_X13_readOne F mi mr ml = if n < 60 ∧ (j = 4 ∨ j = 5 → O < 6) then bd (f_X13_scan (upd mi 48 (nI (n + 1))) (va_up mr 28 (upd (mr 28) (60 + n) (nI j))) ml) (fun q35 => if nI j = 4 then (f_X13_readOne_82 F q35 ml (va_up mr 28 (upd (mr 28) (60 + n) (nI j))) (nI j) (nI (60 + n))) else (if nI j = 5 then (f_X13_readOne_82 F q35 ml (va_up mr 28 (upd (mr 28) (60 + n) (nI j))) (nI j) (nI (60 + n))) else (if nI j = 6 then (f_X13_readOne_203 F q35 ml (va_up mr 28 (upd (mr 28) (60 + n) (nI j))) (nI (60 + n))) else (if nI j = 7 then (f_X13_readOne_203 F q35 ml (va_up mr 28 (upd (mr 28) (60 + n) (nI j))) (nI (60 + n))) else (bt (f_X13_readVar q35 (va_up mr 28 (upd (mr 28) (60 + n) (nI j))) ml 0) (fun q36 => ck (inb (2 * nI (60 + n)) 240) (f_X13_readOne_240 F q36 ml (va_up (va_up mr 28 (upd (mr 28) (60 + n) (nI j))) 32 (upd ((va_up mr 28 (upd (mr 28) (60 + n) (nI j))) 32) (2 * nI (60 + n)).toNatClampNeg (q36 56))) (nI j) (nI (60 + n)))) (fun t36 => some (.inr (t36, ml, (va_up mr 28 (upd (mr 28) (60 + n) (nI j))))))))))) else some (.inr (upd (upd mi 8 4) 9 (mi 4), ml, mr)) := by
  have e60 : (60 : Int32) + nI n = nI (60 + n) := nI_add 60 n
  have h39 : f_X13_readOne_39 F mi ml mr (nI j) 0 = some (.inr (upd (upd mi 8 4) 9 (mi 4), ml, mr)) := by
    rw [f_X13_readOne_39, need0, bt_r]
  have hne : ∀ c, c < 8 → c ≠ j → ¬ nI j = nI c := fun c hc hcj z => hcj (nI_inj (by omega) (by omega) z).symm
  rw [f_X13_readOne, hs, bd_some, h48]
  by_cases hn60 : n < 60
  · rw [if_neg (show ¬ (60 : Int32) ≤ nI n from nI_ge (b := 60) hn60 (by omega))]
    have hgo : f_X13_readOne_34 F mi ml mr (nI j) = bd (f_X13_scan (upd mi 48 (nI (n + 1))) (va_up mr 28 (upd (mr 28) (60 + n) (nI j))) ml) (fun q35 => if nI j = 4 then (f_X13_readOne_82 F q35 ml (va_up mr 28 (upd (mr 28) (60 + n) (nI j))) (nI j) (nI (60 + n))) else (if nI j = 5 then (f_X13_readOne_82 F q35 ml (va_up mr 28 (upd (mr 28) (60 + n) (nI j))) (nI j) (nI (60 + n))) else (if nI j = 6 then (f_X13_readOne_203 F q35 ml (va_up mr 28 (upd (mr 28) (60 + n) (nI j))) (nI (60 + n))) else (if nI j = 7 then (f_X13_readOne_203 F q35 ml (va_up mr 28 (upd (mr 28) (60 + n) (nI j))) (nI (60 + n))) else (bt (f_X13_readVar q35 (va_up mr 28 (upd (mr 28) (60 + n) (nI j))) ml 0) (fun q36 => ck (inb (2 * nI (60 + n)) 240) (f_X13_readOne_240 F q36 ml (va_up (va_up mr 28 (upd (mr 28) (60 + n) (nI j))) 32 (upd ((va_up mr 28 (upd (mr 28) (60 + n) (nI j))) 32) (2 * nI (60 + n)).toNatClampNeg (q36 56))) (nI j) (nI (60 + n)))) (fun t36 => some (.inr (t36, ml, (va_up mr 28 (upd (mr 28) (60 + n) (nI j))))))))))) := by
      rw [f_X13_readOne_34, f_X13_readOne_39, need1, bt_l, h48, e60, ck_t (inb_nI (by omega) (by omega)), nI_clamp (show 60 + n < 2 ^ 31 by omega), nI_1]
      simp only [up_n (show (32 : Nat) ≠ 28 by omega)]
    by_cases ho : j = 4 ∨ j = 5
    · have hsel : ∀ A B : Option ((Int32 × (Nat → Int32) × (Nat → Nat → Int64) × (Nat → Nat → Int32)) ⊕ ((Nat → Int32) × (Nat → Nat → Int64) × (Nat → Nat → Int32))), (if nI j = 4 then A else (if nI j = 5 then A else B)) = A := fun A B => by
        rcases ho with e | e
        · rw [e]; rfl
        · rw [e]; rfl
      rw [hsel, f_X13_readOne_25, h50]
      by_cases q : O < 6
      · rw [if_neg (show ¬ (6 : Int32) ≤ nI O from nI_ge (b := 6) q (by omega)), if_pos (show n < 60 ∧ (j = 4 ∨ j = 5 → O < 6) from ⟨hn60, fun _ => q⟩), hgo]
      · rw [if_pos (show (6 : Int32) ≤ nI O from nI_le (a := 6) (by omega) (by omega)), if_neg (show ¬ (n < 60 ∧ (j = 4 ∨ j = 5 → O < 6)) from fun z => q (z.2 ho)), f_X13_readOne_38, h39]
    · rw [if_neg (show ¬ nI j = 4 from hne 4 (by omega) (fun z => ho (Or.inl z.symm))), if_neg (show ¬ nI j = 5 from hne 5 (by omega) (fun z => ho (Or.inr z.symm))), if_pos (show n < 60 ∧ (j = 4 ∨ j = 5 → O < 6) from ⟨hn60, fun z => absurd z ho⟩), hgo]
  · rw [if_pos (show (60 : Int32) ≤ nI n from nI_le (a := 60) (by omega) (by omega)), if_neg (show ¬ (n < 60 ∧ (j = 4 ∨ j = 5 → O < 6)) from fun z => hn60 z.1), f_X13_readOne_38, h39]
theorem cOne_go {n j O y : Nat} {r1 : Nat → Nat → Int32} {l1 l2 : Nat → Nat → Int64} {i0 : Nat → Int32} {r0 : Nat → Nat → Int32} {i1 i2 : Nat → Int32} {r2 : Nat → Nat → Int32} (h9 : i1 9 = nI j) (h13 : i2 13 = nI n) (h5 : i0 5 = nI O) (hn : n ≤ 60) (hO : O ≤ 6) (hj : j < 8) : f_X6_readStep i0 r0 i1 r1 l1 i2 r2 l2 = if n < 60 ∧ (j = 4 ∨ j = 5 → O < 6) then f_X6_readStep_58 r1 l1 i0 r0 i1 i2 l2 r2 (nI j) else bd (f_X9_fail i1 r1 l1 4) (fun q14 => some (i0, r0, q14, i2, l2, r2)) := by
  have hne : ∀ c, c < 8 → c ≠ j → ¬ nI j = nI c := fun c hc hcj z => hcj (nI_inj (by omega) (by omega) z).symm
  rw [f_X6_readStep, f_X9_key, bd_some, h9]
  have h23 : ∀ q : Int32, f_X6_readStep_23 r1 l1 i0 r0 i1 i2 l2 r2 (nI j) q = if n < 60 then (if q = 0 then f_X6_readStep_58 r1 l1 i0 r0 i1 i2 l2 r2 (nI j) else (if O < 6 then f_X6_readStep_58 r1 l1 i0 r0 i1 i2 l2 r2 (nI j) else bd (f_X9_fail i1 r1 l1 4) (fun q14 => some (i0, r0, q14, i2, l2, r2)))) else bd (f_X9_fail i1 r1 l1 4) (fun q14 => some (i0, r0, q14, i2, l2, r2)) := fun q => by
    rw [f_X6_readStep_23, f_X5_steps, bd_some, h13, h5]
    by_cases hn60 : n < 60
    · rw [if_neg (show ¬ (60 : Int32) ≤ nI n from nI_ge (b := 60) hn60 (by omega)), if_pos hn60]
      by_cases q6 : O < 6
      · rw [if_pos (show nI O < (6 : Int32) from nI_lt (b := 6) q6 (by omega)), if_pos q6]
      · rw [if_neg (show ¬ nI O < (6 : Int32) from nI_nlt (b := 6) (by omega) (by omega)), if_neg q6, f_X6_readStep_49]
    · rw [if_pos (show (60 : Int32) ≤ nI n from nI_le (a := 60) (by omega) (by omega)), if_neg hn60, f_X6_readStep_49]
  by_cases ho : j = 4 ∨ j = 5
  · have hsel : ∀ A B : Option ((Nat → Int32) × (Nat → Nat → Int32) × (Nat → Int32) × (Nat → Int32) × (Nat → Nat → Int64) × (Nat → Nat → Int32)), (if nI j = 4 then A else (if nI j = 5 then A else B)) = A := fun A B => by
      rcases ho with e | e
      · rw [e]; rfl
      · rw [e]; rfl
    rw [hsel, f_X6_readStep_18, h23, if_neg n10]
    by_cases hn60 : n < 60
    · rw [if_pos hn60]
      by_cases q6 : O < 6
      · rw [if_pos q6, if_pos (show n < 60 ∧ (j = 4 ∨ j = 5 → O < 6) from ⟨hn60, fun _ => q6⟩)]
      · rw [if_neg q6, if_neg (show ¬ (n < 60 ∧ (j = 4 ∨ j = 5 → O < 6)) from fun z => q6 (z.2 ho))]
    · rw [if_neg hn60, if_neg (show ¬ (n < 60 ∧ (j = 4 ∨ j = 5 → O < 6)) from fun z => hn60 z.1)]
  · rw [if_neg (show ¬ nI j = 4 from hne 4 (by omega) (fun z => ho (Or.inl z.symm))), if_neg (show ¬ nI j = 5 from hne 5 (by omega) (fun z => ho (Or.inr z.symm))), h23, if_pos rfl]
    by_cases hn60 : n < 60
    · rw [if_pos hn60, if_pos (show n < 60 ∧ (j = 4 ∨ j = 5 → O < 6) from ⟨hn60, fun z => absurd z ho⟩)]
    · rw [if_neg hn60, if_neg (show ¬ (n < 60 ∧ (j = 4 ∨ j = 5 → O < 6)) from fun z => hn60 z.1)]
theorem rb4 {F : (Nat → Int32) → (Nat → Nat → Int32) → (Nat → Nat → Int64) → Option (((Nat → Int32) × (Nat → Nat → Int64) × (Nat → Nat → Int32)) ⊕ ((Nat → Int32) × (Nat → Nat → Int64) × (Nat → Nat → Int32)))} {fv j : Nat} {mi : Nat → Int32} {mr : Nat → Nat → Int32} {ml : Nat → Nat → Int64} {xf xl : Int32} (hj : j < 8) (hs : f_X13_stepAtHand mi mr ml = some (nI j)) : f_X13_readBody_4 F (fv + 1) mi ml mr xf xl = bt (f_X13_readOne F mi mr ml) (fun q6 => ck (inb q6.1 120) (ck (inb q6.1 120) (f_X13_readBody_31 F (f_X13_readBody_4 F fv) q6.2.1 q6.2.2.1 (va_up (va_up q6.2.2.2 30 (upd (q6.2.2.2 30) q6.1.toNatClampNeg xl)) 29 (upd (q6.2.2.2 29) q6.1.toNatClampNeg (-1))) xf xl q6.1))) (fun t6 => some (.inr (t6.1, t6.2.1, t6.2.2))) := by
  rw [f_X13_readBody_4, hs, bd_some, if_neg (nm1N (by omega))]
def OneOK (b : Nat → Nat) (N M : Nat) (r1 : Nat → Nat → Int32) (l1 : Nat → Nat → Int64) (F : (Nat → Int32) → (Nat → Nat → Int32) → (Nat → Nat → Int64) → Option (((Nat → Int32) × (Nat → Nat → Int64) × (Nat → Nat → Int32)) ⊕ ((Nat → Int32) × (Nat → Nat → Int64) × (Nat → Nat → Int32)))) (k n O y x fu fv : Nat) (CL : List Int32) (ML : List MKt) (lv : Nat → Nat) (i0 : Nat → Int32) (r0 : Nat → Nat → Int32) (i1 i2 : Nat → Int32) (r2 : Nat → Nat → Int32) (l2 : Nat → Nat → Int64) (mi : Nat → Int32) (mr : Nat → Nat → Int32) (ml : Nat → Nat → Int64) (xf xl : Int32) : Prop :=
  (∃ k1 n1 x1 fu1 CL1 ML1 lv1 j0 q0 j1 j2 q2 p2 mj mq mp xf' xl', k < k1 ∧ f_X6_readInto_36 fu i0 r0 i1 l1 r1 i2 l2 r2 (nI x) = f_X6_readInto_36 fu1 j0 q0 j1 l1 r1 j2 p2 q2 (nI x1) ∧ f_X13_readBody_4 F (fv + 1) mi ml mr xf xl = f_X13_readBody_4 F fv mj mp mq xf' xl' ∧ ADV b N M O y k n CL ML lv r0 i2 r2 l2 mr ml k1 n1 CL1 ML1 lv1 j0 q0 j1 j2 q2 p2 mj mq mp ∧ PT 60 (q2 9 y) xf' ∧ PT 60 (q2 10 y) xl' ∧ x1 ≤ k1 ∧ M + 2 ≤ k1 + fu1) ∨
  (∃ j0 q0 j1 j2 q2 p2 mj mq mp, f_X6_readInto_36 fu i0 r0 i1 l1 r1 i2 l2 r2 (nI x) = some (0, j0, q0, j1, l1, r1, j2, p2, q2) ∧ f_X13_readBody_4 F (fv + 1) mi ml mr xf xl = some (.inr (mj, mp, mq)) ∧ FT j1 mj)
theorem one_room {b : Nat → Nat} {N M k n O y x fu fv j : Nat} {r1 : Nat → Nat → Int32} {l1 : Nat → Nat → Int64} {F : (Nat → Int32) → (Nat → Nat → Int32) → (Nat → Nat → Int64) → Option (((Nat → Int32) × (Nat → Nat → Int64) × (Nat → Nat → Int32)) ⊕ ((Nat → Int32) × (Nat → Nat → Int64) × (Nat → Nat → Int32)))} {CL : List Int32} {ML : List MKt} {lv : Nat → Nat} {i0 : Nat → Int32} {r0 : Nat → Nat → Int32} {i1 i2 : Nat → Int32} {r2 : Nat → Nat → Int32} {l2 : Nat → Nat → Int64} {mi : Nat → Int32} {mr : Nat → Nat → Int32} {ml : Nat → Nat → Int64} {xf xl : Int32} (hX : CX b N M r1 l1 mr) (hB : BSt b N M k n O y CL ML lv i0 i1 i2 r2 mi mr) (hO : O ≤ 6) (hy : y < 126) (hj : j < 8) (hk : kyC b N (tok b N k) = nI j) (hs : f_X13_stepAtHand mi mr ml = some (nI j)) (hx : x ≤ k) (hfu : M + 2 ≤ k + fu) (hno : ¬ (n < 60 ∧ (j = 4 ∨ j = 5 → O < 6))) : OneOK b N M r1 l1 F k n O y x fu fv CL ML lv i0 r0 i1 i2 r2 l2 mi mr ml xf xl := by
  obtain ⟨hA, ⟨h4, h5, h8⟩, ⟨h13, h48, h50⟩, hCL, hML, hc, hm, hn, hW⟩ := hB
  have hkM := hA.1.1
  obtain ⟨fu, rfl⟩ : ∃ m, fu = m + 2 := ⟨fu - 2, by omega⟩
  right
  obtain ⟨i', a1, a2⟩ := both_fail hX hA (c := 4) (by decide)
  refine ⟨i0, r0, i', i2, r2, l2, _, mr, ml, ?_, ?_, a2⟩
  · rw [lp_step (fu + 1) hX hA.1 hx h4 hy hj hk, cOne_go (y := y) (hA.1.2.2.2.2.1.trans hk) h13 h5 hn hO hj, if_neg hno, a1, bd_some, bd_some]
    exact lp_fm fu a2.1 _
  · rw [rb4 hj hs, rOne_go (b := b) (N := N) (M := M) (k := k) (r1 := r1) (l1 := l1) h48 h50 hn hO hj hs, if_neg hno, bt_r]
theorem one_simple {b : Nat → Nat} {N M k n O y x fu fv j : Nat} {r1 : Nat → Nat → Int32} {l1 : Nat → Nat → Int64} {F : (Nat → Int32) → (Nat → Nat → Int32) → (Nat → Nat → Int64) → Option (((Nat → Int32) × (Nat → Nat → Int64) × (Nat → Nat → Int32)) ⊕ ((Nat → Int32) × (Nat → Nat → Int64) × (Nat → Nat → Int32)))} {CL : List Int32} {ML : List MKt} {lv : Nat → Nat} {i0 : Nat → Int32} {r0 : Nat → Nat → Int32} {i1 i2 : Nat → Int32} {r2 : Nat → Nat → Int32} {l2 : Nat → Nat → Int64} {mi : Nat → Int32} {mr : Nat → Nat → Int32} {ml : Nat → Nat → Int64} {xf xl : Int32} (hX : CX b N M r1 l1 mr) (hB : BSt b N M k n O y CL ML lv i0 i1 i2 r2 mi mr) (hO : O ≤ 6) (hy : y < 126) (hl1 : y < 120 → y / 2 < n ∧ O = lv (y / 2) + 1) (hl2 : 120 ≤ y → O = 0) (hj : j < 8) (hj45 : j ≠ 4 ∧ j ≠ 5) (hk : kyC b N (tok b N k) = nI j) (hs : f_X13_stepAtHand mi mr ml = some (nI j)) (hf : PT 60 (r2 9 y) xf) (hl : PT 60 (r2 10 y) xl) (hx : x ≤ k) (hfu : M + 2 ≤ k + fu) : OneOK b N M r1 l1 F k n O y x fu fv CL ML lv i0 r0 i1 i2 r2 l2 mi mr ml xf xl := by
  by_cases hn60 : n < 60
  · obtain ⟨hA, ⟨h4, h5, h8⟩, ⟨h13, h48, h50⟩, hCL, hML, hc, hm, hn, hW⟩ := hB
    have hM := hX.2.1
    have hkM := hA.1.1
    obtain ⟨fu, rfl⟩ : ∃ m, fu = m + 2 := ⟨fu - 2, by omega⟩
    have hgo : n < 60 ∧ (j = 4 ∨ j = 5 → O < 6) := ⟨hn60, fun z => by omega⟩
    have hne : ∀ c, c < 8 → c ≠ j → ¬ nI j = nI c := fun c hc hcj z => hcj (nI_inj (by omega) (by omega) z).symm
    obtain ⟨r2a, lva, s1, sW, slv, slvn, a0, a1, a3, a10, a2n, a2a, a2b, a9, ao⟩ := addStep_ok (l2 := l2) (x := j) hn60 hy h13 hW hO hl1 hl2
    have hK1 : ¬ tkK b N (tok b N k) = 0 := fun z => by
      rw [kyC, if_neg (by omega)] at hk
      exact nm1N (by omega) hk.symm
    have hXa : CX b N M r1 l1 (va_up mr 28 (upd (mr 28) (60 + n) (nI j))) := hX.mr (up_n (by omega))
    have hAa : AT b N M k i1 (upd mi 48 (nI (n + 1))) := hA.mi (fun s s3 s9 => pk_un (by omega))
    obtain ⟨t0, i', mi', t1, t2, t3, t4⟩ := both_adv (ml := ml) hXa hAa hK1
    have hCLa : CLp CL (upd i2 13 (nI (n + 1))) r2a := ⟨by rw [pk_un (by omega)]; exact hCL.1, fun z t hz => by rw [ao 12 (by omega) (by omega) (by omega) (by omega) (by omega) (by omega)]; exact hCL.2 z t hz⟩
    have hMLa : MLp ML mi' (va_up mr 28 (upd (mr 28) (60 + n) (nI j))) := ⟨by rw [t4 49 (by omega) (by omega) (by omega) (by omega), pk_un (by omega)]; exact hML.1, fun z t hz => by rw [up_n (by omega), up_n (by omega), up_n (by omega)]; exact hML.2 z t hz⟩
    have hC := lp_step (l2 := l2) (fu + 1) (r0 := r0) (i2 := i2) (r2 := r2) hX hA.1 hx h4 hy hj hk
    rw [cOne_go (y := y) (hA.1.2.2.2.2.1.trans hk) h13 h5 hn hO hj, if_pos hgo, f_X6_readStep_58, h4, s1, bd_some] at hC
    dsimp only at hC
    rw [t1, bd_some] at hC
    have hR := rb4 (F := F) (fv := fv) (xf := xf) (xl := xl) hj hs
    rw [rOne_go (b := b) (N := N) (M := M) (k := k) (r1 := r1) (l1 := l1) h48 h50 hn hO hj hs, if_pos hgo, t2, bd_some, if_neg (show ¬ nI j = 4 from hne 4 (by omega) (fun z => hj45.1 z.symm)), if_neg (show ¬ nI j = 5 from hne 5 (by omega) (fun z => hj45.2 z.symm))] at hR
    -- what is left once the STEP's own data stand in both
    have fin : ∀ (k1 : Nat) (L : List MKt) (j0 : Nat → Int32) (q0 : Nat → Nat → Int32) (j1 j2 : Nat → Int32) (q2 : Nat → Nat → Int32) (p2 : Nat → Nat → Int64) (mj : Nat → Int32) (mq : Nat → Nat → Int32) (mp : Nat → Nat → Int64), k + 1 ≤ k1 → f_X6_readInto_36 (fu + 2) i0 r0 i1 l1 r1 i2 l2 r2 (nI x) = bd (f_X6_readStep_203 r1 l1 j0 q0 j1 j2 p2 q2) (fun q27 => f_X6_readInto_36 (fu + 1) q27.1 q27.2.1 q27.2.2.1 l1 r1 q27.2.2.2.1 q27.2.2.2.2.1 q27.2.2.2.2.2 (nI (x + 1))) → f_X13_readBody_4 F (fv + 1) mi ml mr xf xl = ck (inb (nI (60 + n)) 120) (ck (inb (nI (60 + n)) 120) (f_X13_readBody_31 F (f_X13_readBody_4 F fv) mj mp (va_up (va_up mq 30 (upd (mq 30) (nI (60 + n)).toNatClampNeg xl)) 29 (upd (mq 29) (nI (60 + n)).toNatClampNeg (-1))) xf xl (nI (60 + n)))) → AT b N M k1 j1 mj → CLp (CL ++ L.map cM) j2 q2 → MLp (ML ++ L) mj mq → CL.length + L.length ≤ k1 → DAT j 60 1000 n (CL.length + L.length) (ML.length + L.length) q2 p2 mq mp → KF i0 r0 (upd i2 13 (nI (n + 1))) r2a mi' (va_up mr 28 (upd (mr 28) (60 + n) (nI j))) j0 q0 j2 q2 mj mq → j0 8 = 0 → FB n CL.length ML.length 200 r2a l2 (va_up mr 28 (upd (mr 28) (60 + n) (nI j))) ml q2 p2 mq mp → p2 11 = l2 11 → OneOK b N M r1 l1 F k n O y x (fu + 2) fv CL ML lv i0 r0 i1 i2 r2 l2 mi mr ml xf xl := by
      intro k1 L j0 q0 j1 j2 q2 p2 mj mq mp hk1 eC eR eA eCL eML ec eD eK e8 eF e11
      obtain ⟨K1, K2, K3, K4, K5, K6⟩ := eK
      have lC : (CL ++ L.map cM).length = CL.length + L.length := by rw [List.length_append, List.length_map]
      have lM : (ML ++ L).length = ML.length + L.length := List.length_append
      rw [body_after hn60 hl] at eR
      have hXq : CX b N M r1 l1 (lnk n xl mq) := hX.mr (by rw [lnk_o (by omega) (by omega), K6 1 (by omega), up_n (by omega)])
      rcases wSign (c := 59) (x := 59) (ml := mp) hXq eA (by omega) (by omega) rfl with ⟨b0, b1, i5, mi5, b2, b3, b4⟩ | ⟨b1, i5, mi5, b2, b3, b4⟩
      · left
        rw [f_X6_readStep_203, b2, bd_some, bd_some] at eC
        rw [b3, bt_l] at eR
        have G := fr_X13_sign b3
        have G' : ∀ s, ¬ (s = 4 ∨ s = 5 ∨ s = 6 ∨ s = 7 ∨ s = 8 ∨ s = 9) → mi5 s = mj s := G
        have one := one_fin (lv := lv) (i2 := i2) (r2 := r2) (r2a := r2a) (l2 := l2) (mr := mr) (ml := ml) (xf := xf) (xl := xl) (k := k) (k2 := k1 + 1) (n2 := n + 1) (CL := CL) (ML := ML) (CL2 := CL ++ L.map cM) (ML2 := ML ++ L) (lva := lva) (lv2 := lva) (j0 := j0) (r0 := r0) (q0 := q0) (j1 := i5) (j2 := j2) (q2 := q2) (p2 := p2) (mj2 := mi5) (mq := mq) (mp := mp) (b := b) (N := N) (M := M) (O := O) hn60 hj hy (fun z => (hl1 z).1) hf hl hW a1 a0 a3 a10 a2n a2a a2b a9 ao slv (by omega) (Nat.le_refl _) eF (fun s hs => by rw [K4 2 (by omega) (by omega) (by omega) (by omega) (by omega)]) (fun s hs => by rw [K6 29 (by omega), up_n (by omega)]) (by rw [K4 0 (by omega) (by omega) (by omega) (by omega) (by omega), a0, pk_us]) (by rw [K4 3 (by omega) (by omega) (by omega) (by omega) (by omega), a3, pk_us]) (by rw [K6 28 (by omega), up_s, pk_us]) (by rw [lC, lM]; exact eD) (fun s s1 s2 => by omega) (fun z _ => ⟨by rw [K4 9 (by omega) (by omega) (by omega) (by omega) (by omega)], by rw [K4 10 (by omega) (by omega) (by omega) (by omega) (by omega)]⟩) (fun s hs => ⟨rfl, by rw [K4 1 (by omega) (by omega) (by omega) (by omega) (by omega)]⟩) ⟨_, rfl⟩ ⟨_, rfl⟩ ⟨b4, ⟨by rw [K1 4 (by omega) (by omega) (by omega), h4], by rw [K1 5 (by omega) (by omega) (by omega), h5], e8⟩, ⟨by rw [K3 13 (by omega), pk_us], by rw [G' 48 (by omega), K5 48 (by omega), t4 48 (by omega) (by omega) (by omega) (by omega), pk_us], by rw [G' 50 (by omega), K5 50 (by omega), t4 50 (by omega) (by omega) (by omega) (by omega), pk_un (by omega), h50]⟩, eCL, eML.mi (G' 49 (by omega)), by omega, by omega, by omega, sW.congr (K4 1 (by omega) (by omega) (by omega) (by omega) (by omega)) (K4 2 (by omega) (by omega) (by omega) (by omega) (by omega)) (K4 3 (by omega) (by omega) (by omega) (by omega) (by omega)) (K4 9 (by omega) (by omega) (by omega) (by omega) (by omega)) (K4 10 (by omega) (by omega) (by omega) (by omega) (by omega))⟩ (fun z hz => by rw [K2]) (by rw [K3 14 (by omega), pk_un (by omega)]) e11 (by rw [K6 1 (by omega), up_n (by omega)])
        exact ⟨k1 + 1, n + 1, x + 1, fu + 1, _, _, lva, j0, q0, i5, j2, q2, p2, mi5, lnk n xl mq, mp, _, _, by omega, eC, eR, one.1, one.2.1, one.2.2, by omega, by omega⟩
      · right
        rw [f_X6_readStep_203, b2, bd_some, bd_some] at eC
        rw [b3, bt_r] at eR
        exact ⟨j0, q0, i5, j2, q2, p2, mi5, lnk n xl mq, mp, eC.trans (lp_fm fu b4.1 _), eR, b4⟩
    have bad : ∀ (j0 : Nat → Int32) (q0 : Nat → Nat → Int32) (j1 j2 : Nat → Int32) (q2 : Nat → Nat → Int32) (p2 : Nat → Nat → Int64) (mj : Nat → Int32) (mq : Nat → Nat → Int32) (mp : Nat → Nat → Int64), f_X6_readInto_36 (fu + 2) i0 r0 i1 l1 r1 i2 l2 r2 (nI x) = bd (f_X6_readStep_203 r1 l1 j0 q0 j1 j2 p2 q2) (fun q27 => f_X6_readInto_36 (fu + 1) q27.1 q27.2.1 q27.2.2.1 l1 r1 q27.2.2.2.1 q27.2.2.2.2.1 q27.2.2.2.2.2 (nI (x + 1))) → f_X13_readBody_4 F (fv + 1) mi ml mr xf xl = some (.inr (mj, mp, mq)) → FT j1 mj → OneOK b N M r1 l1 F k n O y x (fu + 2) fv CL ML lv i0 r0 i1 i2 r2 l2 mi mr ml xf xl := by
      intro j0 q0 j1 j2 q2 p2 mj mq mp eC eR eF
      right
      rw [f_X6_readStep_203, fm_kind eF.1 (by decide), bd_some, bd_some] at eC
      exact ⟨j0, q0, j1, j2, q2, p2, mj, mq, mp, eC.trans (lp_fm fu eF.1 _), eR, eF⟩
    by_cases h67 : j = 6 ∨ j = 7
    · -- call, uncall
      have i60 := inb_nI (n := n) (N := 60) hn60 (by omega)
      have e6 : nI (60 + n) - 60 = nI n := by rw [show (60 : Int32) = nI 60 from rfl, pk_sub (by omega), show 60 + n - 60 = n by omega]
      have hC2 : f_X6_readInto_36 (fu + 2) i0 r0 i1 l1 r1 i2 l2 r2 (nI x) = bd (bd (f_X9_word i' r1 l1) (fun q22 => bd (f_X5_setCalled (upd i2 13 (nI (n + 1))) r2a l2 (nI n) q22) (fun q23 => bd (f_X9_wantName i' r1 l1) (fun q24 => f_X6_readStep_203 r1 l1 i0 r0 q24 (upd i2 13 (nI (n + 1))) q23 r2a)))) (fun q27 => f_X6_readInto_36 (fu + 1) q27.1 q27.2.1 q27.2.2.1 l1 r1 q27.2.2.2.1 q27.2.2.2.2.1 q27.2.2.2.2.2 (nI (x + 1))) := by
        rw [hC, if_neg (show ¬ nI j = 3 from hne 3 (by omega) (by omega)), if_neg (show ¬ nI j = 4 from hne 4 (by omega) (fun z => hj45.1 z.symm)), if_neg (show ¬ nI j = 5 from hne 5 (by omega) (fun z => hj45.2 z.symm))]
        rcases h67 with e | e
        · rw [e]; rfl
        · rw [e]; rfl
      have hR2 : f_X13_readBody_4 F (fv + 1) mi ml mr xf xl = bt (f_X13_readOne_203 F mi' ml (va_up mr 28 (upd (mr 28) (60 + n) (nI j))) (nI (60 + n))) (fun q6 => ck (inb q6.1 120) (ck (inb q6.1 120) (f_X13_readBody_31 F (f_X13_readBody_4 F fv) q6.2.1 q6.2.2.1 (va_up (va_up q6.2.2.2 30 (upd (q6.2.2.2 30) q6.1.toNatClampNeg xl)) 29 (upd (q6.2.2.2 29) q6.1.toNatClampNeg (-1))) xf xl q6.1))) (fun t6 => some (.inr (t6.1, t6.2.1, t6.2.2))) := by
        rw [hR]
        rcases h67 with e | e
        · rw [if_pos (show nI j = 6 by rw [e]; rfl)]
        · rw [if_neg (show ¬ nI j = 6 from hne 6 (by omega) (by omega)), if_pos (show nI j = 7 by rw [e]; rfl)]
      rcases wName (ml := ml) hXa t3 with ⟨n1, n2, n3, n4, n5⟩ | ⟨w, i'', mi'', n1, n2, n3, n4, n5⟩
      · obtain ⟨u0, i'', mi'', u1, u2, u3, u4⟩ := both_adv (ml := va_up ml 45 (vp_updL (ml 45) n (lN (nm5 (tx b (tok b N (k + 1))) 0)))) hXa t3 (by omega)
        rw [n2, bd_some, f_X5_setCalled, ck_t i60, bd_some, f_X9_wantName, n1, bd_some, if_neg n10, u1, bd_some, bd_some, nI_clamp (show n < 2 ^ 31 by omega)] at hC2
        rw [f_X13_readOne_203, n3, bt_l, e6, ck_t i60, nI_clamp (show n < 2 ^ 31 by omega)] at hR2
        dsimp only at hR2
        rw [u2, bd_some, bt_l] at hR2
        dsimp only at hR2
        refine fin (k + 1 + 1) [] i0 r0 i'' (upd i2 13 (nI (n + 1))) r2a _ mi'' _ _ (by omega) hC2 hR2 u3 (by rw [List.map_nil, List.append_nil]; exact hCLa) (by rw [List.append_nil]; exact hMLa.mi (u4 49 (by omega) (by omega) (by omega) (by omega))) (by show CL.length + 0 ≤ _; omega) ⟨fun z => by omega, fun z => by omega, fun z => by omega, fun _ => ⟨_, n4, by rw [up_s, pk_uLs], by rw [up_s, pk_uLs]⟩⟩ ⟨fun _ _ _ _ => rfl, rfl, fun _ _ => rfl, fun _ _ _ _ _ _ => rfl, fun s hs => u4 s (by omega) (by omega) (by omega) (by omega), fun _ _ => rfl⟩ h8 ⟨fun s hs => ⟨rfl, rfl, rfl, rfl, by rw [up_s, pk_uLn (by omega)], rfl, rfl, by rw [up_s, pk_uLn (by omega)]⟩, fun _ _ => ⟨rfl, rfl, rfl, rfl, rfl, rfl, rfl⟩, fun _ _ _ => ⟨rfl, rfl⟩, fun _ _ => ⟨rfl, rfl⟩, fun _ _ => rfl, fun _ _ => ⟨rfl, rfl, rfl⟩⟩ (up_n (by omega))
      · rw [n2, bd_some, f_X5_setCalled, ck_t i60, bd_some, f_X9_wantName, n1, bd_some, if_pos rfl, n3, bd_some, bd_some] at hC2
        rw [f_X13_readOne_203, n4, bt_r, bt_r] at hR2
        exact bad _ _ _ _ _ _ _ _ _ hC2 hR2 n5
    · have hj3 : j < 4 := by omega
      rw [if_neg (show ¬ nI j = 6 from hne 6 (by omega) (fun z => h67 (Or.inl z.symm))), if_neg (show ¬ nI j = 7 from hne 7 (by omega) (fun z => h67 (Or.inr z.symm)))] at hR
      by_cases h3 : j = 3
      · subst h3
        rw [if_pos (show nI 3 = 3 from rfl)] at hC
        rcases swp_ok (r0 := r0) (l2 := l2) (ml := ml) (F := F) (i0 := i0) hXa t3 h8 hCLa hMLa (by omega) hn60 with ⟨k1, j0, j1, q2, mj, mq, f1, f2, f3, f4, f5, f6, f7, f8, f9, f10⟩ | ⟨j0, j1, q2, mj, mp, mq, f1, f2, f3⟩
        · rw [f2, bd_some] at hC
          rw [f3, bt_l] at hR
          exact fin k1 [] j0 r0 j1 _ q2 l2 mj mq ml (by omega) hC hR f4 (by rw [List.map_nil, List.append_nil]; exact f5) (by rw [List.append_nil]; exact f6) (by show CL.length + 0 ≤ _; omega) f7 f8 f9 f10 rfl
        · rw [f1, bd_some] at hC
          rw [f2, bt_r] at hR
          exact bad _ _ _ _ _ _ _ _ _ hC hR f3
      · rw [if_neg (show ¬ nI j = 3 from hne 3 (by omega) (fun z => h3 z.symm)), if_neg (show ¬ nI j = 4 from hne 4 (by omega) (fun z => hj45.1 z.symm)), if_neg (show ¬ nI j = 5 from hne 5 (by omega) (fun z => hj45.2 z.symm)), if_neg (show ¬ nI j = 6 from hne 6 (by omega) (fun z => h67 (Or.inl z.symm))), if_neg (show ¬ nI j = 7 from hne 7 (by omega) (fun z => h67 (Or.inr z.symm)))] at hC
        rcases chg_ok (r0 := r0) (l2 := l2) (ml := ml) (F := F) (i0 := i0) (show j < 3 by omega) hXa t3 h8 hCLa hMLa (by omega) hm hn60 with ⟨k1, L, j0, q0, j1, j2, q2, mj, mq, f1, f2, f3, f4, f5, f6, f7, f8, f9, f10, f11⟩ | ⟨j0, q0, j1, j2, q2, mj, mp, mq, f1, f2, f3⟩
        · rw [f2, bd_some] at hC
          rw [f3, bt_l] at hR
          exact fin k1 L j0 q0 j1 j2 q2 l2 mj mq ml (by omega) hC hR f4 f5 f6 f7 f8 f9 f10 f11 rfl
        · rw [f1, bd_some] at hC
          rw [f2, bt_r] at hR
          exact bad _ _ _ _ _ _ _ _ _ hC hR f3
  · exact one_room hX hB hO hy hj hk hs hx hfu (fun z => hn60 z.1)
