/-! ===== program: its procs ===== -/
def PN (P : Nat) (T : Nat → List Nat) (l2 ml : Nat → Nat → Int64) : Prop := ∀ p, p < P → okNm (T p) ∧ l2 11 p = lN (encL (T p) 0) ∧ ml 44 p = lN (nm5 (T p) 0)
theorem pn_go {P : Nat} {T : Nat → List Nat} {t : List Nat} {i2 mi : Nat → Int32} {r2 mr : Nat → Nat → Int32} {l2 ml : Nat → Nat → Int64} (hP : P ≤ 6) (h : PN P T l2 ml) (ht : okNm t) (h14 : i2 14 = nI P) (h47 : mi 47 = nI P) : ∀ (d p fu fv : Nat), p + d = P → d < fu → d < fv → ∃ o, f_X5_procNamed_2 i2 r2 l2 fu (lN (encL t 0)) (nI p) = some (oI o) ∧ f_X13_procOf_2 mi mr ml fv (lN (nm5 t 0)) (nI p) = some (oI o) ∧ ∀ z, o = some z → z < P := by
  intro d
  induction d with
  | zero =>
    intro p fu fv hp hfu hfv
    obtain ⟨fu, rfl⟩ : ∃ m, fu = m + 1 := ⟨fu - 1, by omega⟩
    obtain ⟨fv, rfl⟩ : ∃ m, fv = m + 1 := ⟨fv - 1, by omega⟩
    refine ⟨none, ?_, ?_, fun z hz => by cases hz⟩
    · rw [f_X5_procNamed_2, h14, if_pos (nI_le (by omega) (by omega))]
      rfl
    · rw [f_X13_procOf_2, h47, if_pos (nI_le (by omega) (by omega))]
      rfl
  | succ d ih =>
    intro p fu fv hp hfu hfv
    obtain ⟨fu, rfl⟩ : ∃ m, fu = m + 1 := ⟨fu - 1, by omega⟩
    obtain ⟨fv, rfl⟩ : ∃ m, fv = m + 1 := ⟨fv - 1, by omega⟩
    obtain ⟨e1, e2, e3⟩ := h p (by omega)
    obtain ⟨q1, q2⟩ := nm_eq e1 ht
    have hin := inb_nI (n := p) (N := 6) (by omega) (by omega)
    rw [f_X5_procNamed_2, h14, if_neg (nI_ge (by omega) (by omega)), ck_t hin, nI_clamp (by omega), e2, f_X13_procOf_2, h47, if_neg (nI_ge (by omega) (by omega)), ck_t hin, nI_clamp (by omega), e3]
    by_cases q : T p = t
    · rw [if_pos (lgc_eq.mpr (q1.mpr q)), if_pos (lgc_eq.mpr (q2.mpr q))]
      exact ⟨some p, rfl, rfl, fun z hz => by cases hz; omega⟩
    · rw [if_neg (fun z => q (q1.mp (lgc_eq.mp z))), if_neg (fun z => q (q2.mp (lgc_eq.mp z))), nI_1]
      exact ih (p + 1) fu fv (by omega) (by omega) (by omega)
theorem pn_ok {P : Nat} {T : Nat → List Nat} {t : List Nat} {i2 mi : Nat → Int32} {r2 mr : Nat → Nat → Int32} {l2 ml : Nat → Nat → Int64} (hP : P ≤ 6) (h : PN P T l2 ml) (ht : okNm t) (h14 : i2 14 = nI P) (h47 : mi 47 = nI P) : ∃ o, f_X5_procNamed i2 r2 l2 (lN (encL t 0)) = some (oI o) ∧ f_X13_procOf mi mr ml (lN (nm5 t 0)) = some (oI o) ∧ ∀ z, o = some z → z < P := by
  rw [f_X5_procNamed, f_X13_procOf]
  exact pn_go hP h ht h14 h47 P 0 2000000 2000000 (by omega) (by omega) (by omega)
def PSt (b : Nat → Nat) (N M k n P : Nat) (T : Nat → List Nat) (CL : List Int32) (ML : List MKt) (lv : Nat → Nat) (i0 i1 i2 : Nat → Int32) (r2 : Nat → Nat → Int32) (l2 : Nat → Nat → Int64) (mi : Nat → Int32) (mr : Nat → Nat → Int32) (ml : Nat → Nat → Int64) : Prop := AT b N M k i1 mi ∧ (i0 4 = -1 ∧ i0 5 = 0 ∧ i0 8 = 0) ∧ (i2 13 = nI n ∧ mi 48 = nI n ∧ mi 50 = 0) ∧ (i2 14 = nI P ∧ mi 47 = nI P ∧ P ≤ 6) ∧ (CLp CL i2 r2 ∧ MLp ML mi mr ∧ CL.length ≤ k ∧ ML.length ≤ CL.length ∧ n ≤ 60) ∧ CW n lv r2 ∧ PN P T l2 ml ∧ (∀ s, s < n → NDw 60 1000 s CL.length ML.length r2 l2 mr ml ∧ PT 60 (r2 2 s) (mr 29 (60 + s))) ∧ (∀ p, p < P → PT 60 (r2 9 (120 + p)) (mr 42 (6 + p)) ∧ PT 60 (r2 10 (120 + p)) (mr 43 (6 + p))) ∧ ∀ p, P ≤ p → p < 6 → r2 9 (120 + p) = -1 ∧ r2 10 (120 + p) = -1
theorem lp_head {b : Nat → Nat} {N M k x : Nat} {r1 mr : Nat → Nat → Int32} {l1 l2 : Nat → Nat → Int64} (n : Nat) {i0 : Nat → Int32} {r0 : Nat → Nat → Int32} {i1 i2 : Nat → Int32} {r2 : Nat → Nat → Int32} (hX : CX b N M r1 l1 mr) (h : CA b N M k i1) (hx : x ≤ k) (h4 : i0 4 = -1) : f_X6_readInto_36 (n + 1) i0 r0 i1 l1 r1 i2 l2 r2 (nI x) = if tkK b N (tok b N k) = 0 then f_X6_readInto_131 i0 r0 i1 l1 r1 i2 l2 r2 else bd (f_X6_readHead i0 r0 i1 r1 l1 i2 r2 l2) (fun q28 => f_X6_readInto_36 n q28.1 r0 q28.2.1 l1 r1 q28.2.2.1 q28.2.2.2 r2 (nI (x + 1))) := by
  have hM := hX.2.1
  have hkM := h.1
  rw [f_X6_readInto_36, if_neg (show ¬ (900 : Int32) < nI x from nI_nlt (a := 900) (by omega) (by omega)), f_X9_kind, bd_some]
  by_cases q : tkK b N (tok b N k) = 0
  · rw [if_pos ((kind_sm (x := 0) h (c := 0) (by omega) rfl).mpr q), if_pos q]
  · rw [if_neg (fun z => q ((kind_sm (x := 0) h (c := 0) (by omega) rfl).mp z)), if_neg q, ca_failed h, bd_some, if_pos rfl, if_pos h4]
    simp only [f_X6_readInto_125, nI_1]
theorem fm_head79 {r0 r1 r2 : Nat → Nat → Int32} {l1 l2 : Nat → Nat → Int64} {i0 i1 i2 : Nat → Int32} (h : FM i1) (x : Int64) : f_X6_readHead_79 r0 r1 l1 r2 i0 i1 i2 l2 x = some (i0, i1, i2, l2) := by
  rw [f_X6_readHead_79, fm_name h, bd_some, fm_key h (by decide), bd_some, fm_failed h, bd_some, if_neg i01]
theorem fm_head32 {r0 r1 r2 : Nat → Nat → Int32} {l1 l2 : Nat → Nat → Int64} {i0 i1 i2 : Nat → Int32} (h : FM i1) : f_X6_readHead_32 r0 r1 l1 r2 i0 i1 i2 l2 = some (i0, i1, i2, l2) := by
  rw [f_X6_readHead_32, fm_key h (by decide), bd_some, f_X9_word, ck_t (fm_in h), bd_some, fm_sees h, bd_some, if_pos rfl, fm_head79 h]
theorem prog_go {b : Nat → Nat} {N M : Nat} {r1 : Nat → Nat → Int32} {l1 : Nat → Nat → Int64} : ∀ (g k n P x fu fv : Nat) (T : Nat → List Nat) (CL : List Int32) (ML : List MKt) (lv : Nat → Nat) (i0 : Nat → Int32) (r0 : Nat → Nat → Int32) (i1 i2 : Nat → Int32) (r2 : Nat → Nat → Int32) (l2 : Nat → Nat → Int64) (mi : Nat → Int32) (mr : Nat → Nat → Int32) (ml : Nat → Nat → Int64), M ≤ k + g → g < fv → CX b N M r1 l1 mr → PSt b N M k n P T CL ML lv i0 i1 i2 r2 l2 mi mr ml → x ≤ k → M + 2 ≤ k + fu →
  (∃ n1 P1 T1 CL1 ML1 lv1 j0 q0 j1 j2 q2 p2 mj mq mp, f_X6_readInto_36 fu i0 r0 i1 l1 r1 i2 l2 r2 (nI x) = f_X6_readInto_131 j0 q0 j1 l1 r1 j2 p2 q2 ∧ f_X13_readProgram_20 fv mi ml mr = f_X13_readProgram_169 2000000 mj mp mq 0 ∧ CX b N M r1 l1 mq ∧ PSt b N M M n1 P1 T1 CL1 ML1 lv1 j0 j1 j2 q2 p2 mj mq mp) ∨
  (∃ j0 q0 j1 j2 q2 p2 mj mq mp, f_X6_readInto_36 fu i0 r0 i1 l1 r1 i2 l2 r2 (nI x) = some (0, j0, q0, j1, l1, r1, j2, p2, q2) ∧ f_X13_readProgram_20 fv mi ml mr = some (.inr (mj, mp, mq)) ∧ FT j1 mj) := by
  intro g
  induction g with
  | zero =>
    intro k n P x fu fv T CL ML lv i0 r0 i1 i2 r2 l2 mi mr ml hk hfv hX hS hx hfu
    obtain ⟨fv, rfl⟩ : ∃ m, fv = m + 1 := ⟨fv - 1, by omega⟩
    obtain ⟨fu, rfl⟩ : ∃ m, fu = m + 1 := ⟨fu - 1, by have := hS.1.1.1; omega⟩
    have hkM : k = M := by have := hS.1.1.1; omega
    have e0 := (tk_end hX hS.1.1.1).mpr hkM
    left
    refine ⟨n, P, T, CL, ML, lv, i0, r0, i1, i2, r2, l2, mi, mr, ml, ?_, ?_, hX, by have hS' := hS; rw [hkM] at hS'; exact hS'⟩
    · rw [lp_head fu hX hS.1.1 hx hS.2.1.1, if_pos e0]
    · rw [f_X13_readProgram_20, if_pos ((hand_if (x := 0) hS.1.2.1 (c := 0) (by omega) rfl).mpr e0)]
  | succ g ih =>
    intro k n P x fu fv T CL ML lv i0 r0 i1 i2 r2 l2 mi mr ml hk hfv hX hS hx hfu
    obtain ⟨hA, ⟨h4, h5, h8⟩, ⟨h13, h48, h50⟩, ⟨h14, h47, hP⟩, ⟨hCL, hML, hc, hm, hn⟩, hW, hPN, hND, hPR, hFr⟩ := id hS
    have hM := hX.2.1
    have hkM := hA.1.1
    obtain ⟨fv, rfl⟩ : ∃ m, fv = m + 1 := ⟨fv - 1, by omega⟩
    obtain ⟨fu, rfl⟩ : ∃ m, fu = m + 1 := ⟨fu - 1, by omega⟩
    have hC := lp_head (l2 := l2) fu (r0 := r0) (i2 := i2) (r2 := r2) hX hA.1 hx h4
    by_cases e0 : tkK b N (tok b N k) = 0
    · left
      have hkM2 := (tk_end hX hkM).mp e0
      refine ⟨n, P, T, CL, ML, lv, i0, r0, i1, i2, r2, l2, mi, mr, ml, by rw [hC, if_pos e0], ?_, hX, by have hS' := hS; rw [hkM2] at hS'; exact hS'⟩
      rw [f_X13_readProgram_20, if_pos ((hand_if (x := 0) hA.2.1 (c := 0) (by omega) rfl).mpr e0)]
    · have hkM2 : k ≠ M := fun q => e0 ((tk_end hX hkM).mpr q)
      obtain ⟨fu, rfl⟩ : ∃ m, fu = m + 1 := ⟨fu - 1, by omega⟩
      rw [if_neg e0] at hC
      have hR : f_X13_readProgram_20 (fv + 1) mi ml mr = bd (f_X13_is 4 mi mr ml) (fun q27 => bt (f_X13_need mi mr ml q27 1) (fun q28 => if 6 ≤ (q28 47) then (f_X13_readProgram_54 (f_X13_readProgram_20 fv) q28 ml mr 0) else (f_X13_readProgram_54 (f_X13_readProgram_20 fv) q28 ml mr 1)) (fun t28 => some (.inr (t28, ml, mr)))) := by
        rw [f_X13_readProgram_20, if_neg (fun z => e0 ((hand_if (x := 0) hA.2.1 (c := 0) (by omega) rfl).mp z))]
      rw [at_is hX hA.2.1 (by omega), bd_some] at hR
      -- a fault within the head
      have bad : ∀ (q1 : Nat → Int32) (mj : Nat → Int32) (mp : Nat → Nat → Int64) (mq : Nat → Nat → Int32), f_X6_readHead i0 r0 i1 r1 l1 i2 r2 l2 = some (i0, q1, i2, l2) → f_X13_readProgram_20 (fv + 1) mi ml mr = some (.inr (mj, mp, mq)) → FT q1 mj → ∃ j0 q0 j1 j2 q2 p2 mj mq mp, f_X6_readInto_36 (fu + 1 + 1) i0 r0 i1 l1 r1 i2 l2 r2 (nI x) = some (0, j0, q0, j1, l1, r1, j2, p2, q2) ∧ f_X13_readProgram_20 (fv + 1) mi ml mr = some (.inr (mj, mp, mq)) ∧ FT j1 mj := by
        intro q1 mj mp mq z1 z2 z3
        rw [z1, bd_some] at hC
        exact ⟨_, _, q1, _, _, _, mj, mq, mp, hC.trans (lp_fm fu z3.1 _), z2, z3⟩
      by_cases hw : isW b N (tok b N k) 4 = true
      · have h9 : i1 9 = 8 := (key_if (x := 8) hA.1 (w := 4) (by omega) rfl).mpr hw
        rw [if_pos hw, need1, bt_l, h47] at hR
        by_cases h6 : 6 ≤ P
        · right
          obtain ⟨i', a1, a2⟩ := both_fail hX hA (c := 4) (by decide)
          refine bad i' _ ml mr ?_ ?_ a2
          · rw [f_X6_readHead, f_X9_key, bd_some, if_pos h9, f_X5_procs, bd_some, h14, if_neg (show ¬ nI P < (6 : Int32) from nI_nlt (b := 6) h6 (by omega)), a1, bd_some, fm_head32 a2.1]
          · rw [hR, if_pos (show (6 : Int32) ≤ nI P from nI_le (a := 6) h6 (by omega)), f_X13_readProgram_54, need0, bt_r]
        · rw [if_neg (show ¬ (6 : Int32) ≤ nI P from nI_ge (b := 6) (by omega) (by omega)), f_X13_readProgram_54, need1, bt_l] at hR
          obtain ⟨t0, i', mi', t1, t2, t3, t4⟩ := both_adv (ml := ml) hX hA e0
          have hH : f_X6_readHead i0 r0 i1 r1 l1 i2 r2 l2 = bd (f_X9_word i' r1 l1) (fun q18 => bd (f_X9_seesName i' r1 l1) (fun q19 => if q19 = 0 then (f_X6_readHead_79 r0 r1 l1 r2 i0 i' i2 l2 q18) else (bd (f_X5_procNamed i2 r2 l2 q18) (fun q20 => if q20 = (-1) then (f_X6_readHead_79 r0 r1 l1 r2 i0 i' i2 l2 q18) else (bd (f_X9_fail i' r1 l1 3) (fun q21 => f_X6_readHead_79 r0 r1 l1 r2 i0 q21 i2 l2 q18)))))) := by
            rw [f_X6_readHead, f_X9_key, bd_some, if_pos h9, f_X5_procs, bd_some, h14, if_pos (show nI P < (6 : Int32) from nI_lt (b := 6) (by omega) (by omega)), f_X6_readHead_32, f_X9_wantKey, if_pos h9, t1, bd_some, bd_some]
          rw [t2, bd_some] at hR
          rcases wName (ml := ml) hX t3 with ⟨n1, n2, n3, n4, n5⟩ | ⟨w, i'', mi'', n1, n2, n3, n4, n5⟩
          · have h47' : mi' 47 = nI P := by rw [t4 47 (by omega) (by omega) (by omega) (by omega), h47]
            obtain ⟨o, o1, o2, o3⟩ := pn_ok (r2 := r2) (mr := mr) hP hPN n4 h14 h47'
            rw [n2, bd_some, n1, bd_some, if_neg n10, o1, bd_some] at hH
            rw [n3, bt_l] at hR
            dsimp only at hR
            rw [o2, bd_some] at hR
            cases o with
            | some z =>
              right
              have hz := o3 z rfl
              obtain ⟨i'', a1, a2⟩ := both_fail hX t3 (c := 3) (by decide)
              refine bad i'' _ ml mr ?_ ?_ a2
              · rw [hH, if_neg (oI_m1 (by omega)), a1, bd_some, fm_head79 a2.1]
              · rw [hR, if_neg (oI_m1 (by omega)), f_X13_readProgram_82, need0, bt_r]
            | none =>
              rw [if_pos (show oI none = -1 from rfl), f_X6_readHead_79, f_X9_wantName, n1, bd_some, if_neg n10] at hH
              rw [if_pos (show oI none = -1 from rfl), f_X13_readProgram_82, need1, bt_l, h47', ck_t (inb_nI (by omega) (by omega)), nI_1, nI_clamp (show P < 2 ^ 31 by omega)] at hR
              -- the name is kept
              have hX2 := hX
              have t3' : AT b N M (k + 1) i' (upd mi' 47 (nI (P + 1))) := t3.mi (fun s s3 s9 => pk_un (by omega))
              obtain ⟨u0, i2', mi2, u1, u2, u3, u4⟩ := both_adv (ml := va_up ml 44 (vp_updL (ml 44) P (lN (nm5 (tx b (tok b N (k + 1))) 0)))) hX t3' (by omega)
              rw [u1, bd_some, bd_some] at hH
              rw [u2, bd_some] at hR
              rcases wKey (w := 11) (c := 9) (ml := va_up ml 44 (vp_updL (ml 44) P (lN (nm5 (tx b (tok b N (k + 1))) 0)))) hX u3 (by omega) rfl with ⟨v0, -, i3, mi3, v1, v2, v3⟩ | ⟨-, i3, mi3, v1, v2, v3⟩
              · have ePb : (120 : Int32) + nI (P + 1) - 1 = nI (120 + P) := by
                  rw [show (120 : Int32) = nI 120 from rfl, show (1 : Int32) = nI 1 from rfl, nI_add, pk_sub (by omega), show 120 + (P + 1) - 1 = 120 + P by omega]
                rw [v1, bd_some, ca_failed v3.1, bd_some, if_pos rfl, f_X5_addProc, h14, if_pos (show nI P < (6 : Int32) from nI_lt (b := 6) (by omega) (by omega)), ck_t (inb_nI (by omega) (by omega)), bd_some, nI_1, ePb, nI_clamp (show P < 2 ^ 31 by omega)] at hH
                rw [v2, bt_l] at hR
                rw [hH, bd_some] at hC
                dsimp only at hC
                have gV := fr_X13_word v2
                have gV1 : ∀ s, ¬ (s = 4 ∨ s = 5 ∨ s = 6 ∨ s = 7 ∨ s = 8 ∨ s = 9) → mi3 s = mi2 s := gV
                have g3 : ∀ s, ¬ (s = 4 ∨ s = 5 ∨ s = 6 ∨ s = 7 ∨ s = 8 ∨ s = 9) → s ≠ 47 → mi3 s = mi s := fun s hs hs47 => by rw [gV1 s hs, u4 s (by omega) (by omega) (by omega) (by omega), pk_un hs47, t4 s (by omega) (by omega) (by omega) (by omega)]
                have g47 : mi3 47 = nI (P + 1) := by rw [gV1 47 (by omega), u4 47 (by omega) (by omega) (by omega) (by omega), pk_us]
                have hB : BSt b N M (k + 1 + 1 + 1) n 0 (120 + P) CL ML lv (upd i0 4 (nI (120 + P))) i3 (upd i2 14 (nI (P + 1))) r2 mi3 mr := ⟨v3, ⟨pk_us, by rw [pk_un (by omega), h5]; rfl, by rw [pk_un (by omega), h8]⟩, ⟨by rw [pk_un (by omega), h13], by rw [g3 48 (by omega) (by omega), h48], by rw [g3 50 (by omega) (by omega), h50]; rfl⟩, ⟨by rw [pk_un (by omega)]; exact hCL.1, hCL.2⟩, hML.mi (g3 49 (by omega) (by omega)), by omega, hm, hn, hW⟩
                rcases body_all 12 (k + 1 + 1 + 1) n 0 (120 + P) (x + 1) (fu + 1) CL ML lv _ r0 i3 _ r2 (va_up l2 11 (vp_updL (l2 11) P (lN (encL (tx b (tok b N (k + 1))) 0)))) mi3 mr _ hX hB (by omega) (by omega) (fun q => by omega) (fun _ => rfl) (by omega) (hFr P (Nat.le_refl _) (by omega)).1 (hFr P (Nat.le_refl _) (by omega)).2 (by omega) (by omega) with ⟨k3, n3, x3, fu3, CL3, ML3, lv3, e0', q0, e1, e2, g2, h2, me, mg, mh, w1, w2, w3, w4, w5, w6, w7, w8⟩ | ⟨e0', q0, e1, e2, g2, h2, me, mg, mh, w1, w2, w3⟩
                · rw [w1] at hC
                  rw [w2, bt_l] at hR
                  dsimp only at hR
                  obtain ⟨A1, A2, A3, ⟨X3, A4⟩, ⟨Y3, A5⟩, A6, A7, A8, A9, A10, A11, A12, A13, A14, A15, A16⟩ := id w3
                  obtain ⟨B3A, ⟨B34, B35, B38⟩, ⟨B313, B348, B350⟩, B3CL, B3ML, B3c, B3m, B3n, B3W⟩ := id A3
                  have hk3M := B3A.1.1
                  have gB := fr_X13_readBody 12 w2
                  have gB1 : ∀ s, ¬ (s = 4 ∨ s = 5 ∨ s = 6 ∨ s = 7 ∨ s = 8 ∨ s = 9 ∨ s = 48 ∨ s = 49 ∨ s = 50 ∨ s = 51 ∨ s = 52 ∨ s = 53 ∨ s = 54 ∨ s = 55 ∨ s = 56 ∨ s = 57) → me s = mi3 s := gB.1
                  have gB2 : ∀ s, ¬ (s = 45) → mh s = va_up ml 44 (vp_updL (ml 44) P (lN (nm5 (tx b (tok b N (k + 1))) 0))) s := gB.2.1
                  have gB3 : ∀ s, ¬ (s = 28 ∨ s = 29 ∨ s = 30 ∨ s = 32 ∨ s = 33 ∨ s = 34 ∨ s = 35 ∨ s = 36 ∨ s = 37 ∨ s = 38 ∨ s = 39 ∨ s = 40 ∨ s = 41) → mg s = mr s := gB.2.2
                  have e6P : (6 : Int32) + mi3 47 - 1 = nI (6 + P) := by rw [g47, show (6 : Int32) = nI 6 from rfl, show (1 : Int32) = nI 1 from rfl, nI_add, pk_sub (by omega), show 6 + (P + 1) - 1 = 6 + P by omega]
                  have i12 := inb_nI (n := 6 + P) (N := 12) (by omega) (by omega)
                  rw [e6P, ck_t i12, ck_t i12, nI_clamp (show 6 + P < 2 ^ 31 by omega), f_X13_readProgram_151] at hR
                  have hX3 : CX b N M r1 l1 (va_up (va_up mg 42 (upd (mg 42) (6 + P) (me 51))) 43 (upd (mg 43) (6 + P) (me 52))) := hX.mr (by rw [up_n (by omega), up_n (by omega), A15])
                  obtain ⟨fu3, rfl⟩ : ∃ m, fu3 = m + 1 := ⟨fu3 - 1, by omega⟩
                  by_cases z0 : tkK b N (tok b N k3) = 0
                  · right
                    obtain ⟨i9, c1, c2⟩ := lp_end (l2 := h2) fu3 (r0 := q0) (i2 := e2) (r2 := g2) hX3 B3A w6 B34 (by omega) z0
                    have nw : f_X13_word 12 me (va_up (va_up mg 42 (upd (mg 42) (6 + P) (me 51))) 43 (upd (mg 43) (6 + P) (me 52))) mh = some (.inr (upd (upd me 8 1) 9 (me 4))) := by
                      rw [f_X13_word, at_is hX3 B3A.2.1 (by omega), bd_some, if_neg (fun q => by have := isW_k q; omega), need0, bt_r]
                    rw [c1] at hC
                    rw [nw, bt_r] at hR
                    exact ⟨_, _, i9, _, _, _, _, _, _, hC, hR, c2⟩
                  · rw [lp_other fu3 hX3 B3A.1 w6 B34 (by omega) w8 z0, f_X6_readInto_107, B35, if_pos (show nI 0 ≤ 0 by decide), f_X6_readTail] at hC
                    have hk3M2 : k3 ≠ M := fun q => z0 ((tk_end hX3 hk3M).mpr q)
                    obtain ⟨fu3, rfl⟩ : ∃ m, fu3 = m + 1 := ⟨fu3 - 1, by omega⟩
                    rcases wKey (w := 12) (c := 10) (ml := mh) hX3 B3A (by omega) rfl with ⟨y0, -, i4, mi4, y1, y2, y3⟩ | ⟨-, i4, mi4, y1, y2, y3⟩
                    · rw [y1, bd_some] at hC
                      rw [y2, bt_l] at hR
                      rcases wSign (c := 59) (x := 59) (ml := mh) hX3 y3 (by omega) (by omega) rfl with ⟨s0, -, i5, mi5, s1, s2, s3⟩ | ⟨-, i5, mi5, s1, s2, s3⟩
                      · rw [s1, bd_some, bd_some, f_X6_readInto_125, nI_1] at hC
                        dsimp only at hC
                        rw [s2, bt_l] at hR
                        have gY := fr_X13_word y2
                        have gY1 : ∀ s, ¬ (s = 4 ∨ s = 5 ∨ s = 6 ∨ s = 7 ∨ s = 8 ∨ s = 9) → mi4 s = me s := gY
                        have gS := fr_X13_sign s2
                        have gS1 : ∀ s, ¬ (s = 4 ∨ s = 5 ∨ s = 6 ∨ s = 7 ∨ s = 8 ∨ s = 9) → mi5 s = mi4 s := gS
                        have mk : ∀ z, z ≠ 42 → z ≠ 43 → va_up (va_up mg 42 (upd (mg 42) (6 + P) (me 51))) 43 (upd (mg 43) (6 + P) (me 52)) z = mg z := fun z z1 z2 => by rw [up_n z2, up_n z1]
                        have lC3 : CL.length ≤ CL3.length := by rw [A4, List.length_append]; omega
                        have lM3 : ML.length ≤ ML3.length := by rw [A5, List.length_append]; omega
                        have hS5 : PSt b N M (k3 + 1 + 1) n3 (P + 1) (fun p => if p = P then tx b (tok b N (k + 1)) else T p) CL3 ML3 lv3 (upd e0' 4 (-1)) i5 e2 g2 h2 mi5 (va_up (va_up mg 42 (upd (mg 42) (6 + P) (me 51))) 43 (upd (mg 43) (6 + P) (me 52))) mh := by
                          refine ⟨s3, ⟨pk_us, by rw [pk_un (by omega), B35]; rfl, by rw [pk_un (by omega)]; exact B38⟩, ⟨B313, by rw [gS1 48 (by omega), gY1 48 (by omega)]; exact B348, by rw [gS1 50 (by omega), gY1 50 (by omega), B350]; rfl⟩, ⟨by rw [A13, pk_us], by rw [gS1 47 (by omega), gY1 47 (by omega), gB1 47 (by omega), g47], by omega⟩, ⟨B3CL, ⟨by rw [gS1 49 (by omega), gY1 49 (by omega)]; exact B3ML.1, fun z t hz => by rw [mk 39 (by omega) (by omega), mk 40 (by omega) (by omega), mk 41 (by omega) (by omega)]; exact B3ML.2 z t hz⟩, by omega, B3m, B3n⟩, B3W, fun p hp => ?_, fun s hs => ?_, fun p hp => ?_, fun p p1 p2 => ?_⟩
                          · rw [A14, gB2 44 (by omega), up_s, up_s]
                            dsimp only
                            by_cases q : p = P
                            · subst q
                              rw [if_pos rfl, pk_uLs, pk_uLs]
                              exact ⟨n4, rfl, rfl⟩
                            · rw [if_neg q, pk_uLn q, pk_uLn q]
                              exact hPN p (by omega)
                          · have base : NDw 60 1000 s CL3.length ML3.length g2 h2 mg mh ∧ PT 60 (g2 2 s) (mg 29 (60 + s)) := by
                              by_cases q : s < n
                              · obtain ⟨d1, d2⟩ := hND s q
                                have d1' : NDw 60 1000 s CL.length ML.length r2 (va_up l2 11 (vp_updL (l2 11) P (lN (encL (tx b (tok b N (k + 1))) 0)))) mr (va_up ml 44 (vp_updL (ml 44) P (lN (nm5 (tx b (tok b N (k + 1))) 0)))) := by
                                  obtain ⟨xx, x1, x2, x3', x4, x5, x6, x7, x8⟩ := d1
                                  refine ⟨xx, x1, x2, x3', x4, x5, x6, x7, fun q => ?_⟩
                                  obtain ⟨tt, q1, q2, q3⟩ := x8 q
                                  exact ⟨tt, q1, by rw [up_n (by omega)]; exact q2, by rw [up_n (by omega)]; exact q3⟩
                                exact ⟨d1'.keep A7 q (by omega) lC3 lM3, A9 s q d2⟩
                              · exact A6 s (by omega) hs
                            obtain ⟨d1, d2⟩ := base
                            rw [mk 29 (by omega) (by omega)]
                            refine ⟨?_, d2⟩
                            unfold NDw DAT VR SM TT SG at d1 ⊢
                            rw [mk 28 (by omega) (by omega), mk 30 (by omega) (by omega), mk 32 (by omega) (by omega), mk 33 (by omega) (by omega), mk 34 (by omega) (by omega), mk 35 (by omega) (by omega), mk 36 (by omega) (by omega), mk 37 (by omega) (by omega), mk 38 (by omega) (by omega), mk 39 (by omega) (by omega), mk 40 (by omega) (by omega), mk 41 (by omega) (by omega)]
                            exact d1
                          · rw [up_n (show (42 : Nat) ≠ 43 by omega), up_s, up_s]
                            by_cases q : p = P
                            · subst q
                              rw [pk_us, pk_us]
                              exact ⟨w4, w5⟩
                            · obtain ⟨z1, z2⟩ := A12 (120 + p) (by omega) (by omega)
                              rw [pk_un (by omega), pk_un (by omega), z1, z2, gB3 42 (by omega), gB3 43 (by omega)]
                              exact hPR p (by omega)
                          · obtain ⟨z1, z2⟩ := A12 (120 + p) (by omega) (by omega)
                            rw [z1, z2]
                            exact hFr p (by omega) p2
                        rcases ih (k3 + 1 + 1) n3 (P + 1) (x3 + 1) (fu3 + 1) fv _ CL3 ML3 lv3 _ q0 i5 e2 g2 h2 mi5 _ mh (by omega) (by omega) hX3 hS5 (by omega) (by omega) with ⟨n9, P9, T9, CL9, ML9, lv9, a0, b0, a1, a2, b2, c2, ma, mb, mc, z1, z2, z3, z4⟩ | ⟨a0, b0, a1, a2, b2, c2, ma, mb, mc, z1, z2, z3⟩
                        · exact Or.inl ⟨n9, P9, T9, CL9, ML9, lv9, a0, b0, a1, a2, b2, c2, ma, mb, mc, hC.trans z1, hR.trans z2, z3, z4⟩
                        · exact Or.inr ⟨a0, b0, a1, a2, b2, c2, ma, mb, mc, hC.trans z1, hR.trans z2, z3⟩
                      · right
                        rw [s1, bd_some, bd_some, f_X6_readInto_125] at hC
                        rw [s2, bt_r] at hR
                        exact ⟨_, _, i5, _, _, _, _, _, _, hC.trans (lp_fm fu3 s3.1 _), hR, s3⟩
                    · right
                      rw [y1, bd_some, fm_kind y3.1 (by decide), bd_some, bd_some, f_X6_readInto_125] at hC
                      rw [y2, bt_r] at hR
                      exact ⟨_, _, i4, _, _, _, _, _, _, hC.trans (lp_fm fu3 y3.1 _), hR, y3⟩
                · right
                  rw [w2, bt_r] at hR
                  exact ⟨_, _, _, _, _, _, _, _, _, hC.trans w1, hR, w3⟩
              · right
                refine bad i3 mi3 (va_up ml 44 (vp_updL (ml 44) P (lN (nm5 (tx b (tok b N (k + 1))) 0)))) mr ?_ ?_ v3
                · rw [hH, v1, bd_some, fm_failed v3.1, bd_some, if_neg i01]
                · rw [hR, v2, bt_r]
          · right
            refine bad i'' mi'' ml mr ?_ ?_ n5
            · rw [hH, n2, bd_some, n1, bd_some, if_pos rfl, f_X6_readHead_79, f_X9_wantName, n1, bd_some, if_pos rfl, n3, bd_some, bd_some, fm_key n5.1 (by decide), bd_some, fm_failed n5.1, bd_some, if_neg i01]
            · rw [hR, n4, bt_r]
      · right
        have h9 : ¬ i1 9 = 8 := fun z => hw ((key_if (x := 8) hA.1 (w := 4) (by omega) rfl).mp z)
        obtain ⟨i', a1, a2⟩ := both_fail hX hA (c := 1) i01
        refine bad i' _ ml mr ?_ ?_ a2
        · rw [f_X6_readHead, f_X9_key, bd_some, if_neg h9, f_X6_readHead_32, f_X9_wantKey, if_neg h9, a1, bd_some, bd_some, f_X9_word, ck_t (fm_in a2.1), bd_some, fm_sees a2.1, bd_some, if_pos rfl, fm_head79 a2.1]
        · rw [hR, if_neg hw, need0, bt_r]
