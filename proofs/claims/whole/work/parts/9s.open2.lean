/-! ===== program: if and from, and a body as a whole ===== -/
def BodyOK (b : Nat → Nat) (N M : Nat) (r1 : Nat → Nat → Int32) (l1 : Nat → Nat → Int64) (d : Nat) : Prop := ∀ (k n O y x fu : Nat) (CL : List Int32) (ML : List MKt) (lv : Nat → Nat) (i0 : Nat → Int32) (r0 : Nat → Nat → Int32) (i1 i2 : Nat → Int32) (r2 : Nat → Nat → Int32) (l2 : Nat → Nat → Int64) (mi : Nat → Int32) (mr : Nat → Nat → Int32) (ml : Nat → Nat → Int64), CX b N M r1 l1 mr → BSt b N M k n O y CL ML lv i0 i1 i2 r2 mi mr → O ≤ 6 → y < 126 → (y < 120 → y / 2 < n ∧ O = lv (y / 2) + 1) → (120 ≤ y → O = 0) → 7 ≤ O + d → r2 9 y = -1 → r2 10 y = -1 → x ≤ k → M + 2 ≤ k + fu →
  (∃ k1 n1 x1 fu1 CL1 ML1 lv1 j0 q0 j1 j2 q2 p2 mj mq mp, f_X6_readInto_36 fu i0 r0 i1 l1 r1 i2 l2 r2 (nI x) = f_X6_readInto_36 fu1 j0 q0 j1 l1 r1 j2 p2 q2 (nI x1) ∧ f_X13_readBody d mi mr ml = some (.inl (mj, mp, mq)) ∧ ADV b N M O y k n CL ML lv r0 i2 r2 l2 mr ml k1 n1 CL1 ML1 lv1 j0 q0 j1 j2 q2 p2 mj mq mp ∧ PT 60 (q2 9 y) (mj 51) ∧ PT 60 (q2 10 y) (mj 52) ∧ x1 ≤ k1 ∧ M + 2 ≤ k1 + fu1 ∧ ∀ j, j < 8 → ¬ kyC b N (tok b N k1) = nI j) ∨
  (∃ j0 q0 j1 j2 q2 p2 mj mq mp, f_X6_readInto_36 fu i0 r0 i1 l1 r1 i2 l2 r2 (nI x) = some (0, j0, q0, j1, l1, r1, j2, p2, q2) ∧ f_X13_readBody d mi mr ml = some (.inr (mj, mp, mq)) ∧ FT j1 mj)
theorem BSt.mi {b : Nat → Nat} {N M k n O y : Nat} {CL : List Int32} {ML : List MKt} {lv : Nat → Nat} {i0 i1 i2 : Nat → Int32} {r2 : Nat → Nat → Int32} {mi mi' : Nat → Int32} {mr : Nat → Nat → Int32} (h : BSt b N M k n O y CL ML lv i0 i1 i2 r2 mi mr) (e : ∀ s, s ≠ 51 → s ≠ 52 → mi' s = mi s) : BSt b N M k n O y CL ML lv i0 i1 i2 r2 mi' mr := by
  obtain ⟨h1, h2, ⟨h3, h4, h5⟩, h6, h7, h8⟩ := h
  exact ⟨h1.mi (fun s s3 s9 => e s (by omega) (by omega)), h2, ⟨h3, by rw [e 48 (by omega) (by omega)]; exact h4, by rw [e 50 (by omega) (by omega)]; exact h5⟩, h6, h7.mi (e 49 (by omega) (by omega)), h8⟩
theorem ADV.rf {b : Nat → Nat} {N M O y k n : Nat} {CL : List Int32} {ML : List MKt} {lv : Nat → Nat} {i0 : Nat → Int32} {r0 : Nat → Nat → Int32} {i1 i2 : Nat → Int32} {r2 : Nat → Nat → Int32} {l2 : Nat → Nat → Int64} {mi : Nat → Int32} {mr : Nat → Nat → Int32} {ml : Nat → Nat → Int64} (h : BSt b N M k n O y CL ML lv i0 i1 i2 r2 mi mr) : ADV b N M O y k n CL ML lv r0 i2 r2 l2 mr ml k n CL ML lv i0 r0 i1 i2 r2 l2 mi mr ml := ⟨Nat.le_refl _, Nat.le_refl _, h, ⟨[], (List.append_nil _).symm⟩, ⟨[], (List.append_nil _).symm⟩, fun s s1 s2 => by omega, FB.rf, fun _ _ _ => ⟨rfl, rfl⟩, fun _ _ q => q, fun _ _ => ⟨rfl, rfl⟩, fun _ _ => rfl, fun _ _ _ => ⟨rfl, rfl⟩, rfl, rfl, rfl, Or.inl rfl⟩
theorem body_go {b : Nat → Nat} {N M O y d : Nat} {r1 : Nat → Nat → Int32} {l1 : Nat → Nat → Int64} (hO : O ≤ 6) (hy : y < 126) (hone : ∀ (k n x fu fv j : Nat) (CL : List Int32) (ML : List MKt) (lv : Nat → Nat) (i0 : Nat → Int32) (r0 : Nat → Nat → Int32) (i1 i2 : Nat → Int32) (r2 : Nat → Nat → Int32) (l2 : Nat → Nat → Int64) (mi : Nat → Int32) (mr : Nat → Nat → Int32) (ml : Nat → Nat → Int64) (xf xl : Int32), CX b N M r1 l1 mr → BSt b N M k n O y CL ML lv i0 i1 i2 r2 mi mr → (y < 120 → y / 2 < n ∧ O = lv (y / 2) + 1) → (120 ≤ y → O = 0) → j < 8 → kyC b N (tok b N k) = nI j → f_X13_stepAtHand mi mr ml = some (nI j) → PT 60 (r2 9 y) xf → PT 60 (r2 10 y) xl → x ≤ k → M + 2 ≤ k + fu → OneOK b N M r1 l1 (f_X13_readBody d) k n O y x fu fv CL ML lv i0 r0 i1 i2 r2 l2 mi mr ml xf xl) : ∀ (g k n x fu fv : Nat) (CL : List Int32) (ML : List MKt) (lv : Nat → Nat) (i0 : Nat → Int32) (r0 : Nat → Nat → Int32) (i1 i2 : Nat → Int32) (r2 : Nat → Nat → Int32) (l2 : Nat → Nat → Int64) (mi : Nat → Int32) (mr : Nat → Nat → Int32) (ml : Nat → Nat → Int64) (xf xl : Int32), M ≤ k + g → g < fv → CX b N M r1 l1 mr → BSt b N M k n O y CL ML lv i0 i1 i2 r2 mi mr → (y < 120 → y / 2 < n ∧ O = lv (y / 2) + 1) → (120 ≤ y → O = 0) → PT 60 (r2 9 y) xf → PT 60 (r2 10 y) xl → x ≤ k → M + 2 ≤ k + fu →
  (∃ k1 n1 x1 fu1 CL1 ML1 lv1 j0 q0 j1 j2 q2 p2 mj mq mp, f_X6_readInto_36 fu i0 r0 i1 l1 r1 i2 l2 r2 (nI x) = f_X6_readInto_36 fu1 j0 q0 j1 l1 r1 j2 p2 q2 (nI x1) ∧ f_X13_readBody_4 (f_X13_readBody d) fv mi ml mr xf xl = some (.inl (mj, mp, mq)) ∧ ADV b N M O y k n CL ML lv r0 i2 r2 l2 mr ml k1 n1 CL1 ML1 lv1 j0 q0 j1 j2 q2 p2 mj mq mp ∧ PT 60 (q2 9 y) (mj 51) ∧ PT 60 (q2 10 y) (mj 52) ∧ x1 ≤ k1 ∧ M + 2 ≤ k1 + fu1 ∧ ∀ j, j < 8 → ¬ kyC b N (tok b N k1) = nI j) ∨
  (∃ j0 q0 j1 j2 q2 p2 mj mq mp, f_X6_readInto_36 fu i0 r0 i1 l1 r1 i2 l2 r2 (nI x) = some (0, j0, q0, j1, l1, r1, j2, p2, q2) ∧ f_X13_readBody_4 (f_X13_readBody d) fv mi ml mr xf xl = some (.inr (mj, mp, mq)) ∧ FT j1 mj) := by
  intro g
  induction g with
  | zero =>
    intro k n x fu fv CL ML lv i0 r0 i1 i2 r2 l2 mi mr ml xf xl hk hfv hX hB hl1 hl2 hf hl hx hfu
    obtain ⟨fv, rfl⟩ : ∃ m, fv = m + 1 := ⟨fv - 1, by omega⟩
    have hkM : k = M := by have := hB.1.1.1; omega
    have e0 := (tk_end hX hB.1.1.1).mpr hkM
    have hno : ∀ j, j < 8 → ¬ kyC b N (tok b N k) = nI j := fun j hj z => by
      rw [kyC, if_neg (by omega)] at z
      exact nm1N (by omega) z.symm
    rcases mstep (ml := ml) hX hB.1.2.1 with ⟨j, hj, e1, -⟩ | ⟨-, e2⟩
    · exact absurd e1 (hno j hj)
    · left
      refine ⟨k, n, x, fu, CL, ML, lv, i0, r0, i1, i2, r2, l2, upd (upd mi 51 xf) 52 xl, mr, ml, rfl, ?_, ADV.rf (hB.mi (fun s s1 s2 => by rw [pk_un s2, pk_un s1])), by rw [pk_un (by omega), pk_us]; exact hf, by rw [pk_us]; exact hl, hx, hfu, hno⟩
      rw [f_X13_readBody_4, e2, bd_some, if_pos rfl]
  | succ g ih =>
    intro k n x fu fv CL ML lv i0 r0 i1 i2 r2 l2 mi mr ml xf xl hk hfv hX hB hl1 hl2 hf hl hx hfu
    obtain ⟨fv, rfl⟩ : ∃ m, fv = m + 1 := ⟨fv - 1, by omega⟩
    rcases mstep (ml := ml) hX hB.1.2.1 with ⟨j, hj, e1, e2⟩ | ⟨hno, e2⟩
    · rcases hone k n x fu fv j CL ML lv i0 r0 i1 i2 r2 l2 mi mr ml xf xl hX hB hl1 hl2 hj e1 e2 hf hl hx hfu with ⟨k1, n1, x1, fu1, CL1, ML1, lv1, j0, q0, j1, j2, q2, p2, mj, mq, mp, xf', xl', o1, o2, o3, o4, o5, o6, o7, o8⟩ | ⟨j0, q0, j1, j2, q2, p2, mj, mq, mp, o1, o2, o3⟩
      · obtain ⟨a1, a2, a3, a4, a5, a6, a7, a8, a9, a10, a11, a12, a13, a14, a15, a16⟩ := id o4
        have hl1' : y < 120 → y / 2 < n1 ∧ O = lv1 (y / 2) + 1 := fun q => by
          obtain ⟨z1, z2⟩ := hl1 q
          exact ⟨by omega, by rw [(a10 _ z1).1]; exact z2⟩
        rw [o2, o3]
        rcases ih k1 n1 x1 fu1 fv CL1 ML1 lv1 j0 q0 j1 j2 q2 p2 mj mq mp xf' xl' (by omega) (by omega) (hX.mr a15) a3 hl1' hl2 o5 o6 o7 o8 with ⟨k2, n2, x2, fu2, CL2, ML2, lv2, y0, z0, y1, y2, z2, w2, my, mz, mw, t1, t2, t3, t4, t5, t6, t7, t8⟩ | t
        · left
          exact ⟨k2, n2, x2, fu2, CL2, ML2, lv2, y0, z0, y1, y2, z2, w2, my, mz, mw, t1, t2, o4.tr (fun q => (hl1 q).1) t3, t4, t5, t6, t7, t8⟩
        · right
          exact t
      · right
        exact ⟨j0, q0, j1, j2, q2, p2, mj, mq, mp, o1, o2, o3⟩
    · left
      refine ⟨k, n, x, fu, CL, ML, lv, i0, r0, i1, i2, r2, l2, upd (upd mi 51 xf) 52 xl, mr, ml, rfl, ?_, ADV.rf (hB.mi (fun s s1 s2 => by rw [pk_un s2, pk_un s1])), by rw [pk_un (by omega), pk_us]; exact hf, by rw [pk_us]; exact hl, hx, hfu, hno⟩
      rw [f_X13_readBody_4, e2, bd_some, if_pos rfl]
theorem one_open {b : Nat → Nat} {N M k n O y x fu fv j d : Nat} {r1 : Nat → Nat → Int32} {l1 : Nat → Nat → Int64} {CL : List Int32} {ML : List MKt} {lv : Nat → Nat} {i0 : Nat → Int32} {r0 : Nat → Nat → Int32} {i1 i2 : Nat → Int32} {r2 : Nat → Nat → Int32} {l2 : Nat → Nat → Int64} {mi : Nat → Int32} {mr : Nat → Nat → Int32} {ml : Nat → Nat → Int64} {xf xl : Int32} (hbody : BodyOK b N M r1 l1 d) (hOd : 6 ≤ O + d) (hX : CX b N M r1 l1 mr) (hB : BSt b N M k n O y CL ML lv i0 i1 i2 r2 mi mr) (hO : O ≤ 6) (hy : y < 126) (hl1 : y < 120 → y / 2 < n ∧ O = lv (y / 2) + 1) (hl2 : 120 ≤ y → O = 0) (hj45 : j = 4 ∨ j = 5) (hk : kyC b N (tok b N k) = nI j) (hs : f_X13_stepAtHand mi mr ml = some (nI j)) (hf : PT 60 (r2 9 y) xf) (hl : PT 60 (r2 10 y) xl) (hx : x ≤ k) (hfu : M + 2 ≤ k + fu) : OneOK b N M r1 l1 (f_X13_readBody d) k n O y x fu fv CL ML lv i0 r0 i1 i2 r2 l2 mi mr ml xf xl := by
  have hj : j < 8 := by omega
  by_cases hgo : n < 60 ∧ (j = 4 ∨ j = 5 → O < 6)
  · have hn60 := hgo.1
    have hO6 := hgo.2 hj45
    obtain ⟨hA, ⟨h4, h5, h8⟩, ⟨h13, h48, h50⟩, hCL, hML, hc, hm, hn, hW⟩ := id hB
    have hM := hX.2.1
    have hkM := hA.1.1
    obtain ⟨fu, rfl⟩ : ∃ m, fu = m + 2 := ⟨fu - 2, by omega⟩
    obtain ⟨r2a, lva, s1, sW, slv, slvn, a0, a1, a3, a10, a2n, a2a, a2b, a9, ao⟩ := addStep_ok (l2 := l2) (x := j) hn60 hy h13 hW hO hl1 hl2
    have hK1 : ¬ tkK b N (tok b N k) = 0 := fun z => by
      rw [kyC, if_neg (by omega)] at hk
      exact nm1N (by omega) hk.symm
    have hy2 : y ≠ 2 * n ∧ y ≠ 2 * n + 1 := ⟨fun q => by have := (hl1 (by omega)).1; omega, fun q => by have := (hl1 (by omega)).1; omega⟩
    have hfresh : ∀ w, w < 2 → r2a 9 (2 * n + w) = -1 ∧ r2a 10 (2 * n + w) = -1 := fun w hw => by
      obtain ⟨z1, z2⟩ := hW.2.2 (2 * n + w) (by omega) (by omega)
      have hyw : 2 * n + w ≠ y := by omega
      rw [a9, a10, pk_un hyw]
      refine ⟨?_, z2⟩
      split
      · rw [pk_un hyw, z1]
      · exact z1
    -- the word of the STEP
    have hXa : CX b N M r1 l1 (va_up mr 28 (upd (mr 28) (60 + n) (nI j))) := hX.mr (up_n (by omega))
    have hAa : AT b N M k i1 (upd mi 48 (nI (n + 1))) := hA.mi (fun s s3 s9 => pk_un (by omega))
    obtain ⟨t0, i', mi', t1, t2, t3, t4⟩ := both_adv (ml := ml) hXa hAa hK1
    have m50 : mi' 50 + 1 = nI (O + 1) := by rw [t4 50 (by omega) (by omega) (by omega) (by omega), pk_un (by omega), h50, nI_1]
    have hCLa : CLp CL (upd i2 13 (nI (n + 1))) r2a := ⟨by rw [pk_un (by omega)]; exact hCL.1, fun z t hz => by rw [ao 12 (by omega) (by omega) (by omega) (by omega) (by omega) (by omega)]; exact hCL.2 z t hz⟩
    have hMLa : MLp ML (upd mi' 50 (nI (O + 1))) (va_up mr 28 (upd (mr 28) (60 + n) (nI j))) := ⟨by rw [pk_un (by omega), t4 49 (by omega) (by omega) (by omega) (by omega), pk_un (by omega)]; exact hML.1, fun z t hz => by rw [up_n (by omega), up_n (by omega), up_n (by omega)]; exact hML.2 z t hz⟩
    have hC := lp_step (l2 := l2) (fu + 1) (r0 := r0) (i2 := i2) (r2 := r2) hX hA.1 hx h4 hy hj hk
    rw [cOne_go (y := y) (hA.1.2.2.2.2.1.trans hk) h13 h5 hn hO hj, if_pos hgo, c58o hj45 h4 s1 t1] at hC
    have hR := rb4 (F := f_X13_readBody d) (fv := fv) (xf := xf) (xl := xl) hj hs
    have hsel : ∀ A B : Option ((Int32 × (Nat → Int32) × (Nat → Nat → Int64) × (Nat → Nat → Int32)) ⊕ ((Nat → Int32) × (Nat → Nat → Int64) × (Nat → Nat → Int32))), (if nI j = 4 then A else (if nI j = 5 then A else B)) = A := fun A B => by
      rcases hj45 with e | e
      · rw [e]; rfl
      · rw [e]; rfl
    rw [rOne_go (b := b) (N := N) (M := M) (k := k) (r1 := r1) (l1 := l1) h48 h50 hn hO hj hs, if_pos hgo, t2, bd_some, hsel, r82 hj45, m50] at hR
    have e0 : (0 : Int32) = nI 0 := rfl
    -- the first TEST
    rcases rtest_ok (l2 := l2) (ml := ml) (i0 := i0) (r0 := r0) (e := 0) (s := n) (w := 0) hXa (t3.mi (mi' := upd mi' 50 (nI (O + 1))) (fun s s3 s9 => pk_un (by omega))) h8 hCLa hMLa (by omega) hm hn60 (by omega) with ⟨kT, cT, L1, L2, j0, q0, j1, j2, q2, mj, mq, f1, f2, f3, f4, f5, f6, f7, f8, f9, f10, f11, f12, f13, f14, f15, f16⟩ | ⟨j0, q0, j1, j2, q2, mj, mq, c, f1, f2, f3, f4, f5, f6⟩
    · obtain ⟨TT0, FA0, FB0, G0⟩ := test_fr (l2 := l2) (b := b) (N := N) (M := M) (k := k) hn60 (show 0 < 2 by omega) hCLa hMLa f3 f5 f6 f7 f9 f10 f11 f12 f13 f14 f15 f16
      have fM := fr_X13_readTest f3
      have fM1 : ∀ s, ¬ (s = 4 ∨ s = 5 ∨ s = 6 ∨ s = 7 ∨ s = 8 ∨ s = 9 ∨ s = 49 ∨ s = 53 ∨ s = 54 ∨ s = 55 ∨ s = 56 ∨ s = 57) → mj s = upd mi' 50 (nI (O + 1)) s := fM.1
      generalize hCT : CL ++ (L1.map cM ++ L2.map cM ++ [-(nI cT)]) = CT at f5 TT0
      generalize hMT : ML ++ (L1 ++ L2) = MT at f6 TT0
      have lCT : CT.length = CL.length + L1.length + L2.length + 1 := by
        rw [← hCT, List.length_append, List.length_append, List.length_append, List.length_map, List.length_map]
        show CL.length + (L1.length + L2.length + 1) = _
        omega
      have lMT : MT.length = ML.length + L1.length + L2.length := by rw [← hMT, List.length_append, List.length_append]; omega
      have f2 : f_X6_readTest i0 r0 i' r1 l1 (upd i2 13 (nI (n + 1))) r2a l2 (nI n) 0 = some (j0, q0, j1, j2, q2) := f2
      have f3 : f_X13_readTest (upd mi' 50 (nI (O + 1))) (va_up mr 28 (upd (mr 28) (60 + n) (nI j))) ml (nI (60 + n)) 0 = some (.inl (mj, mq)) := f3
      rw [f2, bd_some] at hC
      dsimp only at hC
      rw [f3, bt_l] at hR
      dsimp only at hR
      have hXq : CX b N M r1 l1 mq := hXa.mr (G0 1 (by omega))
      have i6 := inb_nI (n := O) (N := 6) hO6 (by omega)
      have j5 : j0 5 = nI O := by rw [f7.1 5 (by omega) (by omega), h5]
      rcases wKey (w := ow j 0) (ml := ml) hXq f4 (ow_lt (by omega)) rfl with ⟨w0, -, i3, mi3, w1, w2, w3⟩ | ⟨-, i3, mi3, w1, w2, w3⟩
      · rw [f_X6_readStep_134, w1, bd_some, j5, ck_t i6, bd_some, nI_1, nI_clamp (show O < 2 ^ 31 by omega), show (2 : Int32) * nI n = nI (2 * n) by rw [show (2 : Int32) = nI 2 from rfl, pk_mul]] at hC
        dsimp only at hC
        rw [w2, bt_l, r116 hj45 hn60] at hR
        have gW := fr_X13_word w2
        have gW1 : ∀ s, ¬ (s = 4 ∨ s = 5 ∨ s = 6 ∨ s = 7 ∨ s = 8 ∨ s = 9) → mi3 s = mj s := gW
        have B1 : BSt b N M (kT + 1) (n + 1) (O + 1) (2 * n) CT MT lva (upd (upd j0 5 (nI (O + 1))) 4 (nI (2 * n))) i3 j2 q2 mi3 mq := ⟨w3, ⟨pk_us, by rw [pk_un (by omega), pk_us], by rw [pk_un (by omega), pk_un (by omega), f7.1 8 (by omega) (by omega), h8]⟩, ⟨by rw [f7.2.2.1 13 (by omega), pk_us], by rw [gW1 48 (by omega), fM1 48 (by omega), pk_un (by omega), t4 48 (by omega) (by omega) (by omega) (by omega), pk_us], by rw [gW1 50 (by omega), fM1 50 (by omega), pk_us]⟩, f5, f6.mi (gW1 49 (by omega)), by omega, by omega, by omega, sW.congr (f7.2.2.2 1 (by omega) (by omega) (by omega)) (f7.2.2.2 2 (by omega) (by omega) (by omega)) (f7.2.2.2 3 (by omega) (by omega) (by omega)) (f7.2.2.2 9 (by omega) (by omega) (by omega)) (f7.2.2.2 10 (by omega) (by omega) (by omega))⟩
        have q9a : ∀ w, w < 2 → q2 9 (2 * n + w) = -1 ∧ q2 10 (2 * n + w) = -1 := fun w hw => by
          rw [f7.2.2.2 9 (by omega) (by omega) (by omega), f7.2.2.2 10 (by omega) (by omega) (by omega)]
          exact hfresh w hw
        -- the first BODY
        rcases hbody (kT + 1) (n + 1) (O + 1) (2 * n) (x + 1) (fu + 1) CT MT lva _ (va_up q0 1 (upd (q0 1) O (nI n))) i3 j2 q2 l2 mi3 mq ml hXq B1 (by omega) (by omega) (fun _ => ⟨by omega, by rw [show 2 * n / 2 = n by omega, slvn]⟩) (fun q => by omega) (by omega) (q9a 0 (by omega)).1 (q9a 0 (by omega)).2 (by omega) (by omega) with ⟨k3, n3, x3, fu3, CL3, ML3, lv3, e0', g0, e1, e2, g2, h2, me, mg, mh, v1, v2, v3, v4, v5, v6, v7, v8⟩ | ⟨e0', g0, e1, e2, g2, h2, me, mg, mh, v1, v2, v3⟩
        · rw [v1] at hC
          rw [v2, bt_l] at hR
          dsimp only at hR
          obtain ⟨A1, A2, A3, ⟨X3, A4⟩, ⟨Y3, A5⟩, A6, A7, A8, A9, A10, A11, A12, A13, A14, A15, A16⟩ := id v3
          obtain ⟨B3A, ⟨B34, B35, B38⟩, ⟨B313, B348, B350⟩, B3CL, B3ML, B3c, B3m, B3n, B3W⟩ := id A3
          have hk3M := B3A.1.1
          have hX3 : CX b N M r1 l1 (kpB n 0 me mg) := hX.mr (by rw [kpB_o (by omega) (by omega), A15, G0 1 (by omega), up_n (by omega)])
          have g0O : g0 1 O = nI n := by rw [A11 O (by omega), up_s, pk_us]
          have g20 : g2 0 n = nI j := by rw [(A7.1 n (by omega)).1, f7.2.2.2 0 (by omega) (by omega) (by omega), a0, pk_us]
          obtain ⟨fu3, rfl⟩ : ∃ m, fu3 = m + 1 := ⟨fu3 - 1, by omega⟩
          by_cases z0 : tkK b N (tok b N k3) = 0
          · right
            obtain ⟨i9, c1, c2⟩ := lp_end (l2 := h2) fu3 (r0 := g0) (i2 := e2) (r2 := g2) hX3 B3A v6 B34 (by omega) z0
            have nw : f_X13_word (ow j 1) me (kpB n 0 me mg) mh = some (.inr (upd (upd me 8 1) 9 (me 4))) := by
              rw [f_X13_word, at_is hX3 B3A.2.1 (by have := ow_lt (j := j) (z := 1) (by omega); omega), bd_some, if_neg (fun q => by have := isW_k q; omega), need0, bt_r]
            rw [c1] at hC
            rw [nw, bt_r, bt_r] at hR
            exact ⟨_, _, i9, _, _, _, _, _, _, hC, hR, c2⟩
          · have hE := cEnd (j := j) (y := y) (r1 := r1) (l1 := l1) (l2 := h2) (i1 := e1) (i2 := e2) hj45 hn60 hO6 B35 g0O g20 (f_X6_readInto_36 fu3) (nI x3)
            rw [lp_other fu3 hX3 B3A.1 v6 B34 (by omega) v8 z0, hE, if_pos B34, f_X6_endBody_55] at hC
            rcases wKey (w := ow j 1) (ml := mh) hX3 B3A (ow_lt (by omega)) rfl with ⟨y0, -, i4, mi4, y1, y2, y3⟩ | ⟨-, i4, mi4, y1, y2, y3⟩
            · rw [y1, bd_some, bd_some, nI_1, show (2 : Int32) * nI n + 1 = nI (2 * n + 1) by rw [show (2 : Int32) = nI 2 from rfl, pk_mul, nI_1]] at hC
              dsimp only at hC
              rw [y2, bt_l, r144 hj45 hn60] at hR
              have gY := fr_X13_word y2
              have gY1 : ∀ s, ¬ (s = 4 ∨ s = 5 ∨ s = 6 ∨ s = 7 ∨ s = 8 ∨ s = 9) → mi4 s = me s := gY
              have B2 : BSt b N M (k3 + 1) n3 (O + 1) (2 * n + 1) CL3 ML3 lv3 (upd e0' 4 (nI (2 * n + 1))) i4 e2 g2 mi4 (kpB n 0 me mg) := ⟨y3, ⟨pk_us, by rw [pk_un (by omega)]; exact B35, by rw [pk_un (by omega)]; exact B38⟩, ⟨B313, by rw [gY1 48 (by omega)]; exact B348, by rw [gY1 50 (by omega)]; exact B350⟩, B3CL, ⟨by rw [gY1 49 (by omega)]; exact B3ML.1, fun z t hz => by rw [kpB_o (by omega) (by omega), kpB_o (by omega) (by omega), kpB_o (by omega) (by omega)]; exact B3ML.2 z t hz⟩, by omega, B3m, B3n, B3W⟩
              have g9b : g2 9 (2 * n + 1) = -1 ∧ g2 10 (2 * n + 1) = -1 := by
                obtain ⟨z1, z2⟩ := A7.2.2.1 (2 * n + 1) (by omega) (by omega)
                rw [z1, z2]
                exact q9a 1 (by omega)
              -- the second BODY
              rcases hbody (k3 + 1) n3 (O + 1) (2 * n + 1) (x3 + 1) fu3 CL3 ML3 lv3 _ g0 i4 e2 g2 h2 mi4 (kpB n 0 me mg) mh hX3 B2 (by omega) (by omega) (fun _ => ⟨by omega, by rw [show (2 * n + 1) / 2 = n by omega, (A10 n (by omega)).1, slvn]⟩) (fun q => by omega) (by omega) g9b.1 g9b.2 (by omega) (by omega) with ⟨k4, n4, x4, fu4, CL4, ML4, lv4, u0, v0, u1, u2, vv2, ww2, mu, mv, mw, c1, c2, c3, c4, c5, c6, c7, c8⟩ | ⟨u0, v0, u1, u2, vv2, ww2, mu, mv, mw, c1, c2, c3⟩
              · rw [c1] at hC
                rw [c2, bt_l] at hR
                dsimp only at hR
                obtain ⟨D1, D2, D3, ⟨X4, D4⟩, ⟨Y4, D5⟩, D6, D7, D8, D9, D10, D11, D12, D13, D14, D15, D16⟩ := id c3
                obtain ⟨E3A, ⟨E34, E35, E38⟩, ⟨E313, E348, E350⟩, E3CL, E3ML, E3c, E3m, E3n, E3W⟩ := id D3
                have hk4M := E3A.1.1
                have hX4 : CX b N M r1 l1 (kpB n 1 mu mv) := hX3.mr (by rw [kpB_o (by omega) (by omega), D15])
                have v0O : v0 1 O = nI n := by rw [D11 O (by omega), g0O]
                have v20 : vv2 0 n = nI j := by rw [(D7.1 n (by omega)).1, g20]
                obtain ⟨fu4, rfl⟩ : ∃ m, fu4 = m + 1 := ⟨fu4 - 1, by omega⟩
                by_cases z4 : tkK b N (tok b N k4) = 0
                · right
                  obtain ⟨i9, d1, d2⟩ := lp_end (l2 := ww2) fu4 (r0 := v0) (i2 := u2) (r2 := vv2) hX4 E3A c6 E34 (by omega) z4
                  have nw : f_X13_word (ow j 2) mu (kpB n 1 mu mv) mw = some (.inr (upd (upd mu 8 1) 9 (mu 4))) := by
                    rw [f_X13_word, at_is hX4 E3A.2.1 (by have := ow_lt (j := j) (z := 2) (by omega); omega), bd_some, if_neg (fun q => by have := isW_k q; omega), need0, bt_r]
                  rw [d1] at hC
                  rw [nw, bt_r, bt_r] at hR
                  exact ⟨_, _, i9, _, _, _, _, _, _, hC, hR, d2⟩
                · have hE := cEnd (j := j) (y := y) (r1 := r1) (l1 := l1) (l2 := ww2) (i1 := u1) (i2 := u2) hj45 hn60 hO6 E35 v0O v20 (f_X6_readInto_36 fu4) (nI x4)
                  have ne4 : ¬ u0 4 = nI (2 * n) := by rw [E34]; exact fun q => by have := nI_inj (by omega) (by omega) q; omega
                  rw [lp_other fu4 hX4 E3A.1 c6 E34 (by omega) c8 z4, hE, if_neg ne4, f_X6_endBody_83] at hC
                  have i60 := inb_nI (n := n) (N := 60) hn60 (by omega)
                  have v1n : vv2 1 n = nI y := by rw [(D10 n (by omega)).2, (A10 n (by omega)).2, f7.2.2.2 1 (by omega) (by omega) (by omega), a1, pk_us]
                  -- whatever faults from here on: the class's loop ends
                  have tail : ∀ (h0 : Nat → Int32) (hq : Nat → Nat → Int32) (ii ih : Nat → Int32) (hr : Nat → Nat → Int32), FM ii → hr 1 = vv2 1 → f_X6_readInto_36 (fu + 2) i0 r0 i1 l1 r1 i2 l2 r2 (nI x) = bd (bd (f_X9_wantKind ii r1 l1 59) (fun q10 => bd (f_X5_bodyOf ih hr ww2 (nI n)) (fun q11 => some ((upd (upd h0 5 ((h0 5) - 1)) 4 q11), hq, q10, ih, hr)))) (fun q17 => f_X6_readInto_36 fu4 q17.1 q17.2.1 q17.2.2.1 l1 r1 q17.2.2.2.1 ww2 q17.2.2.2.2 (nI x4 + 1)) → ∃ t0 t1 t2 t3, f_X6_readInto_36 (fu + 2) i0 r0 i1 l1 r1 i2 l2 r2 (nI x) = some (0, t0, t1, ii, l1, r1, t2, ww2, t3) := by
                    intro h0 hq ii ih hr hFM hr1 hh
                    obtain ⟨fu4, rfl⟩ : ∃ m, fu4 = m + 1 := ⟨fu4 - 1, by
                      have : k4 ≠ M := fun q => z4 ((tk_end hX4 hk4M).mpr q)
                      omega⟩
                    rw [fm_kind hFM (by decide), bd_some, f_X5_bodyOf, ck_t i60, bd_some, bd_some] at hh
                    exact ⟨_, _, _, _, hh.trans (lp_fm fu4 hFM _)⟩
                  rcases wKey (w := ow j 2) (ml := mw) hX4 E3A (ow_lt (by omega)) rfl with ⟨y04, -, i5, mi5, y14, y24, y34⟩ | ⟨-, i5, mi5, y14, y24, y34⟩
                  · rw [y14, bd_some] at hC
                    rw [y24, bt_l, f_X13_readOne_172] at hR
                    have gZ := fr_X13_word y24
                    have gZ1 : ∀ s, ¬ (s = 4 ∨ s = 5 ∨ s = 6 ∨ s = 7 ∨ s = 8 ∨ s = 9) → mi5 s = mu s := gZ
                    have E3ML' : MLp ML4 mi5 (kpB n 1 mu mv) := ⟨by rw [gZ1 49 (by omega)]; exact E3ML.1, fun z t hz => by rw [kpB_o (by omega) (by omega), kpB_o (by omega) (by omega), kpB_o (by omega) (by omega)]; exact E3ML.2 z t hz⟩
                    -- the second TEST
                    rcases rtest_ok (l2 := ww2) (ml := mw) (i0 := u0) (r0 := v0) (e := 0) (s := n) (w := 1) hX4 y34 E38 E3CL E3ML' (by omega) E3m hn60 (by omega) with ⟨k5, c5', P1, P2, b0, d0, b1, b2, d2, mb, md, g1, g2', g3, g4, g5, g6, g7, g8, g9, g10, g11, g12, g13, g14, g15, g16⟩ | ⟨b0, d0, b1, b2, d2, mb, md, c9, g1, g2', g3, g4, g5, g6⟩
                    · obtain ⟨TT1, FA1, FB1, G1⟩ := test_fr (l2 := ww2) (b := b) (N := N) (M := M) (k := k) hn60 (show 1 < 2 by omega) E3CL E3ML' g3 g5 g6 g7 g9 g10 g11 g12 g13 g14 g15 g16
                      have gM := fr_X13_readTest g3
                      have gM1 : ∀ s, ¬ (s = 4 ∨ s = 5 ∨ s = 6 ∨ s = 7 ∨ s = 8 ∨ s = 9 ∨ s = 49 ∨ s = 53 ∨ s = 54 ∨ s = 55 ∨ s = 56 ∨ s = 57) → mb s = mi5 s := gM.1
                      generalize hC5 : CL4 ++ (P1.map cM ++ P2.map cM ++ [-(nI c5')]) = C5 at g5 TT1
                      generalize hM5 : ML4 ++ (P1 ++ P2) = M5 at g6 TT1
                      have lC5 : C5.length = CL4.length + P1.length + P2.length + 1 := by
                        rw [← hC5, List.length_append, List.length_append, List.length_append, List.length_map, List.length_map]
                        show CL4.length + (P1.length + P2.length + 1) = _
                        omega
                      have lM5 : M5.length = ML4.length + P1.length + P2.length := by rw [← hM5, List.length_append, List.length_append]; omega
                      have g2' : f_X6_readTest u0 v0 i5 r1 l1 u2 vv2 ww2 (nI n) 1 = some (b0, d0, b1, b2, d2) := g2'
                      have g3 : f_X13_readTest mi5 (kpB n 1 mu mv) mw (nI (60 + n)) 1 = some (.inl (mb, md)) := g3
                      rw [g2', bd_some] at hC
                      dsimp only at hC
                      rw [g3, bt_l, bt_l] at hR
                      dsimp only at hR
                      have e50 : mb 50 - 1 = nI O := by rw [gM1 50 (by omega), gZ1 50 (by omega), E350]; exact nI_pred O
                      rw [e50, body_after hn60 hl] at hR
                      have lC3 : CT.length ≤ CL3.length := by rw [A4, List.length_append]; omega
                      have lM3 : MT.length ≤ ML3.length := by rw [A5, List.length_append]; omega
                      have lC4 : CL3.length ≤ CL4.length := by rw [D4, List.length_append]; omega
                      have lM4 : ML3.length ≤ ML4.length := by rw [D5, List.length_append]; omega
                      have md1 : md 1 = mr 1 := by rw [G1 1 (by omega), kpB_o (by omega) (by omega), D15, kpB_o (by omega) (by omega), A15, G0 1 (by omega), up_n (by omega)]
                      have hXl : CX b N M r1 l1 (lnk n xl md) := hX.mr (by rw [lnk_o (by omega) (by omega)]; exact md1)
                      have gA' : AT b N M k5 b1 (upd mb 50 (nI O)) := g4.mi (fun s s3 s9 => pk_un (by omega))
                      rcases wSign (c := 59) (x := 59) (ml := mw) hXl gA' (by omega) (by omega) rfl with ⟨x0, -, i6', mi6, x1, x2, x3'⟩ | ⟨-, i6', mi6, x1, x2, x3'⟩
                      · left
                        have gS := fr_X13_sign x2
                        have gS1 : ∀ s, ¬ (s = 4 ∨ s = 5 ∨ s = 6 ∨ s = 7 ∨ s = 8 ∨ s = 9) → mi6 s = upd mb 50 (nI O) s := gS
                        have d1n : d2 1 n = nI y := by rw [g7.2.2.2 1 (by omega) (by omega) (by omega), v1n]
                        have b05 : b0 5 - 1 = nI O := by rw [g7.1 5 (by omega) (by omega), E35]; exact nI_pred O
                        rw [x1, bd_some, f_X5_bodyOf, ck_t i60, nI_clamp (show n < 2 ^ 31 by omega), d1n, bd_some, bd_some, b05, nI_1] at hC
                        dsimp only at hC
                        rw [x2, bt_l] at hR
                        -- nodes behind n
                        have hnd : ∀ s, n + 1 ≤ s → s < n4 → NDw 60 1000 s C5.length M5.length d2 ww2 md mw ∧ PT 60 (d2 2 s) (md 29 (60 + s)) := by
                          intro s s1 s2
                          have step4 : NDw 60 1000 s CL4.length ML4.length vv2 ww2 mv mw ∧ PT 60 (vv2 2 s) (mv 29 (60 + s)) := by
                            by_cases q : s < n3
                            · obtain ⟨p1, p2⟩ := A6 s s1 q
                              have p1' := (p1.at (kpB_FA (n := n) (w := 0) (mi := me) (by omega) (show s ≠ n by omega)) (Nat.le_refl _) (Nat.le_refl _)).keep D7 q (by omega) lC4 lM4
                              refine ⟨p1', D9 s q ?_⟩
                              rw [kpB_o (by omega) (by omega)]
                              exact p2
                            · exact D6 s (by omega) s2
                          have s60 : s < 60 := by omega
                          refine ⟨(step4.1.at (kpB_FA (n := n) (w := 1) (mi := mu) (by omega) (show s ≠ n by omega)) (Nat.le_refl _) (Nat.le_refl _)).at (FA1 s s60 (by omega)) (by omega) (by omega), ?_⟩
                          rw [g7.2.2.2 2 (by omega) (by omega) (by omega), G1 29 (by omega), kpB_o (by omega) (by omega)]
                          exact step4.2
                        -- the STEP itself
                        have k5c : ∀ z, z < CL4.length → d2 12 z = vv2 12 z := (FA1 (if n = 0 then 1 else 0) (by split <;> omega) (by split <;> omega)).2.2.2.1
                        have k5m := (FA1 (if n = 0 then 1 else 0) (by split <;> omega) (by split <;> omega)).2.2.2.2
                        have tt0 : TT 60 1000 n 0 C5.length M5.length d2 md := by
                          have q1 : TT 60 1000 n 0 CL3.length ML3.length g2 mg := TT0.keep (A7.2.1 (2 * n + 0) (by omega)).1 (A7.2.1 (2 * n + 0) (by omega)).2.1 (fun z hz => by rw [Nat.add_assoc, ix4]; exact A7.2.2.2.1 (4 * n + (2 * 0 + z)) (by omega)) (by rw [ix2]; exact (A7.2.1 (2 * n + 0) (by omega)).2.2.2.2.1) A7.2.2.2.2.1 A7.2.2.2.2.2 lC3 lM3
                          have q2 : TT 60 1000 n 0 CL3.length ML3.length g2 (kpB n 0 me mg) := q1.keep rfl rfl (fun z hz => ⟨by rw [kpB_o (by omega) (by omega)], by rw [kpB_o (by omega) (by omega)]⟩) (by rw [kpB_o (by omega) (by omega)]) (fun _ _ => rfl) (fun z hz => ⟨by rw [kpB_o (by omega) (by omega)], by rw [kpB_o (by omega) (by omega)], by rw [kpB_o (by omega) (by omega)]⟩) (Nat.le_refl _) (Nat.le_refl _)
                          have q3 : TT 60 1000 n 0 CL4.length ML4.length vv2 mv := q2.keep (D7.2.1 (2 * n + 0) (by omega)).1 (D7.2.1 (2 * n + 0) (by omega)).2.1 (fun z hz => by rw [Nat.add_assoc, ix4]; exact D7.2.2.2.1 (4 * n + (2 * 0 + z)) (by omega)) (by rw [ix2]; exact (D7.2.1 (2 * n + 0) (by omega)).2.2.2.2.1) D7.2.2.2.2.1 D7.2.2.2.2.2 lC4 lM4
                          have q4 : TT 60 1000 n 0 CL4.length ML4.length vv2 (kpB n 1 mu mv) := q3.keep rfl rfl (fun z hz => ⟨by rw [kpB_o (by omega) (by omega)], by rw [kpB_o (by omega) (by omega)]⟩) (by rw [kpB_o (by omega) (by omega)]) (fun _ _ => rfl) (fun z hz => ⟨by rw [kpB_o (by omega) (by omega)], by rw [kpB_o (by omega) (by omega)], by rw [kpB_o (by omega) (by omega)]⟩) (Nat.le_refl _) (Nat.le_refl _)
                          exact q4.keep (by rw [g12, pk_un (by omega)]) (by rw [g13, pk_un (by omega)]) (fun z hz => ⟨by rw [g14, pk_un (by omega), pk_un (by omega)], by rw [g15, pk_un (by omega), pk_un (by omega)]⟩) (by rw [g16, pk_un (by omega)]) k5c k5m (by omega) (by omega)
                        have pb0 : PT 60 (d2 9 (2 * n + 0)) (md 37 (2 * (60 + n) + 0)) ∧ PT 60 (d2 10 (2 * n + 0)) (md 38 (2 * (60 + n) + 0)) := by
                          obtain ⟨z1, z2⟩ := D7.2.2.1 (2 * n + 0) (by omega) (by omega)
                          obtain ⟨-, -, -, -, -, z6, z7⟩ := D7.2.1 (2 * n + 0) (by omega)
                          rw [g7.2.2.2 9 (by omega) (by omega) (by omega), g7.2.2.2 10 (by omega) (by omega) (by omega), z1, z2, G1 37 (by omega), G1 38 (by omega), kpB_37, kpB_38, pk_un (by omega), pk_un (by omega), ix2, z6, z7, kpB_37, kpB_38, ← ix2, pk_us, pk_us]
                          exact ⟨v4, v5⟩
                        have pb1 : PT 60 (d2 9 (2 * n + 1)) (md 37 (2 * (60 + n) + 1)) ∧ PT 60 (d2 10 (2 * n + 1)) (md 38 (2 * (60 + n) + 1)) := by
                          rw [g7.2.2.2 9 (by omega) (by omega) (by omega), g7.2.2.2 10 (by omega) (by omega) (by omega), G1 37 (by omega), G1 38 (by omega), kpB_37, kpB_38, pk_us, pk_us]
                          exact ⟨c4, c5⟩
                        have fb : FB n CL.length ML.length 200 r2a l2 (va_up mr 28 (upd (mr 28) (60 + n) (nI j))) ml d2 ww2 md mw := by
                          have r1' := FB0.tr (y' := 2 * n) (n' := n + 1) A7 (by omega) (by omega) (by omega) (Or.inr (Nat.le_refl _))
                          have r2' := r1'.tr (kpB_FB (n := n) (w := 0) (c := CL.length) (m := ML.length) (mi := me) (r2 := g2) (l2 := h2) (ml := mh) (by omega)) (Nat.le_refl _) (Nat.le_refl _) (Nat.le_refl _) (Or.inl rfl)
                          have r3' := r2'.tr (y' := 2 * n + 1) (n' := n3) D7 (by omega) (by omega) (by omega) (Or.inr (by omega))
                          have r4' := r3'.tr (kpB_FB (n := n) (w := 1) (c := CL.length) (m := ML.length) (mi := mu) (r2 := vv2) (l2 := ww2) (ml := mw) (by omega)) (Nat.le_refl _) (Nat.le_refl _) (Nat.le_refl _) (Or.inl rfl)
                          exact r4'.tr FB1 (Nat.le_refl _) (by omega) (by omega) (Or.inl rfl)
                        have nx : ∀ s, s < n + 1 → d2 2 s = r2a 2 s ∧ md 29 (60 + s) = mr 29 (60 + s) := fun s hs => by
                          have z1 := A8 s hs (by rw [show q2 10 (2 * n) = -1 from (q9a 0 (by omega)).2]; exact fun q => nm1N (by omega) q.symm)
                          have z2 := D8 s (by omega) (by rw [g9b.2]; exact fun q => nm1N (by omega) q.symm)
                          rw [g7.2.2.2 2 (by omega) (by omega) (by omega), z2.1, z1.1, f7.2.2.2 2 (by omega) (by omega) (by omega), G1 29 (by omega), kpB_o (by omega) (by omega), z2.2, kpB_o (by omega) (by omega), z1.2, G0 29 (by omega), up_n (by omega)]
                          exact ⟨rfl, rfl⟩
                        have b9 : ∀ z, z = y ∨ 120 ≤ z → d2 9 z = r2a 9 z ∧ d2 10 z = r2a 10 z := fun z hz => by
                          rw [g7.2.2.2 9 (by omega) (by omega) (by omega), g7.2.2.2 10 (by omega) (by omega) (by omega)]
                          by_cases q : z < 120
                          · have ez : z = y := by rcases hz with e | e; exact e; omega
                            have hyn := (hl1 (by omega)).1
                            obtain ⟨z1, z2⟩ := A7.2.2.1 z (by omega) (by omega)
                            obtain ⟨z3, z4'⟩ := D7.2.2.1 z (by omega) (by omega)
                            rw [z3, z4', z1, z2, f7.2.2.2 9 (by omega) (by omega) (by omega), f7.2.2.2 10 (by omega) (by omega) (by omega)]
                            exact ⟨rfl, rfl⟩
                          · obtain ⟨z1, z2⟩ := A12 z (by omega) (by omega)
                            obtain ⟨z3, z4'⟩ := D12 z (by omega) (by omega)
                            rw [z3, z4', z1, z2, f7.2.2.2 9 (by omega) (by omega) (by omega), f7.2.2.2 10 (by omega) (by omega) (by omega)]
                            exact ⟨rfl, rfl⟩
                        have l1n : ∀ s, s < n + 1 → lv4 s = lva s ∧ d2 1 s = r2a 1 s := fun s hs => by
                          obtain ⟨z1, z2⟩ := A10 s hs
                          obtain ⟨z3, z4'⟩ := D10 s (by omega)
                          rw [z3, z1, g7.2.2.2 1 (by omega) (by omega) (by omega), z4', z2, f7.2.2.2 1 (by omega) (by omega) (by omega)]
                          exact ⟨rfl, rfl⟩
                        have one := one_fin (lv := lv) (i2 := i2) (r2 := r2) (r2a := r2a) (l2 := l2) (mr := mr) (ml := ml) (xf := xf) (xl := xl) (k := k) (k2 := k5 + 1) (n2 := n4) (CL := CL) (ML := ML) (CL2 := C5) (ML2 := M5) (lva := lva) (lv2 := lv4) (j0 := upd (upd b0 5 (nI O)) 4 (nI y)) (r0 := r0) (q0 := d0) (j1 := i6') (j2 := b2) (q2 := d2) (p2 := ww2) (mj2 := mi6) (mq := md) (mp := mw) (b := b) (N := N) (M := M) (O := O) hn60 hj hy (fun z => (hl1 z).1) hf hl hW a1 a0 a3 a10 a2n a2a a2b a9 ao slv (by omega) (by omega) fb (fun s hs => (nx s hs).1) (fun s hs => (nx s (by omega)).2) (by rw [g7.2.2.2 0 (by omega) (by omega) (by omega), v20]) (by rw [g7.2.2.2 3 (by omega) (by omega) (by omega), (D7.1 n (by omega)).2.1, (A7.1 n (by omega)).2.1, f7.2.2.2 3 (by omega) (by omega) (by omega), a3, pk_us]) (by rw [G1 28 (by omega), kpB_o (by omega) (by omega), (D7.1 n (by omega)).2.2.2.2.2.1, kpB_o (by omega) (by omega), (A7.1 n (by omega)).2.2.2.2.2.1, G0 28 (by omega), up_s, pk_us]) ⟨fun q => by omega, fun q => by omega, fun _ => ⟨tt0, TT1, fun w hw => by
                          match w, hw with
                          | 0, _ => exact pb0
                          | 1, _ => exact pb1⟩, fun q => by omega⟩ hnd b9 (fun s hs => l1n s (by omega)) ⟨(L1.map cM ++ L2.map cM ++ [-(nI cT)]) ++ X3 ++ X4 ++ (P1.map cM ++ P2.map cM ++ [-(nI c5')]), by rw [← hC5, D4, A4, ← hCT]; simp only [List.append_assoc]⟩ ⟨(L1 ++ L2) ++ Y3 ++ Y4 ++ (P1 ++ P2), by rw [← hM5, D5, A5, ← hMT]; simp only [List.append_assoc]⟩ ⟨x3', ⟨pk_us, by rw [pk_un (by omega), pk_us], by rw [pk_un (by omega), pk_un (by omega), g7.1 8 (by omega) (by omega)]; exact E38⟩, ⟨by rw [g7.2.2.1 13 (by omega)]; exact E313, by rw [gS1 48 (by omega), pk_un (by omega), gM1 48 (by omega), gZ1 48 (by omega)]; exact E348, by rw [gS1 50 (by omega), pk_us]⟩, g5, g6.mi (by rw [gS1 49 (by omega), pk_un (by omega)]), by omega, by omega, E3n, E3W.congr (g7.2.2.2 1 (by omega) (by omega) (by omega)) (g7.2.2.2 2 (by omega) (by omega) (by omega)) (g7.2.2.2 3 (by omega) (by omega) (by omega)) (g7.2.2.2 9 (by omega) (by omega) (by omega)) (g7.2.2.2 10 (by omega) (by omega) (by omega))⟩ (fun z hz => by rw [g7.2.1, D11 z (by omega), A11 z (by omega), up_s, pk_un (by omega), f7.2.1]) (by rw [g7.2.2.1 14 (by omega), D13, A13, f7.2.2.1 14 (by omega), pk_un (by omega)]) (by rw [D14, A14]) md1
                        exact ⟨k5 + 1, n4, x4 + 1, fu4, C5, M5, lv4, _, d0, i6', b2, d2, ww2, mi6, lnk n xl md, mw, _, _, by omega, hC, hR, one.1, one.2.1, one.2.2, by omega, by omega⟩
                      · right
                        obtain ⟨fu4, rfl⟩ : ∃ m, fu4 = m + 1 := ⟨fu4 - 1, by
                          have : k4 ≠ M := fun q => z4 ((tk_end hX4 hk4M).mpr q)
                          omega⟩
                        rw [x1, bd_some, f_X5_bodyOf, ck_t i60, bd_some, bd_some] at hC
                        rw [x2, bt_r] at hR
                        exact ⟨_, _, i6', _, _, _, _, _, _, hC.trans (lp_fm fu4 x3'.1 _), hR, x3'⟩
                    · right
                      have g1 : f_X6_readTest u0 v0 i5 r1 l1 u2 vv2 ww2 (nI n) 1 = some (b0, d0, b1, b2, d2) := g1
                      have g2' : f_X13_readTest mi5 (kpB n 1 mu mv) mw (nI (60 + n)) 1 = some (.inr (mb, md)) := g2'
                      rw [g1, bd_some] at hC
                      dsimp only at hC
                      rw [g2', bt_r, bt_r] at hR
                      obtain ⟨T0, T1, T2, T3, hT⟩ := tail b0 d0 b1 b2 d2 g3.1 (g4.2.2.2 1 (by omega) (by omega) (by omega)) hC
                      exact ⟨_, _, b1, _, _, _, _, _, _, hT, hR, g3⟩
                  · right
                    obtain ⟨T9, T8, T7, T6, T5, q1, q2', q3, q4⟩ := fm_test (r1 := r1) (l1 := l1) (l2 := ww2) (i0 := u0) (r0 := v0) (r2 := vv2) y34.1 (show CL4.length ≤ 900 by omega) E3CL.1 hn60 (show 1 < 2 by omega)
                    have q1 : f_X6_readTest u0 v0 i5 r1 l1 u2 vv2 ww2 (nI n) 1 = some (T9, T8, i5, T7, T6) := q1
                    rw [y14, bd_some, q1, bd_some] at hC
                    dsimp only at hC
                    rw [y24, bt_r, bt_r] at hR
                    obtain ⟨T0, T1, T2, T3, hT⟩ := tail T9 T8 i5 T7 T6 y34.1 (q2'.2.2.2 1 (by omega) (by omega) (by omega)) hC
                    exact ⟨_, _, i5, _, _, _, _, _, _, hT, hR, y34⟩
              · right
                rw [c2, bt_r, bt_r] at hR
                exact ⟨_, _, _, _, _, _, _, _, _, hC.trans c1, hR, c3⟩
            · right
              obtain ⟨fu3, rfl⟩ : ∃ m, fu3 = m + 1 := ⟨fu3 - 1, by
                have : k3 ≠ M := fun q => z0 ((tk_end hX3 hk3M).mpr q)
                omega⟩
              rw [y1, bd_some, bd_some] at hC
              rw [y2, bt_r, bt_r] at hR
              exact ⟨_, _, i4, _, _, _, _, _, _, hC.trans (lp_fm fu3 y3.1 _), hR, y3⟩
        · right
          rw [v2, bt_r, bt_r] at hR
          exact ⟨_, _, _, _, _, _, _, _, _, hC.trans v1, hR, v3⟩
      · right
        rw [f_X6_readStep_134, w1, bd_some, j5, ck_t i6, bd_some] at hC
        rw [w2, bt_r, bt_r] at hR
        exact ⟨_, _, i3, _, _, _, _, _, _, hC.trans (lp_fm fu w3.1 _), hR, w3⟩
    · right
      have f1 : f_X6_readTest i0 r0 i' r1 l1 (upd i2 13 (nI (n + 1))) r2a l2 (nI n) 0 = some (j0, q0, j1, j2, q2) := f1
      have f2 : f_X13_readTest (upd mi' 50 (nI (O + 1))) (va_up mr 28 (upd (mr 28) (60 + n) (nI j))) ml (nI (60 + n)) 0 = some (.inr (mj, mq)) := f2
      have i6 := inb_nI (n := O) (N := 6) hO6 (by omega)
      have j5 : j0 5 = nI O := by rw [f4.1 5 (by omega) (by omega), h5]
      rw [f1, bd_some] at hC
      dsimp only at hC
      rw [f_X6_readStep_134, fm_key f3.1 (fun q => nm1N (by have := (kap_ok (ow j 0) (ow_lt (by omega))).2; omega) q.symm), bd_some, j5, ck_t i6, bd_some] at hC
      rw [f2, bt_r, bt_r] at hR
      exact ⟨_, _, j1, _, _, _, _, _, _, hC.trans (lp_fm fu f3.1 _), hR, f3⟩
  · exact one_room hX hB hO hy hj hk hs hx hfu hgo
theorem body_all {b : Nat → Nat} {N M : Nat} {r1 : Nat → Nat → Int32} {l1 : Nat → Nat → Int64} : ∀ d, BodyOK b N M r1 l1 d := by
  intro d
  induction d with
  | zero =>
    intro k n O y x fu CL ML lv i0 r0 i1 i2 r2 l2 mi mr ml hX hB hO hy hl1 hl2 hOd
    omega
  | succ d ih =>
    intro k n O y x fu CL ML lv i0 r0 i1 i2 r2 l2 mi mr ml hX hB hO hy hl1 hl2 hOd h9 h10 hx hfu
    have hM := hX.2.1
    rw [f_X13_readBody, f_X13_readBody_e]
    exact body_go hO hy (fun k n x fu fv j CL ML lv i0 r0 i1 i2 r2 l2 mi mr ml xf xl hX hB hl1 hl2 hj hk hs hf hl hx hfu => by
      by_cases q : j = 4 ∨ j = 5
      · exact one_open ih (by omega) hX hB hO hy hl1 hl2 q hk hs hf hl hx hfu
      · exact one_simple hX hB hO hy hl1 hl2 hj ⟨fun z => q (Or.inl z), fun z => q (Or.inr z)⟩ hk hs hf hl hx hfu) M k n x fu 2000000 CL ML lv i0 r0 i1 i2 r2 l2 mi mr ml (-1) (-1) (by omega) (by omega) hX hB hl1 hl2 (Or.inl ⟨h9, rfl⟩) (Or.inl ⟨h10, rfl⟩) hx hfu
