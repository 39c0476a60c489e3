/-! ===== program: a SUM, a TEST ===== -/
def sumOK (L : List MKt) : Prop := (∀ t ∈ L, okM t) ∧ pfd L 0 = some 1 ∧ nA L ≤ 12
theorem rsum_ok {b : Nat → Nat} {N M bar k e x : Nat} {r1 : Nat → Nat → Int32} {l1 l2 ml : Nat → Nat → Int64} {CL : List Int32} {ML : List MKt} {i0 : Nat → Int32} {r0 : Nat → Nat → Int32} {i1 i2 : Nat → Int32} {r2 : Nat → Nat → Int32} {mi : Nat → Int32} {mr : Nat → Nat → Int32} (hbar : bar < 2 ^ 31) (hX : CX b N M r1 l1 mr) (hA : AT b N M k i1 mi) (h8 : i0 8 = nI bar) (hCL : CLp CL i2 r2) (hML : MLp ML mi mr) (hc : CL.length + e ≤ k) (hm : ML.length ≤ CL.length) (hx : x < 480) : (∃ k' L i0' r0' i1' i2' r2' mi' mr', k < k' ∧ f_X6_readSum i0 r0 i1 r1 l1 i2 r2 l2 = some (i0', r0', i1', i2', r2') ∧ f_X13_readSum mi mr ml (nI x) (nI bar) = some (.inl (mi', mr')) ∧ AT b N M k' i1' mi' ∧ CLp (CL ++ L.map cM) i2' r2' ∧ MLp (ML ++ L) mi' mr' ∧ KC i0 r0 i2 r2 i0' r0' i2' r2' ∧ CL.length + L.length + e ≤ k' ∧ sumOK L ∧ mr' 34 = upd (mr 34) x (nI (1000 + ML.length)) ∧ mr' 35 = upd (mr 35) x (nI (1000 + (ML.length + L.length)))) ∨ (∃ i0' r0' i1' i2' r2' mi' mr' c, f_X6_readSum i0 r0 i1 r1 l1 i2 r2 l2 = some (i0', r0', i1', i2', r2') ∧ f_X13_readSum mi mr ml (nI x) (nI bar) = some (.inr (mi', mr')) ∧ FT i1' mi' ∧ KC i0 r0 i2 r2 i0' r0' i2' r2' ∧ c ≤ 900 ∧ i2' 15 = nI c) := by
  have hM := hX.2.1
  have hkM := hA.1.1
  have hin := inb_nI (n := x) (N := 480) hx (by omega)
  have i07 : inb 0 7 = true := inb_nI (n := 0) (N := 7) (by omega) (by omega)
  have c0 : (0 : Int32).toNatClampNeg = 0 := by decide
  have e49 : (1000 : Int32) + nI ML.length = nI (1000 + ML.length) := nI_add 1000 ML.length
  have hC : f_X6_readSum i0 r0 i1 r1 l1 i2 r2 l2 = f_X6_readSum_21 r1 l1 l2 2000000 (upd (upd i0 7 0) 6 0) (va_up r0 2 (upd (r0 2) 0 0)) i1 i2 r2 1 (nI 0) := by
    rw [f_X6_readSum, ck_t i07, c0, f_X6_readSum_17]
    rfl
  have hR : f_X13_readSum mi mr ml (nI x) (nI bar) = bt (bt (f_X13_readFactor (f_X13_readTerms 11) (upd (upd (upd mi 53 (nI bar)) 54 0) 55 0) (va_up mr 34 (upd (mr 34) x (nI (1000 + ML.length)))) ml) (fun q10 => f_X13_readTerms_4 (f_X13_readTerms 11) ml 2000000 q10.1 q10.2) (fun t10 => some (.inr (t10.1, t10.2)))) (fun q2 => some (.inl (q2.1, (va_up q2.2 35 (upd (q2.2 35) x (1000 + (q2.1 49))))))) (fun t2 => some (.inr (t2.1, t2.2))) := by
    rw [f_X13_readSum, ck_t hin, nI_clamp (by omega), hML.1, e49, f_X13_readSum_29, f_X13_readTerms, f_X13_readTerms_e]
    simp only [ck_t hin, nI_clamp (show x < 2 ^ 31 by omega)]
  have hX0 : CX b N M r1 l1 (va_up mr 34 (upd (mr 34) x (nI (1000 + ML.length)))) := hX.mr (up_n (by omega))
  have hA0 : AT b N M k i1 (upd (upd (upd mi 53 (nI bar)) 54 0) 55 0) := hA.mi (fun s s3 s9 => by rw [pk_un (by omega), pk_un (by omega), pk_un (by omega)])
  have hML0 : MLp ML (upd (upd (upd mi 53 (nI bar)) 54 0) 55 0) (va_up mr 34 (upd (mr 34) x (nI (1000 + ML.length)))) := ⟨by rw [pk_un (by omega), pk_un (by omega), pk_un (by omega)]; exact hML.1, fun j t hj => by rw [up_n (by omega), up_n (by omega), up_n (by omega)]; exact hML.2 j t hj⟩
  have hS : SS b N M k 0 0 bar CL ML (upd (upd i0 7 0) 6 0) i1 i2 r2 (upd (upd (upd mi 53 (nI bar)) 54 0) 55 0) (va_up mr 34 (upd (mr 34) x (nI (1000 + ML.length)))) := ⟨hA0, ⟨pk_us, by rw [pk_un (by omega), pk_us]; rfl, by rw [pk_un (by omega), pk_un (by omega)]; exact h8⟩, ⟨pk_us, by rw [pk_un (by omega), pk_us]; rfl, by rw [pk_un (by omega), pk_un (by omega), pk_us]⟩, hCL, hML0⟩
  have k0 : KC i0 r0 i2 r2 (upd (upd i0 7 0) 6 0) (va_up r0 2 (upd (r0 2) 0 0)) i2 r2 := ⟨fun s s6 s7 => by rw [pk_un s6, pk_un s7], up_n (by omega), fun _ _ => rfl, fun _ _ => rfl⟩
  rcases fac_all (l2 := l2) (ml := ml) hbar 11 k 0 0 e 2000000 0 CL ML _ (va_up r0 2 (upd (r0 2) 0 0)) i1 i2 r2 _ _ hX0 hS (by omega) (by omega) (by omega) hc hm (by omega) (by omega) with ⟨k2, p2, fe2, n2, x2, L1, j0, q0, j1, j2, q2, mj, mq, f1, f2, f3, f4, f5, f6, f7, f8, f9, f10, f11, f12, f13, f14, f15⟩ | ⟨j0, q0, j1, j2, q2, mj, mq, c, f1, f2, f3, f4, f5, f6⟩
  · have hX2 : CX b N M r1 l1 mq := hX0.mr f15
    have w2 : q0 2 0 = 0 := by rw [f6 0 (Nat.le_refl _), up_s, pk_us]
    have lC : (CL ++ L1.map cM).length = CL.length + L1.length := by rw [List.length_append, List.length_map]
    have lM : (ML ++ L1).length = ML.length + L1.length := List.length_append
    have hk2 := f4.1.1.1
    rw [f3, Gs, dw_0 f4.2.1.1 (by omega) w2, bd_some] at hC
    dsimp only at hC
    rw [f2, bt_l] at hR
    rcases terms_go (fac_all (l2 := l2) (ml := ml) hbar 11) (B := 0) (by omega) (by omega) M k2 p2 e fe2 n2 x2 2000000 (CL ++ L1.map cM) (ML ++ L1) j0 q0 j1 j2 q2 mj mq (by omega) (by omega) hX2 f4 f11 (by omega) (by omega) f8 (by omega) f14 w2 with ⟨k3, p3, fe3, n3, x3, L2, y0, z0, y1, y2, z2, my, mz, t1, t2, t3, t4, t5, t6, t7, t8, t9, t10, t11, t12, t13, t14, t15, t16⟩ | ⟨y0, z0, y1, y2, z2, my, mz, c, t1, t2, t3, t4, t5, t6⟩
    · left
      obtain ⟨gA, ⟨g6, g7, g8⟩, ⟨gm5, gm4, gm3⟩, gCL, gML⟩ := t4
      have hk3 := gA.1.1
      obtain ⟨fe3, rfl⟩ : ∃ m, fe3 = m + 1 := ⟨fe3 - 1, by omega⟩
      obtain ⟨n3, rfl⟩ : ∃ m, n3 = m + 1 := ⟨n3 - 1, by omega⟩
      have hE : Es r1 l1 l2 (fe3 + 1) (n3 + 1) y0 z0 y1 y2 z2 x3 = some (y0, z0, y1, y2, z2) := by
        rw [Es, f_X6_endFactor_4, g6, if_pos (show nI 0 ≤ 0 by decide), ef47_not gA.1 t15, g6, if_pos (show nI 0 ≤ 0 by decide), bd_some, f_X6_readSum_110]
        exact s21_0 n3 _
      rw [t3, hE] at hC
      rw [t2, bt_l] at hR
      dsimp only at hR
      have eL : CL ++ L1.map cM ++ L2.map cM = CL ++ (L1 ++ L2).map cM := by rw [List.map_append, List.append_assoc]
      have eM : ML ++ L1 ++ L2 = ML ++ (L1 ++ L2) := List.append_assoc ..
      have lL : (L1 ++ L2).length = L1.length + L2.length := List.length_append
      have e2 : (1000 : Int32) + my 49 = nI (1000 + (ML.length + (L1 ++ L2).length)) := by
        rw [gML.1, List.length_append, lM, lL]
        show nI 1000 + _ = _
        rw [nI_add, show ML.length + L1.length + L2.length = ML.length + (L1.length + L2.length) by omega]
      rw [e2] at hR
      have hT : f_X13_readTerms 12 (upd (upd (upd mi 53 (nI bar)) 54 0) 55 0) (va_up mr 34 (upd (mr 34) x (nI (1000 + ML.length)))) ml = some (.inl (my, mz)) := by
        rw [f_X13_readTerms, f_X13_readTerms_e, f2, bt_l, t2]
      have F := fr_X13_readTerms 12 hT
      have F2 : ∀ s, ¬ (s = 39 ∨ s = 40 ∨ s = 41) → mz s = va_up mr 34 (upd (mr 34) x (nI (1000 + ML.length))) s := F.2
      refine ⟨k3, L1 ++ L2, y0, z0, y1, y2, z2, my, _, by omega, hC, hR, gA, by rw [← eL]; exact gCL, ?_, (k0.tr f5).tr t5, by omega, ⟨fun t ht => ?_, ?_, ?_⟩, ?_, ?_⟩
      · rw [← eM]
        exact ⟨gML.1, fun j t hj => by rw [up_n (by omega), up_n (by omega), up_n (by omega)]; exact gML.2 j t hj⟩
      · rcases List.mem_append.mp ht with q | q
        · exact f12 t q
        · exact t12 t q
      · rw [pfd_app L1 L2 0 1 (f13 0)]
        exact t13 0
      · rw [nA_app]
        omega
      · rw [up_n (by omega), F2 34 (by omega), up_s]
      · rw [up_s, F2 35 (by omega), up_n (by omega)]
    · right
      rw [t1, bt_r] at hR
      exact ⟨y0, z0, y1, y2, z2, my, mz, c, hC.trans t2, hR, t3, (k0.tr f5).tr t4, t5, t6⟩
  · right
    rw [f1, bt_r, bt_r] at hR
    exact ⟨j0, q0, j1, j2, q2, mj, mq, c, hC.trans f2, hR, f3, k0.tr f4, f5, f6⟩
theorem fm_sum {r1 : Nat → Nat → Int32} {l1 l2 : Nat → Nat → Int64} {c : Nat} {i0 : Nat → Int32} {r0 : Nat → Nat → Int32} {i1 i2 : Nat → Int32} {r2 : Nat → Nat → Int32} (h : FM i1) (hc : c ≤ 900) (h15 : i2 15 = nI c) : ∃ i0' r0' i2' r2' d, f_X6_readSum i0 r0 i1 r1 l1 i2 r2 l2 = some (i0', r0', i1, i2', r2') ∧ KC i0 r0 i2 r2 i0' r0' i2' r2' ∧ d ≤ 900 ∧ i2' 15 = nI d := by
  have i07 : inb 0 7 = true := inb_nI (n := 0) (N := 7) (by omega) (by omega)
  have c0 : (0 : Int32).toNatClampNeg = 0 := by decide
  obtain ⟨y0, z0, y2, z2, d, b1, b2, b3, b4⟩ := fm_H (r1 := r1) (l1 := l1) (l2 := l2) 1999998 (B := 0) (i0 := upd (upd i0 7 0) 6 0) (r0 := va_up r0 2 (upd (r0 2) 0 0)) (r2 := r2) (x := 0) h pk_us (by omega) hc h15
  refine ⟨y0, z0, y2, z2, d, ?_, KC.tr ⟨fun s s6 s7 => by rw [pk_un s6, pk_un s7], up_n (by omega), fun _ _ => rfl, fun _ _ => rfl⟩ b2, b3, b4⟩
  rw [f_X6_readSum, ck_t i07, c0, f_X6_readSum_17]
  exact b1
/-- what a TEST's reading leaves as it was -/
def KT (i0 : Nat → Int32) (r0 : Nat → Nat → Int32) (i2 : Nat → Int32) (r2 : Nat → Nat → Int32) (i0' : Nat → Int32) (r0' : Nat → Nat → Int32) (i2' : Nat → Int32) (r2' : Nat → Nat → Int32) : Prop := (∀ s, s ≠ 6 → s ≠ 7 → i0' s = i0 s) ∧ r0' 1 = r0 1 ∧ (∀ s, s ≠ 15 → i2' s = i2 s) ∧ ∀ s, s ≠ 7 → s ≠ 8 → s ≠ 12 → r2' s = r2 s
theorem KC.kt {a a' c c' : Nat → Int32} {r r' s s' : Nat → Nat → Int32} (h : KC a r c s a' r' c' s') : KT a r c s a' r' c' s' := ⟨h.1, h.2.1, h.2.2.1, fun z _ _ z12 => h.2.2.2 z z12⟩
theorem KT.tr {a a' a'' : Nat → Int32} {c c' c'' : Nat → Int32} {r r' r'' s s' s'' : Nat → Nat → Int32} (h : KT a r c s a' r' c' s') (g : KT a' r' c' s' a'' r'' c'' s'') : KT a r c s a'' r'' c'' s'' := ⟨fun z z1 z2 => (g.1 z z1 z2).trans (h.1 z z1 z2), g.2.1.trans h.2.1, fun z z1 => (g.2.2.1 z z1).trans (h.2.2.1 z z1), fun z z1 z2 z3 => (g.2.2.2 z z1 z2 z3).trans (h.2.2.2 z z1 z2 z3)⟩
theorem fm_63 {r1 : Nat → Nat → Int32} {l1 l2 : Nat → Nat → Int64} {c s w : Nat} {i0 : Nat → Int32} {r0 : Nat → Nat → Int32} {i1 i2 : Nat → Int32} {r2 : Nat → Nat → Int32} (h : FM i1) (hc : c ≤ 900) (h15 : i2 15 = nI c) (hs : s < 60) (hw : w < 2) (y : Int32) : ∃ i0' r0' i2' r2' d, f_X6_readTest_63 r1 l1 l2 i0 r0 i1 i2 r2 (nI s) (nI w) y = some (i0', r0', i1, i2', r2') ∧ KT i0 r0 i2 r2 i0' r0' i2' r2' ∧ d ≤ 900 ∧ i2' 15 = nI d := by
  have e2 : (2 : Int32) * nI s + nI w = nI (2 * s + w) := by rw [show (2 : Int32) = nI 2 from rfl, pk_mul, nI_add]
  obtain ⟨y0, z0, y2, z2, d, b1, b2, b3, b4⟩ := fm_sum (r1 := r1) (l1 := l1) (l2 := l2) (i0 := i0) (r0 := r0) (r2 := r2) h hc h15
  obtain ⟨i', r', d2, a1, a2, a3, a4, a5⟩ := fm_code (r2 := z2) (l2 := l2) b3 b4 (-y)
  refine ⟨y0, z0, i', va_up r' 8 (upd (r' 8) (2 * s + w) (i' 15)), d2, ?_, ⟨b2.1, b2.2.1, fun z hz => (a4 z hz).trans (b2.2.2.1 z hz), fun z z7 z8 z12 => by rw [up_n z8, a5 z z12, b2.2.2.2 z z12]⟩, a2, a3⟩
  rw [f_X6_readTest_63, b1, bd_some]
  dsimp only
  rw [a1, bd_some, f_X5_endSum, e2, ck_t (inb_nI (by omega) (by omega)), bd_some, nI_clamp (by omega)]
theorem fm_test {r1 : Nat → Nat → Int32} {l1 l2 : Nat → Nat → Int64} {c s w : Nat} {i0 : Nat → Int32} {r0 : Nat → Nat → Int32} {i1 i2 : Nat → Int32} {r2 : Nat → Nat → Int32} (h : FM i1) (hc : c ≤ 900) (h15 : i2 15 = nI c) (hs : s < 60) (hw : w < 2) : ∃ i0' r0' i2' r2' d, f_X6_readTest i0 r0 i1 r1 l1 i2 r2 l2 (nI s) (nI w) = some (i0', r0', i1, i2', r2') ∧ KT i0 r0 i2 r2 i0' r0' i2' r2' ∧ d ≤ 900 ∧ i2' 15 = nI d := by
  have e2 : (2 : Int32) * nI s + nI w = nI (2 * s + w) := by rw [show (2 : Int32) = nI 2 from rfl, pk_mul, nI_add]
  obtain ⟨y0, z0, y2, z2, d, b1, b2, b3, b4⟩ := fm_sum (r1 := r1) (l1 := l1) (l2 := l2) (i0 := i0) (r0 := r0) (r2 := va_up r2 7 (upd (r2 7) (2 * s + w) (i2 15))) h hc h15
  obtain ⟨u0, v0, u2, v2, d2, c1, c2, c3, c4⟩ := fm_63 (r1 := r1) (l1 := l1) (l2 := l2) (i0 := y0) (r0 := z0) (r2 := z2) h b3 b4 hs hw 3
  refine ⟨u0, v0, u2, v2, d2, ?_, KT.tr (KT.tr ⟨fun _ _ _ => rfl, rfl, fun _ _ => rfl, fun z z7 _ _ => up_n z7⟩ b2.kt) c2, c3, c4⟩
  rw [f_X6_readTest, f_X5_beginSum, e2, ck_t (inb_nI (by omega) (by omega)), bd_some, nI_clamp (by omega), b1, bd_some]
  dsimp only
  rw [f_X9_kind, bd_some, h.2.1, if_neg (by decide), if_neg (by decide), if_neg (by decide), if_neg (by decide), fm_fail h, bd_some]
  exact c1
def isQ (b : Nat → Nat) (N : Nat) (t : Nat × Nat) : Bool := decide (tkK b N t = 3 ∧ (b t.1 = 61 ∨ b t.1 = 60 ∨ b t.1 = 62 ∨ b t.1 = 33))
theorem rtest_ok {b : Nat → Nat} {N M k e s w : Nat} {r1 : Nat → Nat → Int32} {l1 l2 ml : Nat → Nat → Int64} {CL : List Int32} {ML : List MKt} {i0 : Nat → Int32} {r0 : Nat → Nat → Int32} {i1 i2 : Nat → Int32} {r2 : Nat → Nat → Int32} {mi : Nat → Int32} {mr : Nat → Nat → Int32} (hX : CX b N M r1 l1 mr) (hA : AT b N M k i1 mi) (h8 : i0 8 = 0) (hCL : CLp CL i2 r2) (hML : MLp ML mi mr) (hc : CL.length + e ≤ k) (hm : ML.length ≤ CL.length) (hs : s < 60) (hw : w < 2) : (∃ k' c L1 L2 i0' r0' i1' i2' r2' mi' mr', k < k' ∧ f_X6_readTest i0 r0 i1 r1 l1 i2 r2 l2 (nI s) (nI w) = some (i0', r0', i1', i2', r2') ∧ f_X13_readTest mi mr ml (nI (60 + s)) (nI w) = some (.inl (mi', mr')) ∧ AT b N M k' i1' mi' ∧ CLp (CL ++ (L1.map cM ++ L2.map cM ++ [-(nI c)])) i2' r2' ∧ MLp (ML ++ (L1 ++ L2)) mi' mr' ∧ KT i0 r0 i2 r2 i0' r0' i2' r2' ∧ CL.length + L1.length + L2.length + 1 + e ≤ k' ∧ sumOK L1 ∧ sumOK L2 ∧ (c = 61 ∨ c = 60 ∨ c = 62 ∨ c = 33) ∧ r2' 7 = upd (r2 7) (2 * s + w) (nI CL.length) ∧ r2' 8 = upd (r2 8) (2 * s + w) (nI (CL.length + L1.length + L2.length + 1)) ∧ mr' 34 = upd (upd (mr 34) (4 * (60 + s) + 2 * w) (nI (1000 + ML.length))) (4 * (60 + s) + 2 * w + 1) (nI (1000 + (ML.length + L1.length))) ∧ mr' 35 = upd (upd (mr 35) (4 * (60 + s) + 2 * w) (nI (1000 + (ML.length + L1.length)))) (4 * (60 + s) + 2 * w + 1) (nI (1000 + (ML.length + L1.length + L2.length))) ∧ mr' 36 = upd (mr 36) (2 * (60 + s) + w) (nI c)) ∨ (∃ i0' r0' i1' i2' r2' mi' mr' c, f_X6_readTest i0 r0 i1 r1 l1 i2 r2 l2 (nI s) (nI w) = some (i0', r0', i1', i2', r2') ∧ f_X13_readTest mi mr ml (nI (60 + s)) (nI w) = some (.inr (mi', mr')) ∧ FT i1' mi' ∧ KT i0 r0 i2 r2 i0' r0' i2' r2' ∧ c ≤ 900 ∧ i2' 15 = nI c) := by
  have hM := hX.2.1
  have hkM := hA.1.1
  have e2 : (2 : Int32) * nI s + nI w = nI (2 * s + w) := by rw [show (2 : Int32) = nI 2 from rfl, pk_mul, nI_add]
  have e4 : (4 : Int32) * nI (60 + s) + 2 * nI w = nI (4 * (60 + s) + 2 * w) := by rw [show (4 : Int32) = nI 4 from rfl, show (2 : Int32) = nI 2 from rfl, pk_mul, pk_mul, nI_add]
  have e5 : (2 : Int32) * nI (60 + s) + nI w = nI (2 * (60 + s) + w) := by rw [show (2 : Int32) = nI 2 from rfl, pk_mul, nI_add]
  have hCL1 : CLp CL i2 (va_up r2 7 (upd (r2 7) (2 * s + w) (nI CL.length))) := ⟨hCL.1, fun j t hj => by rw [up_n (by omega)]; exact hCL.2 j t hj⟩
  have hC : f_X6_readTest i0 r0 i1 r1 l1 i2 r2 l2 (nI s) (nI w) = bd (f_X6_readSum i0 r0 i1 r1 l1 i2 (va_up r2 7 (upd (r2 7) (2 * s + w) (nI CL.length))) l2) (fun q14 => bd (f_X9_kind q14.2.2.1 r1 l1) (fun q15 => if q15 = 61 then (f_X6_readTest_45 r1 l1 l2 q14.1 q14.2.1 q14.2.2.1 q14.2.2.2.1 q14.2.2.2.2 (nI s) (nI w) q15) else (if q15 = 60 then (f_X6_readTest_45 r1 l1 l2 q14.1 q14.2.1 q14.2.2.1 q14.2.2.2.1 q14.2.2.2.2 (nI s) (nI w) q15) else (if q15 = 62 then (f_X6_readTest_45 r1 l1 l2 q14.1 q14.2.1 q14.2.2.1 q14.2.2.2.1 q14.2.2.2.2 (nI s) (nI w) q15) else (if q15 = 33 then (f_X6_readTest_45 r1 l1 l2 q14.1 q14.2.1 q14.2.2.1 q14.2.2.2.1 q14.2.2.2.2 (nI s) (nI w) q15) else (bd (f_X9_fail q14.2.2.1 r1 l1 1) (fun q16 => f_X6_readTest_63 r1 l1 l2 q14.1 q14.2.1 q16 q14.2.2.2.1 q14.2.2.2.2 (nI s) (nI w) q15))))))) := by
    rw [f_X6_readTest, f_X5_beginSum, e2, ck_t (inb_nI (by omega) (by omega)), bd_some, nI_clamp (by omega), hCL.1]
  have k7 : KT i0 r0 i2 r2 i0 r0 i2 (va_up r2 7 (upd (r2 7) (2 * s + w) (nI CL.length))) := ⟨fun _ _ _ => rfl, rfl, fun _ _ => rfl, fun z z7 _ _ => up_n z7⟩
  rcases rsum_ok (l2 := l2) (ml := ml) (r0 := r0) (bar := 0) (x := 4 * (60 + s) + 2 * w) (by omega) hX hA h8 hCL1 hML hc hm (by omega) with ⟨k1, L1, j0, q0, j1, j2, q2, mj, mq, f1, f2, f3, f4, f5, f6, f7, f8, f9, f10, f11⟩ | ⟨j0, q0, j1, j2, q2, mj, mq, c, f1, f2, f3, f4, f5, f6⟩
  · have f3 : f_X13_readSum mi mr ml (nI (4 * (60 + s) + 2 * w)) 0 = some (.inl (mj, mq)) := f3
    have F := fr_X13_readSum f3
    have F2 : ∀ z, ¬ (z = 34 ∨ z = 35 ∨ z = 39 ∨ z = 40 ∨ z = 41) → mq z = mr z := F.2
    have hX1 : CX b N M r1 l1 mq := hX.mr (F2 1 (by omega))
    have lC : (CL ++ L1.map cM).length = CL.length + L1.length := by rw [List.length_append, List.length_map]
    have lM : (ML ++ L1).length = ML.length + L1.length := List.length_append
    have hk1 := f4.1.1
    have hs9 : ∀ c, c < 128 → f_X13_isSign mj mq ml (nI c) = some (if isS b N (tok b N k1) c = true then 1 else 0) := fun c hc => isSign_ok (by omega) f4.2.1
    have s61 : f_X13_isSign mj mq ml 61 = some (if isS b N (tok b N k1) 61 = true then 1 else 0) := hs9 61 (by omega)
    have s60 : f_X13_isSign mj mq ml 60 = some (if isS b N (tok b N k1) 60 = true then 1 else 0) := hs9 60 (by omega)
    have s62 : f_X13_isSign mj mq ml 62 = some (if isS b N (tok b N k1) 62 = true then 1 else 0) := hs9 62 (by omega)
    have s33 : f_X13_isSign mj mq ml 33 = some (if isS b N (tok b N k1) 33 = true then 1 else 0) := hs9 33 (by omega)
    have put : ∀ c, (c = 61 ∨ c = 60 ∨ c = 62 ∨ c = 33) → isS b N (tok b N k1) c = true → isQ b N (tok b N k1) = true := fun c hc q => decide_eq_true ⟨(of_decide_eq_true q).1, by rw [(of_decide_eq_true q).2]; exact hc⟩
    have hR : f_X13_readTest mi mr ml (nI (60 + s)) (nI w) = f_X13_readTest_56 ml mj mq (nI (60 + s)) (nI w) (nI (4 * (60 + s) + 2 * w)) (if isQ b N (tok b N k1) = true then 1 else 0) := by
      rw [f_X13_readTest, e4, f3, bt_l]
      dsimp only
      rw [s61, bd_some]
      by_cases q61 : isS b N (tok b N k1) 61 = true
      · rw [if_pos q61, if_neg n10, if_pos (put 61 (by omega) q61), f_X13_readTest_51]
      · rw [if_neg q61, if_pos rfl, s60, bd_some]
        by_cases q60 : isS b N (tok b N k1) 60 = true
        · rw [if_pos q60, if_neg n10, if_pos (put 60 (by omega) q60), f_X13_readTest_51]
        · rw [if_neg q60, if_pos rfl, s62, bd_some]
          by_cases q62 : isS b N (tok b N k1) 62 = true
          · rw [if_pos q62, if_neg n10, if_pos (put 62 (by omega) q62), f_X13_readTest_51]
          · rw [if_neg q62, if_pos rfl, s33, bd_some]
            by_cases q33 : isS b N (tok b N k1) 33 = true
            · rw [if_pos q33, if_neg n10, if_pos (put 33 (by omega) q33), f_X13_readTest_51]
            · rw [if_neg q33, if_pos rfl, if_neg]
              intro z
              obtain ⟨z1, z2⟩ := of_decide_eq_true z
              rcases z2 with z2 | z2 | z2 | z2
              · exact q61 (decide_eq_true ⟨z1, z2⟩)
              · exact q60 (decide_eq_true ⟨z1, z2⟩)
              · exact q62 (decide_eq_true ⟨z1, z2⟩)
              · exact q33 (decide_eq_true ⟨z1, z2⟩)
    rw [f2, bd_some] at hC
    dsimp only at hC
    rw [f_X9_kind, bd_some] at hC
    by_cases hq : isQ b N (tok b N k1) = true
    · obtain ⟨o1, o2⟩ := of_decide_eq_true hq
      have e8 : j1 8 = nI (b (tok b N k1).1) := (kind_iff f4.1 (c := b (tok b N k1).1) (by omega) (by omega)).mpr (decide_eq_true ⟨o1, rfl⟩)
      have hC2 : f_X6_readTest i0 r0 i1 r1 l1 i2 r2 l2 (nI s) (nI w) = f_X6_readTest_45 r1 l1 l2 j0 q0 j1 j2 q2 (nI s) (nI w) (nI (b (tok b N k1).1)) := by
        rw [hC, e8]
        rcases o2 with o | o | o | o
        · rw [o]; rfl
        · rw [o]; rfl
        · rw [o]; rfl
        · rw [o]; rfl
      obtain ⟨a0, i', mi', a1, a2, a3, a4⟩ := both_adv (ml := ml) (mr := va_up mq 36 (upd (mq 36) (2 * (60 + s) + w) (mj 7))) (hX1.mr (up_n (by omega))) f4 (by omega)
      have m7 : mj 7 = nI (b (tok b N k1).1) := f4.2.1.2.2.2.2.2 o1
      have hX2 : CX b N M r1 l1 (va_up mq 36 (upd (mq 36) (2 * (60 + s) + w) (nI (b (tok b N k1).1)))) := hX1.mr (up_n (by omega))
      rw [m7] at a2
      have e41 : nI (4 * (60 + s) + 2 * w) + 1 = nI (4 * (60 + s) + 2 * w + 1) := nI_1 _
      rw [f_X13_readTest_56, if_pos hq, need1, bt_l, e5, ck_t (inb_nI (by omega) (by omega)), nI_clamp (by omega), m7, a2, bd_some, e41] at hR
      rw [f_X6_readTest_45, a1, bd_some, f_X6_readTest_63] at hC2
      have hML1 : MLp (ML ++ L1) mi' (va_up mq 36 (upd (mq 36) (2 * (60 + s) + w) (nI (b (tok b N k1).1)))) := ⟨(a4 49 (by omega) (by omega) (by omega) (by omega)).trans f6.1, fun j t hj => by rw [up_n (by omega), up_n (by omega), up_n (by omega)]; exact f6.2 j t hj⟩
      rcases rsum_ok (l2 := l2) (ml := ml) (r0 := q0) (bar := 0) (e := e + 1) (x := 4 * (60 + s) + 2 * w + 1) (by omega) hX2 a3 ((f7.1 8 (by omega) (by omega)).trans h8) f5 hML1 (by omega) (by omega) (by omega) with ⟨k3, L2, y0, z0, y1, y2, z2, my, mz, t1, t2, t3, t4, t5, t6, t7, t8, t9, t10, t11⟩ | ⟨y0, z0, y1, y2, z2, my, mz, c, t1, t2, t3, t4, t5, t6⟩
      · left
        have t3 : f_X13_readSum mi' (va_up mq 36 (upd (mq 36) (2 * (60 + s) + w) (nI (b (tok b N k1).1)))) ml (nI (4 * (60 + s) + 2 * w + 1)) 0 = some (.inl (my, mz)) := t3
        have G := fr_X13_readSum t3
        have G2 : ∀ z, ¬ (z = 34 ∨ z = 35 ∨ z = 39 ∨ z = 40 ∨ z = 41) → mz z = va_up mq 36 (upd (mq 36) (2 * (60 + s) + w) (nI (b (tok b N k1).1))) z := G.2
        have hk3 := t4.1.1
        have lC2 : (CL ++ L1.map cM ++ L2.map cM).length = CL.length + L1.length + L2.length := by rw [List.length_append, lC, List.length_map]
        obtain ⟨u2, v2, b1, b2, b3, b4⟩ := addCode_ok (l2 := l2) t5 (by omega) (-(nI (b (tok b N k1).1)))
        rw [t2, bd_some] at hC2
        dsimp only at hC2
        have l15 : u2 15 = nI (CL.length + L1.length + L2.length + 1) := by rw [b2.1, List.length_append, lC2]; rfl
        rw [b1, bd_some, f_X5_endSum, e2, ck_t (inb_nI (by omega) (by omega)), bd_some, nI_clamp (by omega)] at hC2
        dsimp only at hC2
        rw [l15] at hC2
        rw [t3, bt_l] at hR
        refine ⟨k3, b (tok b N k1).1, L1, L2, y0, z0, y1, u2, _, my, mz, by omega, hC2, hR, t4, ?_, by rw [← List.append_assoc]; exact t6, ?_, by omega, f9, t9, o2, ?_, ?_, ?_, ?_, ?_⟩
        · rw [← List.append_assoc, ← List.append_assoc]
          exact ⟨b2.1, fun j t hj => by rw [up_n (by omega)]; exact b2.2 j t hj⟩
        · refine KT.tr (KT.tr k7 f7.kt) (KT.tr t7.kt ⟨fun _ _ _ => rfl, rfl, b3, fun z z7 z8 z12 => by rw [up_n z8, b4 z z12]⟩)
        · rw [up_n (by omega), b4 7 (by omega), t7.2.2.2 7 (by omega), f7.2.2.2 7 (by omega), up_s]
        · rw [up_s, b4 8 (by omega), t7.2.2.2 8 (by omega), f7.2.2.2 8 (by omega), up_n (by omega)]
        · rw [t10, up_n (by omega), f10, lM]
        · rw [t11, up_n (by omega), f11, lM]
        · rw [G2 36 (by omega), up_s, F2 36 (by omega)]
      · right
        have t2 : f_X13_readSum mi' (va_up mq 36 (upd (mq 36) (2 * (60 + s) + w) (nI (b (tok b N k1).1)))) ml (nI (4 * (60 + s) + 2 * w + 1)) 0 = some (.inr (my, mz)) := t2
        obtain ⟨u2, v2, d2, a1', a2', a3', a4', a5'⟩ := fm_code (r2 := z2) (l2 := l2) t5 t6 (-(nI (b (tok b N k1).1)))
        rw [t1, bd_some] at hC2
        dsimp only at hC2
        rw [a1', bd_some, f_X5_endSum, e2, ck_t (inb_nI (by omega) (by omega)), bd_some] at hC2
        dsimp only at hC2
        rw [t2, bt_r] at hR
        exact ⟨y0, z0, y1, u2, _, my, mz, d2, hC2, hR, t3, KT.tr (KT.tr k7 f7.kt) (KT.tr t4.kt ⟨fun _ _ _ => rfl, rfl, a4', fun z z7 z8 z12 => by rw [up_n z8, a5' z z12]⟩), a2', a3'⟩
    · right
      have no : ∀ c, (c = 61 ∨ c = 60 ∨ c = 62 ∨ c = 33) → ¬ j1 8 = nI c := fun c hc z => by
        have := of_decide_eq_true ((kind_iff f4.1 (c := c) (by omega) (by omega)).mp z)
        exact hq (decide_eq_true ⟨this.1, by rw [this.2]; exact hc⟩)
      obtain ⟨i', a1, a2⟩ := both_fail hX1 f4 (c := 1) i01
      obtain ⟨u0, v0, u2, v2, d2, c1, c2, c3, c4⟩ := fm_63 (r1 := r1) (l1 := l1) (l2 := l2) (i0 := j0) (r0 := q0) (r2 := q2) a2.1 (show (CL ++ L1.map cM).length ≤ 900 by omega) f5.1 hs hw (j1 8)
      rw [if_neg (show ¬ j1 8 = 61 from no 61 (by omega)), if_neg (show ¬ j1 8 = 60 from no 60 (by omega)), if_neg (show ¬ j1 8 = 62 from no 62 (by omega)), if_neg (show ¬ j1 8 = 33 from no 33 (by omega)), a1, bd_some] at hC
      rw [f_X13_readTest_56, if_neg hq, need0, bt_r] at hR
      exact ⟨u0, v0, i', u2, v2, _, mq, d2, hC.trans c1, hR, a2, KT.tr (KT.tr k7 f7.kt) c2, c3, c4⟩
  · right
    have f2 : f_X13_readSum mi mr ml (nI (4 * (60 + s) + 2 * w)) 0 = some (.inr (mj, mq)) := f2
    obtain ⟨u0, v0, u2, v2, d2, c1, c2, c3, c4⟩ := fm_63 (r1 := r1) (l1 := l1) (l2 := l2) (i0 := j0) (r0 := q0) (r2 := q2) f3.1 f5 f6 hs hw 3
    rw [f1, bd_some] at hC
    dsimp only at hC
    rw [f_X9_kind, bd_some, f3.1.2.1, if_neg (by decide), if_neg (by decide), if_neg (by decide), if_neg (by decide), fm_fail f3.1, bd_some] at hC
    exact ⟨u0, v0, j1, u2, v2, mj, mq, d2, hC.trans c1, by rw [f_X13_readTest, e4, f2, bt_r], f3, KT.tr (KT.tr k7 f4.kt) c2, c3, c4⟩
