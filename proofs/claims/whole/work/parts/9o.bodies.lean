/-! ===== program: bodies, the class's loop and the reference's ===== -/
def BSt (b : Nat → Nat) (N M k n O y : Nat) (CL : List Int32) (ML : List MKt) (lv : Nat → Nat) (i0 i1 i2 : Nat → Int32) (r2 : Nat → Nat → Int32) (mi : Nat → Int32) (mr : Nat → Nat → Int32) : Prop := AT b N M k i1 mi ∧ (i0 4 = nI y ∧ i0 5 = nI O ∧ i0 8 = 0) ∧ (i2 13 = nI n ∧ mi 48 = nI n ∧ mi 50 = nI O) ∧ CLp CL i2 r2 ∧ MLp ML mi mr ∧ CL.length ≤ k ∧ ML.length ≤ CL.length ∧ n ≤ 60 ∧ CW n lv r2
def ADV (b : Nat → Nat) (N M O y k n : Nat) (CL : List Int32) (ML : List MKt) (lv : Nat → Nat) (r0 : Nat → Nat → Int32) (i2 : Nat → Int32) (r2 : Nat → Nat → Int32) (l2 : Nat → Nat → Int64) (mr : Nat → Nat → Int32) (ml : Nat → Nat → Int64) (k1 n1 : Nat) (CL1 : List Int32) (ML1 : List MKt) (lv1 : Nat → Nat) (i0' : Nat → Int32) (r0' : Nat → Nat → Int32) (i1' i2' : Nat → Int32) (r2' : Nat → Nat → Int32) (l2' : Nat → Nat → Int64) (mi' : Nat → Int32) (mr' : Nat → Nat → Int32) (ml' : Nat → Nat → Int64) : Prop :=
  k ≤ k1 ∧ n ≤ n1 ∧ BSt b N M k1 n1 O y CL1 ML1 lv1 i0' i1' i2' r2' mi' mr' ∧ (∃ X, CL1 = CL ++ X) ∧ (∃ Y, ML1 = ML ++ Y) ∧
  (∀ s, n ≤ s → s < n1 → NDw 60 1000 s CL1.length ML1.length r2' l2' mr' ml' ∧ PT 60 (r2' 2 s) (mr' 29 (60 + s))) ∧
  FB n CL.length ML.length y r2 l2 mr ml r2' l2' mr' ml' ∧
  (∀ s, s < n → ¬ r2 10 y = nI s → r2' 2 s = r2 2 s ∧ mr' 29 (60 + s) = mr 29 (60 + s)) ∧
  (∀ s, s < n → PT 60 (r2 2 s) (mr 29 (60 + s)) → PT 60 (r2' 2 s) (mr' 29 (60 + s))) ∧
  (∀ s, s < n → lv1 s = lv s ∧ r2' 1 s = r2 1 s) ∧ (∀ j, j < O → r0' 1 j = r0 1 j) ∧
  (∀ z, 120 ≤ z → z ≠ y → r2' 9 z = r2 9 z ∧ r2' 10 z = r2 10 z) ∧ i2' 14 = i2 14 ∧ l2' 11 = l2 11 ∧ mr' 1 = mr 1 ∧
  (r2' 10 y = r2 10 y ∨ ∃ t, n ≤ t ∧ t < 60 ∧ r2' 10 y = nI t)
theorem ADV.tr {b : Nat → Nat} {N M O y k n : Nat} {CL : List Int32} {ML : List MKt} {lv : Nat → Nat} {r0 : Nat → Nat → Int32} {i2 : Nat → Int32} {r2 : Nat → Nat → Int32} {l2 : Nat → Nat → Int64} {mr : Nat → Nat → Int32} {ml : Nat → Nat → Int64} {k1 n1 : Nat} {CL1 : List Int32} {ML1 : List MKt} {lv1 : Nat → Nat} {i0' : Nat → Int32} {r0' : Nat → Nat → Int32} {i1' i2' : Nat → Int32} {r2' : Nat → Nat → Int32} {l2' : Nat → Nat → Int64} {mi' : Nat → Int32} {mr' : Nat → Nat → Int32} {ml' : Nat → Nat → Int64} {k2 n2 : Nat} {CL2 : List Int32} {ML2 : List MKt} {lv2 : Nat → Nat} {j0 : Nat → Int32} {q0 : Nat → Nat → Int32} {j1 j2 : Nat → Int32} {q2 : Nat → Nat → Int32} {p2 : Nat → Nat → Int64} {mj : Nat → Int32} {mq : Nat → Nat → Int32} {mp : Nat → Nat → Int64} (hy : y < 120 → y / 2 < n) (h : ADV b N M O y k n CL ML lv r0 i2 r2 l2 mr ml k1 n1 CL1 ML1 lv1 i0' r0' i1' i2' r2' l2' mi' mr' ml') (g : ADV b N M O y k1 n1 CL1 ML1 lv1 r0' i2' r2' l2' mr' ml' k2 n2 CL2 ML2 lv2 j0 q0 j1 j2 q2 p2 mj mq mp) : ADV b N M O y k n CL ML lv r0 i2 r2 l2 mr ml k2 n2 CL2 ML2 lv2 j0 q0 j1 j2 q2 p2 mj mq mp := by
  obtain ⟨h1, h2, h3, ⟨X, hX⟩, ⟨Y, hY⟩, h6, h7, h8, h9, h10, h11, h12, h13, h14, h15, h16⟩ := h
  obtain ⟨g1, g2, g3, ⟨X2, gX⟩, ⟨Y2, gY⟩, g6, g7, g8, g9, g10, g11, g12, g13, g14, g15, g16⟩ := g
  have hn60 := h3.2.2.2.2.2.2.2.1
  have l1 : CL.length ≤ CL1.length := by rw [hX, List.length_append]; omega
  have l2' : CL1.length ≤ CL2.length := by rw [gX, List.length_append]; omega
  have m1 : ML.length ≤ ML1.length := by rw [hY, List.length_append]; omega
  have m2 : ML1.length ≤ ML2.length := by rw [gY, List.length_append]; omega
  refine ⟨by omega, by omega, g3, ⟨X ++ X2, by rw [gX, hX, List.append_assoc]⟩, ⟨Y ++ Y2, by rw [gY, hY, List.append_assoc]⟩, fun s s1 s2 => ?_, h7.tr g7 h2 l1 m1 (Or.inl rfl), fun s hs hq => ?_, fun s hs hq => g9 s (by omega) (h9 s hs hq), fun s hs => ⟨(g10 s (by omega)).1.trans (h10 s hs).1, (g10 s (by omega)).2.trans (h10 s hs).2⟩, fun j hj => (g11 j hj).trans (h11 j hj), fun z z1 z2 => ⟨(g12 z z1 z2).1.trans (h12 z z1 z2).1, (g12 z z1 z2).2.trans (h12 z z1 z2).2⟩, g13.trans h13, g14.trans h14, g15.trans h15, ?_⟩
  · by_cases e : s < n1
    · obtain ⟨a1, a2⟩ := h6 s s1 e
      refine ⟨a1.keep g7 e ?_ l2' m2, g9 s e a2⟩
      by_cases q : y < 120
      · have := hy q; omega
      · omega
    · exact g6 s (by omega) s2
  · obtain ⟨a1, a2⟩ := h8 s hs hq
    have hq2 : ¬ r2' 10 y = nI s := by
      rcases h16 with e | ⟨t, t1, t2, t3⟩
      · rw [e]; exact hq
      · rw [t3]
        intro z
        have := nI_inj (by omega) (by omega) z
        omega
    obtain ⟨b1, b2⟩ := g8 s (by omega) hq2
    exact ⟨b1.trans a1, b2.trans a2⟩
  · rcases g16 with e | ⟨t, t1, t2, t3⟩
    · rcases h16 with e2 | ⟨t, t1, t2, t3⟩
      · exact Or.inl (e.trans e2)
      · exact Or.inr ⟨t, t1, t2, e.trans t3⟩
    · exact Or.inr ⟨t, by omega, t2, t3⟩
theorem NDw.link {s c m : Nat} {r2 : Nat → Nat → Int32} {l2 : Nat → Nat → Int64} {mr mr' : Nat → Nat → Int32} {ml : Nat → Nat → Int64} (h : NDw 60 1000 s c m r2 l2 mr ml) (e : ∀ z, z ≠ 29 → z ≠ 30 → mr' z = mr z) (e30 : mr' 30 (60 + s) = mr 30 (60 + s)) : NDw 60 1000 s c m r2 l2 mr' ml := by
  unfold NDw DAT VR SM TT SG at h ⊢
  rw [e30, e 28 (by omega) (by omega), e 32 (by omega) (by omega), e 33 (by omega) (by omega), e 34 (by omega) (by omega), e 35 (by omega) (by omega), e 36 (by omega) (by omega), e 37 (by omega) (by omega), e 38 (by omega) (by omega), e 39 (by omega) (by omega), e 40 (by omega) (by omega), e 41 (by omega) (by omega)]
  exact h
theorem DAT.link {x s c m : Nat} {r2 : Nat → Nat → Int32} {l2 : Nat → Nat → Int64} {mr mr' : Nat → Nat → Int32} {ml : Nat → Nat → Int64} (h : DAT x 60 1000 s c m r2 l2 mr ml) (e : ∀ z, z ≠ 29 → z ≠ 30 → mr' z = mr z) : DAT x 60 1000 s c m r2 l2 mr' ml := by
  unfold DAT VR SM TT SG at h ⊢
  rw [e 32 (by omega) (by omega), e 33 (by omega) (by omega), e 34 (by omega) (by omega), e 35 (by omega) (by omega), e 36 (by omega) (by omega), e 37 (by omega) (by omega), e 38 (by omega) (by omega), e 39 (by omega) (by omega), e 40 (by omega) (by omega), e 41 (by omega) (by omega)]
  exact h
/-! the class's loop, by what stands at hand -/
theorem lp_fm {r1 : Nat → Nat → Int32} {l1 l2 : Nat → Nat → Int64} (n : Nat) {i0 : Nat → Int32} {r0 : Nat → Nat → Int32} {i1 i2 : Nat → Int32} {r2 : Nat → Nat → Int32} (h : FM i1) (x : Int32) : f_X6_readInto_36 (n + 1) i0 r0 i1 l1 r1 i2 l2 r2 x = some (0, i0, r0, i1, l1, r1, i2, l2, r2) := by
  have h147 : f_X6_readInto_147 i0 r0 i1 l1 r1 i2 l2 r2 = some (0, i0, r0, i1, l1, r1, i2, l2, r2) := by
    rw [f_X6_readInto_147, fm_failed h, bd_some, if_neg i01, f_X6_readInto_175, fm_failed h, bd_some, if_neg i01]
  have h131 : f_X6_readInto_131 i0 r0 i1 l1 r1 i2 l2 r2 = some (0, i0, r0, i1, l1, r1, i2, l2, r2) := by
    rw [f_X6_readInto_131]
    by_cases q : i0 4 = -1
    · rw [if_pos q, h147]
    · rw [if_neg q, fm_fail h, bd_some, h147]
  rw [f_X6_readInto_36]
  by_cases q : (900 : Int32) < x
  · rw [if_pos q, h131]
  · rw [if_neg q, f_X9_kind, bd_some, h.2.1, if_neg (by decide), fm_failed h, bd_some, if_neg i01, h131]
theorem lp_step {b : Nat → Nat} {N M k j y x : Nat} {r1 mr : Nat → Nat → Int32} {l1 l2 : Nat → Nat → Int64} (n : Nat) {i0 : Nat → Int32} {r0 : Nat → Nat → Int32} {i1 i2 : Nat → Int32} {r2 : Nat → Nat → Int32} (hX : CX b N M r1 l1 mr) (h : CA b N M k i1) (hx : x ≤ k) (h4 : i0 4 = nI y) (hy : y < 126) (hj : j < 8) (hk : kyC b N (tok b N k) = nI j) : f_X6_readInto_36 (n + 1) i0 r0 i1 l1 r1 i2 l2 r2 (nI x) = bd (f_X6_readStep i0 r0 i1 r1 l1 i2 r2 l2) (fun q27 => f_X6_readInto_36 n q27.1 q27.2.1 q27.2.2.1 l1 r1 q27.2.2.2.1 q27.2.2.2.2.1 q27.2.2.2.2.2 (nI (x + 1))) := by
  have hM := hX.2.1
  have hkM := h.1
  have hK : tkK b N (tok b N k) = 1 := Classical.byContradiction fun q => by
    rw [kyC, if_neg q] at hk
    exact nm1N (by omega) hk.symm
  have hn0 : ¬ i1 8 = 0 := fun z => by have := (kind_sm (x := 0) h (c := 0) (by omega) rfl).mp z; omega
  rw [f_X6_readInto_36, if_neg (show ¬ (900 : Int32) < nI x from nI_nlt (a := 900) (by omega) (by omega)), f_X9_kind, bd_some, if_neg hn0, ca_failed h, bd_some, if_pos rfl, h4, if_neg (nm1N (by omega)), f_X9_key, bd_some, h.2.2.2.2.1, hk, if_neg (nI_pos (by omega)), bd_some, if_neg (show ¬ (7 : Int32) < nI j from nI_nlt (a := 7) (by omega) (by omega))]
  simp only [f_X6_readInto_125, nI_1]
theorem lp_other {b : Nat → Nat} {N M k y x : Nat} {r1 mr : Nat → Nat → Int32} {l1 l2 : Nat → Nat → Int64} (n : Nat) {i0 : Nat → Int32} {r0 : Nat → Nat → Int32} {i1 i2 : Nat → Int32} {r2 : Nat → Nat → Int32} (hX : CX b N M r1 l1 mr) (h : CA b N M k i1) (hx : x ≤ k) (h4 : i0 4 = nI y) (hy : y < 126) (hk : ∀ j, j < 8 → ¬ kyC b N (tok b N k) = nI j) (h0 : ¬ tkK b N (tok b N k) = 0) : f_X6_readInto_36 (n + 1) i0 r0 i1 l1 r1 i2 l2 r2 (nI x) = f_X6_readInto_107 (f_X6_readInto_36 n) i0 r0 i1 l1 r1 i2 l2 r2 (nI x) := by
  have hM := hX.2.1
  have hkM := h.1
  have hn0 : ¬ i1 8 = 0 := fun z => h0 ((kind_sm (x := 0) h (c := 0) (by omega) rfl).mp z)
  rw [f_X6_readInto_36, if_neg (show ¬ (900 : Int32) < nI x from nI_nlt (a := 900) (by omega) (by omega)), f_X9_kind, bd_some, if_neg hn0, ca_failed h, bd_some, if_pos rfl, h4, if_neg (nm1N (by omega)), f_X9_key, bd_some, h.2.2.2.2.1]
  rcases kyC_range b N (tok b N k) with ⟨j, hj, e⟩ | e
  · have h8 : ¬ j < 8 := fun z => hk j z e
    rw [e, if_neg (nI_pos (by omega)), bd_some, if_pos (show (7 : Int32) < nI j from nI_lt (a := 7) (by omega) (by omega))]
  · rw [e, if_pos (by decide)]
theorem lp_end {b : Nat → Nat} {N M k y x : Nat} {r1 mr : Nat → Nat → Int32} {l1 l2 : Nat → Nat → Int64} (n : Nat) {i0 : Nat → Int32} {r0 : Nat → Nat → Int32} {i1 i2 : Nat → Int32} {r2 : Nat → Nat → Int32} {mi : Nat → Int32} (hX : CX b N M r1 l1 mr) (h : AT b N M k i1 mi) (hx : x ≤ k) (h4 : i0 4 = nI y) (hy : y < 126) (h0 : tkK b N (tok b N k) = 0) : ∃ i1', f_X6_readInto_36 (n + 1) i0 r0 i1 l1 r1 i2 l2 r2 (nI x) = some (0, i0, r0, i1', l1, r1, i2, l2, r2) ∧ FT i1' (upd (upd mi 8 1) 9 (mi 4)) := by
  have hM := hX.2.1
  have hkM := h.1.1
  obtain ⟨i', a1, a2⟩ := both_fail hX h (c := 1) i01
  refine ⟨i', ?_, a2⟩
  rw [f_X6_readInto_36, if_neg (show ¬ (900 : Int32) < nI x from nI_nlt (a := 900) (by omega) (by omega)), f_X9_kind, bd_some, if_pos ((kind_sm (x := 0) h.1 (c := 0) (by omega) rfl).mpr h0), f_X6_readInto_131, h4, if_neg (nm1N (by omega)), a1, bd_some, f_X6_readInto_147, fm_failed a2.1, bd_some, if_neg i01, f_X6_readInto_175, fm_failed a2.1, bd_some, if_neg i01]
/-- the reference hangs a STEP behind the last one of its body -/
def lnk (n : Nat) (xl : Int32) (mr : Nat → Nat → Int32) : Nat → Nat → Int32 := if xl = -1 then va_up (va_up mr 30 (upd (mr 30) (60 + n) xl)) 29 (upd (mr 29) (60 + n) (-1)) else va_up (va_up (va_up mr 30 (upd (mr 30) (60 + n) xl)) 29 (upd (mr 29) (60 + n) (-1))) 29 (upd (upd (mr 29) (60 + n) (-1)) xl.toNatClampNeg (nI (60 + n)))
theorem lnk_o {n : Nat} {xl : Int32} {mr : Nat → Nat → Int32} {z : Nat} (h29 : z ≠ 29) (h30 : z ≠ 30) : lnk n xl mr z = mr z := by
  unfold lnk
  split
  · rw [up_n h29, up_n h30]
  · rw [up_n h29, up_n h29, up_n h30]
theorem lnk_30 {n : Nat} {xl : Int32} {mr : Nat → Nat → Int32} : lnk n xl mr 30 = upd (mr 30) (60 + n) xl := by
  unfold lnk
  split
  · rw [up_n (by omega), up_s]
  · rw [up_n (by omega), up_n (by omega), up_s]
theorem lnk_29 {n : Nat} {xl : Int32} {mr : Nat → Nat → Int32} : lnk n xl mr 29 = if xl = -1 then upd (mr 29) (60 + n) (-1) else upd (upd (mr 29) (60 + n) (-1)) xl.toNatClampNeg (nI (60 + n)) := by
  unfold lnk
  split
  · rw [up_s]
  · rw [up_s]
/-- behind a STEP: the reference's loop -/
theorem body_after {n : Nat} {F : (Nat → Int32) → (Nat → Nat → Int32) → (Nat → Nat → Int64) → Option (((Nat → Int32) × (Nat → Nat → Int64) × (Nat → Nat → Int32)) ⊕ ((Nat → Int32) × (Nat → Nat → Int64) × (Nat → Nat → Int32)))} {fv : Nat} {mi : Nat → Int32} {mr : Nat → Nat → Int32} {ml : Nat → Nat → Int64} {xf xl : Int32} (hn : n < 60) {xo : Int32} (hxl : PT 60 xo xl) : ck (inb (nI (60 + n)) 120) (ck (inb (nI (60 + n)) 120) (f_X13_readBody_31 F (f_X13_readBody_4 F fv) mi ml (va_up (va_up mr 30 (upd (mr 30) (nI (60 + n)).toNatClampNeg xl)) 29 (upd (mr 29) (nI (60 + n)).toNatClampNeg (-1))) xf xl (nI (60 + n)))) = bt (f_X13_sign mi (lnk n xl mr) ml 59) (fun q4 => f_X13_readBody_4 F fv q4 ml (lnk n xl mr) (if xl = -1 then nI (60 + n) else xf) (nI (60 + n))) (fun t4 => some (.inr (t4, ml, lnk n xl mr))) := by
  have hin := inb_nI (n := 60 + n) (N := 120) (by omega) (by omega)
  rw [ck_t hin, ck_t hin, nI_clamp (show 60 + n < 2 ^ 31 by omega), f_X13_readBody_31]
  unfold lnk
  rcases hxl with ⟨-, e⟩ | ⟨t, t1, -, t3⟩
  · rw [if_pos e, if_pos e, if_pos e, f_X13_readBody_48]
  · have hne : ¬ xl = -1 := by rw [t3]; exact nm1N (by omega)
    have hi2 : inb xl 120 = true := by rw [t3]; exact inb_nI (by omega) (by omega)
    rw [if_neg hne, if_neg hne, if_neg hne, ck_t hi2, f_X13_readBody_48, up_s]
