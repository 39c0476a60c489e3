/-! ===== run: STEPS without bodies ===== -/
theorem kn {x k : Nat} (hx : x < 8) (hk : k < 8) (h : x ≠ k) : ¬ nI x = nI k := fun q => h (nI_inj (by omega) (by omega) q)
theorem RS.cnt {m0 : Nat → Nat → Int32} {c cd dr : Nat} {i : Nat → Int32} {r : Nat → Nat → Int32} {mi : Nat → Int32} {mr : Nat → Nat → Int32} (h : RS m0 c cd dr i r mi mr) (c' : Nat) : RS m0 c' cd dr (upd i 11 (nI c')) r (upd mi 62 (nI c')) mr := by
  obtain ⟨⟨h6, h63⟩, ⟨h9, h10⟩, ⟨h11, h62⟩, ⟨h12, h61⟩, hV, hM⟩ := h
  exact ⟨⟨by rw [pk_un (by omega)]; exact h6, by rw [pk_un (by omega)]; exact h63⟩, ⟨by rw [pk_un (by omega)]; exact h9, by rw [pk_un (by omega)]; exact h10⟩, ⟨pk_us, pk_us⟩, ⟨by rw [pk_un (by omega)]; exact h12, by rw [pk_un (by omega)]; exact h61⟩, hV, hM⟩
theorem RS.pos {m0 : Nat → Nat → Int32} {c cd dr : Nat} {i : Nat → Int32} {r : Nat → Nat → Int32} {mi : Nat → Int32} {mr : Nat → Nat → Int32} (h : RS m0 c cd dr i r mi mr) (a b : Int32) : RS m0 c cd dr (upd (upd i 8 a) 7 b) r mi mr := by
  obtain ⟨⟨h6, h63⟩, ⟨h9, h10⟩, ⟨h11, h62⟩, ⟨h12, h61⟩, hV, hM⟩ := h
  have g : ∀ z, z ≠ 7 → z ≠ 8 → upd (upd i 8 a) 7 b z = i z := fun z z1 z2 => by rw [pk_un z1, pk_un z2]
  exact ⟨⟨by rw [g 6 (by omega) (by omega)]; exact h6, h63⟩, ⟨by rw [g 9 (by omega) (by omega)]; exact h9, by rw [g 10 (by omega) (by omega)]; exact h10⟩, ⟨by rw [g 11 (by omega) (by omega)]; exact h11, h62⟩, ⟨by rw [g 12 (by omega) (by omega)]; exact h12, h61⟩, hV, hM⟩
theorem RS.val {m0 : Nat → Nat → Int32} {c cd dr : Nat} {i : Nat → Int32} {r r' : Nat → Nat → Int32} {mi : Nat → Int32} {mr mr' : Nat → Nat → Int32} (h : RS m0 c cd dr i r mi mr) (hV : RV r' mr') (hm : ∀ z, z ≠ 58 → z ≠ 60 → mr' z = mr z) : RS m0 c cd dr i r' mi mr' := ⟨h.1, h.2.1, h.2.2.1, h.2.2.2.1, hV, fun z hz => by rw [hm z (by omega) (by omega)]; exact h.2.2.2.2.2 z hz⟩
/-- the class begins a STEP that it counts -/
theorem bs_open {i2 : Nat → Int32} {r2 : Nat → Nat → Int32} {l2 : Nat → Nat → Int64} {s c x : Nat} (hs : s < 60) (hc : c < 5000) (k0 : r2 0 s = nI x) {i : Nat → Int32} {r : Nat → Nat → Int32} (h11 : i 11 = nI c) (h12 : i 12 = 0) : ∃ j, j = upd i 11 (nI (c + 1)) ∧ f_X4_beginStep i r i2 r2 l2 (nI s) = if nI x = 3 then (bd (f_X5_leftOf i2 r2 l2 (nI s)) (fun q21 => bd (f_X4_placeOf j r q21) (fun q22 => bd (f_X5_rightOf i2 r2 l2 (nI s)) (fun q23 => bd (f_X4_placeOf q22.2 r q23) (fun q24 => bd (f_X4_swapValues q24.2 r q22.1 q24.1) (fun q25 => bd (f_X4_goBehind q24.2 q25 i2 r2 l2 (nI s)) (fun q26 => some (q26, q25)))))))) else (if nI x = 4 then (bd (f_X4_holds j r i2 r2 l2 (nI s) 1) (fun q27 => if q27.1 = 0 then (f_X4_beginStep_74 i2 r2 l2 q27.2.1 q27.2.2 1 (2 * nI s)) else (f_X4_beginStep_74 i2 r2 l2 q27.2.1 q27.2.2 0 (2 * nI s)))) else (if nI x = 5 then (bd (f_X4_holds j r i2 r2 l2 (nI s) 1) (fun q28 => if q28.1 = 0 then (bd (f_X4_meet q28.2.1 q28.2.2 1) (fun q29 => f_X4_beginStep_95 i2 r2 l2 q29 q28.2.2 (nI s))) else (f_X4_beginStep_95 i2 r2 l2 q28.2.1 q28.2.2 (nI s)))) else (if nI x = 6 then (bd (f_X4_beginCall j r i2 r2 l2 (nI s)) (fun q30 => some (q30.1, q30.2))) else (if nI x = 7 then (bd (f_X4_beginCall j r i2 r2 l2 (nI s)) (fun q31 => some (q31.1, q31.2))) else (bd (f_X4_change j r i2 r2 l2 (nI s)) (fun q32 => bd (f_X4_goBehind q32.1 q32.2 i2 r2 l2 (nI s)) (fun q33 => some (q33, q32.2)))))))) := by
  refine ⟨_, rfl, ?_⟩
  rw [f_X4_beginStep, count1_ok hc h11, bd_some, if_pos (by rw [pk_un (by omega)]; exact h12), f_X5_kindOf, ck_t (inb_nI hs (by omega)), bd_some, nI_clamp (by omega), k0]
/-- the reference does -/
theorem gs_open {F : (Nat → Int32) → (Nat → Nat → Int32) → (Nat → Nat → Int64) → Int32 → Int32 → Int32 → Option ((Nat → Int32) × (Nat → Nat → Int32))} {ml : Nat → Nat → Int64} {s c x : Nat} {dr : Int32} (hs : s < 60) (hc : c < 5000) {mi : Nat → Int32} {mr : Nat → Nat → Int32} (k28 : mr 28 s = nI x) (h62 : mi 62 = nI c) (h61 : mi 61 = 0) : ∃ mj, mj = upd mi 62 (nI (c + 1)) ∧ f_X13_goStep F mi mr ml (nI s) dr = if nI x = 4 then (bd (f_X13_goIf F mj mr ml (nI s) dr) (fun q9 => some (q9.1, q9.2))) else (if nI x = 5 then (bd (f_X13_goFrom F mj mr ml (nI s) dr) (fun q10 => some (q10.1, q10.2))) else (if nI x = 6 then (bd (f_X13_goCall F mj mr ml (nI s) dr) (fun q11 => some (q11.1, q11.2))) else (if nI x = 7 then (if dr = 0 then (f_X13_goStep_82 F ml mj mr 1 (nI s)) else (f_X13_goStep_82 F ml mj mr 0 (nI s))) else (bd (f_X13_change mj mr ml (nI s) dr) (fun q12 => some (q12.1, q12.2)))))) := by
  refine ⟨_, rfl, ?_⟩
  rw [f_X13_goStep, counts_ok hc h62 h61, bd_some, if_neg n10, ck_t (inb_nI (by omega) (by omega)), nI_clamp (by omega), k28]
theorem step_full {i2 : Nat → Int32} {r2 : Nat → Nat → Int32} {l2 ml : Nat → Nat → Int64} {m0 : Nat → Nat → Int32} {s d cd dr y x : Nat} (hs : s < 60) {i : Nat → Int32} {r : Nat → Nat → Int32} {mi : Nat → Int32} {mr : Nat → Nat → Int32} (hR : RS m0 5000 cd dr i r mi mr) (h7 : i 7 = nI s) (hx : x ≤ 2 * 5000) : StepR i2 r2 l2 ml m0 s d 5000 cd dr y x i r mi mr := by
  obtain ⟨⟨h6, h63⟩, ⟨h9, h10⟩, ⟨h11, h62⟩, ⟨h12, h61⟩, hV, hM⟩ := hR
  right
  obtain ⟨r', a1, a2⟩ := Lp_bad (i2 := i2) (r2 := r2) (l2 := l2) (x := x + 1) (by omega) (i := upd (upd i 11 (nI 5001)) 12 3) (r := r) (by rw [pk_us]; decide)
  refine ⟨upd (upd i 11 (nI 5001)) 12 3, r', upd (upd mi 62 (nI 5001)) 61 3, mr, 3, ?_, ?_, by omega, by omega, pk_us, pk_us, by rw [pk_un (by omega), pk_us, pk_un (by omega), pk_us], a2, rfl⟩
  · rw [Lp_step (by omega) hs h10 h12 h7, f_X4_beginStep, count1_bad h11 h12, bd_some, if_neg (by rw [pk_us]; decide), bd_some]
    exact a1
  · rw [f_X13_goStep, counts_bad h62, bd_some, if_pos rfl]
theorem step_simple {n P : Nat} {i2 : Nat → Int32} {r2 : Nat → Nat → Int32} {l2 ml : Nat → Nat → Int64} {m0 : Nat → Nat → Int32} {s d c cd dr y x k : Nat} (hs : s < 60) (hk : k < 4) (k0 : r2 0 s = nI k) (k28 : m0 28 s = nI k) (hD : DA k s P r2 m0) (hy : r2 1 s = nI y) (hc : c < 5000) (hd : dr ≤ 1) (hx : x ≤ 2 * c) {i : Nat → Int32} {r : Nat → Nat → Int32} {mi : Nat → Int32} {mr : Nat → Nat → Int32} (hR : RS m0 c cd dr i r mi mr) (h7 : i 7 = nI s) : StepR i2 r2 l2 ml m0 s d c cd dr y x i r mi mr := by
  obtain ⟨⟨h6, h63⟩, ⟨h9, h10⟩, ⟨h11, h62⟩, ⟨h12, h61⟩, hV, hM⟩ := id hR
  obtain ⟨j, ej, hC⟩ := bs_open (i2 := i2) (l2 := l2) (r := r) hs hc k0 h11 h12
  obtain ⟨mj, em, hB⟩ := gs_open (F := f_X13_goBody d) (ml := ml) (dr := nI dr) (mr := mr) hs hc (by rw [hM 28 (by omega)]; exact k28) h62 h61
  have hR1 : RS m0 (c + 1) cd dr j r mj mr := by rw [ej, em]; exact hR.cnt (c + 1)
  obtain ⟨⟨g6, g63⟩, ⟨g9, g10⟩, ⟨g11, g62⟩, ⟨g12, g61⟩, _, _⟩ := id hR1
  rw [if_neg (show ¬ nI k = (4 : Int32) from kn (k := 4) (by omega) (by omega) (by omega)), if_neg (show ¬ nI k = (5 : Int32) from kn (k := 5) (by omega) (by omega) (by omega)), if_neg (show ¬ nI k = (6 : Int32) from kn (k := 6) (by omega) (by omega) (by omega)), if_neg (show ¬ nI k = (7 : Int32) from kn (k := 7) (by omega) (by omega) (by omega))] at hB
  have hL := Lp_step (i2 := i2) (r2 := r2) (l2 := l2) (x := x) (by omega) hs (r := r) h10 h12 h7
  -- what both have after the change
  have good : ∀ r' mr', f_X4_beginStep i r i2 r2 l2 (nI s) = bd (f_X4_goBehind j r' i2 r2 l2 (nI s)) (fun q33 => some (q33, r')) → f_X13_change mj mr ml (nI s) (nI dr) = some (mj, mr') → RV r' mr' → (∀ z, z ≠ 0 → z ≠ 2 → r' z = r z) → (∀ z, z ≠ 58 → z ≠ 60 → mr' z = mr z) → StepR i2 r2 l2 ml m0 s d c cd dr y x i r mi mr := by
    intro r' mr' e1 e2 e3 e4 e5
    left
    refine ⟨c + 1, x + 1, upd (upd j 8 (nI y)) 7 (nx r2 s dr), r', mj, mr', by omega, by omega, by omega, ?_, ?_, (hR1.val e3 e5).pos _ _, pk_us, by rw [pk_un (by omega), pk_us], FRc.of e4, e5 59 (by omega) (by omega)⟩
    · rw [hL, e1, behind_ok hs hd hy g9, bd_some, bd_some]
    · rw [hB, e2, bd_some]
  have bad : ∀ r' mr', f_X4_beginStep i r i2 r2 l2 (nI s) = bd (f_X4_goBehind (upd j 12 2) r' i2 r2 l2 (nI s)) (fun q33 => some (q33, r')) → f_X13_change mj mr ml (nI s) (nI dr) = some (upd mj 61 2, mr') → (∀ z, z ≠ 0 → z ≠ 2 → r' z = r z) → (∀ z, z ≠ 58 → z ≠ 60 → mr' z = mr z) → StepR i2 r2 l2 ml m0 s d c cd dr y x i r mi mr := by
    intro r' mr' e1 e2 e4 e5
    right
    obtain ⟨a, b, e6⟩ := behind_tot (i2 := i2) (r2 := r2) (l2 := l2) hs (upd j 12 2) r'
    obtain ⟨r'', a1, a2⟩ := Lp_bad (i2 := i2) (r2 := r2) (l2 := l2) (x := x + 1) (by omega) (i := upd (upd (upd j 12 2) 8 a) 7 b) (r := r') (by rw [pk_un (by omega), pk_un (by omega), pk_us]; decide)
    refine ⟨upd (upd (upd j 12 2) 8 a) 7 b, r'', upd mj 61 2, mr', 2, ?_, ?_, by omega, by omega, by rw [pk_un (by omega), pk_un (by omega), pk_us]; rfl, by rw [pk_us]; rfl, by rw [pk_un (by omega), pk_un (by omega), pk_un (by omega), pk_un (by omega), g11, g62], fun z hz => by rw [a2 z hz, e4 1 (by omega) (by omega)], e5 59 (by omega) (by omega)⟩
    · rw [hL, e1, e6, bd_some, bd_some]
      exact a1
    · rw [hB, e2, bd_some]
  by_cases q : k = 3
  · subst q
    rw [if_pos (show nI 3 = (3 : Int32) from rfl)] at hC
    obtain ⟨v1, v2⟩ := hD.2.1 rfl
    rcases swap_ok (i2 := i2) (l2 := l2) (ml := ml) (dr := nI dr) (i := j) (mi := mj) hs k28 v1 v2 hM hV g12 with ⟨r', mr', a1, a2, a3, a4, a5⟩ | ⟨r', mr', a1, a2, a4, a5⟩
    · exact good r' mr' (hC.trans (a1 (fun a b => bd (f_X4_goBehind a b i2 r2 l2 (nI s)) (fun q26 => some (q26, b))))) a2 a3 (fun z z1 _ => a4 z z1) (fun z z1 _ => a5 z z1)
    · exact bad r' mr' (hC.trans (a1 (fun a b => bd (f_X4_goBehind a b i2 r2 l2 (nI s)) (fun q26 => some (q26, b))))) a2 (fun z z1 _ => a4 z z1) (fun z z1 _ => a5 z z1)
  · rw [if_neg (show ¬ nI k = (3 : Int32) from kn (k := 3) (by omega) (by omega) (by omega)), if_neg (show ¬ nI k = (4 : Int32) from kn (k := 4) (by omega) (by omega) (by omega)), if_neg (show ¬ nI k = (5 : Int32) from kn (k := 5) (by omega) (by omega) (by omega)), if_neg (show ¬ nI k = (6 : Int32) from kn (k := 6) (by omega) (by omega) (by omega)), if_neg (show ¬ nI k = (7 : Int32) from kn (k := 7) (by omega) (by omega) (by omega))] at hC
    obtain ⟨v1, v2⟩ := hD.1 (by omega)
    rcases change_ok (i2 := i2) (l2 := l2) (ml := ml) (dr := nI dr) (i := j) (mi := mj) hs (show k < 3 by omega) k0 k28 v1 v2 hM hV g12 g9 g61 with ⟨r', mr', a1, a2, a3, a4, a5⟩ | ⟨r', mr', a1, a2, a4, a5⟩
    · exact good r' mr' (by rw [hC, a1, bd_some]) a2 a3 a4 a5
    · exact bad r' mr' (by rw [hC, a1, bd_some]) a2 a4 a5
theorem gb_open {ml : Nat → Nat → Int64} {d dr : Nat} (hd : dr ≤ 1) (mi : Nat → Int32) (mr : Nat → Nat → Int32) (a b : Int32) : f_X13_goBody (d + 1) mi mr ml a b (nI dr) = f_X13_goBody_11 (f_X13_goBody d) ml 2000000 mi mr (nI dr) (if dr = 0 then a else b) := by
  rw [f_X13_goBody, f_X13_goBody_e, f_X13_goBody_9, f_X13_goBody_9]
  rcases (show dr = 0 ∨ dr = 1 by omega) with rfl | rfl
  · rw [if_pos (show nI 0 = (0 : Int32) from rfl), if_pos rfl]
  · rw [if_neg (show ¬ nI 1 = (0 : Int32) by decide), if_neg (show ¬ (1 : Nat) = 0 by omega)]
