/-! ===== run: STEPS that change values ===== -/
theorem RV.put {r mr : Nat → Nat → Int32} (h : RV r mr) {m : Nat} (hm : m < 18) (y : Int32) {r' mr' : Nat → Nat → Int32} (h1 : r' 0 = upd (r 0) (cv m) y) (h2 : mr' 58 = upd (mr 58) m y) : RV r' mr' := by
  intro k hk
  rw [h1, h2]
  by_cases e : k = m
  · subst e; rw [pk_us, pk_us]
  · rw [pk_un (fun q => e (cv_inj q)), pk_un e]
    exact h k hk
/-- the class's change with a place that it holds -/
def chC (i2 : Nat → Int32) (r2 : Nat → Nat → Int32) (l2 : Nat → Nat → Int64) (p x : Nat) (v : Int32) (i : Nat → Int32) (r : Nat → Nat → Int32) : Option ((Nat → Int32) × (Nat → Nat → Int32)) := if nI x = 2 then (ck (inb (nI p) 20) (ck (inb (nI p) 20) (some (i, (va_up r 0 (upd (r 0) (nI p).toNatClampNeg ((r 0 (nI p).toNatClampNeg) ^^^ v))))))) else (if nI x = 0 then (f_X4_change_75 i2 r2 l2 i r (nI p) v 1) else (f_X4_change_75 i2 r2 l2 i r (nI p) v 0))
/-- the value that a change leaves -/
def chV (x : Nat) (dr : Int32) (a v : Int32) : Int32 := if x = 2 then a ^^^ v else if (if x = 0 then 1 else 0 : Int32) = dr then a - v else a + v
theorem chC_ok {i2 : Nat → Int32} {r2 : Nat → Nat → Int32} {l2 : Nat → Nat → Int64} {p x : Nat} (hp : p < 20) (hx : x < 3) (v : Int32) (i : Nat → Int32) (r : Nat → Nat → Int32) : chC i2 r2 l2 p x v i r = some (i, va_up r 0 (upd (r 0) p (chV x (i 9) (r 0 p) v))) := by
  have i1 := inb_nI (n := p) (N := 20) hp (by omega)
  have c1 : (nI p).toNatClampNeg = p := nI_clamp (by omega)
  have h75 : ∀ y : Int32, f_X4_change_75 i2 r2 l2 i r (nI p) v y = some (i, va_up r 0 (upd (r 0) p (if y = i 9 then r 0 p - v else r 0 p + v))) := fun y => by
    rw [f_X4_change_75, ck_t i1, ck_t i1, ck_t i1, ck_t i1, c1]
    by_cases q : y = i 9
    · rw [if_pos q, if_pos q]
    · rw [if_neg q, if_neg q]
  rw [chC, h75, h75, ck_t i1, ck_t i1, c1, chV]
  rcases (show x = 0 ∨ x = 1 ∨ x = 2 by omega) with rfl | rfl | rfl
  · rw [if_neg (show ¬ nI 0 = (2 : Int32) by decide), if_pos (show nI 0 = (0 : Int32) from rfl), if_neg (show ¬ (0 : Nat) = 2 by omega), if_pos (show (0 : Nat) = 0 from rfl)]
  · rw [if_neg (show ¬ nI 1 = (2 : Int32) by decide), if_neg (show ¬ nI 1 = (0 : Int32) by decide), if_neg (show ¬ (1 : Nat) = 2 by omega), if_neg (show ¬ (1 : Nat) = 0 by omega)]
  · rw [if_pos (show nI 2 = (2 : Int32) from rfl), if_pos (show (2 : Nat) = 2 from rfl)]
theorem chM_ok {ml : Nat → Nat → Int64} {p x : Nat} (hp : p < 18) (hx : x < 3) (v dr : Int32) (mi : Nat → Int32) (mr : Nat → Nat → Int32) : (if nI x = 2 then (ck (inb (nI p) 18) (ck (inb (nI p) 18) (some (mi, (va_up mr 58 (upd (mr 58) (nI p).toNatClampNeg ((mr 58 (nI p).toNatClampNeg) ^^^ v))))))) else (if nI x = 0 then (f_X13_change_152 ml mi mr dr (nI p) v 1) else (f_X13_change_152 ml mi mr dr (nI p) v 0))) = some (mi, va_up mr 58 (upd (mr 58) p (chV x dr (mr 58 p) v))) := by
  have i1 := inb_nI (n := p) (N := 18) hp (by omega)
  have c1 : (nI p).toNatClampNeg = p := nI_clamp (by omega)
  have h75 : ∀ y : Int32, f_X13_change_152 ml mi mr dr (nI p) v y = some (mi, va_up mr 58 (upd (mr 58) p (if y = dr then mr 58 p - v else mr 58 p + v))) := fun y => by
    rw [f_X13_change_152, ck_t i1, ck_t i1, ck_t i1, ck_t i1, c1]
    by_cases q : y = dr
    · rw [if_pos q, if_pos q]
    · rw [if_neg q, if_neg q]
  rw [h75, h75, ck_t i1, ck_t i1, c1, chV]
  rcases (show x = 0 ∨ x = 1 ∨ x = 2 by omega) with rfl | rfl | rfl
  · rw [if_neg (show ¬ nI 0 = (2 : Int32) by decide), if_pos (show nI 0 = (0 : Int32) from rfl), if_neg (show ¬ (0 : Nat) = 2 by omega), if_pos (show (0 : Nat) = 0 from rfl)]
  · rw [if_neg (show ¬ nI 1 = (2 : Int32) by decide), if_neg (show ¬ nI 1 = (0 : Int32) by decide), if_neg (show ¬ (1 : Nat) = 2 by omega), if_neg (show ¬ (1 : Nat) = 0 by omega)]
  · rw [if_pos (show nI 2 = (2 : Int32) from rfl), if_pos (show (2 : Nat) = 2 from rfl)]
theorem change_ok {i2 : Nat → Int32} {r2 : Nat → Nat → Int32} {l2 ml : Nat → Nat → Int64} {m0 : Nat → Nat → Int32} {s x : Nat} {dr : Int32} (hs : s < 60) (hx : x < 3) (k0 : r2 0 s = nI x) (k28 : m0 28 s = nI x) (hR : VR 0 s 0 r2 m0) (hS : SM 0 0 s 900 900 r2 m0) {i : Nat → Int32} {r : Nat → Nat → Int32} {mi : Nat → Int32} {mr : Nat → Nat → Int32} (hM : ∀ z, z < 44 → mr z = m0 z) (hV : RV r mr) (hi : i 12 = 0) (h9 : i 9 = dr) (hmi : mi 61 = 0) :
  (∃ r' mr', f_X4_change i r i2 r2 l2 (nI s) = some (i, r') ∧ f_X13_change mi mr ml (nI s) dr = some (mi, mr') ∧ RV r' mr' ∧ (∀ z, z ≠ 0 → z ≠ 2 → r' z = r z) ∧ ∀ z, z ≠ 58 → z ≠ 60 → mr' z = mr z) ∨
  (∃ r' mr', f_X4_change i r i2 r2 l2 (nI s) = some (upd i 12 2, r') ∧ f_X13_change mi mr ml (nI s) dr = some (upd mi 61 2, mr') ∧ (∀ z, z ≠ 0 → z ≠ 2 → r' z = r z) ∧ ∀ z, z ≠ 58 → z ≠ 60 → mr' z = mr z) := by
  obtain ⟨v, a, ov, e1, e2, e3⟩ := hR
  rw [Nat.zero_add, Nat.add_zero] at e2 e3
  have e1' : r2 4 s = nI (vc v a) := e1
  have t1 : (2 : Int32) * nI s = nI (2 * s) := pk_mul (a := 2) ..
  have t4 : (4 : Int32) * nI s = nI (4 * s) := pk_mul (a := 4) ..
  have t0 : (2 : Int32) * nI s + 0 = nI (2 * s) := mul2 s 0
  have cs : (nI s).toNatClampNeg = s := nI_clamp (by omega)
  have c2 : (nI (2 * s)).toNatClampNeg = 2 * s := nI_clamp (by omega)
  have hC : f_X4_change i r i2 r2 l2 (nI s) = bd (f_X4_placeOf i r (nI (vc v a))) (fun q8 => bd (f_X4_reckon q8.2 r i2 r2 l2 (r2 7 (2 * s)) (r2 8 (2 * s))) (fun q11 => if nI x = 2 then (ck (inb q8.1 20) (ck (inb q8.1 20) (some (q11.2.1, (va_up q11.2.2 0 (upd (q11.2.2 0) q8.1.toNatClampNeg ((q11.2.2 0 q8.1.toNatClampNeg) ^^^ q11.1))))))) else (if nI x = 0 then (f_X4_change_75 i2 r2 l2 q11.2.1 q11.2.2 q8.1 q11.1 1) else (f_X4_change_75 i2 r2 l2 q11.2.1 q11.2.2 q8.1 q11.1 0)))) := by
    rw [f_X4_change, f_X5_leftOf, ck_t (inb_nI hs (by omega)), cs, e1', bd_some]
    simp only [f_X5_beginOf, f_X5_endOf, f_X5_kindOf, t0, ck_t (inb_nI (n := 2 * s) (N := 120) (by omega) (by omega)), ck_t (inb_nI (n := s) (N := 60) hs (by omega)), bd_some, cs, c2, k0]
  have hB : f_X13_change mi mr ml (nI s) dr = bd (f_X13_placeOf mi mr ml (nI v) (nI a)) (fun q4 => if q4.1 = (-1) then (some (q4.2, mr)) else (bd (f_X13_sumOf q4.2 mr ml (nI (4 * s))) (fun q5 => if (q5.2.1 61) ≤ 0 then (if nI x = 2 then (ck (inb q4.1 18) (ck (inb q4.1 18) (some (q5.2.1, (va_up q5.2.2 58 (upd (q5.2.2 58) q4.1.toNatClampNeg ((q5.2.2 58 q4.1.toNatClampNeg) ^^^ q5.1))))))) else (if nI x = 0 then (f_X13_change_152 ml q5.2.1 q5.2.2 dr q4.1 q5.1 1) else (f_X13_change_152 ml q5.2.1 q5.2.2 dr q4.1 q5.1 0))) else (some (q5.2.1, q5.2.2))))) := by
    have n3 : ¬ nI x = (3 : Int32) := fun q => by
      have := nI_inj (a := x) (b := 3) (by omega) (by omega) q
      omega
    rw [f_X13_change, t1, ck_t (inb_nI (by omega) (by omega)), ck_t (inb_nI (by omega) (by omega)), c2, hM 32 (by omega), hM 33 (by omega), e2, e3]
    simp only [ck_t (inb_nI (n := s) (N := 120) (by omega) (by omega)), cs, hM 28 (by omega), k28, if_neg n3, t4]
  rcases rplace_ok (i := i) (mi := mi) (ml := ml) ov hV with ⟨m, m1, m2, m3⟩ | ⟨m2, m3⟩
  · have hcv := cv_lt m1
    rw [hC, hB, m2, m3, bd_some, bd_some]
    dsimp only
    rw [if_neg (nm1N (show m < 2 ^ 31 by omega))]
    rcases sum_ok (i2 := i2) (l2 := l2) (ml := ml) (mi := mi) hs hS hM hV hi with ⟨w, r', mr', a1, a2, a5, a6⟩ | ⟨w, r', mr', a1, a2, a5, a6⟩
    · left
      rw [a1, a2, bd_some, bd_some]
      dsimp only
      rw [if_pos (show mi 61 ≤ (0 : Int32) by rw [hmi]; decide), chM_ok m1 hx]
      have hc := chC_ok (i2 := i2) (r2 := r2) (l2 := l2) hcv hx w i r'
      rw [chC] at hc
      rw [hc]
      refine ⟨_, _, rfl, rfl, RV.put (r := r') (mr := mr') (fun k hk => by rw [a5 0 (by omega), a6 58 (by omega)]; exact hV k hk) m1 (chV x dr (mr' 58 m) w) ?_ ?_, fun z z1 z2 => by rw [up_n z1, a5 z z2], fun z z1 z2 => by rw [up_n z1, a6 z z2]⟩
      · rw [up_s, h9, a5 0 (by omega), a6 58 (by omega), hV m m1]
      · rw [up_s]
    · right
      rw [a1, a2, bd_some, bd_some]
      dsimp only
      rw [if_neg (show ¬ (upd mi 61 2) 61 ≤ (0 : Int32) by rw [pk_us]; decide)]
      have hc := chC_ok (i2 := i2) (r2 := r2) (l2 := l2) hcv hx w (upd i 12 2) r'
      rw [chC] at hc
      rw [hc]
      exact ⟨_, _, rfl, rfl, fun z z1 z2 => by rw [up_n z1, a5 z z2], fun z z1 z2 => a6 z z2⟩
  · right
    rw [hC, hB, m2, m3, meet_f hi, bd_some, bd_some, bd_some]
    dsimp only
    rw [if_pos rfl]
    obtain ⟨c0, n0, L, g1, g2, g3, g4, g5, g6, g7, hO, hp, hA⟩ := hS
    obtain ⟨w, r', a1, a2⟩ := reck_tot (i2 := i2) (r2 := r2) (l2 := l2) (e := c0 + L.length) (by omega) L.length c0 0 2000000 (upd i 12 2) r (by omega) (by omega) (by omega) (g5.ct hO) (by rw [pk_us]; decide)
    have a1' : f_X4_reckon (upd i 12 2) r i2 r2 l2 (r2 7 (2 * s)) (r2 8 (2 * s)) = some (w, upd i 12 2, r') := by rw [f_X4_reckon, g3, g4]; exact a1
    rw [a1', bd_some]
    dsimp only
    have hc := chC_ok (i2 := i2) (r2 := r2) (l2 := l2) (p := 10) (by omega) hx w (upd i 12 2) r'
    rw [chC] at hc
    refine ⟨_, mr, hc, rfl, fun z z1 z2 => by rw [up_n z1, a2 z z2], fun _ _ _ => rfl⟩
theorem swap_ok {i2 : Nat → Int32} {r2 : Nat → Nat → Int32} {l2 ml : Nat → Nat → Int64} {m0 : Nat → Nat → Int32} {s : Nat} {dr : Int32} (hs : s < 60) (k28 : m0 28 s = nI 3) (hR : VR 0 s 0 r2 m0) (hS : VR 0 s 1 r2 m0) {i : Nat → Int32} {r : Nat → Nat → Int32} {mi : Nat → Int32} {mr : Nat → Nat → Int32} (hM : ∀ z, z < 44 → mr z = m0 z) (hV : RV r mr) (hi : i 12 = 0) :
  (∃ r' mr', (∀ K : (Nat → Int32) → (Nat → Nat → Int32) → Option ((Nat → Int32) × (Nat → Nat → Int32)), bd (f_X5_leftOf i2 r2 l2 (nI s)) (fun q21 => bd (f_X4_placeOf i r q21) (fun q22 => bd (f_X5_rightOf i2 r2 l2 (nI s)) (fun q23 => bd (f_X4_placeOf q22.2 r q23) (fun q24 => bd (f_X4_swapValues q24.2 r q22.1 q24.1) (fun q25 => K q24.2 q25))))) = K i r') ∧ f_X13_change mi mr ml (nI s) dr = some (mi, mr') ∧ RV r' mr' ∧ (∀ z, z ≠ 0 → r' z = r z) ∧ ∀ z, z ≠ 58 → mr' z = mr z) ∨
  (∃ r' mr', (∀ K : (Nat → Int32) → (Nat → Nat → Int32) → Option ((Nat → Int32) × (Nat → Nat → Int32)), bd (f_X5_leftOf i2 r2 l2 (nI s)) (fun q21 => bd (f_X4_placeOf i r q21) (fun q22 => bd (f_X5_rightOf i2 r2 l2 (nI s)) (fun q23 => bd (f_X4_placeOf q22.2 r q23) (fun q24 => bd (f_X4_swapValues q24.2 r q22.1 q24.1) (fun q25 => K q24.2 q25))))) = K (upd i 12 2) r') ∧ f_X13_change mi mr ml (nI s) dr = some (upd mi 61 2, mr') ∧ (∀ z, z ≠ 0 → r' z = r z) ∧ ∀ z, z ≠ 58 → mr' z = mr z) := by
  obtain ⟨v, a, ov, e1, e2, e3⟩ := hR
  obtain ⟨v', a', ov', f1, f2, f3⟩ := hS
  rw [Nat.zero_add, Nat.add_zero] at e2 e3
  rw [Nat.zero_add] at f2 f3
  have e1' : r2 4 s = nI (vc v a) := e1
  have f1' : r2 5 s = nI (vc v' a') := f1
  have t1 : (2 : Int32) * nI s = nI (2 * s) := pk_mul (a := 2) ..
  have t2 : nI (2 * s) + 1 = nI (2 * s + 1) := nI_1 _
  have cs : (nI s).toNatClampNeg = s := nI_clamp (by omega)
  have c2 : (nI (2 * s)).toNatClampNeg = 2 * s := nI_clamp (by omega)
  have c3 : (nI (2 * s + 1)).toNatClampNeg = 2 * s + 1 := nI_clamp (by omega)
  have hC : ∀ K : (Nat → Int32) → (Nat → Nat → Int32) → Option ((Nat → Int32) × (Nat → Nat → Int32)), bd (f_X5_leftOf i2 r2 l2 (nI s)) (fun q21 => bd (f_X4_placeOf i r q21) (fun q22 => bd (f_X5_rightOf i2 r2 l2 (nI s)) (fun q23 => bd (f_X4_placeOf q22.2 r q23) (fun q24 => bd (f_X4_swapValues q24.2 r q22.1 q24.1) (fun q25 => K q24.2 q25))))) = bd (f_X4_placeOf i r (nI (vc v a))) (fun q22 => bd (f_X4_placeOf q22.2 r (nI (vc v' a'))) (fun q24 => bd (f_X4_swapValues q24.2 r q22.1 q24.1) (fun q25 => K q24.2 q25))) := fun K => by
    simp only [f_X5_leftOf, f_X5_rightOf, ck_t (inb_nI (n := s) (N := 60) hs (by omega)), cs, e1', f1', bd_some]
  have sw : ∀ (i : Nat → Int32) (p q : Nat), p < 20 → q < 20 → f_X4_swapValues i r (nI p) (nI q) = some (va_up (va_up r 0 (upd (r 0) p (r 0 q))) 0 (upd (upd (r 0) p (r 0 q)) q (r 0 p))) := fun i p q hp hq => by
    rw [f_X4_swapValues, ck_t (inb_nI hp (by omega)), ck_t (inb_nI hq (by omega)), ck_t (inb_nI hp (by omega)), ck_t (inb_nI hq (by omega)), nI_clamp (show p < 2 ^ 31 by omega), nI_clamp (show q < 2 ^ 31 by omega)]
  have hB : f_X13_change mi mr ml (nI s) dr = bd (f_X13_placeOf mi mr ml (nI v) (nI a)) (fun q4 => if q4.1 = (-1) then (some (q4.2, mr)) else (bd (f_X13_placeOf q4.2 mr ml (nI v') (nI a')) (fun q6 => if q6.1 = (-1) then (some (q6.2, mr)) else (ck (inb q4.1 18) (ck (inb q6.1 18) (ck (inb q4.1 18) (ck (inb q6.1 18) (some (q6.2, (va_up (va_up mr 58 (upd (mr 58) q4.1.toNatClampNeg (mr 58 q6.1.toNatClampNeg))) 58 (upd (upd (mr 58) q4.1.toNatClampNeg (mr 58 q6.1.toNatClampNeg)) q6.1.toNatClampNeg (mr 58 q4.1.toNatClampNeg)))))))))))) := by
    rw [f_X13_change, t1, t2, ck_t (inb_nI (by omega) (by omega)), ck_t (inb_nI (by omega) (by omega)), c2, hM 32 (by omega), hM 33 (by omega), e2, e3]
    simp only [ck_t (inb_nI (n := s) (N := 120) (by omega) (by omega)), cs, hM 28 (by omega), k28, if_pos (show nI 3 = (3 : Int32) from rfl), ck_t (inb_nI (n := 2 * s + 1) (N := 240) (by omega) (by omega)), c3, f2, f3]
  rcases rplace_ok (i := i) (mi := mi) (ml := ml) ov hV with ⟨m, m1, m2, m3⟩ | ⟨m2, m3⟩
  · rcases rplace_ok (i := i) (mi := mi) (ml := ml) ov' hV with ⟨n, n1, n2, n3⟩ | ⟨n2, n3⟩
    · left
      refine ⟨va_up (va_up r 0 (upd (r 0) (cv m) (r 0 (cv n)))) 0 (upd (upd (r 0) (cv m) (r 0 (cv n))) (cv n) (r 0 (cv m))), va_up (va_up mr 58 (upd (mr 58) m (mr 58 n))) 58 (upd (upd (mr 58) m (mr 58 n)) n (mr 58 m)), fun K => ?_, ?_, ?_, fun z z1 => by rw [up_n z1, up_n z1], fun z z1 => by rw [up_n z1, up_n z1]⟩
      · rw [hC, m2, bd_some, n2, bd_some, sw _ _ _ (cv_lt m1) (cv_lt n1), bd_some]
      · rw [hB, m3, bd_some]
        dsimp only
        rw [if_neg (nm1N (show m < 2 ^ 31 by omega)), n3, bd_some]
        dsimp only
        rw [if_neg (nm1N (show n < 2 ^ 31 by omega)), ck_t (inb_nI m1 (by omega)), ck_t (inb_nI n1 (by omega)), ck_t (inb_nI m1 (by omega)), ck_t (inb_nI n1 (by omega)), nI_clamp (show m < 2 ^ 31 by omega), nI_clamp (show n < 2 ^ 31 by omega)]
      · intro k hk
        rw [up_s, up_s]
        by_cases q : k = n
        · subst q; rw [pk_us, pk_us]; exact hV m m1
        · rw [pk_un (fun z => q (cv_inj z)), pk_un q]
          by_cases q' : k = m
          · subst q'; rw [pk_us, pk_us]; exact hV n n1
          · rw [pk_un (fun z => q' (cv_inj z)), pk_un q']; exact hV k hk
    · right
      refine ⟨va_up (va_up r 0 (upd (r 0) (cv m) (r 0 10))) 0 (upd (upd (r 0) (cv m) (r 0 10)) 10 (r 0 (cv m))), mr, fun K => ?_, ?_, fun z z1 => by rw [up_n z1, up_n z1], fun _ _ => rfl⟩
      · rw [hC, m2, bd_some, n2, meet_f hi, bd_some, bd_some, show (10 : Int32) = nI 10 from rfl, sw _ _ _ (cv_lt m1) (by omega), bd_some]
      · rw [hB, m3, bd_some]
        dsimp only
        rw [if_neg (nm1N (show m < 2 ^ 31 by omega)), n3, bd_some]
        dsimp only
        rw [if_pos rfl]
  · right
    obtain ⟨p, p1, p2⟩ := place_tot (i := upd i 12 2) (r := r) ov' (by rw [pk_us]; decide)
    refine ⟨va_up (va_up r 0 (upd (r 0) 10 (r 0 p))) 0 (upd (upd (r 0) 10 (r 0 p)) p (r 0 10)), mr, fun K => ?_, ?_, fun z z1 => by rw [up_n z1, up_n z1], fun _ _ => rfl⟩
    · rw [hC, m2, meet_f hi, bd_some, bd_some, p2, bd_some, show (10 : Int32) = nI 10 from rfl, sw _ _ _ (by omega) p1, bd_some]
    · rw [hB, m3, bd_some]
      dsimp only
      rw [if_pos rfl]
