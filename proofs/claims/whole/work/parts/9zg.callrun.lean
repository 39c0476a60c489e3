/-! ===== run: CALL and UNCALL ===== -/
theorem xor_dir {dr : Nat} (hd : dr ≤ 1) : nI dr ^^^ 0 = nI dr ∧ nI dr ^^^ 1 = nI (1 - dr) ∧ vp_nar .boolean (nI dr) = nI dr := by
  rcases (show dr = 0 ∨ dr = 1 by omega) with rfl | rfl
  · exact ⟨by decide, by decide, by decide⟩
  · exact ⟨by decide, by decide, by decide⟩
theorem bz_dir {dr : Nat} (hd : dr ≤ 1) : bz (nI dr) = true := by
  rcases (show dr = 0 ∨ dr = 1 by omega) with rfl | rfl <;> decide
/-- a call, its direction e given -/
theorem step_call {n P g : Nat} {lv : Nat → Nat} {i2 : Nat → Int32} {r2 : Nat → Nat → Int32} {l2 ml : Nat → Nat → Int64} {m0 : Nat → Nat → Int32} {mi0 : Nat → Int32} (hG : GPn n P lv i2 r2 mi0 m0) (hB : BodyR n lv i2 r2 l2 ml m0 g) {s d c cd dr y x k : Nat} (hs : s < n) (hk6 : k = 6 ∨ k = 7) (k0 : r2 0 s = nI k) (k28 : m0 28 s = nI k) (hD : DA k s P r2 m0) (hy : r2 1 s = nI y) (hyb : y < 126) (hc : c < 5000) (hg : 5001 ≤ c + 1 + g) (hcd : cd ≤ 20) (hd : dr ≤ 1) (hdd : (20 - cd) * 7 + 7 ≤ d + bl lv y) (hx : x ≤ 2 * c) {i : Nat → Int32} {r : Nat → Nat → Int32} {mi : Nat → Int32} {mr : Nat → Nat → Int32} (hR : RS m0 c cd dr i r mi mr) (h7 : i 7 = nI s) : StepR i2 r2 l2 ml m0 s d c cd dr y x i r mi mr := by
  obtain ⟨hn, hP, p14, p46, hW, hND, hPR⟩ := hG
  have hs60 : s < 60 := by omega
  obtain ⟨⟨h6, h63⟩, ⟨h9, h10⟩, ⟨h11, h62⟩, ⟨h12, h61⟩, hV, hM⟩ := id hR
  obtain ⟨j, ej, hC⟩ := bs_open (i2 := i2) (l2 := l2) (r := r) hs60 hc k0 h11 h12
  obtain ⟨mj, em, hS⟩ := gs_open (F := f_X13_goBody d) (ml := ml) (dr := nI dr) (mr := mr) hs60 hc (by rw [hM 28 (by omega)]; exact k28) h62 h61
  have hR1 : RS m0 (c + 1) cd dr j r mj mr := by rw [ej, em]; exact hR.cnt (c + 1)
  obtain ⟨⟨g6, g63⟩, ⟨g9, g10⟩, ⟨g11, g62⟩, ⟨g12, g61⟩, _, _⟩ := id hR1
  have hL := Lp_step (i2 := i2) (r2 := r2) (l2 := l2) (x := x) (by omega) hs60 (r := r) h10 h12 h7
  obtain ⟨p, hp, e4, e31⟩ := hD.2.2.2 (by omega)
  obtain ⟨x0, x1, x2⟩ := xor_dir hd
  -- the direction within
  obtain ⟨e, he, ex⟩ : ∃ e, e ≤ 1 ∧ e = (if k = 7 then 1 - dr else dr) := ⟨_, by split <;> omega, rfl⟩
  have hC' : f_X4_beginStep i r i2 r2 l2 (nI s) = bd (f_X4_beginCall j r i2 r2 l2 (nI s)) (fun q30 => some (q30.1, q30.2)) := by
    rw [hC]
    rcases hk6 with rfl | rfl
    · rw [if_neg (show ¬ nI 6 = (3 : Int32) by decide), if_neg (show ¬ nI 6 = (4 : Int32) by decide), if_neg (show ¬ nI 6 = (5 : Int32) by decide), if_pos (show nI 6 = (6 : Int32) from rfl)]
    · rw [if_neg (show ¬ nI 7 = (3 : Int32) by decide), if_neg (show ¬ nI 7 = (4 : Int32) by decide), if_neg (show ¬ nI 7 = (5 : Int32) by decide), if_neg (show ¬ nI 7 = (6 : Int32) by decide), if_pos (show nI 7 = (7 : Int32) from rfl)]
  have hS' : f_X13_goStep (f_X13_goBody d) mi mr ml (nI s) (nI dr) = bd (f_X13_goCall (f_X13_goBody d) mj mr ml (nI s) (nI e)) (fun q11 => some (q11.1, q11.2)) := by
    rw [hS]
    rcases hk6 with rfl | rfl
    · rw [if_neg (show ¬ nI 6 = (4 : Int32) by decide), if_neg (show ¬ nI 6 = (5 : Int32) by decide), if_pos (show nI 6 = (6 : Int32) from rfl), ex, if_neg (show ¬ (6 : Nat) = 7 by omega)]
    · rw [if_neg (show ¬ nI 7 = (4 : Int32) by decide), if_neg (show ¬ nI 7 = (5 : Int32) by decide), if_neg (show ¬ nI 7 = (6 : Int32) by decide), if_pos (show nI 7 = (7 : Int32) from rfl), f_X13_goStep_82, f_X13_goStep_82, ex, if_pos rfl]
      rcases (show dr = 0 ∨ dr = 1 by omega) with rfl | rfl
      · rw [if_pos (show nI 0 = (0 : Int32) from rfl)]; rfl
      · rw [if_neg (show ¬ nI 1 = (0 : Int32) by decide)]; rfl
  by_cases hcd2 : cd = 20
  · -- too deep
    right
    subst hcd2
    obtain ⟨r'', a1, a2⟩ := Lp_bad (i2 := i2) (r2 := r2) (l2 := l2) (x := x + 1) (by omega) (i := upd j 12 4) (r := r) (by rw [pk_us]; decide)
    refine ⟨upd j 12 4, r'', upd mj 61 4, mr, 4, ?_, ?_, by omega, by omega, pk_us, pk_us, by rw [pk_un (by omega), pk_un (by omega), g11, g62], a2, rfl⟩
    · rw [hL, hC', f_X4_beginCall, g6, if_neg (show ¬ nI 20 < (20 : Int32) by decide), meet_f g12, bd_some, bd_some, bd_some]
      exact a1
    · rw [hS', f_X13_goCall, g63, if_pos (show nI 20 = (20 : Int32) from rfl), bd_some]
  · have hcd3 : cd < 20 := by omega
    obtain ⟨lev1, lev2⟩ := CW_lev hW hs hy hyb
    obtain ⟨d, rfl⟩ : ∃ q, d = q + 1 := ⟨d - 1, by omega⟩
    -- the class's state within
    obtain ⟨r3, er3⟩ : ∃ r3, r3 = va_up (va_up r 3 (upd (r 3) cd (nI s))) 4 (upd (r 4) cd (nI dr)) := ⟨_, rfl⟩
    obtain ⟨j4, ej4⟩ : ∃ j4, j4 = upd (upd (upd (upd j 6 (nI (cd + 1))) 9 (nI e)) 8 (nI (120 + p))) 7 (st r2 (120 + p) e) := ⟨_, rfl⟩
    have r31 : ∀ z, z ≠ 3 → z ≠ 4 → r3 z = r z := fun z z1 z2 => by rw [er3, up_n z2, up_n z1]
    have e120 : (120 : Int32) + nI p = nI (120 + p) := nadd 120 p _ rfl
    have hE : f_X4_beginCall j r i2 r2 l2 (nI s) = some (j4, r3) := by
      have h71 : ∀ q : Int32, nI dr ^^^ q = nI e → f_X4_beginCall_71 i2 r2 l2 (upd j 6 (nI (cd + 1))) r3 (nI s) q (nI dr) = some (j4, r3) := fun q hq => by
        rw [f_X4_beginCall_71, hq, ck_t (bz_dir he), f_X5_leftOf, ck_t (inb_nI hs60 (by omega)), nI_clamp (by omega), e4, bd_some, e120, enter_ok (by omega) he pk_us, bd_some, ej4]
      rw [f_X4_beginCall, g6, if_pos (show nI cd < (20 : Int32) from nI_lt (b := 20) hcd3 (by omega)), ck_t (inb_nI (by omega) (by omega)), ck_t (inb_nI (by omega) (by omega)), g9, x2, nI_clamp (show cd < 2 ^ 31 by omega), ← er3, f_X4_beginCall_38, f_X5_kindOf, ck_t (inb_nI hs60 (by omega)), nI_clamp (show s < 2 ^ 31 by omega), k0, bd_some, g6, nI_1, g9]
      rcases hk6 with rfl | rfl
      · rw [if_neg (show ¬ nI 6 = (7 : Int32) by decide)]
        exact h71 0 (by rw [x0, ex, if_neg (show ¬ (6 : Nat) = 7 by omega)])
      · rw [if_pos (show nI 7 = (7 : Int32) from rfl)]
        exact h71 1 (by rw [x1, ex, if_pos rfl])
    have g4 : ∀ z, z ≠ 6 → z ≠ 9 → z ≠ 8 → z ≠ 7 → j4 z = j z := fun z z1 z2 z3 z4 => by rw [ej4, pk_un z4, pk_un z3, pk_un z2, pk_un z1]
    have hR4 : RS m0 (c + 1) (cd + 1) e j4 r3 (upd mj 63 (nI (cd + 1))) mr := by
      refine ⟨⟨by rw [ej4, pk_un (by omega), pk_un (by omega), pk_un (by omega), pk_us], pk_us⟩, ⟨by rw [ej4, pk_un (by omega), pk_un (by omega), pk_us], by rw [g4 10 (by omega) (by omega) (by omega) (by omega)]; exact g10⟩, ⟨by rw [g4 11 (by omega) (by omega) (by omega) (by omega)]; exact g11, by rw [pk_un (by omega)]; exact g62⟩, ⟨by rw [g4 12 (by omega) (by omega) (by omega) (by omega)]; exact g12, by rw [pk_un (by omega)]; exact g61⟩, fun m hm => by rw [r31 0 (by omega) (by omega)]; exact hV m hm, hM⟩
    obtain ⟨pr1, pr2⟩ := hPR p hp
    have hK : f_X13_goCall (f_X13_goBody (d + 1)) mj mr ml (nI s) (nI e) = bd (f_X13_goBody_11 (f_X13_goBody d) ml 2000000 (upd mj 63 (nI (cd + 1))) mr (nI e) (st r2 (120 + p) e)) (fun q2 => some ((upd q2.1 63 ((q2.1 63) - 1)), q2.2)) := by
      rw [f_X13_goCall, g63, if_neg (show ¬ nI cd = (20 : Int32) from fun q => hcd2 (nI_inj (a := cd) (b := 20) (by omega) (by omega) q)), ck_t (inb_nI (by omega) (by omega)), nI_clamp (show s < 2 ^ 31 by omega), hM 31 (by omega), e31, ck_t (inb_nI (by omega) (by omega)), ck_t (inb_nI (by omega) (by omega)), ck_t (inb_nI (by omega) (by omega)), nI_clamp (show p < 2 ^ 31 by omega), nI_1, gb_open he, hM 42 (by omega), hM 43 (by omega), pr1, pr2, st]
    have bl0 : bl lv (120 + p) = 0 := if_neg (by omega)
    rcases hB d (c + 1) (cd + 1) e (120 + p) (x + 1) 2000000 (st r2 (120 + p) e) j4 r3 _ mr hg (by omega) (by omega) he (by omega) (CW_st hW (by omega)) (by omega) (by omega) (by omega) hR4 (by rw [ej4, pk_us]) (by rw [ej4, pk_un (by omega), pk_us]) with ⟨c', x', i', r', mi', mr', b1, b2, b3, b4, b5, b6, b7, b8, b9, b10⟩ | ⟨i', r', mi', mr', kk, b1, b2, b3, b4, b5, b6, b7, b8, b9⟩
    · left
      obtain ⟨⟨f6, f63⟩, ⟨f9, f10⟩, ⟨f11, f62⟩, ⟨f12, f61⟩, fV, fM⟩ := id b6
      have hle := Lp_leave (i2 := i2) (r2 := r2) (l2 := l2) (x := x') (by omega) (r := r') f10 f12 b7
      have v3 : r' 3 cd = nI s := by rw [(b9.2 cd (by omega)).1, er3, up_n (by omega), up_s, pk_us]
      have v4 : r' 4 cd = nI dr := by rw [(b9.2 cd (by omega)).2, er3, up_s, pk_us]
      have hlv : f_X4_leaveBody i' r' i2 r2 l2 = some (upd (upd (upd (upd i' 6 (nI cd)) 9 (nI dr)) 8 (nI y)) 7 (nx r2 s dr), r') := by
        rw [f_X4_leaveBody, b8, if_neg (show ¬ nI (120 + p) < (120 : Int32) from nI_nlt (b := 120) (by omega) (by omega)), f_X4_endCall, f6, if_neg (nI_ne0 (by omega) (by omega)), nI_pred, ck_t (inb_nI (by omega) (by omega)), nI_clamp (show cd < 2 ^ 31 by omega), v4, ck_t (bz_dir hd), ck_t (inb_nI (by omega) (by omega)), v3, behind_ok hs60 hd hy pk_us, bd_some, bd_some]
      refine ⟨c', x' + 1, upd (upd (upd (upd i' 6 (nI cd)) 9 (nI dr)) 8 (nI y)) 7 (nx r2 s dr), r', upd mi' 63 (nI cd), mr', by omega, b2, by omega, ?_, ?_, ?_, pk_us, by rw [pk_un (by omega), pk_us], ⟨b9.1.trans (r31 1 (by omega) (by omega)), fun z hz => ?_⟩, b10⟩
      · rw [hL, hC', hE, bd_some, bd_some, b4, hle, hlv, bd_some]
      · rw [hS', hK, b5, bd_some, bd_some]
        dsimp only
        rw [f63, nI_pred]
      · have gz : ∀ z, z ≠ 6 → z ≠ 9 → z ≠ 8 → z ≠ 7 → upd (upd (upd (upd i' 6 (nI cd)) 9 (nI dr)) 8 (nI y)) 7 (nx r2 s dr) z = i' z := fun z z1 z2 z3 z4 => by rw [pk_un z4, pk_un z3, pk_un z2, pk_un z1]
        exact ⟨⟨by rw [pk_un (by omega), pk_un (by omega), pk_un (by omega), pk_us], pk_us⟩, ⟨by rw [pk_un (by omega), pk_un (by omega), pk_us], by rw [gz 10 (by omega) (by omega) (by omega) (by omega)]; exact f10⟩, ⟨by rw [gz 11 (by omega) (by omega) (by omega) (by omega)]; exact f11, by rw [pk_un (by omega)]; exact f62⟩, ⟨by rw [gz 12 (by omega) (by omega) (by omega) (by omega)]; exact f12, by rw [pk_un (by omega)]; exact f61⟩, fV, fM⟩
      · obtain ⟨w1, w2⟩ := b9.2 z (by omega)
        rw [w1, w2, er3, up_n (show (3 : Nat) ≠ 4 by omega), up_s, up_s, pk_un (by omega), pk_un (by omega)]
        exact ⟨rfl, rfl⟩
    · right
      refine ⟨i', r', upd mi' 63 (mi' 63 - 1), mr', kk, ?_, ?_, b3, b4, b5, by rw [pk_un (by omega)]; exact b6, by rw [pk_un (by omega)]; exact b7, fun z hz => by rw [b8 z hz, r31 1 (by omega) (by omega)], b9⟩
      · rw [hL, hC', hE, bd_some, bd_some, b1]
      · rw [hS', hK, b2, bd_some, bd_some]
