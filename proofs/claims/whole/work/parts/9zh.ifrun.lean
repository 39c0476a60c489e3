/-! ===== run: IF ===== -/
set_option maxRecDepth 100000 in
theorem half_all : ∀ a : Fin 120, nI a.1 / 2 = nI (a.1 / 2) ∧ nI a.1 - nI a.1 / 2 * 2 = nI (a.1 % 2) := by decide
theorem hold_1 {i2 : Nat → Int32} {r2 : Nat → Nat → Int32} {l2 : Nat → Nat → Int64} {s dr : Nat} (hd : dr ≤ 1) {i : Nat → Int32} {r : Nat → Nat → Int32} (h9 : i 9 = nI dr) : f_X4_holds i r i2 r2 l2 (nI s) 1 = f_X4_holds_13 i2 r2 l2 i r (nI s) (nI dr) := by
  rw [f_X4_holds, h9]
  rcases (show dr = 0 ∨ dr = 1 by omega) with rfl | rfl
  · rw [if_neg (show ¬ (1 : Int32) = nI 0 by decide)]; rfl
  · rw [if_pos (show (1 : Int32) = nI 1 from rfl)]; rfl
theorem hold_0 {i2 : Nat → Int32} {r2 : Nat → Nat → Int32} {l2 : Nat → Nat → Int64} {s dr : Nat} (hd : dr ≤ 1) {i : Nat → Int32} {r : Nat → Nat → Int32} (h9 : i 9 = nI dr) : f_X4_holds i r i2 r2 l2 (nI s) 0 = f_X4_holds_13 i2 r2 l2 i r (nI s) (nI (1 - dr)) := by
  rw [f_X4_holds, h9]
  rcases (show dr = 0 ∨ dr = 1 by omega) with rfl | rfl
  · rw [if_pos (show (0 : Int32) = nI 0 from rfl)]; rfl
  · rw [if_neg (show ¬ (0 : Int32) = nI 1 by decide)]; rfl
theorem leave_lo {i2 : Nat → Int32} {r2 : Nat → Nat → Int32} {l2 : Nat → Nat → Int64} {s w : Nat} (hs : s < 60) (hw : w < 2) {i : Nat → Int32} {r : Nat → Nat → Int32} (h8 : i 8 = nI (2 * s + w)) : f_X4_leaveBody i r i2 r2 l2 = f_X4_leaveBody_35 i2 r2 l2 i r (nI s) (if w = 0 then 1 else 0) := by
  obtain ⟨a1, a2⟩ := half_all ⟨2 * s + w, by omega⟩
  have a1' : nI (2 * s + w) / 2 = nI s := a1.trans (by rw [show (2 * s + w) / 2 = s by omega])
  have a2' : nI (2 * s + w) - nI (2 * s + w) / 2 * 2 = nI w := a2.trans (by rw [show (2 * s + w) % 2 = w by omega])
  rw [f_X4_leaveBody, h8, if_pos (show nI (2 * s + w) < (120 : Int32) from nI_lt (b := 120) (by omega) (by omega)), ck_t (show nz 2 = true by decide), ck_t (show nz 2 = true by decide), a2', a1']
  rcases (show w = 0 ∨ w = 1 by omega) with rfl | rfl
  · rw [if_pos (show nI 0 = (0 : Int32) from rfl), if_pos rfl]
  · rw [if_neg (show ¬ nI 1 = (0 : Int32) by decide), if_neg (show ¬ (1 : Nat) = 0 by omega)]
theorem RS.frm {m0 : Nat → Nat → Int32} {c cd dr : Nat} {i : Nat → Int32} {r r' : Nat → Nat → Int32} {mi : Nat → Int32} {mr mr' : Nat → Nat → Int32} (h : RS m0 c cd dr i r mi mr) (h1 : ∀ z, z ≠ 2 → r' z = r z) (h2 : ∀ z, z ≠ 60 → mr' z = mr z) : RS m0 c cd dr i r' mi mr' := ⟨h.1, h.2.1, h.2.2.1, h.2.2.2.1, fun m hm => by rw [h1 0 (by omega), h2 58 (by omega)]; exact h.2.2.2.2.1 m hm, fun z hz => by rw [h2 z (by omega)]; exact h.2.2.2.2.2 z hz⟩
theorem FRc.of2 {cd : Nat} {r r' : Nat → Nat → Int32} (h : ∀ z, z ≠ 2 → r' z = r z) : FRc cd r r' := FRc.of (fun z _ z2 => h z z2)
/-- trouble k met by both while c is counted; the class then ends -/
theorem TR.mk' {i2 : Nat → Int32} {r2 : Nat → Nat → Int32} {l2 : Nat → Nat → Int64} {x x1 k : Nat} {i j : Nat → Int32} {r r1 : Nat → Nat → Int32} {mj : Nat → Int32} {mr mr1 : Nat → Nat → Int32} {o2 : Option ((Nat → Int32) × (Nat → Nat → Int32))} (hx : x1 < 1000000) (h1 : Lp i2 r2 l2 x i r = Lp i2 r2 l2 x1 j r1) (h2 : o2 = some (mj, mr1)) (hk : 1 ≤ k) (hk4 : k ≤ 4) (hj : j 12 = nI k) (hmj : mj 61 = nI k) (h11 : j 11 = mj 62) (hr : r1 1 = r 1) (h59 : mr1 59 = mr 59) : TR r mr (Lp i2 r2 l2 x i r) o2 := by
  obtain ⟨r', a1, a2⟩ := Lp_bad (i2 := i2) (r2 := r2) (l2 := l2) (x := x1) hx (i := j) (r := r1) (by rw [hj]; exact nI_ne0 (by omega) (by omega))
  exact ⟨j, r', mj, mr1, k, h1.trans a1, h2, hk, hk4, hj, hmj, h11, fun z hz => by rw [a2 z hz, hr], h59⟩
theorem TR.tr {i2 : Nat → Int32} {r2 : Nat → Nat → Int32} {l2 : Nat → Nat → Int64} {x x1 : Nat} {i j : Nat → Int32} {r r1 : Nat → Nat → Int32} {mr mr1 : Nat → Nat → Int32} {o2 o2' : Option ((Nat → Int32) × (Nat → Nat → Int32))} (h : TR r1 mr1 (Lp i2 r2 l2 x1 j r1) o2) (h1 : Lp i2 r2 l2 x i r = Lp i2 r2 l2 x1 j r1) (h2 : ∀ mi' mr' k, 1 ≤ k → k ≤ 4 → mi' 61 = nI k → o2 = some (mi', mr') → o2' = some (mi', mr')) (hr : r1 1 = r 1) (h59 : mr1 59 = mr 59) : TR r mr (Lp i2 r2 l2 x i r) o2' := by
  obtain ⟨i', r', mi', mr', k, a1, a2, a3, a4, a5, a6, a7, a8, a9⟩ := h
  exact ⟨i', r', mi', mr', k, h1.trans a1, h2 mi' mr' k a3 a4 a6 a2, a3, a4, a5, a6, a7, fun z hz => by rw [a8 z hz, hr], a9.trans h59⟩
theorem gbo_open {n P : Nat} {lv : Nat → Nat} {i2 : Nat → Int32} {r2 : Nat → Nat → Int32} {ml : Nat → Nat → Int64} {m0 : Nat → Nat → Int32} {s w d dr k : Nat} (hs : s < 60) (hw : w < 2) (hd : dr ≤ 1) (hk : k = 4 ∨ k = 5) (hD : DA k s P r2 m0) {mi : Nat → Int32} {mr : Nat → Nat → Int32} (hM : ∀ z, z < 44 → mr z = m0 z) : f_X13_goBodyOf (f_X13_goBody (d + 1)) mi mr ml (nI s) (nI w) (nI dr) = f_X13_goBody_11 (f_X13_goBody d) ml 2000000 mi mr (nI dr) (st r2 (2 * s + w) dr) := by
  obtain ⟨_, _, h3⟩ := hD.2.2.1 hk
  obtain ⟨a1, a2⟩ := h3 w hw
  rw [f_X13_goBodyOf, mul2, ck_t (inb_nI (by omega) (by omega)), ck_t (inb_nI (by omega) (by omega)), nI_clamp (by omega), hM 37 (by omega), hM 38 (by omega), a1, a2, gb_open hd, st]
  cases f_X13_goBody_11 (f_X13_goBody d) ml 2000000 mi mr (nI dr) (if dr = 0 then r2 9 (2 * s + w) else r2 10 (2 * s + w)) with
  | none => rfl
  | some q => rfl
theorem le0_pos {k : Nat} (h1 : 1 ≤ k) (h2 : k ≤ 4) : ¬ nI k ≤ (0 : Int32) := nI_ge (a := k) (b := 0) |> fun f => by
  rcases (show k = 1 ∨ k = 2 ∨ k = 3 ∨ k = 4 by omega) with rfl | rfl | rfl | rfl <;> decide
theorem step_if {n P g : Nat} {lv : Nat → Nat} {i2 : Nat → Int32} {r2 : Nat → Nat → Int32} {l2 ml : Nat → Nat → Int64} {m0 : Nat → Nat → Int32} {mi0 : Nat → Int32} (hG : GPn n P lv i2 r2 mi0 m0) (hB : BodyR n lv i2 r2 l2 ml m0 g) {s d c cd dr y x : Nat} (hs : s < n) (k0 : r2 0 s = nI 4) (k28 : m0 28 s = nI 4) (hD : DA 4 s P r2 m0) (hy : r2 1 s = nI y) (hyb : y < 126) (hc : c < 5000) (hg : 5001 ≤ c + 1 + g) (hcd : cd ≤ 20) (hd : dr ≤ 1) (hdd : (20 - cd) * 7 + 7 ≤ d + bl lv y) (hx : x ≤ 2 * c) {i : Nat → Int32} {r : Nat → Nat → Int32} {mi : Nat → Int32} {mr : Nat → Nat → Int32} (hR : RS m0 c cd dr i r mi mr) (h7 : i 7 = nI s) : StepR i2 r2 l2 ml m0 s d c cd dr y x i r mi mr := by
  obtain ⟨hn, hP, p14, p46, hW, hND, hPR⟩ := hG
  have hs60 : s < 60 := by omega
  obtain ⟨⟨h6, h63⟩, ⟨h9, h10⟩, ⟨h11, h62⟩, ⟨h12, h61⟩, hV, hM⟩ := id hR
  obtain ⟨j, ej, hC⟩ := bs_open (i2 := i2) (l2 := l2) (r := r) hs60 hc k0 h11 h12
  obtain ⟨mj, em, hS⟩ := gs_open (F := f_X13_goBody d) (ml := ml) (dr := nI dr) (mr := mr) hs60 hc (by rw [hM 28 (by omega)]; exact k28) h62 h61
  have hR1 : RS m0 (c + 1) cd dr j r mj mr := by rw [ej, em]; exact hR.cnt (c + 1)
  obtain ⟨⟨g6, g63⟩, ⟨g9, g10⟩, ⟨g11, g62⟩, ⟨g12, g61⟩, _, _⟩ := id hR1
  have hL := Lp_step (i2 := i2) (r2 := r2) (l2 := l2) (x := x) (by omega) hs60 (r := r) h10 h12 h7
  obtain ⟨lev1, lev2⟩ := CW_lev hW hs hy hyb
  obtain ⟨d, rfl⟩ : ∃ q, d = q + 1 := ⟨d - 1, by omega⟩
  obtain ⟨T0, T1, _⟩ := hD.2.2.1 (Or.inl rfl)
  have TD : ∀ w, w < 2 → TT 0 0 s w 900 900 r2 m0 := fun w hw => by
    rcases (show w = 0 ∨ w = 1 by omega) with rfl | rfl
    · exact T0
    · exact T1
  rw [if_neg (show ¬ nI 4 = (3 : Int32) by decide), if_pos (show nI 4 = (4 : Int32) from rfl), hold_1 hd g9] at hC
  have hS1 : f_X13_goStep (f_X13_goBody (d + 1)) mi mr ml (nI s) (nI dr) = bd (f_X13_goIf_11 (f_X13_goBody (d + 1)) ml mj mr (nI s) (nI dr) (nI dr) (nI s)) (fun q9 => some (q9.1, q9.2)) := by
    rw [hS, if_pos (show nI 4 = (4 : Int32) from rfl), f_X13_goIf]
    rcases (show dr = 0 ∨ dr = 1 by omega) with rfl | rfl
    · rw [if_pos (show nI 0 = (0 : Int32) from rfl)]; rfl
    · rw [if_neg (show ¬ nI 1 = (0 : Int32) by decide)]; rfl
  rw [f_X13_goIf_11] at hS1
  have bs74 : ∀ (i : Nat → Int32) (r : Nat → Nat → Int32) (w : Nat), f_X4_beginStep_74 i2 r2 l2 i r (nI w) (2 * nI s) = bd (f_X4_enter i r i2 r2 l2 (nI (2 * s + w))) (fun q18 => some (q18, r)) := fun i r w => by rw [f_X4_beginStep_74, mul2]
  rcases test_ok (i2 := i2) (l2 := l2) (ml := ml) (i := j) (mi := mj) hs60 (show dr < 2 by omega) (TD dr (by omega)) hM hV g12 g61 with ⟨v, r', mr', v01, a1, a2, a3, a4⟩ | ⟨v, u, r', mr', a1, a2, a3, a4⟩
  · -- which body
    obtain ⟨w, hw, ew⟩ : ∃ w : Nat, w < 2 ∧ w = (if v = 0 then 1 else 0) := ⟨_, by split <;> omega, rfl⟩
    have ev : v = nI (1 - w) := by
      rcases v01 with e | e
      · rw [ew, if_pos e, e]; rfl
      · rw [ew, if_neg (by rw [e]; decide), e]; rfl
    have hR2 := (hR1.frm a3 a4).pos (nI (2 * s + w)) (st r2 (2 * s + w) dr)
    have hM' : ∀ z, z < 44 → mr' z = m0 z := hR2.2.2.2.2.2
    have eL : Lp i2 r2 l2 x i r = Lp i2 r2 l2 (x + 1) (upd (upd j 8 (nI (2 * s + w))) 7 (st r2 (2 * s + w) dr)) r' := by
      have : f_X4_beginStep i r i2 r2 l2 (nI s) = some (upd (upd j 8 (nI (2 * s + w))) 7 (st r2 (2 * s + w) dr), r') := by
        rw [hC, a1, bd_some]
        dsimp only
        rcases v01 with e | e
        · rw [if_pos e, show (1 : Int32) = nI w by rw [ew, if_pos e]; rfl, bs74, enter_ok (by omega) hd g9, bd_some]
        · have e0 : ¬ v = 0 := by rw [e]; decide
          rw [if_neg e0, show (0 : Int32) = nI w by rw [ew, if_neg e0]; rfl, bs74, enter_ok (by omega) hd g9, bd_some]
      rw [hL, this, bd_some]
    have eS : f_X13_goStep (f_X13_goBody (d + 1)) mi mr ml (nI s) (nI dr) = bd (f_X13_goBody_11 (f_X13_goBody d) ml 2000000 mj mr' (nI dr) (st r2 (2 * s + w) dr)) (fun q7 => if (q7.1 61) ≤ 0 then (f_X13_goIf_58 (f_X13_goBody (d + 1)) ml q7.1 q7.2 v (nI (1 - dr)) (nI s)) else (some (q7.1, q7.2))) := by
      have h34 : f_X13_goIf_34 (f_X13_goBody (d + 1)) ml mj mr' (nI s) (nI dr) v (nI w) (nI s) = bd (f_X13_goBody_11 (f_X13_goBody d) ml 2000000 mj mr' (nI dr) (st r2 (2 * s + w) dr)) (fun q7 => if (q7.1 61) ≤ 0 then (f_X13_goIf_58 (f_X13_goBody (d + 1)) ml q7.1 q7.2 v (nI (1 - dr)) (nI s)) else (some (q7.1, q7.2))) := by
        rw [f_X13_goIf_34, gbo_open (lv := lv) (i2 := i2) (n := n) hs60 hw hd (Or.inl rfl) hD hM']
        rcases (show dr = 0 ∨ dr = 1 by omega) with rfl | rfl
        · simp only [if_pos (show nI 0 = (0 : Int32) from rfl)]; rfl
        · simp only [if_neg (show ¬ nI 1 = (0 : Int32) by decide)]; rfl
      rw [hS1, a2, bd_some]
      dsimp only
      rw [if_pos (show mj 61 ≤ (0 : Int32) by rw [g61]; decide)]
      have tl : ∀ o : Option ((Nat → Int32) × (Nat → Nat → Int32)), bd o (fun q9 => some (q9.1, q9.2)) = o := fun o => by cases o <;> rfl
      rw [tl, ← h34]
      rcases v01 with e | e
      · rw [if_pos e, show nI w = (1 : Int32) by rw [ew, if_pos e]; rfl]
      · have e0 : ¬ v = 0 := by rw [e]; decide
        rw [if_neg e0, show nI w = (0 : Int32) by rw [ew, if_neg e0]; rfl]
    have blw : bl lv (2 * s + w) = lv s + 1 := by unfold bl; rw [if_pos (by omega), show (2 * s + w) / 2 = s by omega]
    rcases hB d (c + 1) cd dr (2 * s + w) (x + 1) 2000000 (st r2 (2 * s + w) dr) _ r' mj mr' hg (by omega) hcd hd (by omega) (CW_st hW (by omega)) (by omega) (by omega) (by omega) hR2 pk_us (by rw [pk_un (by omega), pk_us]) with ⟨c', x', i', r'', mi', mr'', b1, b2, b3, b4, b5, b6, b7, b8, b9, b10⟩ | hT
    · obtain ⟨⟨f6, f63⟩, ⟨f9, f10⟩, ⟨f11, f62⟩, ⟨f12, f61⟩, fV, fM⟩ := id b6
      have hle := Lp_leave (i2 := i2) (r2 := r2) (l2 := l2) (x := x') (by omega) (r := r'') f10 f12 b7
      have ew' : (if w = 0 then (1 : Int32) else 0) = v := by
        rw [ev]
        rcases (show w = 0 ∨ w = 1 by omega) with rfl | rfl <;> rfl
      have hlv : f_X4_leaveBody i' r'' i2 r2 l2 = bd (f_X4_holds_13 i2 r2 l2 i' r'' (nI s) (nI (1 - dr))) (fun q22 => if q22.1 = v then (f_X4_leaveBody_63 i2 r2 l2 q22.2.1 q22.2.2 (nI s)) else (bd (f_X4_meet q22.2.1 q22.2.2 1) (fun q23 => f_X4_leaveBody_63 i2 r2 l2 q23 q22.2.2 (nI s)))) := by
        rw [leave_lo hs60 hw b8, ew', f_X4_leaveBody_35, f_X5_kindOf, ck_t (inb_nI hs60 (by omega)), nI_clamp (by omega), k0, bd_some, if_pos (show nI 4 = (4 : Int32) from rfl), hold_0 hd f9]
      have eS2 : f_X13_goStep (f_X13_goBody (d + 1)) mi mr ml (nI s) (nI dr) = bd (f_X13_isSo mi' mr'' ml (nI s) (nI (1 - dr))) (fun q6 => if q6.1 = v then (f_X13_goIf_70 (f_X13_goBody (d + 1)) ml q6.2.1 q6.2.2 1) else (f_X13_goIf_70 (f_X13_goBody (d + 1)) ml q6.2.1 q6.2.2 0)) := by
        rw [eS, b5, bd_some]
        dsimp only
        rw [if_pos (show mi' 61 ≤ (0 : Int32) by rw [f61]; decide), f_X13_goIf_58]
      rcases test_ok (i2 := i2) (l2 := l2) (ml := ml) (i := i') (mi := mi') hs60 (show 1 - dr < 2 by omega) (TD (1 - dr) (by omega)) fM fV f12 f61 with ⟨v2, r3, mr3, v201, e1, e2, e3, e4⟩ | ⟨v2, u2, r3, mr3, e1, e2, e3, e4⟩
      · by_cases q : v2 = v
        · left
          refine ⟨c', x' + 1, upd (upd i' 8 (nI y)) 7 (nx r2 s dr), r3, mi', mr3, by omega, b2, by omega, ?_, ?_, (b6.frm e3 e4).pos _ _, pk_us, by rw [pk_un (by omega), pk_us], ((FRc.of2 a3).tr b9 (Nat.le_refl _)).tr (FRc.of2 e3) (Nat.le_refl _), by rw [e4 59 (by omega), b10, a4 59 (by omega)]⟩
          · rw [eL, b4, hle, hlv, e1, bd_some]
            dsimp only
            rw [if_pos q, f_X4_leaveBody_63, behind_ok hs60 hd hy f9, bd_some, bd_some]
          · rw [eS2, e2, bd_some]
            dsimp only
            rw [if_pos q, f_X13_goIf_70, f_X13_must, if_neg n10, bd_some]
        · right
          obtain ⟨a, b, e6⟩ := behind_tot (i2 := i2) (r2 := r2) (l2 := l2) hs60 (upd i' 12 1) r3
          refine TR.mk' (x1 := x' + 1) (j := upd (upd (upd i' 12 1) 8 a) 7 b) (r1 := r3) (mj := upd mi' 61 1) (mr1 := mr3) (k := 1) (by omega) ?_ ?_ (by omega) (by omega) (by rw [pk_un (by omega), pk_un (by omega), pk_us]; rfl) (by rw [pk_us]; rfl) (by rw [pk_un (by omega), pk_un (by omega), pk_un (by omega), pk_un (by omega), f11, f62]) (by rw [e3 1 (by omega), b9.1, a3 1 (by omega)]) (by rw [e4 59 (by omega), b10, a4 59 (by omega)])
          · rw [eL, b4, hle, hlv, e1, bd_some]
            dsimp only
            rw [if_neg q, meet_f f12, bd_some, f_X4_leaveBody_63, e6, bd_some, bd_some]
          · rw [eS2, e2, bd_some]
            dsimp only
            rw [if_neg q, f_X13_goIf_70, f_X13_must, if_pos rfl, if_pos f61, bd_some]
      · right
        obtain ⟨a, b, e6⟩ := behind_tot (i2 := i2) (r2 := r2) (l2 := l2) hs60 (upd i' 12 2) r3
        refine TR.mk' (x1 := x' + 1) (j := upd (upd (upd i' 12 2) 8 a) 7 b) (r1 := r3) (mj := upd mi' 61 2) (mr1 := mr3) (k := 2) (by omega) ?_ ?_ (by omega) (by omega) (by rw [pk_un (by omega), pk_un (by omega), pk_us]; rfl) (by rw [pk_us]; rfl) (by rw [pk_un (by omega), pk_un (by omega), pk_un (by omega), pk_un (by omega), f11, f62]) (by rw [e3 1 (by omega), b9.1, a3 1 (by omega)]) (by rw [e4 59 (by omega), b10, a4 59 (by omega)])
        · rw [eL, b4, hle, hlv, e1, bd_some]
          dsimp only
          rw [meet_t (by rw [pk_us]; decide), bd_some, ite_self, f_X4_leaveBody_63, e6, bd_some, bd_some]
        · rw [eS2, e2, bd_some]
          dsimp only
          have h70 : ∀ z : Int32, f_X13_goIf_70 (f_X13_goBody (d + 1)) ml (upd mi' 61 2) mr3 z = some (upd mi' 61 2, mr3) := fun z => by
            rw [f_X13_goIf_70, f_X13_must, if_neg (show ¬ (upd mi' 61 2) 61 = (0 : Int32) by rw [pk_us]; decide), ite_self, bd_some]
          rw [h70, h70, ite_self]
    · right
      refine hT.tr eL (fun mi' mr'' k q1 q2 q3 q4 => ?_) (a3 1 (by omega)) (a4 59 (by omega))
      rw [eS, q4, bd_some]
      dsimp only
      rw [if_neg (by rw [q3]; exact le0_pos q1 q2)]
  · right
    have hE : ∀ w, w < 2 → ∃ b, f_X4_beginStep_74 i2 r2 l2 (upd j 12 2) r' (nI w) (2 * nI s) = some (upd (upd (upd j 12 2) 8 (nI (2 * s + w))) 7 b, r') := fun w hw => by
      obtain ⟨b, e6⟩ := enter_tot (i2 := i2) (r2 := r2) (l2 := l2) (y := 2 * s + w) (by omega) (upd j 12 2) r'
      exact ⟨b, by rw [bs74, e6, bd_some]⟩
    obtain ⟨a, b, hE'⟩ : ∃ a b, f_X4_beginStep i r i2 r2 l2 (nI s) = some (upd (upd (upd j 12 2) 8 a) 7 b, r') := by
      rw [hC, a1, bd_some]
      dsimp only
      by_cases q : v = 0
      · obtain ⟨b, e6⟩ := hE 1 (by omega)
        exact ⟨_, b, by rw [if_pos q]; exact e6⟩
      · obtain ⟨b, e6⟩ := hE 0 (by omega)
        exact ⟨_, b, by rw [if_neg q]; exact e6⟩
    refine TR.mk' (x1 := x + 1) (j := upd (upd (upd j 12 2) 8 a) 7 b) (r1 := r') (mj := upd mj 61 2) (mr1 := mr') (k := 2) (by omega) ?_ ?_ (by omega) (by omega) (by rw [pk_un (by omega), pk_un (by omega), pk_us]; rfl) (by rw [pk_us]; rfl) (by rw [pk_un (by omega), pk_un (by omega), pk_un (by omega), pk_un (by omega), g11, g62]) (a3 1 (by omega)) (a4 59 (by omega))
    · rw [hL, hE', bd_some]
    · rw [hS1, a2, bd_some]
      dsimp only
      rw [if_neg (show ¬ (upd mj 61 2) 61 ≤ (0 : Int32) by rw [pk_us]; decide), bd_some]
