/-! ===== run: FROM ===== -/
theorem must1 (mi : Nat → Int32) (mr : Nat → Nat → Int32) (ml : Nat → Nat → Int64) : f_X13_must mi mr ml 1 = some mi := by rw [f_X13_must, if_neg n10]
theorem must0 {mi : Nat → Int32} (h : mi 61 = 0) (mr : Nat → Nat → Int32) (ml : Nat → Nat → Int64) : f_X13_must mi mr ml 0 = some (upd mi 61 1) := by rw [f_X13_must, if_pos rfl, if_pos h]
theorem mustT {mi : Nat → Int32} (h : ¬ mi 61 = 0) (mr : Nat → Nat → Int32) (ml : Nat → Nat → Int64) (z : Int32) : f_X13_must mi mr ml z = some mi := by rw [f_X13_must, if_neg h, ite_self]
theorem from_bad {F : (Nat → Int32) → (Nat → Nat → Int32) → (Nat → Nat → Int64) → Int32 → Int32 → Int32 → Option ((Nat → Int32) × (Nat → Nat → Int32))} {ml : Nat → Nat → Int64} {fu : Nat} {mi : Nat → Int32} (h : ¬ mi 61 = 0) (hf : 0 < fu) (mr : Nat → Nat → Int32) (a b c : Int32) : f_X13_goFrom_20 F ml fu mi mr a b c = some (mi, mr) := by
  obtain ⟨fu, rfl⟩ : ∃ q, fu = q + 1 := ⟨fu - 1, by omega⟩
  rw [f_X13_goFrom_20, if_neg h]
theorem from_go {n P g : Nat} {lv : Nat → Nat} {i2 : Nat → Int32} {r2 : Nat → Nat → Int32} {l2 ml : Nat → Nat → Int64} {m0 : Nat → Nat → Int32} {mi0 : Nat → Int32} (hG : GPn n P lv i2 r2 mi0 m0) (hB : BodyR n lv i2 r2 l2 ml m0 g) {s d cd dr y : Nat} (hs : s < n) (k0 : r2 0 s = nI 5) (hD : DA 5 s P r2 m0) (hy : r2 1 s = nI y) (hyb : y < 126) (hcd : cd ≤ 20) (hd : dr ≤ 1) (hdd : (20 - cd) * 7 + 7 ≤ d + 1 + bl lv y) : ∀ (m c x fu : Nat) (i : Nat → Int32) (r : Nat → Nat → Int32) (mi : Nat → Int32) (mr : Nat → Nat → Int32), 5001 ≤ c + m → 5001 ≤ c + g → c ≤ 5000 → 5002 ≤ c + fu → x + 1 ≤ 2 * c → RS m0 c cd dr i r mi mr → i 7 = st r2 (2 * s) dr → i 8 = nI (2 * s) →
  (∃ c' x' i' r' mi' mr', c ≤ c' ∧ c' ≤ 5000 ∧ x' + 2 * c ≤ x + 1 + 2 * c' ∧ Lp i2 r2 l2 x i r = Lp i2 r2 l2 x' i' r' ∧ f_X13_goFrom_20 (f_X13_goBody (d + 1)) ml fu mi mr (nI s) (nI dr) (nI dr) = some (mi', mr') ∧ RS m0 c' cd dr i' r' mi' mr' ∧ i' 7 = nx r2 s dr ∧ i' 8 = nI y ∧ FRc cd r r' ∧ mr' 59 = mr 59) ∨
  TR r mr (Lp i2 r2 l2 x i r) (f_X13_goFrom_20 (f_X13_goBody (d + 1)) ml fu mi mr (nI s) (nI dr) (nI dr)) := by
  obtain ⟨hn, hP, p14, p46, hW, hND, hPR⟩ := hG
  have hs60 : s < 60 := by omega
  obtain ⟨lev1, lev2⟩ := CW_lev hW hs hy hyb
  obtain ⟨T0, T1, _⟩ := hD.2.2.1 (Or.inr rfl)
  have TD : ∀ w, w < 2 → TT 0 0 s w 900 900 r2 m0 := fun w hw => by
    rcases (show w = 0 ∨ w = 1 by omega) with rfl | rfl
    · exact T0
    · exact T1
  have blw : ∀ w, w < 2 → bl lv (2 * s + w) = lv s + 1 := fun w hw => by unfold bl; rw [if_pos (by omega), show (2 * s + w) / 2 = s by omega]
  have e1d : (1 : Int32) - nI dr = nI (1 - dr) := by
    rcases (show dr = 0 ∨ dr = 1 by omega) with rfl | rfl <;> rfl
  have s0 : 2 * s + 0 = 2 * s := rfl
  intro m
  induction m with
  | zero => intro c x fu i r mi mr h1 _ h2; omega
  | succ m ih =>
    intro c x fu i r mi mr hm hg hc hfu hx hR h7 h8
    obtain ⟨fu, rfl⟩ : ∃ q, fu = q + 1 := ⟨fu - 1, by omega⟩
    obtain ⟨⟨h6, h63⟩, ⟨h9, h10⟩, ⟨h11, h62⟩, ⟨h12, h61⟩, hV, hM⟩ := id hR
    have eF : f_X13_goFrom_20 (f_X13_goBody (d + 1)) ml (fu + 1) mi mr (nI s) (nI dr) (nI dr) = bd (f_X13_goBody_11 (f_X13_goBody d) ml 2000000 mi mr (nI dr) (st r2 (2 * s) dr)) (fun q10 => if (q10.1 61) ≤ 0 then (bd (f_X13_isSo q10.1 q10.2 ml (nI s) (nI (1 - dr))) (fun q11 => if q11.1 = 0 then (if 0 < (q11.2.1 61) then (some (q11.2.1, q11.2.2)) else (bd (f_X13_counts q11.2.1 q11.2.2 ml) (fun q12 => if q12.1 = 0 then (some (q12.2, q11.2.2)) else (bd (f_X13_goBodyOf (f_X13_goBody (d + 1)) q12.2 q11.2.2 ml (nI s) 1 (nI dr)) (fun q13 => if (q13.1 61) ≤ 0 then (bd (f_X13_isSo q13.1 q13.2 ml (nI s) (nI dr)) (fun q14 => if q14.1 = 0 then (f_X13_goFrom_102 (f_X13_goBody (d + 1)) ml (f_X13_goFrom_20 (f_X13_goBody (d + 1)) ml fu) q14.2.1 q14.2.2 (nI s) (nI dr) (nI dr) 1) else (f_X13_goFrom_102 (f_X13_goBody (d + 1)) ml (f_X13_goFrom_20 (f_X13_goBody (d + 1)) ml fu) q14.2.1 q14.2.2 (nI s) (nI dr) (nI dr) 0))) else (some (q13.1, q13.2))))))) else (some (q11.2.1, q11.2.2)))) else (some (q10.1, q10.2))) := by
      have := gbo_open (n := n) (lv := lv) (i2 := i2) (ml := ml) (d := d) (mi := mi) (w := 0) hs60 (by omega) hd (Or.inr rfl) hD hM
      rw [f_X13_goFrom_20, if_pos h61, show (0 : Int32) = nI 0 from rfl, this, e1d]
      rfl
    rcases hB d c cd dr (2 * s) x 2000000 (st r2 (2 * s) dr) i r mi mr hg hc hcd hd (by omega) (CW_st hW (by omega)) (by have := blw 0 (by omega); rw [s0] at this; omega) (by omega) (by omega) hR h7 h8 with ⟨c1, x1, i1, r1, mi1, mr1, b1, b2, b3, b4, b5, b6, b7, b8, b9, b10⟩ | hT
    · obtain ⟨⟨f6, f63⟩, ⟨f9, f10⟩, ⟨f11, f62⟩, ⟨f12, f61⟩, fV, fM⟩ := id b6
      have hle := Lp_leave (i2 := i2) (r2 := r2) (l2 := l2) (x := x1) (by omega) (r := r1) f10 f12 b7
      have hlv : f_X4_leaveBody i1 r1 i2 r2 l2 = bd (f_X4_holds_13 i2 r2 l2 i1 r1 (nI s) (nI (1 - dr))) (fun q16 => if q16.1 = 0 then (if (q16.2.1 12) = 0 then (bd (f_X4_countOne q16.2.1 q16.2.2) (fun q17 => bd (f_X4_enter q17 q16.2.2 i2 r2 l2 ((2 * nI s) + 1)) (fun q18 => some (q18, q16.2.2)))) else (some (q16.2.1, q16.2.2))) else (bd (f_X4_goBehind q16.2.1 q16.2.2 i2 r2 l2 (nI s)) (fun q19 => some (q19, q16.2.2)))) := by
        rw [leave_lo hs60 (show 0 < 2 by omega) b8, if_pos rfl, f_X4_leaveBody_35, f_X5_kindOf, ck_t (inb_nI hs60 (by omega)), nI_clamp (by omega), k0, bd_some, if_neg (show ¬ nI 5 = (4 : Int32) by decide), if_neg n10, hold_0 hd f9]
      rw [b5, bd_some] at eF
      dsimp only at eF
      rw [if_pos (show mi1 61 ≤ (0 : Int32) by rw [f61]; decide)] at eF
      rcases test_ok (i2 := i2) (l2 := l2) (ml := ml) (i := i1) (mi := mi1) hs60 (show 1 - dr < 2 by omega) (TD (1 - dr) (by omega)) fM fV f12 f61 with ⟨v, r3, mr3, v01, e1, e2, e3, e4⟩ | ⟨v, u, r3, mr3, e1, e2, e3, e4⟩
      · rw [e2, bd_some] at eF
        dsimp only at eF
        rw [e1, bd_some] at hlv
        dsimp only at hlv
        by_cases q : v = 0
        · -- once more
          rw [if_pos q, if_neg (show ¬ (0 : Int32) < mi1 61 by rw [f61]; decide)] at eF
          rw [if_pos q, if_pos f12, show (2 : Int32) * nI s + 1 = nI (2 * s + 1) from mul2 s 1] at hlv
          by_cases hfull : c1 = 5000
          · right
            subst hfull
            obtain ⟨b, e6⟩ := enter_tot (i2 := i2) (r2 := r2) (l2 := l2) (y := 2 * s + 1) (by omega) (upd (upd i1 11 (nI 5001)) 12 3) r3
            rw [count1_bad f11 f12, bd_some, e6, bd_some] at hlv
            rw [counts_bad f62, bd_some] at eF
            dsimp only at eF
            rw [if_pos rfl] at eF
            refine TR.mk' (x1 := x1 + 1) (j := upd (upd (upd (upd i1 11 (nI 5001)) 12 3) 8 (nI (2 * s + 1))) 7 b) (r1 := r3) (mj := upd (upd mi1 62 (nI 5001)) 61 3) (mr1 := mr3) (k := 3) (by omega) ?_ eF (by omega) (by omega) (by rw [pk_un (by omega), pk_un (by omega), pk_us]; rfl) (by rw [pk_us]; rfl) (by rw [pk_un (by omega), pk_un (by omega), pk_un (by omega), pk_us, pk_un (by omega), pk_us]) (by rw [e3 1 (by omega), b9.1]) (by rw [e4 59 (by omega), b10])
            rw [b4, hle, hlv, bd_some]
          · have hc1 : c1 < 5000 := by omega
            rw [count1_ok hc1 f11, bd_some, enter_ok (by omega) hd (by rw [pk_un (by omega)]; exact f9), bd_some] at hlv
            rw [counts_ok hc1 f62 f61, bd_some] at eF
            dsimp only at eF
            have hR3 := ((b6.frm e3 e4).cnt (c1 + 1)).pos (nI (2 * s + 1)) (st r2 (2 * s + 1) dr)
            have hM3 : ∀ z, z < 44 → mr3 z = m0 z := hR3.2.2.2.2.2
            have hgb := gbo_open (n := n) (lv := lv) (i2 := i2) (ml := ml) (d := d) (mi := upd mi1 62 (nI (c1 + 1))) (w := 1) hs60 (by omega) hd (Or.inr rfl) hD hM3
            rw [if_neg n10, show (1 : Int32) = nI 1 from rfl, hgb] at eF
            have eL : Lp i2 r2 l2 x i r = Lp i2 r2 l2 (x1 + 1) (upd (upd (upd i1 11 (nI (c1 + 1))) 8 (nI (2 * s + 1))) 7 (st r2 (2 * s + 1) dr)) r3 := by rw [b4, hle, hlv, bd_some]
            have w1 : r3 1 = r 1 := by rw [e3 1 (by omega), b9.1]
            have w59 : mr3 59 = mr 59 := by rw [e4 59 (by omega), b10]
            rcases hB d (c1 + 1) cd dr (2 * s + 1) (x1 + 1) 2000000 (st r2 (2 * s + 1) dr) _ r3 _ mr3 (by omega) (by omega) hcd hd (by omega) (CW_st hW (by omega)) (by have := blw 1 (by omega); omega) (by omega) (by omega) hR3 pk_us (by rw [pk_un (by omega), pk_us]) with ⟨c2, x2, i4, r4, mi4, mr4, d1, d2, d3, d4, d5, d6, d7, d8, d9, d10⟩ | hT
            · obtain ⟨⟨y6, y63⟩, ⟨y9, y10⟩, ⟨y11, y62⟩, ⟨y12, y61⟩, yV, yM⟩ := id d6
              have hle2 := Lp_leave (i2 := i2) (r2 := r2) (l2 := l2) (x := x2) (by omega) (r := r4) y10 y12 d7
              have h89 : ∀ (i : Nat → Int32) (r : Nat → Nat → Int32), f_X4_leaveBody_89 i2 r2 l2 i r (nI s) = bd (f_X4_enter i r i2 r2 l2 (nI (2 * s))) (fun q14 => some (q14, r)) := fun i r => by rw [f_X4_leaveBody_89, show (2 : Int32) * nI s = nI (2 * s) from pk_mul (a := 2) ..]
              have hlv2 : f_X4_leaveBody i4 r4 i2 r2 l2 = bd (f_X4_holds_13 i2 r2 l2 i4 r4 (nI s) (nI dr)) (fun q20 => if q20.1 = 0 then (f_X4_leaveBody_89 i2 r2 l2 q20.2.1 q20.2.2 (nI s)) else (bd (f_X4_meet q20.2.1 q20.2.2 1) (fun q21 => f_X4_leaveBody_89 i2 r2 l2 q21 q20.2.2 (nI s)))) := by
                rw [leave_lo hs60 (show 1 < 2 by omega) d8, if_neg (show ¬ (1 : Nat) = 0 by omega), f_X4_leaveBody_35, f_X5_kindOf, ck_t (inb_nI hs60 (by omega)), nI_clamp (by omega), k0, bd_some, if_neg (show ¬ nI 5 = (4 : Int32) by decide), if_pos rfl, hold_1 hd y9]
              rw [d5, bd_some] at eF
              dsimp only at eF
              rw [if_pos (show mi4 61 ≤ (0 : Int32) by rw [y61]; decide)] at eF
              have w1' : r4 1 = r 1 := d9.1.trans w1
              have w59' : mr4 59 = mr 59 := d10.trans w59
              rcases test_ok (i2 := i2) (l2 := l2) (ml := ml) (i := i4) (mi := mi4) hs60 (show dr < 2 by omega) (TD dr (by omega)) yM yV y12 y61 with ⟨v2, r5, mr5, v201, g1, g2, g3, g4⟩ | ⟨v2, u2, r5, mr5, g1, g2, g3, g4⟩
              · rw [g2, bd_some] at eF
                dsimp only at eF
                rw [g1, bd_some] at hlv2
                dsimp only at hlv2
                by_cases q2 : v2 = 0
                · rw [if_pos q2, f_X13_goFrom_102, show nI 1 = (1 : Int32) from rfl, must1, bd_some] at eF
                  rw [if_pos q2, h89, enter_ok (by omega) hd y9, bd_some] at hlv2
                  have hR5 := (d6.frm g3 g4).pos (nI (2 * s)) (st r2 (2 * s) dr)
                  have eL2 : Lp i2 r2 l2 x i r = Lp i2 r2 l2 (x2 + 1) (upd (upd i4 8 (nI (2 * s))) 7 (st r2 (2 * s) dr)) r5 := by rw [eL, d4, hle2, hlv2, bd_some]
                  rcases ih c2 (x2 + 1) fu _ r5 mi4 mr5 (by omega) (by omega) d2 (by omega) (by omega) hR5 pk_us (by rw [pk_un (by omega), pk_us]) with ⟨c9, x9, i9, r9, mi9, mr9, z1, z2, z3, z4, z5, z6, z7, z8, z9, z10⟩ | hT
                  · left
                    exact ⟨c9, x9, i9, r9, mi9, mr9, by omega, z2, by omega, eL2.trans z4, eF.trans z5, z6, z7, z8, (((b9.tr (FRc.of2 e3) (Nat.le_refl _)).tr d9 (Nat.le_refl _)).tr (FRc.of2 g3) (Nat.le_refl _)).tr z9 (Nat.le_refl _), by rw [z10, g4 59 (by omega), w59']⟩
                  · right
                    exact hT.tr eL2 (fun mi' mr' k _ _ _ q => eF.trans q) (by rw [g3 1 (by omega), w1']) (by rw [g4 59 (by omega), w59'])
                · right
                  obtain ⟨b, e6⟩ := enter_tot (i2 := i2) (r2 := r2) (l2 := l2) (y := 2 * s) (by omega) (upd i4 12 1) r5
                  rw [if_neg q2, f_X13_goFrom_102, must0 y61, bd_some, from_bad (mi := upd mi4 61 1) (by rw [pk_us]; decide) (by omega)] at eF
                  rw [if_neg q2, meet_f y12, bd_some, h89, e6, bd_some] at hlv2
                  refine TR.mk' (x1 := x2 + 1) (j := upd (upd (upd i4 12 1) 8 (nI (2 * s))) 7 b) (r1 := r5) (mj := upd mi4 61 1) (mr1 := mr5) (k := 1) (by omega) ?_ eF (by omega) (by omega) (by rw [pk_un (by omega), pk_un (by omega), pk_us]; rfl) (by rw [pk_us]; rfl) (by rw [pk_un (by omega), pk_un (by omega), pk_un (by omega), pk_un (by omega), y11, y62]) (by rw [g3 1 (by omega), w1']) (by rw [g4 59 (by omega), w59'])
                  rw [eL, d4, hle2, hlv2, bd_some]
              · right
                obtain ⟨b, e6⟩ := enter_tot (i2 := i2) (r2 := r2) (l2 := l2) (y := 2 * s) (by omega) (upd i4 12 2) r5
                have nz2 : ¬ (upd mi4 61 2) 61 = (0 : Int32) := by rw [pk_us]; decide
                have h102 : ∀ z : Int32, f_X13_goFrom_102 (f_X13_goBody (d + 1)) ml (f_X13_goFrom_20 (f_X13_goBody (d + 1)) ml fu) (upd mi4 61 2) mr5 (nI s) (nI dr) (nI dr) z = some (upd mi4 61 2, mr5) := fun z => by
                  rw [f_X13_goFrom_102, mustT nz2, bd_some, from_bad nz2 (by omega)]
                rw [g2, bd_some] at eF
                dsimp only at eF
                rw [h102, h102, ite_self] at eF
                rw [g1, bd_some] at hlv2
                dsimp only at hlv2
                rw [meet_t (by rw [pk_us]; decide), bd_some, ite_self, h89, e6, bd_some] at hlv2
                refine TR.mk' (x1 := x2 + 1) (j := upd (upd (upd i4 12 2) 8 (nI (2 * s))) 7 b) (r1 := r5) (mj := upd mi4 61 2) (mr1 := mr5) (k := 2) (by omega) ?_ eF (by omega) (by omega) (by rw [pk_un (by omega), pk_un (by omega), pk_us]; rfl) (by rw [pk_us]; rfl) (by rw [pk_un (by omega), pk_un (by omega), pk_un (by omega), pk_un (by omega), y11, y62]) (by rw [g3 1 (by omega), w1']) (by rw [g4 59 (by omega), w59'])
                rw [eL, d4, hle2, hlv2, bd_some]
            · right
              refine hT.tr eL (fun mi' mr' k q1 q2 q3 q4 => ?_) w1 w59
              rw [eF, q4, bd_some]
              dsimp only
              rw [if_neg (by rw [q3]; exact le0_pos q1 q2)]
        · -- done
          left
          rw [if_neg q] at eF hlv
          rw [behind_ok hs60 hd hy f9, bd_some] at hlv
          refine ⟨c1, x1 + 1, upd (upd i1 8 (nI y)) 7 (nx r2 s dr), r3, mi1, mr3, b1, b2, by omega, ?_, eF, (b6.frm e3 e4).pos _ _, pk_us, by rw [pk_un (by omega), pk_us], b9.tr (FRc.of2 e3) (Nat.le_refl _), by rw [e4 59 (by omega), b10]⟩
          rw [b4, hle, hlv, bd_some]
      · -- trouble in the test
        right
        rw [e2, bd_some] at eF
        dsimp only at eF
        rw [e1, bd_some] at hlv
        dsimp only at hlv
        rw [if_pos (show (0 : Int32) < (upd mi1 61 2) 61 by rw [pk_us]; decide), ite_self] at eF
        obtain ⟨a, b, e6⟩ := behind_tot (i2 := i2) (r2 := r2) (l2 := l2) hs60 (upd i1 12 2) r3
        rw [if_neg (show ¬ (upd i1 12 2) 12 = (0 : Int32) by rw [pk_us]; decide), e6, bd_some] at hlv
        by_cases q : v = 0
        · rw [if_pos q] at hlv
          refine TR.mk' (x1 := x1 + 1) (j := upd i1 12 2) (r1 := r3) (mj := upd mi1 61 2) (mr1 := mr3) (k := 2) (by omega) ?_ eF (by omega) (by omega) (by rw [pk_us]; rfl) (by rw [pk_us]; rfl) (by rw [pk_un (by omega), pk_un (by omega), f11, f62]) (by rw [e3 1 (by omega), b9.1]) (by rw [e4 59 (by omega), b10])
          rw [b4, hle, hlv, bd_some]
        · rw [if_neg q] at hlv
          refine TR.mk' (x1 := x1 + 1) (j := upd (upd (upd i1 12 2) 8 a) 7 b) (r1 := r3) (mj := upd mi1 61 2) (mr1 := mr3) (k := 2) (by omega) ?_ eF (by omega) (by omega) (by rw [pk_un (by omega), pk_un (by omega), pk_us]; rfl) (by rw [pk_us]; rfl) (by rw [pk_un (by omega), pk_un (by omega), pk_un (by omega), pk_un (by omega), f11, f62]) (by rw [e3 1 (by omega), b9.1]) (by rw [e4 59 (by omega), b10])
          rw [b4, hle, hlv, bd_some]
    · right
      refine hT.tr rfl (fun mi' mr' k q1 q2 q3 q4 => ?_) rfl rfl
      rw [eF, q4, bd_some]
      dsimp only
      rw [if_neg (by rw [q3]; exact le0_pos q1 q2)]
