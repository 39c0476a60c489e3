/-! ===== run: the call ===== -/
theorem step_from {n P g : Nat} {lv : Nat → Nat} {i2 : Nat → Int32} {r2 : Nat → Nat → Int32} {l2 ml : Nat → Nat → Int64} {m0 : Nat → Nat → Int32} {mi0 : Nat → Int32} (hG : GPn n P lv i2 r2 mi0 m0) (hB : BodyR n lv i2 r2 l2 ml m0 g) {s d c cd dr y x : Nat} (hs : s < n) (k0 : r2 0 s = nI 5) (k28 : m0 28 s = nI 5) (hD : DA 5 s P r2 m0) (hy : r2 1 s = nI y) (hyb : y < 126) (hc : c < 5000) (hg : 5001 ≤ c + 1 + g) (hcd : cd ≤ 20) (hd : dr ≤ 1) (hdd : (20 - cd) * 7 + 7 ≤ d + bl lv y) (hx : x ≤ 2 * c) {i : Nat → Int32} {r : Nat → Nat → Int32} {mi : Nat → Int32} {mr : Nat → Nat → Int32} (hR : RS m0 c cd dr i r mi mr) (h7 : i 7 = nI s) : StepR i2 r2 l2 ml m0 s d c cd dr y x i r mi mr := by
  obtain ⟨hn, hP, p14, p46, hW, hND, hPR⟩ := id hG
  have hs60 : s < 60 := by omega
  obtain ⟨⟨h6, h63⟩, ⟨h9, h10⟩, ⟨h11, h62⟩, ⟨h12, h61⟩, hV, hM⟩ := id hR
  obtain ⟨j, ej, hC⟩ := bs_open (i2 := i2) (l2 := l2) (r := r) hs60 hc k0 h11 h12
  obtain ⟨mj, em, hS⟩ := gs_open (F := f_X13_goBody d) (ml := ml) (dr := nI dr) (mr := mr) hs60 hc (by rw [hM 28 (by omega)]; exact k28) h62 h61
  have hR1 : RS m0 (c + 1) cd dr j r mj mr := by rw [ej, em]; exact hR.cnt (c + 1)
  obtain ⟨⟨g6, g63⟩, ⟨g9, g10⟩, ⟨g11, g62⟩, ⟨g12, g61⟩, _, _⟩ := id hR1
  have hL := Lp_step (i2 := i2) (r2 := r2) (l2 := l2) (x := x) (by omega) hs60 (r := r) h10 h12 h7
  obtain ⟨lev1, lev2⟩ := CW_lev hW hs hy hyb
  obtain ⟨d, rfl⟩ : ∃ q, d = q + 1 := ⟨d - 1, by omega⟩
  obtain ⟨T0, T1, _⟩ := hD.2.2.1 (Or.inr rfl)
  have TD : ∀ w, w < 2 → TT 0 0 s w 900 900 r2 m0 := fun w hw => by
    rcases (show w = 0 ∨ w = 1 by omega) with rfl | rfl
    · exact T0
    · exact T1
  rw [if_neg (show ¬ nI 5 = (3 : Int32) by decide), if_neg (show ¬ nI 5 = (4 : Int32) by decide), if_pos (show nI 5 = (5 : Int32) from rfl), hold_1 hd g9] at hC
  have tl : ∀ o : Option ((Nat → Int32) × (Nat → Nat → Int32)), bd o (fun q9 => some (q9.1, q9.2)) = o := fun o => by cases o <;> rfl
  have hS1 : f_X13_goStep (f_X13_goBody (d + 1)) mi mr ml (nI s) (nI dr) = f_X13_goFrom_9 (f_X13_goBody (d + 1)) ml mj mr (nI s) (nI dr) (nI dr) := by
    rw [hS, if_neg (show ¬ nI 5 = (4 : Int32) by decide), if_pos (show nI 5 = (5 : Int32) from rfl), tl, f_X13_goFrom]
    rcases (show dr = 0 ∨ dr = 1 by omega) with rfl | rfl
    · rw [if_pos (show nI 0 = (0 : Int32) from rfl)]; rfl
    · rw [if_neg (show ¬ nI 1 = (0 : Int32) by decide)]; rfl
  rw [f_X13_goFrom_9] at hS1
  have b95 : ∀ (i : Nat → Int32) (r : Nat → Nat → Int32), f_X4_beginStep_95 i2 r2 l2 i r (nI s) = bd (f_X4_enter i r i2 r2 l2 (nI (2 * s))) (fun q17 => some (q17, r)) := fun i r => by rw [f_X4_beginStep_95, show (2 : Int32) * nI s = nI (2 * s) from pk_mul (a := 2) ..]
  rcases test_ok (i2 := i2) (l2 := l2) (ml := ml) (i := j) (mi := mj) hs60 (show dr < 2 by omega) (TD dr (by omega)) hM hV g12 g61 with ⟨v, r', mr', v01, a1, a2, a3, a4⟩ | ⟨v, u, r', mr', a1, a2, a3, a4⟩
  · rw [a1, bd_some] at hC
    dsimp only at hC
    rw [a2, bd_some] at hS1
    dsimp only at hS1
    by_cases q : v = 0
    · right
      obtain ⟨b, e6⟩ := enter_tot (i2 := i2) (r2 := r2) (l2 := l2) (y := 2 * s) (by omega) (upd j 12 1) r'
      rw [if_pos q, meet_f g12, bd_some, b95, e6, bd_some] at hC
      rw [q, must0 g61, bd_some, from_bad (mi := upd mj 61 1) (by rw [pk_us]; decide) (by omega)] at hS1
      refine TR.mk' (x1 := x + 1) (j := upd (upd (upd j 12 1) 8 (nI (2 * s))) 7 b) (r1 := r') (mj := upd mj 61 1) (mr1 := mr') (k := 1) (by omega) ?_ hS1 (by omega) (by omega) (by rw [pk_un (by omega), pk_un (by omega), pk_us]; rfl) (by rw [pk_us]; rfl) (by rw [pk_un (by omega), pk_un (by omega), pk_un (by omega), pk_un (by omega), g11, g62]) (a3 1 (by omega)) (a4 59 (by omega))
      rw [hL, hC, bd_some]
    · have v1 : v = 1 := by rcases v01 with e | e; exact absurd e q; exact e
      rw [if_neg q, b95, enter_ok (by omega) hd g9, bd_some] at hC
      rw [v1, must1, bd_some] at hS1
      have hR2 := (hR1.frm a3 a4).pos (nI (2 * s)) (st r2 (2 * s) dr)
      have eL : Lp i2 r2 l2 x i r = Lp i2 r2 l2 (x + 1) (upd (upd j 8 (nI (2 * s))) 7 (st r2 (2 * s) dr)) r' := by rw [hL, hC, bd_some]
      rcases from_go (ml := ml) (l2 := l2) hG hB hs k0 hD hy hyb hcd hd hdd 5001 (c + 1) (x + 1) 2000000 _ r' mj mr' (by omega) hg (by omega) (by omega) (by omega) hR2 pk_us (by rw [pk_un (by omega), pk_us]) with ⟨c9, x9, i9, r9, mi9, mr9, z1, z2, z3, z4, z5, z6, z7, z8, z9, z10⟩ | hT
      · left
        exact ⟨c9, x9, i9, r9, mi9, mr9, by omega, z2, by omega, eL.trans z4, hS1.trans z5, z6, z7, z8, (FRc.of2 a3).tr z9 (Nat.le_refl _), by rw [z10, a4 59 (by omega)]⟩
      · right
        exact hT.tr eL (fun mi' mr'' k _ _ _ q => hS1.trans q) (a3 1 (by omega)) (a4 59 (by omega))
  · right
    have nz2 : ¬ (upd mj 61 2) 61 = (0 : Int32) := by rw [pk_us]; decide
    obtain ⟨b, e6⟩ := enter_tot (i2 := i2) (r2 := r2) (l2 := l2) (y := 2 * s) (by omega) (upd j 12 2) r'
    rw [a1, bd_some] at hC
    dsimp only at hC
    rw [meet_t (by rw [pk_us]; decide), bd_some, ite_self, b95, e6, bd_some] at hC
    rw [a2, bd_some] at hS1
    dsimp only at hS1
    rw [mustT nz2, bd_some, from_bad (mi := upd mj 61 2) nz2 (by omega)] at hS1
    refine TR.mk' (x1 := x + 1) (j := upd (upd (upd j 12 2) 8 (nI (2 * s))) 7 b) (r1 := r') (mj := upd mj 61 2) (mr1 := mr') (k := 2) (by omega) ?_ hS1 (by omega) (by omega) (by rw [pk_un (by omega), pk_un (by omega), pk_us]; rfl) (by rw [pk_us]; rfl) (by rw [pk_un (by omega), pk_un (by omega), pk_un (by omega), pk_un (by omega), g11, g62]) (a3 1 (by omega)) (a4 59 (by omega))
    rw [hL, hC, bd_some]
/-- any STEP -/
theorem step_all {n P g : Nat} {lv : Nat → Nat} {i2 : Nat → Int32} {r2 : Nat → Nat → Int32} {l2 ml : Nat → Nat → Int64} {m0 : Nat → Nat → Int32} {mi0 : Nat → Int32} (hG : GPn n P lv i2 r2 mi0 m0) (hB : BodyR n lv i2 r2 l2 ml m0 g) {s d c cd dr y x : Nat} (hs : s < n) (hy : r2 1 s = nI y) (hyb : y < 126) (hc : c ≤ 5000) (hg : 5001 ≤ c + 1 + g) (hcd : cd ≤ 20) (hd : dr ≤ 1) (hdd : (20 - cd) * 7 + 7 ≤ d + bl lv y) (hx : x ≤ 2 * c) {i : Nat → Int32} {r : Nat → Nat → Int32} {mi : Nat → Int32} {mr : Nat → Nat → Int32} (hR : RS m0 c cd dr i r mi mr) (h7 : i 7 = nI s) : StepR i2 r2 l2 ml m0 s d c cd dr y x i r mi mr := by
  have hn := hG.1
  obtain ⟨k, hk, k0, k28, k29, k30, hD⟩ := hG.2.2.2.2.2.1 s hs
  by_cases hfull : c = 5000
  · subst hfull
    exact step_full (by omega) hR h7 hx
  have hc' : c < 5000 := by omega
  by_cases q : k < 4
  · exact step_simple (n := n) (by omega) q k0 k28 hD hy hc' hd hx hR h7
  by_cases q4 : k = 4
  · subst q4
    exact step_if hG hB hs k0 k28 hD hy hyb hc' hg hcd hd hdd hx hR h7
  by_cases q5 : k = 5
  · subst q5
    exact step_from hG hB hs k0 k28 hD hy hyb hc' hg hcd hd hdd hx hR h7
  exact step_call hG hB hs (by omega) k0 k28 hD hy hyb hc' hg hcd hd hdd hx hR h7
theorem body_run {n P : Nat} {lv : Nat → Nat} {i2 : Nat → Int32} {r2 : Nat → Nat → Int32} {l2 ml : Nat → Nat → Int64} {m0 : Nat → Nat → Int32} {mi0 : Nat → Int32} (hG : GPn n P lv i2 r2 mi0 m0) : ∀ g, BodyR n lv i2 r2 l2 ml m0 g := by
  intro g
  induction g with
  | zero => intro d c cd dr y x fu t i r mi mr h1 h2; omega
  | succ g ih =>
    intro d c cd dr y x fu t i r mi mr hg hc hcd hd hyb hA hdd hfu hx hR h7 h8
    obtain ⟨fu, rfl⟩ : ∃ q, fu = q + 1 := ⟨fu - 1, by omega⟩
    rcases hA with e | ⟨s, hs, e, hy⟩
    · left
      refine ⟨c, x, i, r, mi, mr, Nat.le_refl _, hc, by omega, rfl, ?_, hR, by rw [h7, e], h8, ⟨rfl, fun _ _ => ⟨rfl, rfl⟩⟩, rfl⟩
      rw [f_X13_goBody_11, if_pos e]
    · have hn := hG.1
      have hs60 : s < 60 := by omega
      obtain ⟨k, hk, k0, k28, k29, k30, hD⟩ := hG.2.2.2.2.2.1 s hs
      subst e
      have h61 := hR.2.2.2.1.2
      have eB : f_X13_goBody_11 (f_X13_goBody d) ml (fu + 1) mi mr (nI dr) (nI s) = bd (f_X13_goStep (f_X13_goBody d) mi mr ml (nI s) (nI dr)) (fun q2 => if nI dr = 0 then (f_X13_goBody_11 (f_X13_goBody d) ml fu q2.1 q2.2 (nI dr) (q2.2 29 s)) else (f_X13_goBody_11 (f_X13_goBody d) ml fu q2.1 q2.2 (nI dr) (q2.2 30 s))) := by
        rw [f_X13_goBody_11, if_neg (nm1N (show s < 2 ^ 31 by omega)), if_pos h61]
        simp only [ck_t (inb_nI (n := s) (N := 120) (by omega) (by omega)), f_X13_goBody_52, nI_clamp (show s < 2 ^ 31 by omega)]
      rcases step_all (l2 := l2) (ml := ml) hG ih (d := d) hs hy hyb hc (by omega) hcd hd hdd hx hR h7 with ⟨c1, x1, i1, r1, mi1, mr1, b1, b2, b3, b4, b5, b6, b7, b8, b9, b10⟩ | hT
      · have hM1 := b6.2.2.2.2.2
        have eB2 : f_X13_goBody_11 (f_X13_goBody d) ml (fu + 1) mi mr (nI dr) (nI s) = f_X13_goBody_11 (f_X13_goBody d) ml fu mi1 mr1 (nI dr) (nx r2 s dr) := by
          rw [eB, b5, bd_some]
          dsimp only
          rw [hM1 29 (by omega), hM1 30 (by omega), k29, k30, nx]
          rcases (show dr = 0 ∨ dr = 1 by omega) with rfl | rfl
          · rw [if_pos (show nI 0 = (0 : Int32) from rfl), if_pos rfl]
          · rw [if_neg (show ¬ nI 1 = (0 : Int32) by decide), if_neg (show ¬ (1 : Nat) = 0 by omega)]
        rcases ih d c1 cd dr y x1 fu (nx r2 s dr) i1 r1 mi1 mr1 (by omega) b2 hcd hd hyb (CW_nx hG.2.2.2.2.1 hs hy hyb) hdd (by omega) (by omega) b6 b7 b8 with ⟨c9, x9, i9, r9, mi9, mr9, z1, z2, z3, z4, z5, z6, z7, z8, z9, z10⟩ | hT
        · left
          exact ⟨c9, x9, i9, r9, mi9, mr9, by omega, z2, by omega, b4.trans z4, eB2.trans z5, z6, z7, z8, b9.tr z9 (Nat.le_refl _), z10.trans b10⟩
        · right
          exact hT.tr b4 (fun mi' mr' k _ _ _ q => eB2.trans q) b9.1 b10
      · right
        refine hT.tr rfl (fun mi' mr' k q1 q2 q3 q4 => ?_) rfl rfl
        obtain ⟨fu, rfl⟩ : ∃ q, fu = q + 1 := ⟨fu - 1, by omega⟩
        have nz : ¬ mi' 61 = 0 := by rw [q3]; exact nI_ne0 (by omega) (by omega)
        have hb : ∀ t : Int32, f_X13_goBody_11 (f_X13_goBody d) ml (fu + 1) mi' mr' (nI dr) t = some (mi', mr') := fun t => by
          rw [f_X13_goBody_11, if_neg nz, ite_self]
        rw [eB, q4, bd_some]
        dsimp only
        rw [hb, hb, ite_self]
