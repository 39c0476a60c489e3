/-! ===== run: the call ===== -/
theorem GPn.mr {n P : Nat} {lv : Nat → Nat} {i2 : Nat → Int32} {r2 : Nat → Nat → Int32} {mi : Nat → Int32} {mr mr' : Nat → Nat → Int32} (h : GPn n P lv i2 r2 mi mr) (e : ∀ z, z < 44 → mr' z = mr z) : GPn n P lv i2 r2 mi mr' := by
  unfold GPn DA VR SM TT SG at h ⊢
  rw [e 28 (by omega), e 29 (by omega), e 30 (by omega), e 31 (by omega), e 32 (by omega), e 33 (by omega), e 34 (by omega), e 35 (by omega), e 36 (by omega), e 37 (by omega), e 38 (by omega), e 39 (by omega), e 40 (by omega), e 41 (by omega), e 42 (by omega), e 43 (by omega)]
  exact h
theorem proc_cases {P : Nat} (hP : P ≤ 6) (x : Int32) : (∃ p, p < P ∧ x = nI p ∧ ¬ x < 0 ∧ x < nI P ∧ f_X13_in x.toInt64 0 ((nI P).toInt64 - 1) = some 1) ∨ ((x < 0 ∨ ¬ x < nI P) ∧ f_X13_in x.toInt64 0 ((nI P).toInt64 - 1) = some 0) := by
  have hz : ((nI P).toInt64 - 1).toInt = (P : Int) - 1 := by
    rcases (show P = 0 ∨ P = 1 ∨ P = 2 ∨ P = 3 ∨ P = 4 ∨ P = 5 ∨ P = 6 by omega) with rfl | rfl | rfl | rfl | rfl | rfl | rfl <;> decide
  have hp : (nI P).toInt = (P : Int) := by
    rcases (show P = 0 ∨ P = 1 ∨ P = 2 ∨ P = 3 ∨ P = 4 ∨ P = 5 ∨ P = 6 by omega) with rfl | rfl | rfl | rfl | rfl | rfl | rfl <;> decide
  rw [f_in, i2l_toInt, z64, hz, lt32, lt32, z32, hp]
  by_cases hc : 0 ≤ x.toInt ∧ x.toInt ≤ (P : Int) - 1
  · obtain ⟨k, _, e1, e2⟩ := nI_ofI hc.1
    exact Or.inl ⟨k, by omega, e1, by omega, by omega, by rw [if_pos hc]⟩
  · exact Or.inr ⟨by omega, by rw [if_neg hc]⟩
theorem run21_go {ml : Nat → Nat → Int64} {x1 x2 : Int32} : ∀ (d k fu : Nat) (mi : Nat → Int32) (mr : Nat → Nat → Int32), k + d = 18 → d < fu → (∀ m, m < k → mr 59 m = mr 58 m) → ∃ mr' fu', f_X13_run_21 ml fu mi mr x1 x2 (nI k) = f_X13_run_21 ml (fu' + 1) mi mr' x1 x2 (nI 18) ∧ (∀ m, m < 18 → mr' 59 m = mr 58 m) ∧ ∀ z, z ≠ 59 → mr' z = mr z := by
  intro d
  induction d with
  | zero =>
    intro k fu mi mr hk hfu h
    obtain ⟨fu, rfl⟩ : ∃ q, fu = q + 1 := ⟨fu - 1, by omega⟩
    obtain rfl : k = 18 := by omega
    exact ⟨mr, fu, rfl, h, fun _ _ => rfl⟩
  | succ d ih =>
    intro k fu mi mr hk hfu h
    obtain ⟨fu, rfl⟩ : ∃ q, fu = q + 1 := ⟨fu - 1, by omega⟩
    obtain ⟨mr', fu', a1, a2, a3⟩ := ih (k + 1) fu mi (va_up mr 59 (upd (mr 59) k (mr 58 k))) (by omega) (by omega) (fun m hm => by
      rw [up_s, up_n (by omega)]
      by_cases e : m = k
      · subst e; rw [pk_us]
      · rw [pk_un e]; exact h m (by omega))
    refine ⟨mr', fu', ?_, fun m hm => by rw [a2 m hm, up_n (by omega)], fun z hz => by rw [a3 z hz, up_n hz]⟩
    rw [f_X13_run_21, if_neg (show ¬ (18 : Int32) ≤ nI k from nI_ge (b := 18) (by omega) (by omega)), ck_t (inb_nI (by omega) (by omega)), ck_t (inb_nI (by omega) (by omega)), nI_clamp (by omega), nI_1]
    exact a1
theorem run91_go {ml : Nat → Nat → Int64} : ∀ (d k fu : Nat) (mi : Nat → Int32) (mr : Nat → Nat → Int32), k + d = 18 → d < fu → (∀ m, m < k → mr 58 m = mr 59 m) → ∃ mr', f_X13_run_91 ml fu mi mr (nI k) = some (-1, mi, mr') ∧ ∀ m, m < 18 → mr' 58 m = mr 59 m := by
  intro d
  induction d with
  | zero =>
    intro k fu mi mr hk hfu h
    obtain ⟨fu, rfl⟩ : ∃ q, fu = q + 1 := ⟨fu - 1, by omega⟩
    obtain rfl : k = 18 := by omega
    refine ⟨mr, ?_, h⟩
    rw [f_X13_run_91, if_pos (show (18 : Int32) ≤ nI 18 by decide)]
  | succ d ih =>
    intro k fu mi mr hk hfu h
    obtain ⟨fu, rfl⟩ : ∃ q, fu = q + 1 := ⟨fu - 1, by omega⟩
    obtain ⟨mr', a1, a2⟩ := ih (k + 1) fu mi (va_up mr 58 (upd (mr 58) k (mr 59 k))) (by omega) (by omega) (fun m hm => by
      rw [up_s, up_n (by omega)]
      by_cases e : m = k
      · subst e; rw [pk_us]
      · rw [pk_un e]; exact h m (by omega))
    refine ⟨mr', ?_, fun m hm => by rw [a2 m hm, up_n (by omega)]⟩
    rw [f_X13_run_91, if_neg (show ¬ (18 : Int32) ≤ nI k from nI_ge (b := 18) (by omega) (by omega)), ck_t (inb_nI (by omega) (by omega)), ck_t (inb_nI (by omega) (by omega)), nI_clamp (by omega), nI_1]
    exact a1
theorem run_ok {i : Nat → Int32} {r : Nat → Nat → Int32} {i2 : Nat → Int32} {r2 : Nat → Nat → Int32} {l2 ml : Nat → Nat → Int64} {mi : Nat → Int32} {mr : Nat → Nat → Int32} (hV : GV i r mi mr) (hG : GP i2 r2 mi mr) (x1 : Int32) {dr : Nat} (hd : dr ≤ 1) : ∃ a i' r' t mi' mr', f_X11_run i r i2 r2 l2 x1 (nI dr) = some (a, i', r', t) ∧ f_X13_run mi mr ml x1 (nI dr) = some (a, mi', mr') ∧ GV i' r' mi' mr' := by
  obtain ⟨v1, v2, v3⟩ := id hV
  obtain ⟨n, P, lv, hGn⟩ := hG
  obtain ⟨hn, hP, p14, p46, hW, hND, hPR⟩ := id hGn
  rw [f_X11_run, f_X13_run, f_X5_procs, p14, p46]
  rcases proc_cases hP x1 with ⟨p, hp, e, n0, lt, hin⟩ | ⟨nn, hin⟩
  · rw [if_neg n0, bd_some, if_pos lt, hin, bd_some, if_neg n10]
    subst e
    obtain ⟨mr1, fu, a1, a2, a3⟩ := run21_go (ml := ml) (x1 := nI p) (x2 := nI dr) 18 0 2000000 mi mr (by omega) (by omega) (fun m hm => by omega)
    have a1' : f_X13_run_21 ml 2000000 mi mr (nI p) (nI dr) 0 = f_X13_run_21 ml (fu + 1) mi mr1 (nI p) (nI dr) (nI 18) := a1
    have hG1 : GPn n P lv i2 r2 mi mr1 := hGn.mr (fun z hz => a3 z (by omega))
    obtain ⟨q1, q2⟩ := hPR p hp
    have hB : f_X13_goBody 160 (upd (upd (upd mi 61 0) 62 0) 63 0) mr1 ml (mr1 42 p) (mr1 43 p) (nI dr) = f_X13_goBody_11 (f_X13_goBody 159) ml 2000000 (upd (upd (upd mi 61 0) 62 0) 63 0) mr1 (nI dr) (st r2 (120 + p) dr) := by
      rw [gb_open (d := 159) hd, a3 42 (by omega), a3 43 (by omega), q1, q2, st]
    obtain ⟨r1, er1⟩ : ∃ r1, r1 = va_up r 1 (va_cpy (r 0) (r 1) (0 : Int32).toNatClampNeg (0 : Int32).toNatClampNeg (20 : Int32).toNatClampNeg) := ⟨_, rfl⟩
    obtain ⟨j, ej⟩ : ∃ j, j = upd (upd (upd (upd (upd i 6 0) 11 0) 12 0) 10 0) 9 (nI dr) := ⟨_, rfl⟩
    have j9 : j 9 = nI dr := by rw [ej, pk_us]
    have hC : f_X4_perform i r i2 r2 l2 (nI p) (nI dr) = Lp i2 r2 l2 0 (upd (upd j 8 (nI (120 + p))) 7 (st r2 (120 + p) dr)) r1 := by
      rw [f_X4_perform, ← er1, f_X4_perform_30, ck_t (bz_dir hd), ← ej, show (120 : Int32) + nI p = nI (120 + p) from nadd 120 p _ rfl, enter_ok (by omega) hd j9, bd_some]
      rfl
    have hR0 : RS mr1 0 0 dr j r1 (upd (upd (upd mi 61 0) 62 0) 63 0) mr1 := by
      refine ⟨⟨by rw [ej, pk_un (by omega), pk_un (by omega), pk_un (by omega), pk_un (by omega), pk_us]; rfl, by rw [pk_us]; rfl⟩, ⟨j9, by rw [ej, pk_un (by omega), pk_us]⟩, ⟨by rw [ej, pk_un (by omega), pk_un (by omega), pk_un (by omega), pk_us]; rfl, by rw [pk_un (by omega), pk_us]; rfl⟩, ⟨by rw [ej, pk_un (by omega), pk_un (by omega), pk_us], by rw [pk_un (by omega), pk_un (by omega), pk_us]⟩, fun m hm => by rw [er1, up_n (by omega), a3 58 (by omega)]; exact v1 m hm, fun _ _ => rfl⟩
    have bl0 : bl lv (120 + p) = 0 := if_neg (by omega)
    have c18 : f_X13_run_21 ml (fu + 1) mi mr1 (nI p) (nI dr) (nI 18) = bd (f_X13_goBody_11 (f_X13_goBody 159) ml 2000000 (upd (upd (upd mi 61 0) 62 0) 63 0) mr1 (nI dr) (st r2 (120 + p) dr)) (fun q3 => if (q3.1 61) = 0 then (some (q3.1 62, q3.1, q3.2)) else (f_X13_run_91 ml 2000000 q3.1 q3.2 0)) := by
      rw [f_X13_run_21, if_pos (show (18 : Int32) ≤ nI 18 by decide), ck_t (inb_nI (by omega) (by omega)), ck_t (inb_nI (by omega) (by omega)), nI_clamp (by omega), hB]
    rw [hC, a1', c18]
    rcases body_run (l2 := l2) (ml := ml) hG1 5001 159 0 0 dr (120 + p) 0 2000000 (st r2 (120 + p) dr) _ r1 _ mr1 (by omega) (by omega) (by omega) hd (by omega) (CW_st hW (by omega)) (by omega) (by omega) (by omega) (hR0.pos (nI (120 + p)) (st r2 (120 + p) dr)) pk_us (by rw [pk_un (by omega), pk_us]) with ⟨c', x', i', r', mi', mr', b1, b2, b3, b4, b5, b6, b7, b8, b9, b10⟩ | ⟨i', r', mi', mr', k, b1, b2, b3, b4, b5, b6, b7, b8, b9⟩
    · obtain ⟨⟨f6, f63⟩, ⟨f9, f10⟩, ⟨f11, f62⟩, ⟨f12, f61⟩, fV, fM⟩ := id b6
      have hle := Lp_leave (i2 := i2) (r2 := r2) (l2 := l2) (x := x') (by omega) (r := r') f10 f12 b7
      have hlv : f_X4_leaveBody i' r' i2 r2 l2 = some (upd i' 10 1, r') := by
        rw [f_X4_leaveBody, b8, if_neg (show ¬ nI (120 + p) < (120 : Int32) from nI_nlt (b := 120) (by omega) (by omega)), f_X4_endCall, f6, if_pos (show nI 0 = (0 : Int32) from rfl), bd_some]
      have g12 : (upd i' 10 1) 12 = 0 := by rw [pk_un (by omega)]; exact f12
      have g11 : (upd i' 10 1) 11 = nI c' := by rw [pk_un (by omega)]; exact f11
      refine ⟨nI c', upd i' 10 1, r', 1, mi', mr', ?_, ?_, fV, by rw [g12, f61], by rw [g11, f62]⟩
      · rw [b4, hle, hlv, bd_some, Lp_open (by omega), if_neg (show ¬ (upd i' 10 1) 10 = (0 : Int32) by rw [pk_us]; decide), f_X4_perform_106, if_pos g12, bd_some]
        dsimp only
        rw [g11]
      · rw [b5, bd_some]
        dsimp only
        rw [if_pos f61, f62]
    · obtain ⟨mr2, d1, d2⟩ := run91_go (ml := ml) 18 0 2000000 mi' mr' (by omega) (by omega) (fun m hm => by omega)
      have d1' : f_X13_run_91 ml 2000000 mi' mr' 0 = some (-1, mi', mr2) := d1
      refine ⟨-1, i', r', 1, mi', mr2, by rw [b1, bd_some], ?_, fun m hm => ?_, by rw [b5, b6], b7⟩
      · rw [b2, bd_some]
        dsimp only
        rw [if_neg (by rw [b6]; exact nI_ne0 (by omega) (by omega)), d1']
      · rw [b8 _ (cv_lt hm), er1, up_s, cp20 _ _ (cv_lt hm), d2 m hm, b9, a2 m hm]
        exact v1 m hm
  · rw [hin, bd_some, bd_some, if_pos rfl]
    refine ⟨-2, i, r, 0, mi, mr, ?_, rfl, hV⟩
    by_cases q : x1 < 0
    · rw [if_pos q]
    · rw [if_neg q, if_neg (by rcases nn with z | z; exact absurd z q; exact z)]
