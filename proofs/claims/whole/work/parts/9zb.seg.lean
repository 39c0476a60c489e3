/-! ===== run: a SUM in both ===== -/
theorem SG.tl {q c m : Nat} {t : MKt} {L : List MKt} {r2 m0 : Nat → Nat → Int32} (h : SG q c m (t :: L) r2 m0) : SG q (c + 1) (m + 1) L r2 m0 := by
  intro j u hj
  have := h (j + 1) u (by rw [List.getElem?_cons_succ]; exact hj)
  rw [show c + (j + 1) = c + 1 + j by omega, show m + (j + 1) = m + 1 + j by omega] at this
  exact this
theorem SG.hd {c m : Nat} {t : MKt} {L : List MKt} {r2 m0 : Nat → Nat → Int32} (h : SG 0 c m (t :: L) r2 m0) : r2 12 c = cM t ∧ m0 39 m = nI t.1 ∧ m0 40 m = nI t.2.1 ∧ m0 41 m = nI t.2.2 := by
  have := h 0 t rfl
  rw [show c + 0 = c by omega, show 0 + (m + 0) = m by omega] at this
  exact this
theorem seg_go {i2 : Nat → Int32} {r2 : Nat → Nat → Int32} {l2 ml : Nat → Nat → Int64} {m0 : Nat → Nat → Int32} {e x1 em b fC fM : Nat} (he : e ≤ 900) (hx : x1 < 480) (hem : em ≤ 900) (h35 : m0 35 x1 = nI em) (hb : b ≤ 1) : ∀ (L : List MKt) (c m h h' : Nat) (i : Nat → Int32) (r : Nat → Nat → Int32) (mi : Nat → Int32) (mr : Nat → Nat → Int32), SG 0 c m L r2 m0 → (∀ t ∈ L, okM t) → pfd L h = some h' → b + h + nA L ≤ 24 → c + L.length ≤ e → m + L.length = em → e < c + (L.length + fC) → CTt c e r2 → (∀ z, z < 44 → mr z = m0 z) → RV r mr → (∀ j, j < h → r 2 (b + j) = mr 60 j) → i 12 = 0 →
  (∃ r' mr', f_X4_reckon_5 i2 r2 l2 (L.length + fC) i r (nI e) (nI (b + h)) (nI c) = f_X4_reckon_5 i2 r2 l2 fC i r' (nI e) (nI (b + h')) (nI (c + L.length)) ∧ f_X13_sumOf_9 ml (L.length + fM) mi mr (nI x1) (nI h) (nI m) = f_X13_sumOf_9 ml fM mi mr' (nI x1) (nI h') (nI em) ∧ (∀ j, j < h' → r' 2 (b + j) = mr' 60 j) ∧ (∀ j, j < b → r' 2 j = r 2 j) ∧ (∀ z, z ≠ 2 → r' z = r z) ∧ ∀ z, z ≠ 60 → mr' z = mr z) ∨
  (∃ v r' mr', f_X4_reckon_5 i2 r2 l2 (L.length + fC) i r (nI e) (nI (b + h)) (nI c) = some (v, upd i 12 2, r') ∧ f_X13_sumOf_9 ml (L.length + fM) mi mr (nI x1) (nI h) (nI m) = some (0, upd mi 61 2, mr') ∧ (∀ z, z ≠ 2 → r' z = r z) ∧ ∀ z, z ≠ 60 → mr' z = mr z) := by
  intro L
  induction L with
  | nil =>
    intro c m h h' i r mi mr hS hO hp hA hc hm hf hT hM hV hK hi
    left
    have e1 : h = h' := Option.some.inj hp
    subst e1
    have e2 : m = em := by simpa using hm
    subst e2
    refine ⟨r, mr, ?_, ?_, hK, fun _ _ => rfl, fun _ _ => rfl, fun _ _ => rfl⟩
    · rw [List.length_nil, Nat.zero_add, Nat.add_zero]
    · rw [List.length_nil, Nat.zero_add]
  | cons t L ih =>
    intro c m h h' i r mi mr hS hO hp hA hc hm hf hT hM hV hK hi
    obtain ⟨s1, s2, s3, s4⟩ := hS.hd
    have hot := hO t (List.mem_cons_self ..)
    have hO' : ∀ u ∈ L, okM u := fun u hu => hO u (List.mem_cons_of_mem _ hu)
    rw [List.length_cons] at hc hm hf
    have hT' : CTt (c + 1) e r2 := fun j j1 j2 => hT j (by omega) j2
    have lC : (t :: L).length + fC = (L.length + fC) + 1 := by rw [List.length_cons]; omega
    have lM : (t :: L).length + fM = (L.length + fM) + 1 := by rw [List.length_cons]; omega
    have lc : c + (t :: L).length = c + 1 + L.length := by rw [List.length_cons]; omega
    rw [lC, lM, lc]
    have hA' : b + h + ((if t.1 = 2 then 0 else 1) + nA L) ≤ 24 := hA
    rw [pfd_cons] at hp
    have cc : (nI c).toNatClampNeg = c := nI_clamp (by omega)
    have cm' : (nI m).toNatClampNeg = m := nI_clamp (by omega)
    have cx : (nI x1).toNatClampNeg = x1 := nI_clamp (by omega)
    have m35 : mr 35 x1 = nI em := by rw [hM 35 (by omega)]; exact h35
    have m39 : mr 39 m = nI t.1 := by rw [hM 39 (by omega)]; exact s2
    have m40 : mr 40 m = nI t.2.1 := by rw [hM 40 (by omega)]; exact s3
    have m41 : mr 41 m = nI t.2.2 := by rw [hM 41 (by omega)]; exact s4
    have ix : inb (nI x1) 480 = true := inb_nI hx (by omega)
    have im : inb (nI m) 2000 = true := inb_nI (by omega) (by omega)
    -- what comes after a value is laid down
    have lay : ∀ y : Int32, ¬ t.1 = 2 → f_X4_reckon_5 i2 r2 l2 (L.length + fC + 1) i r (nI e) (nI (b + h)) (nI c) = f_X4_reckon_5 i2 r2 l2 (L.length + fC) i (va_up r 2 (upd (r 2) (b + h) y)) (nI e) (nI (b + (h + 1))) (nI (c + 1)) → f_X13_sumOf_9 ml (L.length + fM + 1) mi mr (nI x1) (nI h) (nI m) = f_X13_sumOf_9 ml (L.length + fM) mi (va_up mr 60 (upd (mr 60) h y)) (nI x1) (nI (h + 1)) (nI (m + 1)) →
      (∃ r' mr', f_X4_reckon_5 i2 r2 l2 (L.length + fC + 1) i r (nI e) (nI (b + h)) (nI c) = f_X4_reckon_5 i2 r2 l2 fC i r' (nI e) (nI (b + h')) (nI (c + 1 + L.length)) ∧ f_X13_sumOf_9 ml (L.length + fM + 1) mi mr (nI x1) (nI h) (nI m) = f_X13_sumOf_9 ml fM mi mr' (nI x1) (nI h') (nI em) ∧ (∀ j, j < h' → r' 2 (b + j) = mr' 60 j) ∧ (∀ j, j < b → r' 2 j = r 2 j) ∧ (∀ z, z ≠ 2 → r' z = r z) ∧ ∀ z, z ≠ 60 → mr' z = mr z) ∨
      (∃ v r' mr', f_X4_reckon_5 i2 r2 l2 (L.length + fC + 1) i r (nI e) (nI (b + h)) (nI c) = some (v, upd i 12 2, r') ∧ f_X13_sumOf_9 ml (L.length + fM + 1) mi mr (nI x1) (nI h) (nI m) = some (0, upd mi 61 2, mr') ∧ (∀ z, z ≠ 2 → r' z = r z) ∧ ∀ z, z ≠ 60 → mr' z = mr z) := by
      intro y hne eC eM
      rw [if_neg hne] at hp hA'
      rcases ih (c + 1) (m + 1) (h + 1) h' i (va_up r 2 (upd (r 2) (b + h) y)) mi (va_up mr 60 (upd (mr 60) h y)) hS.tl hO' hp (by omega) (by omega) (by omega) (by omega) hT' (fun z hz => by rw [up_n (by omega)]; exact hM z hz) (fun z hz => by rw [up_n (by omega), up_n (by omega)]; exact hV z hz) (fun j hj => by
        rw [up_s, up_s]
        by_cases q : j = h
        · subst q; rw [pk_us, pk_us]
        · rw [pk_un (by omega), pk_un q]; exact hK j (by omega)) hi with ⟨r', mr', a1, a2, a3, a4, a5, a6⟩ | ⟨v, r', mr', a1, a2, a5, a6⟩
      · exact Or.inl ⟨r', mr', eC.trans a1, eM.trans a2, a3, fun j hj => by rw [a4 j hj, up_s, pk_un (by omega)], fun z hz => by rw [a5 z hz, up_n hz], fun z hz => by rw [a6 z hz, up_n hz]⟩
      · exact Or.inr ⟨v, r', mr', eC.trans a1, eM.trans a2, fun z hz => by rw [a5 z hz, up_n hz], fun z hz => by rw [a6 z hz, up_n hz]⟩
    have hC0 : f_X4_reckon_5 i2 r2 l2 (L.length + fC + 1) i r (nI e) (nI (b + h)) (nI c) = if (0 : Int32) ≤ cM t then (f_X4_reckon_66 i2 r2 l2 (f_X4_reckon_5 i2 r2 l2 (L.length + fC)) i r (nI e) (nI (b + h)) (nI c) (cM t)) else (if nI (b + h) < 2 then (f_X4_reckon_66 i2 r2 l2 (f_X4_reckon_5 i2 r2 l2 (L.length + fC)) i r (nI e) (nI (b + h)) (nI c) (cM t)) else (ck (inb ((nI (b + h) + (-1)) - 1) 24) (ck (inb (nI (b + h) + (-1)) 24) (bd (f_X4_work (-(cM t)) (r 2 ((nI (b + h) + (-1)) - 1).toNatClampNeg) (r 2 (nI (b + h) + (-1)).toNatClampNeg)) (fun q6 => ck (inb ((nI (b + h) + (-1)) - 1) 24) (f_X4_reckon_114 i2 r2 l2 (f_X4_reckon_5 i2 r2 l2 (L.length + fC)) i (va_up r 2 (upd (r 2) ((nI (b + h) + (-1)) - 1).toNatClampNeg q6)) (nI e) (nI (b + h) + (-1)) (nI c))))))) := by
      rw [f_X4_reckon_5, if_neg (nI_ge (by omega) (by omega)), f_X5_codeAt, ck_t (inb_nI (by omega) (by omega)), bd_some, cc, s1]
    have n24 : b + h < 24 → ¬ (24 : Int32) ≤ nI (b + h) := fun q => nI_ge (b := 24) q (by omega)
    rcases hot with ⟨t1, t2, t3⟩ | ⟨t1, t2⟩ | ⟨t1, t2, t3⟩
    · -- a number
      have e0 : cM t = nI t.2.1 := if_pos t1
      rw [if_neg (by omega)] at hA'
      refine lay (nI t.2.1) (by omega) ?_ ?_
      · rw [hC0, e0, if_pos (show (0 : Int32) ≤ nI t.2.1 from nI_le (a := 0) (by omega) (by omega)), f_X4_reckon_66, if_neg (show ¬ nI t.2.1 < (0 : Int32) from nI_nlt (b := 0) (by omega) (by omega)), if_neg (n24 (by omega)), if_neg (show ¬ (10000 : Int32) ≤ nI t.2.1 from nI_ge (b := 10000) t2 (by omega)), f_X4_reckon_110, ck_t (inb_nI (by omega) (by omega)), f_X4_reckon_114, nI_1, nI_1, nI_clamp (show b + h < 2 ^ 31 by omega)]
        rfl
      · rw [f_X13_sumOf_9, ck_t ix, cx, m35, if_neg (nI_ge (by omega) (by omega)), ck_t im, cm', m39, t1, if_neg (show ¬ nI 0 = (2 : Int32) by decide), ck_t im, ck_t im, if_neg (show ¬ nI 0 = (1 : Int32) by decide), m40, f_X13_sumOf_115, ck_t (inb_nI (by omega) (by omega)), f_X13_sumOf_126, nI_1, nI_1, nI_clamp (show h < 2 ^ 31 by omega)]
    · -- a variable
      have hv := vc_lt t2
      have e0 : cM t = nI (10000 + vc t.2.1 t.2.2) := by unfold cM; rw [if_neg (by omega), if_pos t1]
      rw [if_neg (by omega)] at hA'
      have hC1 : f_X4_reckon_5 i2 r2 l2 (L.length + fC + 1) i r (nI e) (nI (b + h)) (nI c) = bd (f_X4_placeOf i r (nI (vc t.2.1 t.2.2))) (fun q4 => ck (inb q4.1 20) (f_X4_reckon_110 i2 r2 l2 (f_X4_reckon_5 i2 r2 l2 (L.length + fC)) q4.2 r (nI e) (nI (b + h)) (nI c) (r 0 q4.1.toNatClampNeg) (nI (b + h)))) := by
        rw [hC0, e0, if_pos (show (0 : Int32) ≤ nI (10000 + vc t.2.1 t.2.2) from nI_le (a := 0) (by omega) (by omega)), f_X4_reckon_66, if_neg (show ¬ nI (10000 + vc t.2.1 t.2.2) < (0 : Int32) from nI_nlt (b := 0) (by omega) (by omega)), if_neg (n24 (by omega)), if_pos (show (10000 : Int32) ≤ nI (10000 + vc t.2.1 t.2.2) from nI_le (a := 10000) (by omega) (by omega)), show nI (10000 + vc t.2.1 t.2.2) - 10000 = nI (vc t.2.1 t.2.2) from (pk_sub (a := 10000 + vc t.2.1 t.2.2) (b := 10000) (by omega)).trans (by rw [Nat.add_sub_cancel_left])]
      have hM1 : f_X13_sumOf_9 ml (L.length + fM + 1) mi mr (nI x1) (nI h) (nI m) = bd (f_X13_placeOf mi mr ml (nI t.2.1) (nI t.2.2)) (fun q3 => if q3.1 = (-1) then (some (0, q3.2, mr)) else (ck (inb q3.1 18) (f_X13_sumOf_115 ml (f_X13_sumOf_9 ml (L.length + fM)) q3.2 mr (nI x1) (nI h) (nI m) (mr 58 q3.1.toNatClampNeg)))) := by
        rw [f_X13_sumOf_9, ck_t ix, cx, m35, if_neg (nI_ge (by omega) (by omega)), ck_t im, cm', m39, t1, if_neg (show ¬ nI 1 = (2 : Int32) by decide), ck_t im, ck_t im, if_pos (show nI 1 = (1 : Int32) from rfl), ck_t im, m40, m41]
      rcases rplace_ok (i := i) (mi := mi) (ml := ml) t2 hV with ⟨p, p1, p2, p3⟩ | ⟨p2, p3⟩
      · have hcv := cv_lt p1
        refine lay (mr 58 p) (by omega) ?_ ?_
        · rw [hC1, p2, bd_some, ck_t (inb_nI hcv (by omega)), f_X4_reckon_110, ck_t (inb_nI (by omega) (by omega)), f_X4_reckon_114, nI_1, nI_1, nI_clamp (show b + h < 2 ^ 31 by omega), nI_clamp (show cv p < 2 ^ 31 by omega), hV p p1]
          rfl
        · rw [hM1, p3, bd_some, if_neg (nm1N (by omega)), ck_t (inb_nI p1 (by omega)), f_X13_sumOf_115, ck_t (inb_nI (by omega) (by omega)), f_X13_sumOf_126, nI_1, nI_1, nI_clamp (show h < 2 ^ 31 by omega), nI_clamp (show p < 2 ^ 31 by omega)]
      · right
        rw [p2, meet_f hi, bd_some, bd_some, ck_t (show inb (10 : Int32) 20 = true by decide), f_X4_reckon_110, ck_t (inb_nI (by omega) (by omega)), f_X4_reckon_114, nI_1, nI_1] at hC1
        obtain ⟨v, r', a1, a2⟩ := reck_tot (i2 := i2) (l2 := l2) he (e - (c + 1)) (c + 1) (b + h + 1) (L.length + fC) (upd i 12 2) (va_up r 2 (upd (r 2) (nI (b + h)).toNatClampNeg (r 0 (10 : Int32).toNatClampNeg))) (by omega) (by omega) (by omega) hT' (by rw [pk_us]; decide)
        refine ⟨v, r', mr, hC1.trans a1, ?_, fun z hz => by rw [a2 z hz, up_n hz], fun _ _ => rfl⟩
        rw [hM1, p3, bd_some, if_pos rfl]
    · -- an operator
      rw [if_pos t1] at hp hA'
      by_cases h2 : 2 ≤ h
      · rw [if_pos h2] at hp
        obtain ⟨o1, o2, o3⟩ := op_code (Or.inl t2)
        have e0 : cM t = -(nI t.2.1) := by unfold cM; rw [if_neg (by omega), if_neg (by omega)]
        obtain ⟨w, hw⟩ := work_some (nI t.2.1) (mr 60 (h - 2)) (mr 60 (h - 1))
        have k1 := hK (h - 2) (by omega)
        have k2 := hK (h - 1) (by omega)
        have eC : f_X4_reckon_5 i2 r2 l2 (L.length + fC + 1) i r (nI e) (nI (b + h)) (nI c) = f_X4_reckon_5 i2 r2 l2 (L.length + fC) i (va_up r 2 (upd (r 2) (b + (h - 2)) w)) (nI e) (nI (b + (h - 1))) (nI (c + 1)) := by
          rw [hC0, e0, if_neg o1, if_neg (show ¬ nI (b + h) < (2 : Int32) from nI_nlt (b := 2) (by omega) (by omega)), nm_1 (by omega) (by omega), nI_s1 (by omega), show b + h - 1 - 1 = b + (h - 2) by omega, show b + h - 1 = b + (h - 1) by omega, ck_t (inb_nI (by omega) (by omega)), ck_t (inb_nI (by omega) (by omega)), nI_clamp (show b + (h - 2) < 2 ^ 31 by omega), nI_clamp (show b + (h - 1) < 2 ^ 31 by omega), o2, k1, k2, hw, bd_some, ck_t (inb_nI (by omega) (by omega)), f_X4_reckon_114, nI_1]
        have eM : f_X13_sumOf_9 ml (L.length + fM + 1) mi mr (nI x1) (nI h) (nI m) = f_X13_sumOf_9 ml (L.length + fM) mi (va_up mr 60 (upd (mr 60) (h - 2) w)) (nI x1) (nI (h - 1)) (nI (m + 1)) := by
          rw [f_X13_sumOf_9, ck_t ix, cx, m35, if_neg (nI_ge (by omega) (by omega)), ck_t im, cm', m39, t1, if_pos (show nI 2 = (2 : Int32) from rfl), ck_t im, nm_1 (by omega) (by omega), nI_s1 (by omega), show h - 1 - 1 = h - 2 by omega, ck_t (inb_nI (by omega) (by omega)), ck_t (inb_nI (by omega) (by omega)), m40, nI_clamp (show h - 2 < 2 ^ 31 by omega), nI_clamp (show h - 1 < 2 ^ 31 by omega), two_work t2, hw, bd_some, ck_t (inb_nI (by omega) (by omega)), f_X13_sumOf_126, nI_1]
        rcases ih (c + 1) (m + 1) (h - 1) h' i (va_up r 2 (upd (r 2) (b + (h - 2)) w)) mi (va_up mr 60 (upd (mr 60) (h - 2) w)) hS.tl hO' hp (by omega) (by omega) (by omega) (by omega) hT' (fun z hz => by rw [up_n (by omega)]; exact hM z hz) (fun z hz => by rw [up_n (by omega), up_n (by omega)]; exact hV z hz) (fun j hj => by
          rw [up_s, up_s]
          by_cases q : j = h - 2
          · rw [q, pk_us, pk_us]
          · rw [pk_un (by omega), pk_un q]; exact hK j (by omega)) hi with ⟨r', mr', a1, a2, a3, a4, a5, a6⟩ | ⟨v, r', mr', a1, a2, a5, a6⟩
        · exact Or.inl ⟨r', mr', eC.trans a1, eM.trans a2, a3, fun j hj => by rw [a4 j hj, up_s, pk_un (by omega)], fun z hz => by rw [a5 z hz, up_n hz], fun z hz => by rw [a6 z hz, up_n hz]⟩
        · exact Or.inr ⟨v, r', mr', eC.trans a1, eM.trans a2, fun z hz => by rw [a5 z hz, up_n hz], fun z hz => by rw [a6 z hz, up_n hz]⟩
      · rw [if_neg h2] at hp
        cases hp
