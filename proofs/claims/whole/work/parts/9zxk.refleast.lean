/-! ===== least: the reference's answer ===== -/
/-- what the reference keeps between calls -/
def RGs (mi : Nat → Int32) (mr : Nat → Nat → Int32) : Prop := mi 25 = -1 ∨ ∃ k, k < 32 ∧ mi 25 = nI k ∧ NDk k mr
theorem NDk.congr {k : Nat} {r r' : Nat → Nat → Int32} (h : NDk k r) (e : r' 17 = r 17) : NDk k r' := by
  unfold NDk at h ⊢
  rw [e]
  exact h
theorem needs_ok {k : Nat} (hk : k < 32) {mi : Nat → Int32} {mr : Nat → Nat → Int32} {ml : Nat → Nat → Int64} (h : RGs mi mr) : ∃ mi' mr', f_X13_findNeeds mi mr ml (nI k) = some (mi', mr') ∧ GA (gsK k) mi' mr' ∧ mi' 25 = nI k ∧ NDk k mr' := by
  obtain ⟨i1, r1, a1, a2, a3⟩ := gates_ok hk mi mr ml
  by_cases q : i1 25 = nI k
  · refine ⟨i1, r1, ?_, a2, q, ?_⟩
    · rw [f_X13_findNeeds, a1, bd_some, if_pos q]
    · rw [a3.1 25 (by omega)] at q
      rcases h with h | ⟨k0, hk0, e, hn⟩
      · rw [h] at q
        exact absurd q.symm (nm1 (by omega))
      · rw [e] at q
        have := nI_inj (by omega) (by omega) q
        subst this
        exact hn.congr (a3.2 17 (by omega))
  · obtain ⟨r2, b1, b2, b3⟩ := search_ok hk (i := upd i1 25 (nI k)) (l := ml) (r := r1) ⟨by rw [pk_un (by omega)]; exact a2.1, a2.2⟩
    refine ⟨upd i1 25 (nI k), r2, ?_, b2, pk_us, b3⟩
    rw [f_X13_findNeeds, a1, bd_some, if_neg q]
    exact b1
theorem NDk.eqn {k : Nat} (hk : k < 32) {r : Nat → Nat → Int32} (h : NDk k r) {w n : Nat} (hw : TbW w) (hn : n ≤ 12) : r 17 (rkW w) = nI n ↔ Dst (gsK k) w n := by
  constructor
  · intro e
    by_cases q : ∃ m, RcN (gsK k) m w
    · obtain ⟨m, hm⟩ := q
      obtain ⟨n', _, hd⟩ := RN_Dst hm
      have h12 := Dst12 hk hw hd
      rw [(h w hw).1 n' hd] at e
      rw [← nI_inj (by omega) (by omega) e]
      exact hd
    · rw [(h w hw).2 (fun m hm => q ⟨m, hm⟩)] at e
      exact absurd e.symm (nm1 (by omega))
  · exact (h w hw).1 n
/-- slots 17, 21, 22, 23 stay -/
def Fr17 (r r' : Nat → Nat → Int32) : Prop := r' 17 = r 17 ∧ r' 21 = r 21 ∧ r' 22 = r 22 ∧ r' 23 = r 23
theorem KP.eq {J : Nat} {a b : Nat → Nat → Int32} (h : ∀ q, 10 ≤ q → q ≤ 14 → b q = a q) : KP J a b := fun j _ _ => by
  rw [h 10 (by omega) (by omega), h 11 (by omega) (by omega), h 12 (by omega) (by omega), h 13 (by omega) (by omega), h 14 (by omega) (by omega)]
  exact ⟨rfl, rfl, fun _ _ => ⟨rfl, rfl, rfl⟩⟩
theorem mstep_ok {k0 : Nat} (hk0 : k0 < 32) {i : Nat → Int32} {l : Nat → Nat → Int64} {K126 : (Nat → Int32) → (Nat → Nat → Int32) → Int32 → Int32 → Int32 → Option (Int32 × (Nat → Int32) × (Nat → Nat → Int32))} {w n v g : Nat} {x3 x5 : Int32} {fl : List FSt} (hw : TbW w) (hd : Dst (gsK k0) w (n + 1)) (hfl : fl.length < 40) (hf : FsG (gsK k0) (fun x => Dst (gsK k0) (pwG x w) n) v g) : ∀ (c j m : Nat) (r : Nat → Nat → Int32), j + c = v → c < m → GA (gsK k0) i r → NDk k0 r → (∀ x, x < 8 → r 19 x = nI (ivW w x)) → MF 3 fl r 6 → ∃ r', f_X13_least_149 l K126 m i r x3 (nI (rkW w)) x5 (nI j) = K126 i r' x3 (nI (rkW (pwG g w))) x5 ∧ MF 3 (fl ++ [gF g]) r' 6 ∧ KP 6 r r' ∧ Fr17 r r' := by
  have hz := gsK_in k0
  have h18 := gsK_len k0
  have h12 := Dst12 hk0 hw hd
  obtain ⟨f1, f2, f3⟩ := hf
  have hv := (List.getElem?_eq_some_iff.mp f1).1
  have iw := inb_nI (N := 40320) (rkW_lt w) (by omega)
  have bw := rkW_lt w
  have pre : ∀ (j m' x : Nat) (r r1 : Nat → Nat → Int32), f_X13_without i r l (nI j) = some (nI (rkW (pwG x w)), r1) → j < 18 → f_X13_least_149 l K126 (m' + 1) i r x3 (nI (rkW w)) x5 (nI j) = if r1 17 (rkW (pwG x w)) = (r1 17 (rkW w)) - 1 then (bd (f_X13_add i r1 l (r1 21 j) (r1 22 j) (r1 23 j)) (fun q13 => bd (f_X13_without i q13 l (nI j)) (fun q14 => K126 i q14.2 x3 q14.1 x5))) else (f_X13_least_149 l K126 m' i r1 x3 (nI (rkW w)) x5 (nI (j + 1))) := fun j m' x r r1 h hj => by
    have it := inb_nI (N := 40320) (rkW_lt (pwG x w)) (by omega)
    have bt := rkW_lt (pwG x w)
    have ij := inb_nI (N := 18) (n := j) hj (by omega)
    rw [f_X13_least_149, h, bd_some, ck_t it, ck_t iw, nI_clamp (by omega), nI_clamp (by omega), ck_t ij, ck_t ij, ck_t ij, nI_clamp (by omega), nI_1]
  intro c
  induction c with
  | zero =>
    intro j m r hj hm hG hN h19 hM
    obtain ⟨m', rfl⟩ : ∃ m', m = m' + 1 := ⟨m - 1, by omega⟩
    have e : j = v := by omega
    subst e
    have hgz := hz g (List.mem_of_getElem? f1)
    have ij := inb_nI (N := 18) (n := j) (by omega) (by omega)
    obtain ⟨r1, a1, a2⟩ := wout_ok hz h18 (l := l) hG hw h19 f1
    have it := inb_nI (N := 40320) (rkW_lt (pwG g w)) (by omega)
    have bt := rkW_lt (pwG g w)
    obtain ⟨g1, g2, g3⟩ := hG.2 j g f1
    have hM1 : MF 3 fl r1 6 := hM.congr (a2 10 (by omega)) (a2 11 (by omega)) (a2 12 (by omega)) (a2 13 (by omega)) (a2 14 (by omega))
    obtain ⟨r2, b1, b2, b3⟩ := madd_ok (mi := i) (ml := l) hM1 hfl (gF g)
    have fa := fr_X13_add b1
    have hN1 := hN.congr (a2 17 (by omega))
    have hG2 : GA (gsK k0) i r2 := hG.congr (by rw [fa 21 (by omega), a2 21 (by omega)]) (by rw [fa 22 (by omega), a2 22 (by omega)]) (by rw [fa 23 (by omega), a2 23 (by omega)])
    obtain ⟨r3, c1, c2⟩ := wout_ok hz h18 (l := l) hG2 hw (fun x hx => by rw [fa 19 (by omega), a2 19 (by omega)]; exact h19 x hx) f1
    have e1 : r1 17 (rkW w) = nI (n + 1) := (hN1.eqn hk0 hw h12).mpr hd
    have e2 : r1 17 (rkW (pwG g w)) = nI n := (hN1.eqn hk0 (pw_PW hgz hw) (by omega)).mpr f2
    refine ⟨r3, ?_, ?_, ?_, ?_⟩
    · rw [pre j m' g r r1 a1 (by omega), e1, e2, nI_s1 (by omega), Nat.add_sub_cancel, if_pos rfl, a2 21 (by omega), a2 22 (by omega), a2 23 (by omega), g1, g2, g3, b1, bd_some, c1, bd_some]
    · exact b2.congr (c2 10 (by omega)) (c2 11 (by omega)) (c2 12 (by omega)) (c2 13 (by omega)) (c2 14 (by omega))
    · exact ((KP.eq (fun q h1 h2 => a2 q (by omega))).tr b3).tr (KP.eq (fun q h1 h2 => c2 q (by omega)))
    · exact ⟨by rw [c2 17 (by omega), fa 17 (by omega), a2 17 (by omega)], by rw [c2 21 (by omega), fa 21 (by omega), a2 21 (by omega)], by rw [c2 22 (by omega), fa 22 (by omega), a2 22 (by omega)], by rw [c2 23 (by omega), fa 23 (by omega), a2 23 (by omega)]⟩
  | succ c ih =>
    intro j m r hj hm hG hN h19 hM
    obtain ⟨m', rfl⟩ : ∃ m', m = m' + 1 := ⟨m - 1, by omega⟩
    obtain ⟨x, hx⟩ : ∃ x, (gsK k0)[j]? = some x := ⟨(gsK k0)[j], List.getElem?_eq_getElem (by omega)⟩
    have hxz := hz x (List.mem_of_getElem? hx)
    obtain ⟨r1, a1, a2⟩ := wout_ok hz h18 (l := l) hG hw h19 hx
    have it := inb_nI (N := 40320) (rkW_lt (pwG x w)) (by omega)
    have bt := rkW_lt (pwG x w)
    have hN1 := hN.congr (a2 17 (by omega))
    have e1 : r1 17 (rkW w) = nI (n + 1) := (hN1.eqn hk0 hw h12).mpr hd
    obtain ⟨r', b1, b2, b3, b4⟩ := ih (j + 1) m' r1 (by omega) (by omega) (hG.congr (a2 21 (by omega)) (a2 22 (by omega)) (a2 23 (by omega))) hN1 (fun z hz' => by rw [a2 19 (by omega)]; exact h19 z hz') (hM.congr (a2 10 (by omega)) (a2 11 (by omega)) (a2 12 (by omega)) (a2 13 (by omega)) (a2 14 (by omega)))
    refine ⟨r', ?_, b2, (KP.eq (fun q h1 h2 => a2 q (by omega))).tr b3, b4.1.trans (a2 17 (by omega)), b4.2.1.trans (a2 21 (by omega)), b4.2.2.1.trans (a2 22 (by omega)), b4.2.2.2.trans (a2 23 (by omega))⟩
    rw [pre j m' x r r1 a1 (by omega), e1, nI_s1 (by omega), Nat.add_sub_cancel, if_neg (fun z => f3 j x (by omega) hx ((hN1.eqn hk0 (pw_PW hxz hw) (by omega)).mp z))]
    exact b1
theorem mwalk_ok {k0 to : Nat} (hk0 : k0 < 32) (hto : to < 6) {i : Nat → Int32} {l : Nat → Nat → Int64} {x5 : Int32} : ∀ (n m w : Nat) (pl : List Nat) (fl : List FSt) (r : Nat → Nat → Int32), n < m → n ≤ 12 → TbW w → Dst (gsK k0) w n → PthR (gsK k0) n w pl → fl.length + n ≤ 40 → GA (gsK k0) i r → NDk k0 r → MF 3 fl r 6 → ∃ r', f_X13_least_126 l m i r (nI to) (nI (rkW w)) x5 = some (x5, i, r') ∧ MF 3 (fl ++ pl.map gF) r' to ∧ KM to r r' ∧ r' 17 = r 17 := by
  intro n
  induction n with
  | zero =>
    intro m w pl fl r hm h12 hw hd hp hfl hG hN hM
    obtain ⟨m', rfl⟩ : ∃ m', m = m' + 1 := ⟨m - 1, by omega⟩
    have hp : pl = [] := hp
    subst hp
    have bw := rkW_lt w
    have iw := inb_nI (N := 40320) bw (by omega)
    have e1 : r 17 (rkW w) = nI 0 := (hN w hw).1 0 hd
    obtain ⟨r', a1, a2, a3⟩ := mcopy_ok (mi := i) (ml := l) (show 6 < 8 by omega) (show to < 8 by omega) (by omega) (by omega) hM
    refine ⟨r', ?_, by rw [List.map_nil, List.append_nil]; exact a2, KM.ofJ a3, fr_X13_copyFloor a1 17 (by omega)⟩
    rw [f_X13_least_126, ck_t iw, nI_clamp (by omega), e1, if_pos (show nI 0 ≤ (0 : Int32) from nI_le (a := 0) (b := 0) (by omega) (by omega)), show (6 : Int32) = nI 6 from rfl, a1, bd_some]
  | succ n ih =>
    intro m w pl fl r hm h12 hw hd hp hfl hG hN hM
    obtain ⟨m', rfl⟩ : ∃ m', m = m' + 1 := ⟨m - 1, by omega⟩
    obtain ⟨v, g, pl', e, f, p⟩ := hp
    subst e
    have bw := rkW_lt w
    have iw := inb_nI (N := 40320) bw (by omega)
    have e1 : r 17 (rkW w) = nI (n + 1) := (hN w hw).1 (n + 1) hd
    have hv := (List.getElem?_eq_some_iff.mp f.1).1
    have hgz := gsK_in k0 g (List.mem_of_getElem? f.1)
    obtain ⟨r1, a1, a2, a3⟩ := unrank_ok (iv_pm hw) (iv_sur hw) (i := i) (l := l) r
    have a1 : f_X13_unrank i r l (nI (rkW w)) = some r1 := a1
    have h18 := gsK_len k0
    obtain ⟨r2, b1, b2, b3, b4⟩ := mstep_ok hk0 (l := l) (K126 := f_X13_least_126 l m') (x3 := nI to) (x5 := x5) hw hd (show fl.length < 40 by omega) f v 0 2000000 r1 (by omega) (by omega) (hG.congr (a3 21 (by omega) (by omega)) (a3 22 (by omega) (by omega)) (a3 23 (by omega) (by omega))) (hN.congr (a3 17 (by omega) (by omega))) a2 (hM.congr (a3 10 (by omega) (by omega)) (a3 11 (by omega) (by omega)) (a3 12 (by omega) (by omega)) (a3 13 (by omega) (by omega)) (a3 14 (by omega) (by omega)))
    have f17 : r2 17 = r 17 := b4.1.trans (a3 17 (by omega) (by omega))
    obtain ⟨r', c1, c2, c3, c4⟩ := ih m' (pwG g w) pl' (fl ++ [gF g]) r2 (by omega) (by omega) (pw_PW hgz hw) f.2.1 p (by rw [List.length_append]; show fl.length + 1 + n ≤ 40; omega) (hG.congr (b4.2.1.trans (a3 21 (by omega) (by omega))) (b4.2.2.1.trans (a3 22 (by omega) (by omega))) (b4.2.2.2.trans (a3 23 (by omega) (by omega)))) (hN.congr f17) b2
    refine ⟨r', ?_, ?_, ?_, c4.trans f17⟩
    · rw [nI_0] at b1
      rw [f_X13_least_126, ck_t iw, nI_clamp (by omega), e1, if_neg (show ¬ nI (n + 1) ≤ (0 : Int32) from nI_ge (a := 0) (by omega) (by omega)), a1, bd_some, b1]
      exact c1
    · rw [List.append_assoc] at c2
      exact c2
    · exact ((KM.of6 (KP.eq (fun q h1 h2 => a3 q (by omega) (by omega)))).tr (KM.of6 b3)).tr c3
theorem tg_iv {l : List FSt} (hf : fineF 3 l) {x : Nat} (hx : x < 8) : ivW (tgW l) x = runS l x := by
  obtain ⟨p1, p2, p3, p4⟩ := wf8 hf
  have h1 := p1.1 x hx
  have e : vlW (tgW l) (runS l x) = x := by
    rw [show vlW (tgW l) (runS l x) = runS l.reverse (runS l x) from vl_wd (p2.1 _ h1) h1, p3]
  have := iv_vl (tg_PW hf) h1
  rw [e] at this
  exact this
theorem mperm_go {f : Nat} {l : List FSt} (hfi : fineF 3 l) (hf8 : f < 8) {i : Nat → Int32} {ml : Nat → Nat → Int64} {x3 : Int32} : ∀ (c k m : Nat) (r : Nat → Nat → Int32), k + c = 8 → c < m → MF 3 l r f → (∀ z, z < k → r 19 z = nI (runS l z)) → ∃ m' r', f_X13_least_50 ml m i r (nI f) x3 (nI k) = f_X13_least_50 ml (m' + 1) i r' (nI f) x3 8 ∧ (∀ z, z < 8 → r' 19 z = nI (runS l z)) ∧ ∀ q, q ≠ 19 → r' q = r q := by
  intro c
  induction c with
  | zero =>
    intro k m r hk hm hM h19
    obtain ⟨m', rfl⟩ : ∃ m', m = m' + 1 := ⟨m - 1, by omega⟩
    have e : k = 8 := by omega
    subst e
    exact ⟨m', r, rfl, h19, fun _ _ => rfl⟩
  | succ c ih =>
    intro k m r hk hm hM h19
    obtain ⟨m', rfl⟩ : ∃ m', m = m' + 1 := ⟨m - 1, by omega⟩
    have ik := inb_nI (N := 8) (n := k) (by omega) (by omega)
    obtain ⟨m'', r', a1, a2, a3⟩ := ih (k + 1) m' (va_up r 19 (upd (r 19) k (nI (runS l k)))) (by omega) (by omega) (hM.congr (up_n (by omega)) (up_n (by omega)) (up_n (by omega)) (up_n (by omega)) (up_n (by omega))) (fun z hz => by
      rw [up_s]
      by_cases e : z = k
      · rw [e, pk_us]
      · rw [pk_un e]
        exact h19 z (by omega))
    refine ⟨m'', r', ?_, a2, fun q hq => (a3 q hq).trans (up_n hq)⟩
    rw [f_X13_least_50, if_neg (show ¬ (8 : Int32) ≤ nI k from nI_ge (b := 8) (by omega) (by omega)), outBut_ok hf8 hfi hM (show k < 2 ^ 3 by omega), bd_some, ck_t ik, nI_clamp (by omega), nI_1]
    exact a1
theorem refer_ok {f k to : Nat} (hf : f < 6) (hk : k < 32) (hto : to < 6) {l : List FSt} (hfi : fineF 3 l) {mi : Nat → Int32} {mr : Nat → Nat → Int32} {ml : Nat → Nat → Int64} (hM : MF 3 l mr f) (hR : RGs mi mr) : ((∀ n, ¬ RcN (gsK k) n (tgW l)) → ∃ mi' mr', bd (f_X13_findNeeds mi mr ml (nI k)) (fun q22 => f_X13_least_50 ml 2000000 q22.1 q22.2 (nI f) (nI to) 0) = some (-1, mi', mr') ∧ (∀ q, 10 ≤ q → q ≤ 14 → mr' q = mr q) ∧ RGs mi' mr') ∧ (∀ n pl, Dst (gsK k) (tgW l) n → PthR (gsK k) n (tgW l) pl → ∃ mi' mr', bd (f_X13_findNeeds mi mr ml (nI k)) (fun q22 => f_X13_least_50 ml 2000000 q22.1 q22.2 (nI f) (nI to) 0) = some (nI n, mi', mr') ∧ MF 3 (pl.map gF) mr' to ∧ KM to mr mr' ∧ RGs mi' mr') := by
  obtain ⟨i1, r1, a1, a2, a3, a4⟩ := needs_ok hk (ml := ml) hR
  have fr := (fr_X13_findNeeds a1).2
  have fr : ∀ q, 10 ≤ q → q ≤ 14 → r1 q = mr q := fun q h1 h2 => fr q (by omega)
  have hM1 : MF 3 l r1 f := hM.congr (fr 10 (by omega) (by omega)) (fr 11 (by omega) (by omega)) (fr 12 (by omega) (by omega)) (fr 13 (by omega) (by omega)) (fr 14 (by omega) (by omega))
  obtain ⟨m', r2, b1, b2, b3⟩ := mperm_go hfi (show f < 8 by omega) (i := i1) (ml := ml) (x3 := nI to) 8 0 2000000 r1 (by omega) (by omega) hM1 (fun z hz => by omega)
  have hw := tg_PW hfi
  have hrk : f_X13_rank 8 (r2 19) = some (nI (rkW (tgW l))) := rank_ok (p := ivW (tgW l)) (fun x hx => by rw [tg_iv hfi hx]; exact b2 x hx) (iv_pm hw).1
  have bw := rkW_lt (tgW l)
  have iw := inb_nI (N := 40320) bw (by omega)
  have i6 : inb 6 8 = true := inb_nI (n := 6) (N := 8) (by omega) (by omega)
  have hN2 : NDk k r2 := a4.congr (b3 17 (by omega))
  rw [nI_0] at b1
  have E : bd (f_X13_findNeeds mi mr ml (nI k)) (fun q22 => f_X13_least_50 ml 2000000 q22.1 q22.2 (nI f) (nI to) 0) = if r2 17 (rkW (tgW l)) = -1 then some (-1, i1, r2) else f_X13_least_117 ml i1 (va_up (va_up r2 10 (upd (r2 10) 6 3)) 11 (upd (r2 11) 6 0)) (nI to) (nI (rkW (tgW l))) := by
    rw [a1, bd_some, b1, f_X13_least_50, if_pos (show (8 : Int32) ≤ 8 by decide), hrk, bd_some, ck_t iw, nI_clamp (by omega), ck_t i6, ck_t i6, six]
  rw [E]
  refine ⟨fun hn => ⟨i1, r2, ?_, fun q h1 h2 => by rw [b3 q (by omega), fr q h1 h2], Or.inr ⟨k, hk, a3, hN2⟩⟩, fun n pl hd hp => ?_⟩
  · rw [if_pos ((hN2 _ hw).2 hn)]
  · have h12 := Dst12 hk hw hd
    have e17 : r2 17 (rkW (tgW l)) = nI n := (hN2 _ hw).1 n hd
    have hM6 : MF 3 [] (va_up (va_up r2 10 (upd (r2 10) 6 3)) 11 (upd (r2 11) 6 0)) 6 := by
      refine ⟨?_, ?_, fun z t hz => by cases hz⟩
      · rw [up_n (by omega), up_s, pk_us]
        rfl
      · rw [up_s, pk_us]
        rfl
    have K6 : KP 6 r2 (va_up (va_up r2 10 (upd (r2 10) 6 3)) 11 (upd (r2 11) 6 0)) := fun j hj hJ => by
      refine ⟨?_, ?_, fun z hz => ⟨?_, ?_, ?_⟩⟩
      · rw [up_n (by omega), up_s, pk_un hJ]
      · rw [up_s, pk_un hJ]
      · rw [up_n (by omega), up_n (by omega)]
      · rw [up_n (by omega), up_n (by omega)]
      · rw [up_n (by omega), up_n (by omega)]
    have f3 : ∀ q, q ≠ 10 → q ≠ 11 → va_up (va_up r2 10 (upd (r2 10) 6 3)) 11 (upd (r2 11) 6 0) q = r2 q := fun q h1 h2 => by rw [up_n h2, up_n h1]
    obtain ⟨r3, c1, c2, c3, c4⟩ := mwalk_ok hk hto (i := i1) (l := ml) (x5 := nI n) n 2000000 (tgW l) pl [] _ (by omega) h12 hw hd hp (by show 0 + n ≤ 40; omega) (a2.congr (by rw [f3 21 (by omega) (by omega), b3 21 (by omega)]) (by rw [f3 22 (by omega) (by omega), b3 22 (by omega)]) (by rw [f3 23 (by omega) (by omega), b3 23 (by omega)])) (hN2.congr (f3 17 (by omega) (by omega))) hM6
    refine ⟨i1, r3, ?_, c2, ?_, Or.inr ⟨k, hk, a3, hN2.congr (c4.trans (f3 17 (by omega) (by omega)))⟩⟩
    · rw [if_neg (by rw [e17]; exact nm1 (by omega)), f_X13_least_117, ck_t iw, nI_clamp (by omega), f3 17 (by omega) (by omega), e17]
      exact c1
    · exact ((KM.of6 (KP.eq (fun q h1 h2 => by rw [b3 q (by omega), fr q h1 h2]))).tr (KM.of6 K6)).tr c3
