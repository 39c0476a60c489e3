/-! ===== least: the class's way home and to the rim ===== -/
theorem bs_dist {gs : List Nat} {i : Nat → Int32} {r : Nat → Nat → Int32} {u : Nat → Nat} {L : List Nat} {d k w : Nat} (h : ByS gs i r u L d k) (hw : TbW w) : ∃ v, f_X7_distance i r u (nI w) = some v ∧ (∀ n, n ≤ 13 → n ≤ d → (v = nI n ↔ Dst gs w n)) ∧ ((0 : Int32) ≤ v ↔ RcN gs d w) := by
  obtain ⟨⟨u2, _, _, _, ⟨sl, hs⟩, _, _⟩, h2, -⟩ := h
  have hb : w ∈ L ↔ RcN gs d w := by
    rw [h2.ball w hw]
    constructor
    · intro q
      obtain ⟨j, e⟩ := List.getElem?_of_mem q
      exact ⟨j, (List.getElem?_eq_some_iff.mp e).1, e⟩
    · rintro ⟨j, _, e⟩
      exact List.mem_of_getElem? e
  by_cases q : w ∈ L
  · obtain ⟨n0, a1, a2, a3⟩ := dist_in (i := i) u2 hs q
    refine ⟨_, a3, fun n h13 hn => ⟨fun e => ?_, fun e => by rw [a1.uq e]⟩, ⟨fun _ => hb.mp q, fun _ => nI_pos' (by omega)⟩⟩
    rw [← nI_inj (by omega) (by omega) e]
    exact a1
  · refine ⟨_, dist_out (i := i) u2 hs (PW_ne0 hw) hw.1 q, fun n h13 hn => ⟨fun e => ?_, fun e => absurd (hb.mpr (RN_le e.1 hn)) q⟩, ⟨fun e => absurd e (by decide), fun e => absurd (hb.mpr e) q⟩⟩
    exact absurd e.symm (nm1 (by omega))
theorem ByS.g0 {gs : List Nat} {i : Nat → Int32} {r : Nat → Nat → Int32} {u : Nat → Nat} {L : List Nat} {d k : Nat} (h : ByS gs i r u L d k) : i 4 = nI gs.length ∧ ∀ j g, gs[j]? = some g → r 0 j = nI g := ⟨h.1.2.2.2.2.2.1, h.1.2.2.2.2.2.2⟩
theorem near_ok {gs : List Nat} (hz : ∀ g ∈ gs, g ∈ zG) (h18 : gs.length ≤ 18) {i : Nat → Int32} {r : Nat → Nat → Int32} {u : Nat → Nat} {L : List Nat} {d k w n v g : Nat} (h : ByS gs i r u L d k) (hw : TbW w) (h10 : i 10 = nI w) (hn : n ≤ 13) (hnd : n ≤ d) (hf : FsG gs (fun x => Dst gs (pwG x w) n) v g) : ∀ (c j m : Nat), j + c = v → c < m → f_X7_stepNearer_2 i r u m (nI n) (nI j) = some (nI g) := by
  obtain ⟨f1, f2, f3⟩ := hf
  have hv := (List.getElem?_eq_some_iff.mp f1).1
  obtain ⟨g4, g0⟩ := h.g0
  have stp : ∀ (j m x : Nat), j < gs.length → gs[j]? = some x → (¬ Dst gs (pwG x w) n → f_X7_stepNearer_2 i r u (m + 1) (nI n) (nI j) = f_X7_stepNearer_2 i r u m (nI n) (nI (j + 1))) ∧ (Dst gs (pwG x w) n → f_X7_stepNearer_2 i r u (m + 1) (nI n) (nI j) = some (nI x)) := by
    intro j m x hj hx
    have hxz := hz x (List.mem_of_getElem? hx)
    have ij := inb_nI (N := 18) (n := j) (by omega) (by omega)
    obtain ⟨q, a1, a2, _⟩ := bs_dist h (pw_PW hxz hw)
    have e : f_X7_stepNearer_2 i r u (m + 1) (nI n) (nI j) = if q = nI n then some (nI x) else f_X7_stepNearer_2 i r u m (nI n) (nI (j + 1)) := by
      rw [f_X7_stepNearer_2, g4, if_neg (nI_ge (by omega) (by omega)), ck_t ij, nI_clamp (by omega), g0 j x hx, h10, pasw_ok hxz hw.1, bd_some, a1, bd_some, ck_t ij, nI_1]
    refine ⟨fun hd => ?_, fun hd => ?_⟩
    · rw [e, if_neg (fun z => hd ((a2 n hn hnd).mp z))]
    · rw [e, if_pos ((a2 n hn hnd).mpr hd)]
  intro c
  induction c with
  | zero =>
    intro j m hj hm
    obtain ⟨m', rfl⟩ : ∃ m', m = m' + 1 := ⟨m - 1, by omega⟩
    have e : j = v := by omega
    subst e
    exact (stp j m' g hv f1).2 f2
  | succ c ih =>
    intro j m hj hm
    obtain ⟨m', rfl⟩ : ∃ m', m = m' + 1 := ⟨m - 1, by omega⟩
    obtain ⟨x, hx⟩ : ∃ x, gs[j]? = some x := ⟨gs[j], List.getElem?_eq_getElem (by omega)⟩
    rw [(stp j m' x (by omega) hx).1 (f3 j x (by omega) hx)]
    exact ih (j + 1) m' (by omega) (by omega)
/-- only what was reached and the picks from `at` on change -/
def FRm (a : Nat) (i : Nat → Int32) (r : Nat → Nat → Int32) (i' : Nat → Int32) (r' : Nat → Nat → Int32) : Prop := (∀ q, q ≠ 10 → i' q = i q) ∧ (∀ q, q ≠ 1 → r' q = r q) ∧ ∀ j, j < a → r' 1 j = r 1 j
theorem FRm.bs {gs : List Nat} {a : Nat} {i i' : Nat → Int32} {r r' : Nat → Nat → Int32} {u : Nat → Nat} {L : List Nat} {d k : Nat} (f : FRm a i r i' r') (h : ByS gs i r u L d k) : ByS gs i' r' u L d k := h.congr (fun q hq => f.1 q (by omega)) (fun q hq => f.2.1 q (by omega))
theorem FRm.tr {a : Nat} {i i' i'' : Nat → Int32} {r r' r'' : Nat → Nat → Int32} (f : FRm a i r i' r') (g : FRm a i' r' i'' r'') : FRm a i r i'' r'' := ⟨fun q hq => (g.1 q hq).trans (f.1 q hq), fun q hq => (g.2.1 q hq).trans (f.2.1 q hq), fun j hj => (g.2.2 j hj).trans (f.2.2 j hj)⟩
theorem FRm.mk1 (a : Nat) (i : Nat → Int32) (r : Nat → Nat → Int32) (x : Int32) : FRm a i r i (va_up r 1 (upd (r 1) a x)) := ⟨fun _ _ => rfl, fun q hq => up_n hq, fun j hj => by rw [up_s, pk_un (by omega)]⟩
theorem FRm.dn {a b : Nat} {i i' : Nat → Int32} {r r' : Nat → Nat → Int32} (f : FRm b i r i' r') (h : a ≤ b) : FRm a i r i' r' := ⟨f.1, f.2.1, fun j hj => f.2.2 j (by omega)⟩
theorem FRm.i10 (a : Nat) (i : Nat → Int32) (r : Nat → Nat → Int32) (x : Int32) : FRm a i r (upd i 10 x) r := ⟨fun _ hq => pk_un hq, fun _ _ => rfl, fun _ _ => rfl⟩
theorem walk_go {gs : List Nat} (hz : ∀ g ∈ gs, g ∈ zG) (h18 : gs.length ≤ 18) {u : Nat → Nat} {L : List Nat} {d k : Nat} : ∀ (n a m w : Nat) (l : List Nat) (i : Nat → Int32) (r : Nat → Nat → Int32), n < m → a + n ≤ 40 → n ≤ 13 → n ≤ d → ByS gs i r u L d k → TbW w → i 10 = nI w → PthR gs n w l → ∃ i' r', f_X7_walkHome_11 u m i r (nI a) (nI n) = some (nI (a + n), i', r') ∧ FRm a i r i' r' ∧ ∀ j g, l[j]? = some g → r' 1 (a + j) = nI g := by
  intro n
  induction n with
  | zero =>
    intro a m w l i r hm ha h13 hd h hw h10 hl
    obtain ⟨m', rfl⟩ : ∃ m', m = m' + 1 := ⟨m - 1, by omega⟩
    have hl : l = [] := hl
    subst hl
    refine ⟨i, r, ?_, ⟨fun _ _ => rfl, fun _ _ => rfl, fun _ _ => rfl⟩, fun j g hg => by cases hg⟩
    rw [f_X7_walkHome_11, if_pos (show nI 0 ≤ (0 : Int32) from nI_le (a := 0) (b := 0) (by omega) (by omega)), Nat.add_zero]
  | succ n ih =>
    intro a m w l i r hm ha h13 hd h hw h10 hl
    obtain ⟨m', rfl⟩ : ∃ m', m = m' + 1 := ⟨m - 1, by omega⟩
    obtain ⟨v, g, l', e, f, p⟩ := hl
    subst e
    have hgz := hz g (List.mem_of_getElem? f.1)
    have hv := (List.getElem?_eq_some_iff.mp f.1).1
    have hst := near_ok hz h18 h hw h10 (by omega) (by omega) f v 0 2000000 (by omega) (by omega)
    have ia := inb_nI (N := 40) (n := a) (by omega) (by omega)
    have f1 : FRm a i r (upd i 10 (nI (pwG g w))) (va_up r 1 (upd (r 1) a (nI g))) := (FRm.i10 a i r _).tr (FRm.mk1 a _ r _)
    obtain ⟨i', r', b1, b2, b3⟩ := ih (a + 1) m' (pwG g w) l' (upd i 10 (nI (pwG g w))) (va_up r 1 (upd (r 1) a (nI g))) (by omega) (by omega) (by omega) (by omega) (f1.bs h) (pw_PW hgz hw) pk_us p
    refine ⟨i', r', ?_, f1.tr (b2.dn (by omega)), fun j x hx => ?_⟩
    · rw [f_X7_walkHome_11, if_neg (show ¬ nI (n + 1) ≤ (0 : Int32) from nI_ge (a := 0) (by omega) (by omega)), if_neg (show ¬ (40 : Int32) ≤ nI a from nI_ge (b := 40) (by omega) (by omega)), nI_s1 (by omega), Nat.add_sub_cancel, f_X7_stepNearer]
      rw [nI_0] at hst
      rw [hst, bd_some, ck_t ia, nI_clamp (by omega), f_X7_walkHome_37, ck_t ia, nI_clamp (by omega), up_s, pk_us, h10, pasw_ok hgz hw.1, bd_some, nI_1, pk_m1, show a + (n + 1) = a + 1 + n by omega]
      exact b1
    · cases j with
      | zero =>
        have hx : g = x := Option.some.inj hx
        rw [Nat.add_zero, b2.2.2 a (by omega), up_s, pk_us, hx]
      | succ j =>
        have := b3 j x hx
        rw [show a + (j + 1) = a + 1 + j by omega]
        exact this
theorem rim_no {gs : List Nat} (hz : ∀ g ∈ gs, g ∈ zG) (h18 : gs.length ≤ 18) {u : Nat → Nat} {L : List Nat} {R k : Nat} (hR : R ≤ 13) : ∀ (n D a w : Nat) (i : Nat → Int32) (r : Nat → Nat → Int32), n < D → a + n ≤ 12 → ByS gs i r u L R k → TbW w → ¬ Wrd gs R n w → ∃ i' r', f_X7_reachRim D i r u (nI w) (nI a) (nI (a + n)) = some (0, i', r') ∧ FRm a i r i' r' := by
  intro n
  induction n with
  | zero =>
    intro D a w i r hD ha h hw hn
    obtain ⟨D', rfl⟩ : ∃ D', D = D' + 1 := ⟨D - 1, by omega⟩
    obtain ⟨v, a1, a2, _⟩ := bs_dist ((FRm.i10 0 i r (nI w)).bs h) hw
    refine ⟨upd i 10 (nI w), r, ?_, FRm.i10 a i r _⟩
    rw [f_X7_reachRim, f_X7_reachRim_e, Nat.add_zero, if_neg (nI_nlt (Nat.le_refl _) (by omega)), a1, bd_some, h.2.2.1, if_neg (fun q => hn ((a2 R hR (Nat.le_refl _)).mp q))]
  | succ n ih =>
    intro D a w i r hD ha h hw hn
    obtain ⟨D', rfl⟩ : ∃ D', D = D' + 1 := ⟨D - 1, by omega⟩
    have go : ∀ (c j m : Nat) (i : Nat → Int32) (r : Nat → Nat → Int32), j + c = gs.length → c < m → ByS gs i r u L R k → ∃ i' r', f_X7_reachRim_31 (f_X7_reachRim D') u m i r (nI w) (nI a) (nI (a + (n + 1))) (nI j) = some (0, i', r') ∧ FRm a i r i' r' := by
      intro c
      induction c with
      | zero =>
        intro j m i r hj hm h
        obtain ⟨m', rfl⟩ : ∃ m', m = m' + 1 := ⟨m - 1, by omega⟩
        refine ⟨i, r, ?_, ⟨fun _ _ => rfl, fun _ _ => rfl, fun _ _ => rfl⟩⟩
        rw [f_X7_reachRim_31, h.g0.1, if_pos (nI_le (by omega) (by omega))]
      | succ c ihc =>
        intro j m i r hj hm h
        obtain ⟨m', rfl⟩ : ∃ m', m = m' + 1 := ⟨m - 1, by omega⟩
        obtain ⟨g, hg⟩ : ∃ g, gs[j]? = some g := ⟨gs[j], List.getElem?_eq_getElem (by omega)⟩
        have hgm := List.mem_of_getElem? hg
        have ij := inb_nI (N := 18) (n := j) (by omega) (by omega)
        have ia := inb_nI (N := 40) (n := a) (by omega) (by omega)
        have f1 : FRm a i r i (va_up r 1 (upd (r 1) a (nI g))) := FRm.mk1 a i r _
        obtain ⟨i1, r1, b1, b2⟩ := ih D' (a + 1) (pwG g w) i (va_up r 1 (upd (r 1) a (nI g))) (by omega) (by omega) (f1.bs h) (pw_PW (hz g hgm) hw) (fun q => hn ⟨g, hgm, q⟩)
        obtain ⟨i', r', c1, c2⟩ := ihc (j + 1) m' i1 r1 (by omega) (by omega) (b2.bs (f1.bs h))
        refine ⟨i', r', ?_, (f1.tr (b2.dn (by omega))).tr c2⟩
        rw [f_X7_reachRim_31, h.g0.1, if_neg (nI_ge (by omega) (by omega)), ck_t ij, ck_t ia, ck_t ij, nI_clamp (by omega), nI_clamp (by omega), h.g0.2 j g hg, pasw_ok (hz g hgm) hw.1, bd_some, nI_1, nI_1]
        rw [show a + 1 + n = a + (n + 1) by omega] at b1
        rw [b1, bd_some, if_pos rfl]
        exact c1
    obtain ⟨i', r', b1, b2⟩ := go gs.length 0 2000000 i r (by omega) (by omega) h
    refine ⟨i', r', ?_, b2⟩
    rw [f_X7_reachRim, f_X7_reachRim_e, if_pos (nI_lt (by omega) (by omega))]
    exact b1
theorem rim_yes {gs : List Nat} (hz : ∀ g ∈ gs, g ∈ zG) (h18 : gs.length ≤ 18) {u : Nat → Nat} {L : List Nat} {R k : Nat} (hR : R ≤ 13) : ∀ (n D a w : Nat) (l : List Nat) (i : Nat → Int32) (r : Nat → Nat → Int32), n < D → a + n ≤ 12 → ByS gs i r u L R k → TbW w → Dst gs w (R + n) → PthR gs (R + n) w l → ∃ i' r' w', f_X7_reachRim D i r u (nI w) (nI a) (nI (a + n)) = some (1, i', r') ∧ FRm a i r i' r' ∧ i' 10 = nI w' ∧ TbW w' ∧ Dst gs w' R ∧ PthR gs R w' (l.drop n) ∧ ∀ j g, j < n → l[j]? = some g → r' 1 (a + j) = nI g := by
  intro n
  induction n with
  | zero =>
    intro D a w l i r hD ha h hw hd hl
    obtain ⟨D', rfl⟩ : ∃ D', D = D' + 1 := ⟨D - 1, by omega⟩
    obtain ⟨v, a1, a2, _⟩ := bs_dist ((FRm.i10 0 i r (nI w)).bs h) hw
    refine ⟨upd i 10 (nI w), r, w, ?_, FRm.i10 a i r _, pk_us, hw, hd, hl, fun j g hj => by omega⟩
    rw [f_X7_reachRim, f_X7_reachRim_e, Nat.add_zero, if_neg (nI_nlt (Nat.le_refl _) (by omega)), a1, bd_some, h.2.2.1, if_pos ((a2 R hR (Nat.le_refl _)).mpr hd)]
  | succ n ih =>
    intro D a w l i r hD ha h hw hd hl
    obtain ⟨D', rfl⟩ : ∃ D', D = D' + 1 := ⟨D - 1, by omega⟩
    obtain ⟨v, g, l', e, f, p⟩ := (show PthR gs (R + n + 1) w l from hl)
    subst e
    have hd : Dst gs w (R + n + 1) := hd
    have hgm := List.mem_of_getElem? f.1
    have hv := (List.getElem?_eq_some_iff.mp f.1).1
    have ia := inb_nI (N := 40) (n := a) (by omega) (by omega)
    have go : ∀ (c j m : Nat) (i : Nat → Int32) (r : Nat → Nat → Int32), j + c = v → c < m → ByS gs i r u L R k → ∃ i' r' w', f_X7_reachRim_31 (f_X7_reachRim D') u m i r (nI w) (nI a) (nI (a + (n + 1))) (nI j) = some (1, i', r') ∧ FRm a i r i' r' ∧ i' 10 = nI w' ∧ TbW w' ∧ Dst gs w' R ∧ PthR gs R w' (l'.drop n) ∧ ∀ j x, j < n + 1 → (g :: l')[j]? = some x → r' 1 (a + j) = nI x := by
      intro c
      induction c with
      | zero =>
        intro j m i r hj hm h
        obtain ⟨m', rfl⟩ : ∃ m', m = m' + 1 := ⟨m - 1, by omega⟩
        have e : j = v := by omega
        subst e
        have ij := inb_nI (N := 18) (n := j) (by omega) (by omega)
        have f1 : FRm a i r i (va_up r 1 (upd (r 1) a (nI g))) := FRm.mk1 a i r _
        obtain ⟨i1, r1, w', b1, b2, b3, b4, b5, b6, b7⟩ := ih D' (a + 1) (pwG g w) l' i (va_up r 1 (upd (r 1) a (nI g))) (by omega) (by omega) (f1.bs h) (pw_PW (hz g hgm) hw) f.2.1 p
        refine ⟨i1, r1, w', ?_, f1.tr (b2.dn (by omega)), b3, b4, b5, b6, fun z x hz' hx => ?_⟩
        · rw [f_X7_reachRim_31, h.g0.1, if_neg (nI_ge (by omega) (by omega)), ck_t ij, ck_t ia, ck_t ij, nI_clamp (by omega), nI_clamp (by omega), h.g0.2 j g f.1, pasw_ok (hz g hgm) hw.1, bd_some, nI_1]
          rw [show a + 1 + n = a + (n + 1) by omega] at b1
          rw [b1, bd_some, if_neg n10]
        · cases z with
          | zero =>
            have hx : g = x := Option.some.inj hx
            rw [Nat.add_zero, b2.2.2 a (by omega), up_s, pk_us, hx]
          | succ z =>
            have := b7 z x (by omega) hx
            rw [show a + (z + 1) = a + 1 + z by omega]
            exact this
      | succ c ihc =>
        intro j m i r hj hm h
        obtain ⟨m', rfl⟩ : ∃ m', m = m' + 1 := ⟨m - 1, by omega⟩
        obtain ⟨x, hx⟩ : ∃ x, gs[j]? = some x := ⟨gs[j], List.getElem?_eq_getElem (by omega)⟩
        have hxm := List.mem_of_getElem? hx
        have ij := inb_nI (N := 18) (n := j) (by omega) (by omega)
        have f1 : FRm a i r i (va_up r 1 (upd (r 1) a (nI x))) := FRm.mk1 a i r _
        obtain ⟨i1, r1, b1, b2⟩ := rim_no hz h18 hR n D' (a + 1) (pwG x w) i (va_up r 1 (upd (r 1) a (nI x))) (by omega) (by omega) (f1.bs h) (pw_PW (hz x hxm) hw) (fun q => f.2.2 j x (by omega) hx (hd.nx hxm q.rn))
        obtain ⟨i', r', w', c1, c2, c3⟩ := ihc (j + 1) m' i1 r1 (by omega) (by omega) (b2.bs (f1.bs h))
        refine ⟨i', r', w', ?_, (f1.tr (b2.dn (by omega))).tr c2, c3⟩
        rw [f_X7_reachRim_31, h.g0.1, if_neg (nI_ge (by omega) (by omega)), ck_t ij, ck_t ia, ck_t ij, nI_clamp (by omega), nI_clamp (by omega), h.g0.2 j x hx, pasw_ok (hz x hxm) hw.1, bd_some, nI_1, nI_1]
        rw [show a + 1 + n = a + (n + 1) by omega] at b1
        rw [b1, bd_some, if_pos rfl]
        exact c1
    obtain ⟨i', r', w', b1, b2⟩ := go v 0 2000000 i r (by omega) (by omega) h
    refine ⟨i', r', w', ?_, b2⟩
    rw [f_X7_reachRim, f_X7_reachRim_e, if_pos (nI_lt (by omega) (by omega))]
    exact b1
theorem rims_go {gs : List Nat} (hz : ∀ g ∈ gs, g ∈ zG) (h18 : gs.length ≤ 18) {u : Nat → Nat} {L : List Nat} {R k n w : Nat} {l : List Nat} (hR : R ≤ 13) (hn : n ≤ 12) (hw : TbW w) (hd : Dst gs w (R + n)) (hl : PthR gs (R + n) w l) : ∀ (c a m : Nat) (i : Nat → Int32) (r : Nat → Nat → Int32), a + c = n → c < m → ByS gs i r u L R k → ∃ i' r' w', f_X7_stepsToRim_7 u m i r (nI w) (nI a) = some (nI n, i', r') ∧ FRm 0 i r i' r' ∧ i' 10 = nI w' ∧ TbW w' ∧ Dst gs w' R ∧ PthR gs R w' (l.drop n) ∧ ∀ j g, j < n → l[j]? = some g → r' 1 j = nI g := by
  intro c
  induction c with
  | zero =>
    intro a m i r ha hm h
    obtain ⟨m', rfl⟩ : ∃ m', m = m' + 1 := ⟨m - 1, by omega⟩
    have e : a = n := by omega
    subst e
    obtain ⟨i', r', w', b1, b2, b3, b4, b5, b6, b7⟩ := rim_yes hz h18 hR a 20 0 w l i r (by omega) (by omega) h hw hd hl
    refine ⟨i', r', w', ?_, b2, b3, b4, b5, b6, fun j g hj hg => ?_⟩
    · rw [Nat.zero_add, nI_0] at b1
      rw [f_X7_stepsToRim_7, if_neg (show ¬ (12 : Int32) < nI a from nI_nlt (a := 12) (by omega) (by omega)), b1, bd_some, if_neg n10]
    · have := b7 j g hj hg
      rw [Nat.zero_add] at this
      exact this
  | succ c ih =>
    intro a m i r ha hm h
    obtain ⟨m', rfl⟩ : ∃ m', m = m' + 1 := ⟨m - 1, by omega⟩
    obtain ⟨i1, r1, b1, b2⟩ := rim_no hz h18 hR a 20 0 w i r (by omega) (by omega) h hw (Wrd.no hd (by omega))
    obtain ⟨i', r', w', c1, c2, c3⟩ := ih (a + 1) m' i1 r1 (by omega) (by omega) (b2.bs h)
    refine ⟨i', r', w', ?_, b2.tr c2, c3⟩
    rw [Nat.zero_add, nI_0] at b1
    rw [f_X7_stepsToRim_7, if_neg (show ¬ (12 : Int32) < nI a from nI_nlt (a := 12) (by omega) (by omega)), b1, bd_some, if_pos rfl, nI_1]
    exact c1
