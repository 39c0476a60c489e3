/-! ===== least: the class's way home and to the rim ===== -/
theorem bs_dist {gs : List Nat} {i : Nat → Int32} {r : Nat → Nat → Int32} {u : Nat → Nat} {L : List Nat} {d k w : Nat} (h : ByS gs i r u L d k) (hw : TbW w) : ∃ v, f_X7_distance i r u (nI w) = some v ∧ (∀ n, n ≤ 13 → n ≤ d → (v = nI n ↔ Dst gs w n)) ∧ ((0 : Int32) ≤ v ↔ RcN gs d w) := by
  obtain ⟨⟨u2, _, _, _, ⟨sl, hs⟩, _, _⟩, h2, -⟩ := h
  have hb : w ∈ L ↔ RcN gs d w := by
    rw [h2.ball w hw]
    constructor
    · intro q
      obtain ⟨j, e⟩ := List.getElem?_of_mem q
      exact ⟨j, (List.getElem?_eq_some_iff.mp e).1, e⟩
    · rintro ⟨j, _, e⟩
      exact List.mem_of_getElem? e
  by_cases q : w ∈ L
  · obtain ⟨n0, a1, a2, a3⟩ := dist_in (i := i) u2 hs q
    refine ⟨_, a3, fun n h13 hn => ⟨fun e => ?_, fun e => by rw [a1.uq e]⟩, ⟨fun _ => hb.mp q, fun _ => nI_pos' (by omega)⟩⟩
    rw [← nI_inj (by omega) (by omega) e]
    exact a1
  · refine ⟨_, dist_out (i := i) u2 hs (PW_ne0 hw) hw.1 q, fun n h13 hn => ⟨fun e => ?_, fun e => absurd (hb.mpr (RN_le e.1 hn)) q⟩, ⟨fun e => absurd e (by decide), fun e => absurd (hb.mpr e) q⟩⟩
    exact absurd e.symm (nm1 (by omega))
theorem ByS.g0 {gs : List Nat} {i : Nat → Int32} {r : Nat → Nat → Int32} {u : Nat → Nat} {L : List Nat} {d k : Nat} (h : ByS gs i r u L d k) : i 6 = nI gs.length ∧ ∀ j g, gs[j]? = some g → r 0 j = nI g := ⟨h.1.2.2.2.2.2.1, h.1.2.2.2.2.2.2⟩
theorem near_ok {gs : List Nat} (hz : ∀ g ∈ gs, g ∈ zG) (h18 : gs.length ≤ 18) {i : Nat → Int32} {r : Nat → Nat → Int32} {u : Nat → Nat} {L : List Nat} {d k w n v g : Nat} (h : ByS gs i r u L d k) (hw : TbW w) (h10 : i 12 = nI w) (hn : n ≤ 13) (hnd : n ≤ d) (hf : FsG gs (fun x => Dst gs (pwG x w) n) v g) : ∀ (c j m : Nat), j + c = v → c < m → f_X7_stepNearer_2 i r u m (nI n) (nI j) = some (nI g) := by
  obtain ⟨f1, f2, f3⟩ := hf
  have hv := (List.getElem?_eq_some_iff.mp f1).1
  obtain ⟨g4, g0⟩ := h.g0
  have stp : ∀ (j m x : Nat), j < gs.length → gs[j]? = some x → (¬ Dst gs (pwG x w) n → f_X7_stepNearer_2 i r u (m + 1) (nI n) (nI j) = f_X7_stepNearer_2 i r u m (nI n) (nI (j + 1))) ∧ (Dst gs (pwG x w) n → f_X7_stepNearer_2 i r u (m + 1) (nI n) (nI j) = some (nI x)) := by
    intro j m x hj hx
    have hxz := hz x (List.mem_of_getElem? hx)
    have ij := inb_nI (N := 18) (n := j) (by omega) (by omega)
    obtain ⟨q, a1, a2, _⟩ := bs_dist h (pw_PW hxz hw)
    have e : f_X7_stepNearer_2 i r u (m + 1) (nI n) (nI j) = if q = nI n then some (nI x) else f_X7_stepNearer_2 i r u m (nI n) (nI (j + 1)) := by
      rw [f_X7_stepNearer_2, g4, if_neg (nI_ge (by omega) (by omega)), ck_t ij, nI_clamp (by omega), g0 j x hx, h10, pasw_ok hxz hw.1, bd_some, a1, bd_some, ck_t ij, nI_1]
    refine ⟨fun hd => ?_, fun hd => ?_⟩
    · rw [e, if_neg (fun z => hd ((a2 n hn hnd).mp z))]
    · rw [e, if_pos ((a2 n hn hnd).mpr hd)]
  intro c
  induction c with
  | zero =>
    intro j m hj hm
    obtain ⟨m', rfl⟩ : ∃ m', m = m' + 1 := ⟨m - 1, by omega⟩
    have e : j = v := by omega
    subst e
    exact (stp j m' g hv f1).2 f2
  | succ c ih =>
    intro j m hj hm
    obtain ⟨m', rfl⟩ : ∃ m', m = m' + 1 := ⟨m - 1, by omega⟩
    obtain ⟨x, hx⟩ : ∃ x, gs[j]? = some x := ⟨gs[j], List.getElem?_eq_getElem (by omega)⟩
    rw [(stp j m' x (by omega) hx).1 (f3 j x (by omega) hx)]
    exact ih (j + 1) m' (by omega) (by omega)
/-- only what was reached, the picks from `at` on and the search's own rows change -/
def FRm (a : Nat) (i : Nat → Int32) (r : Nat → Nat → Int32) (i' : Nat → Int32) (r' : Nat → Nat → Int32) : Prop := (∀ q, q ≠ 12 → i' q = i q) ∧ (∀ q, q ≠ 1 → q ≠ 2 → q ≠ 3 → r' q = r q) ∧ ∀ j, j < a → r' 1 j = r 1 j
theorem FRm.bs {gs : List Nat} {a : Nat} {i i' : Nat → Int32} {r r' : Nat → Nat → Int32} {u : Nat → Nat} {L : List Nat} {d k : Nat} (f : FRm a i r i' r') (h : ByS gs i r u L d k) : ByS gs i' r' u L d k := h.congr (fun q hq => f.1 q (by omega)) (fun q hq => f.2.1 q (by omega) (by omega) (by omega))
theorem FRm.tr {a : Nat} {i i' i'' : Nat → Int32} {r r' r'' : Nat → Nat → Int32} (f : FRm a i r i' r') (g : FRm a i' r' i'' r'') : FRm a i r i'' r'' := ⟨fun q hq => (g.1 q hq).trans (f.1 q hq), fun q h1 h2 h3 => (g.2.1 q h1 h2 h3).trans (f.2.1 q h1 h2 h3), fun j hj => (g.2.2 j hj).trans (f.2.2 j hj)⟩
theorem FRm.mk1 (a : Nat) (i : Nat → Int32) (r : Nat → Nat → Int32) (x : Int32) : FRm a i r i (va_up r 1 (upd (r 1) a x)) := ⟨fun _ _ => rfl, fun q hq _ _ => up_n hq, fun j hj => by rw [up_s, pk_un (by omega)]⟩
theorem FRm.dn {a b : Nat} {i i' : Nat → Int32} {r r' : Nat → Nat → Int32} (f : FRm b i r i' r') (h : a ≤ b) : FRm a i r i' r' := ⟨f.1, f.2.1, fun j hj => f.2.2 j (by omega)⟩
theorem FRm.i10 (a : Nat) (i : Nat → Int32) (r : Nat → Nat → Int32) (x : Int32) : FRm a i r (upd i 12 x) r := ⟨fun _ hq => pk_un hq, fun _ _ _ _ => rfl, fun _ _ => rfl⟩
theorem walk_go {gs : List Nat} (hz : ∀ g ∈ gs, g ∈ zG) (h18 : gs.length ≤ 18) {u : Nat → Nat} {L : List Nat} {d k : Nat} : ∀ (n a m w : Nat) (l : List Nat) (i : Nat → Int32) (r : Nat → Nat → Int32), n < m → a + n ≤ 40 → n ≤ 13 → n ≤ d → ByS gs i r u L d k → TbW w → i 12 = nI w → PthR gs n w l → ∃ i' r', f_X7_walkHome_11 u m i r (nI a) (nI n) = some (nI (a + n), i', r') ∧ FRm a i r i' r' ∧ ∀ j g, l[j]? = some g → r' 1 (a + j) = nI g := by
  intro n
  induction n with
  | zero =>
    intro a m w l i r hm ha h13 hd h hw h10 hl
    obtain ⟨m', rfl⟩ : ∃ m', m = m' + 1 := ⟨m - 1, by omega⟩
    have hl : l = [] := hl
    subst hl
    refine ⟨i, r, ?_, ⟨fun _ _ => rfl, fun _ _ _ _ => rfl, fun _ _ => rfl⟩, fun j g hg => by cases hg⟩
    rw [f_X7_walkHome_11, if_pos (show nI 0 ≤ (0 : Int32) from nI_le (a := 0) (b := 0) (by omega) (by omega)), Nat.add_zero]
  | succ n ih =>
    intro a m w l i r hm ha h13 hd h hw h10 hl
    obtain ⟨m', rfl⟩ : ∃ m', m = m' + 1 := ⟨m - 1, by omega⟩
    obtain ⟨v, g, l', e, f, p⟩ := hl
    subst e
    have hgz := hz g (List.mem_of_getElem? f.1)
    have hv := (List.getElem?_eq_some_iff.mp f.1).1
    have hst := near_ok hz h18 h hw h10 (by omega) (by omega) f v 0 2000000 (by omega) (by omega)
    have ia := inb_nI (N := 40) (n := a) (by omega) (by omega)
    have f1 : FRm a i r (upd i 12 (nI (pwG g w))) (va_up r 1 (upd (r 1) a (nI g))) := (FRm.i10 a i r _).tr (FRm.mk1 a _ r _)
    obtain ⟨i', r', b1, b2, b3⟩ := ih (a + 1) m' (pwG g w) l' (upd i 12 (nI (pwG g w))) (va_up r 1 (upd (r 1) a (nI g))) (by omega) (by omega) (by omega) (by omega) (f1.bs h) (pw_PW hgz hw) pk_us p
    refine ⟨i', r', ?_, f1.tr (b2.dn (by omega)), fun j x hx => ?_⟩
    · rw [f_X7_walkHome_11, if_neg (show ¬ nI (n + 1) ≤ (0 : Int32) from nI_ge (a := 0) (by omega) (by omega)), if_neg (show ¬ (40 : Int32) ≤ nI a from nI_ge (b := 40) (by omega) (by omega)), nI_s1 (by omega), Nat.add_sub_cancel, f_X7_stepNearer]
      rw [nI_0] at hst
      rw [hst, bd_some, ck_t ia, nI_clamp (by omega), f_X7_walkHome_37, ck_t ia, nI_clamp (by omega), up_s, pk_us, h10, pasw_ok hgz hw.1, bd_some, nI_1, pk_m1, show a + (n + 1) = a + 1 + n by omega]
      exact b1
    · cases j with
      | zero =>
        have hx : g = x := Option.some.inj hx
        rw [Nat.add_zero, b2.2.2 a (by omega), up_s, pk_us, hx]
      | succ j =>
        have := b3 j x hx
        rw [show a + (j + 1) = a + 1 + j by omega]
        exact this
/-- what the search for the rim leaves alone below place a -/
def FRr (a : Nat) (r r' : Nat → Nat → Int32) : Prop := (∀ q, q ≠ 1 → q ≠ 2 → q ≠ 3 → r' q = r q) ∧ (∀ j, j < a → r' 1 j = r 1 j ∧ r' 2 j = r 2 j) ∧ ∀ j, j ≤ a → r' 3 j = r 3 j
theorem FRr.rf (a : Nat) (r : Nat → Nat → Int32) : FRr a r r := ⟨fun _ _ _ _ => rfl, fun _ _ => ⟨rfl, rfl⟩, fun _ _ => rfl⟩
theorem FRr.tr {a : Nat} {r r' r'' : Nat → Nat → Int32} (f : FRr a r r') (g : FRr a r' r'') : FRr a r r'' := ⟨fun q h1 h2 h3 => (g.1 q h1 h2 h3).trans (f.1 q h1 h2 h3), fun j hj => ⟨(g.2.1 j hj).1.trans (f.2.1 j hj).1, (g.2.1 j hj).2.trans (f.2.1 j hj).2⟩, fun j hj => (g.2.2 j hj).trans (f.2.2 j hj)⟩
theorem FRr.dn {a b : Nat} {r r' : Nat → Nat → Int32} (f : FRr b r r') (h : a ≤ b) : FRr a r r' := ⟨f.1, fun j hj => f.2.1 j (by omega), fun j hj => f.2.2 j (by omega)⟩
theorem FRr.fr {a : Nat} {r r' : Nat → Nat → Int32} (f : FRr a r r') (i : Nat → Int32) : FRm a i r i r' := ⟨fun _ _ => rfl, f.1, fun j hj => (f.2.1 j hj).1⟩
abbrev dn1 (r : Nat → Nat → Int32) (a : Nat) (g t : Int32) : Nat → Nat → Int32 := va_up (va_up r 1 (upd (r 1) a g)) 2 (upd (r 2) a t)
abbrev dn2 (r1 : Nat → Nat → Int32) (a : Nat) (w : Int32) : Nat → Nat → Int32 := va_up (va_up r1 3 (upd (r1 3) (a + 1) w)) 2 (upd (r1 2) (a + 1) 0)
theorem dn1_1 {r : Nat → Nat → Int32} {a : Nat} {g t : Int32} : dn1 r a g t 1 = upd (r 1) a g := (up_n (by omega)).trans up_s
theorem dn1_3 {r : Nat → Nat → Int32} {a : Nat} {g t : Int32} : dn1 r a g t 3 = r 3 := (up_n (by omega)).trans (up_n (by omega))
theorem dn1_q {r : Nat → Nat → Int32} {a q : Nat} {g t : Int32} (h1 : q ≠ 1) (h2 : q ≠ 2) : dn1 r a g t q = r q := (up_n h2).trans (up_n h1)
/-- the rows behind one more pick -/
def dnR (r : Nat → Nat → Int32) (a : Nat) (g t w : Int32) : Nat → Nat → Int32 := dn2 (dn1 r a g t) a w
theorem dnR_1 {r : Nat → Nat → Int32} {a : Nat} {g t w : Int32} : dnR r a g t w 1 = upd (r 1) a g := (up_n (by omega)).trans ((up_n (by omega)).trans dn1_1)
theorem dnR_2 {r : Nat → Nat → Int32} {a : Nat} {g t w : Int32} : dnR r a g t w 2 = upd (upd (r 2) a t) (a + 1) 0 := by
  unfold dnR dn2 dn1
  rw [up_s, up_s]
theorem dnR_3 {r : Nat → Nat → Int32} {a : Nat} {g t w : Int32} : dnR r a g t w 3 = upd (r 3) (a + 1) w := by
  unfold dnR dn2 dn1
  rw [up_n (by omega), up_s, up_n (by omega), up_n (by omega)]
theorem dnR_q {r : Nat → Nat → Int32} {a q : Nat} {g t w : Int32} (h1 : q ≠ 1) (h2 : q ≠ 2) (h3 : q ≠ 3) : dnR r a g t w q = r q := (up_n h2).trans ((up_n h3).trans (dn1_q h1 h2))
theorem dnR_fr (r : Nat → Nat → Int32) (a : Nat) (g t w : Int32) : FRr a r (dnR r a g t w) := ⟨fun q h1 h2 h3 => dnR_q h1 h2 h3, fun j hj => ⟨by rw [dnR_1, pk_un (by omega)], by rw [dnR_2, pk_un (by omega), pk_un (by omega)]⟩, fun j hj => by rw [dnR_3, pk_un (by omega)]⟩
theorem dnR_a {r : Nat → Nat → Int32} {a : Nat} {g t w : Int32} : dnR r a g t w 1 a = g ∧ dnR r a g t w 2 a = t ∧ dnR r a g t w 2 (a + 1) = 0 ∧ dnR r a g t w 3 (a + 1) = w := ⟨by rw [dnR_1, pk_us], by rw [dnR_2, pk_un (by omega), pk_us], by rw [dnR_2, pk_us], by rw [dnR_3, pk_us]⟩
theorem rim_66 {u : Nat → Nat} {K : (Nat → Int32) → (Nat → Nat → Int32) → Int32 → Int32 → Int32 → Option (Int32 × (Nat → Int32) × (Nat → Nat → Int32))} {i : Nat → Int32} {r1 : Nat → Nat → Int32} {D a c g w : Nat} (ha : a + 1 < 13) (h1 : r1 1 a = nI g) (h3 : r1 3 a = nI w) (hg : g ∈ zG) (hw : w < 2 ^ 24) : f_X7_reachRim_66 u K i r1 (nI D) (nI a) (nI c) = K i (dn2 r1 a (nI (pwG g w))) (nI D) (nI (a + 1)) (nI (c + 1)) := by
  have i40 := inb_nI (N := 40) (n := a) (by omega) (by omega)
  have i13 := inb_nI (N := 13) (n := a) (by omega) (by omega)
  have i13' := inb_nI (N := 13) (n := a + 1) (by omega) (by omega)
  rw [f_X7_reachRim_66, ck_t i40, ck_t i13, nI_clamp (n := a) (by omega), h1, h3, pasw_ok hg hw, bd_some, nI_1, ck_t i13', ck_t i13', nI_clamp (n := a + 1) (by omega), f_X7_reachRim_99, f_X7_reachRim_139, nI_1]
theorem rim_dn {gs : List Nat} (hz : ∀ g ∈ gs, g ∈ zG) (h18 : gs.length ≤ 18) {i : Nat → Int32} {r : Nat → Nat → Int32} {u : Nat → Nat} {L : List Nat} {R k D a j g w c m : Nat} (h : ByS gs i r u L R k) (hD : D ≤ 12) (ha : a < D) (hc : c < 1000000) (hg : gs[j]? = some g) (hw : TbW w) (h2 : r 2 a = nI j) (h3 : r 3 a = nI w) : f_X7_reachRim_11 u (m + 1) i r (nI D) (nI a) (nI c) = f_X7_reachRim_11 u m i (dnR r a (nI g) (nI (j + 1)) (nI (pwG g w))) (nI D) (nI (a + 1)) (nI (c + 1)) := by
  have hj := (List.getElem?_eq_some_iff.mp hg).1
  have i13 := inb_nI (N := 13) (n := a) (by omega) (by omega)
  have i40 := inb_nI (N := 40) (n := a) (by omega) (by omega)
  have i18 := inb_nI (N := 18) (n := j) (by omega) (by omega)
  have key := rim_66 (u := u) (K := f_X7_reachRim_11 u m) (i := i) (r1 := dn1 r a (nI g) (nI (j + 1))) (D := D) (c := c) (show a + 1 < 13 by omega) (by rw [dn1_1, pk_us]) (by rw [dn1_3]; exact h3) (hz g (List.mem_of_getElem? hg)) hw.1
  rw [f_X7_reachRim_11, if_neg (show ¬ (1000000 : Int32) ≤ nI c from nI_ge (b := 1000000) hc (by omega)), if_neg (show ¬ nI a < (0 : Int32) from nI_nlt (b := 0) (by omega) (by omega)), if_neg (nI_ge ha (by omega)), ck_t i13, nI_clamp (n := a) (by omega), h.g0.1, h2, if_neg (nI_ge hj (by omega)), ck_t i13, ck_t i18, ck_t i40, ck_t i13, ck_t i13, nI_clamp (n := j) (by omega), h.g0.2 j g hg, nI_1]
  exact key
theorem rim_up {gs : List Nat} (h18 : gs.length ≤ 18) {i : Nat → Int32} {r : Nat → Nat → Int32} {u : Nat → Nat} {L : List Nat} {R k D a c m : Nat} (h : ByS gs i r u L R k) (hD : D ≤ 12) (ha : a < D) (hc : c < 1000000) (h2 : r 2 a = nI gs.length) : f_X7_reachRim_11 u (m + 1) i r (nI D) (nI a) (nI c) = f_X7_reachRim_11 u m i r (nI D) (nI a + (-1)) (nI (c + 1)) := by
  have i13 := inb_nI (N := 13) (n := a) (by omega) (by omega)
  rw [f_X7_reachRim_11, if_neg (show ¬ (1000000 : Int32) ≤ nI c from nI_ge (b := 1000000) hc (by omega)), if_neg (show ¬ nI a < (0 : Int32) from nI_nlt (b := 0) (by omega) (by omega)), if_neg (nI_ge ha (by omega)), ck_t i13, nI_clamp (n := a) (by omega), h.g0.1, h2, if_pos (nI_le (Nat.le_refl _) (by omega)), f_X7_reachRim_102, if_neg (fun q => absurd (nI_inj (by omega) (by omega) q) (by omega)), f_X7_reachRim_136, f_X7_reachRim_139, nI_1]
theorem rim_at {gs : List Nat} {i : Nat → Int32} {r : Nat → Nat → Int32} {u : Nat → Nat} {L : List Nat} {R k D c m w : Nat} (hR : R ≤ 13) (h : ByS gs i r u L R k) (hD : D ≤ 12) (hc : c < 1000000) (hw : TbW w) (h3 : r 3 D = nI w) : (¬ Dst gs w R → f_X7_reachRim_11 u (m + 1) i r (nI D) (nI D) (nI c) = f_X7_reachRim_11 u m i r (nI D) (nI D + (-1)) (nI (c + 1))) ∧ (Dst gs w R → f_X7_reachRim_11 u (m + 1) i r (nI D) (nI D) (nI c) = some (1, upd i 12 (nI w), r)) := by
  have i13 := inb_nI (N := 13) (n := D) (by omega) (by omega)
  obtain ⟨v, a1, a2, _⟩ := bs_dist h hw
  have e : f_X7_reachRim_11 u (m + 1) i r (nI D) (nI D) (nI c) = if v = nI R then some (1, upd i 12 (nI w), r) else f_X7_reachRim_11 u m i r (nI D) (nI D + (-1)) (nI (c + 1)) := by
    rw [f_X7_reachRim_11, if_neg (show ¬ (1000000 : Int32) ≤ nI c from nI_ge (b := 1000000) hc (by omega)), if_neg (show ¬ nI D < (0 : Int32) from nI_nlt (b := 0) (by omega) (by omega)), if_pos (nI_le (Nat.le_refl _) (by omega)), f_X7_reachRim_102, if_pos rfl, ck_t i13, nI_clamp (n := D) (by omega), h3, a1, bd_some, h.2.2.1, ck_t i13, f_X7_reachRim_136, f_X7_reachRim_139, nI_1]
  refine ⟨fun hn => ?_, fun hd => ?_⟩
  · rw [e, if_neg (fun q => hn ((a2 R hR (Nat.le_refl _)).mp q))]
  · rw [e, if_pos ((a2 R hR (Nat.le_refl _)).mpr hd)]
theorem rim_no {gs : List Nat} (hz : ∀ g ∈ gs, g ∈ zG) (h18 : gs.length ≤ 18) {i : Nat → Int32} {u : Nat → Nat} {L : List Nat} {R k D : Nat} (hR : R ≤ 13) (hD : D ≤ 12) : ∀ (n a w : Nat) (r : Nat → Nat → Int32) (c m : Nat), a + n = D → c + tryN gs.length n ≤ 1000000 → ByS gs i r u L R k → TbW w → r 2 a = 0 → r 3 a = nI w → ¬ Wrd gs R n w → ∃ r', f_X7_reachRim_11 u (m + tryN gs.length n) i r (nI D) (nI a) (nI c) = f_X7_reachRim_11 u m i r' (nI D) (nI a + (-1)) (nI (c + tryN gs.length n)) ∧ FRr a r r' := by
  intro n
  induction n with
  | zero =>
    intro a w r c m ha hc h hw h2 h3 hn
    have e : a = D := ha
    subst e
    have hc : c + 1 ≤ 1000000 := hc
    exact ⟨r, (rim_at hR h hD (by omega) hw h3).1 hn, FRr.rf _ _⟩
  | succ n ih =>
    intro a w r c m ha hc h hw h2 h3 hn
    obtain ⟨T, hT⟩ : ∃ T, T = tryN gs.length n := ⟨_, rfl⟩
    have eT : tryN gs.length (n + 1) = gs.length * (T + 1) + 1 := by rw [hT]; rfl
    rw [← hT] at ih
    rw [eT] at hc ⊢
    have go : ∀ (e j : Nat) (r : Nat → Nat → Int32) (c m : Nat), j + e = gs.length → c + (e * (T + 1) + 1) ≤ 1000000 → ByS gs i r u L R k → r 2 a = nI j → r 3 a = nI w → ∃ r', f_X7_reachRim_11 u (m + (e * (T + 1) + 1)) i r (nI D) (nI a) (nI c) = f_X7_reachRim_11 u m i r' (nI D) (nI a + (-1)) (nI (c + (e * (T + 1) + 1))) ∧ FRr a r r' := by
      intro e
      induction e with
      | zero =>
        intro j r c m hj hc h h2 h3
        rw [Nat.zero_mul, Nat.zero_add] at hc ⊢
        have e : j = gs.length := hj
        rw [e] at h2
        exact ⟨r, rim_up h18 h hD (by omega) (by omega) h2, FRr.rf _ _⟩
      | succ e ihe =>
        intro j r c m hj hc h h2 h3
        obtain ⟨X, hX⟩ : ∃ X, X = e * (T + 1) := ⟨_, rfl⟩
        have es : (e + 1) * (T + 1) = X + T + 1 := by rw [Nat.succ_mul, hX]; omega
        rw [← hX] at ihe
        rw [es] at hc ⊢
        obtain ⟨g, hg⟩ : ∃ g, gs[j]? = some g := ⟨gs[j], List.getElem?_eq_getElem (by omega)⟩
        have hgm := List.mem_of_getElem? hg
        have s1 := rim_dn hz h18 (m := m + (X + 1) + T) h hD (show a < D by omega) (show c < 1000000 by omega) hg hw h2 h3
        have d1 := dnR_fr r a (nI g) (nI (j + 1)) (nI (pwG g w))
        obtain ⟨_, d2, d3, d4⟩ := dnR_a (r := r) (a := a) (g := nI g) (t := nI (j + 1)) (w := nI (pwG g w))
        obtain ⟨r2, b1, b2⟩ := ih (a + 1) (pwG g w) (dnR r a (nI g) (nI (j + 1)) (nI (pwG g w))) (c + 1) (m + (X + 1)) (by omega) (by omega) ((d1.fr i).bs h) (pw_PW (hz g hgm) hw) d3 d4 (fun q => hn ⟨g, hgm, q⟩)
        rw [pk_m1] at b1
        obtain ⟨r3, c1, c2⟩ := ihe (j + 1) r2 (c + 1 + T) m (by omega) (by omega) ((b2.fr i).bs ((d1.fr i).bs h)) ((b2.2.1 a (by omega)).2.trans d2) (((b2.2.2 a (by omega)).trans (d1.2.2 a (Nat.le_refl _))).trans h3)
        refine ⟨r3, ?_, (d1.tr (b2.dn (by omega))).tr c2⟩
        rw [show m + (X + T + 1 + 1) = m + (X + 1) + T + 1 by omega, s1, b1, c1, show c + 1 + T + (X + 1) = c + (X + T + 1 + 1) by omega]
    exact go gs.length 0 r c m (by omega) hc h (by rw [nI_0]; exact h2) h3
theorem rim_yes {gs : List Nat} (hz : ∀ g ∈ gs, g ∈ zG) (h18 : gs.length ≤ 18) {i : Nat → Int32} {u : Nat → Nat} {L : List Nat} {R k D : Nat} (hR : R ≤ 13) (hD : D ≤ 12) : ∀ (n a w : Nat) (l : List Nat) (r : Nat → Nat → Int32) (c m : Nat), a + n = D → c + tryN gs.length n ≤ 1000000 → tryN gs.length n ≤ m → ByS gs i r u L R k → TbW w → r 2 a = 0 → r 3 a = nI w → Dst gs w (R + n) → PthR gs (R + n) w l → ∃ i' r' w', f_X7_reachRim_11 u m i r (nI D) (nI a) (nI c) = some (1, i', r') ∧ FRm a i r i' r' ∧ i' 12 = nI w' ∧ TbW w' ∧ Dst gs w' R ∧ PthR gs R w' (l.drop n) ∧ ∀ j g, j < n → l[j]? = some g → r' 1 (a + j) = nI g := by
  intro n
  induction n with
  | zero =>
    intro a w l r c m ha hc hm h hw h2 h3 hd hl
    have e : a = D := ha
    subst e
    have hc : c + 1 ≤ 1000000 := hc
    obtain ⟨m', rfl⟩ : ∃ m', m = m' + 1 := ⟨m - 1, by have : 1 ≤ m := hm; omega⟩
    exact ⟨upd i 12 (nI w), r, w, (rim_at hR h hD (by omega) hw h3).2 hd, FRm.i10 a i r _, pk_us, hw, hd, hl, fun j g hj => by omega⟩
  | succ n ih =>
    intro a w l r c m ha hc hm h hw h2 h3 hd hl
    obtain ⟨v, g, l', e, f, p⟩ := (show PthR gs (R + n + 1) w l from hl)
    subst e
    have hd : Dst gs w (R + n + 1) := hd
    have hgm := List.mem_of_getElem? f.1
    have hv := (List.getElem?_eq_some_iff.mp f.1).1
    obtain ⟨T, hT⟩ : ∃ T, T = tryN gs.length n := ⟨_, rfl⟩
    have eT : tryN gs.length (n + 1) = gs.length * (T + 1) + 1 := by rw [hT]; rfl
    rw [← hT] at ih
    rw [eT] at hc hm
    have go : ∀ (e j y : Nat) (r : Nat → Nat → Int32) (c m : Nat), j + e = v → j + y = gs.length → c + (y * (T + 1) + 1) ≤ 1000000 → y * (T + 1) + 1 ≤ m → ByS gs i r u L R k → r 2 a = nI j → r 3 a = nI w → ∃ i' r' w', f_X7_reachRim_11 u m i r (nI D) (nI a) (nI c) = some (1, i', r') ∧ FRm a i r i' r' ∧ i' 12 = nI w' ∧ TbW w' ∧ Dst gs w' R ∧ PthR gs R w' (l'.drop n) ∧ ∀ j x, j < n + 1 → (g :: l')[j]? = some x → r' 1 (a + j) = nI x := by
      intro e
      induction e with
      | zero =>
        intro j y r c m hj hy hc hm h h2 h3
        have e : j = v := hj
        subst e
        obtain ⟨y', rfl⟩ : ∃ y', y = y' + 1 := ⟨y - 1, by omega⟩
        obtain ⟨X, hX⟩ : ∃ X, X = y' * (T + 1) := ⟨_, rfl⟩
        have es : (y' + 1) * (T + 1) = X + T + 1 := by rw [Nat.succ_mul, hX]; omega
        rw [es] at hc hm
        obtain ⟨m', rfl⟩ : ∃ m', m = m' + 1 := ⟨m - 1, by omega⟩
        have s1 := rim_dn hz h18 (m := m') h hD (show a < D by omega) (show c < 1000000 by omega) f.1 hw h2 h3
        have d1 := dnR_fr r a (nI g) (nI (j + 1)) (nI (pwG g w))
        obtain ⟨d0, d2, d3, d4⟩ := dnR_a (r := r) (a := a) (g := nI g) (t := nI (j + 1)) (w := nI (pwG g w))
        obtain ⟨i1, r1, w', b1, b2, b3, b4, b5, b6, b7⟩ := ih (a + 1) (pwG g w) l' (dnR r a (nI g) (nI (j + 1)) (nI (pwG g w))) (c + 1) m' (by omega) (by omega) (by omega) ((d1.fr i).bs h) (pw_PW (hz g hgm) hw) d3 d4 f.2.1 p
        refine ⟨i1, r1, w', s1.trans b1, (d1.fr i).tr (b2.dn (by omega)), b3, b4, b5, b6, fun z x hz' hx => ?_⟩
        cases z with
        | zero =>
          have hx : g = x := Option.some.inj hx
          rw [Nat.add_zero, b2.2.2 a (by omega), d0, hx]
        | succ z =>
          have q := b7 z x (by omega) hx
          rw [show a + (z + 1) = a + 1 + z by omega]
          exact q
      | succ e ihe =>
        intro j y r c m hj hy hc hm h h2 h3
        obtain ⟨y', rfl⟩ : ∃ y', y = y' + 1 := ⟨y - 1, by omega⟩
        obtain ⟨X, hX⟩ : ∃ X, X = y' * (T + 1) := ⟨_, rfl⟩
        have es : (y' + 1) * (T + 1) = X + T + 1 := by rw [Nat.succ_mul, hX]; omega
        rw [es] at hc hm
        obtain ⟨m', rfl⟩ : ∃ m', m = m' + T + 1 := ⟨m - T - 1, by omega⟩
        obtain ⟨x, hx⟩ : ∃ x, gs[j]? = some x := ⟨gs[j], List.getElem?_eq_getElem (by omega)⟩
        have hxm := List.mem_of_getElem? hx
        have s1 := rim_dn hz h18 (m := m' + T) h hD (show a < D by omega) (show c < 1000000 by omega) hx hw h2 h3
        have d1 := dnR_fr r a (nI x) (nI (j + 1)) (nI (pwG x w))
        obtain ⟨d0, d2, d3, d4⟩ := dnR_a (r := r) (a := a) (g := nI x) (t := nI (j + 1)) (w := nI (pwG x w))
        obtain ⟨r2, b1, b2⟩ := rim_no hz h18 hR hD n (a + 1) (pwG x w) (dnR r a (nI x) (nI (j + 1)) (nI (pwG x w))) (c + 1) m' (by omega) (by omega) ((d1.fr i).bs h) (pw_PW (hz x hxm) hw) d3 d4 (fun q => f.2.2 j x (by omega) hx (hd.nx hxm q.rn))
        rw [pk_m1, ← hT] at b1
        obtain ⟨i', r', w', c1, c2, c3⟩ := ihe (j + 1) y' r2 (c + 1 + T) m' (by omega) (by omega) (by omega) (by omega) ((b2.fr i).bs ((d1.fr i).bs h)) ((b2.2.1 a (by omega)).2.trans d2) (((b2.2.2 a (by omega)).trans (d1.2.2 a (Nat.le_refl _))).trans h3)
        exact ⟨i', r', w', s1.trans (b1.trans c1), ((d1.tr (b2.dn (by omega))).fr i).tr c2, c3⟩
    exact go v 0 gs.length r c m (by omega) (by omega) hc hm h (by rw [nI_0]; exact h2) h3
theorem rims_go {gs : List Nat} (hz : ∀ g ∈ gs, g ∈ zG) (h18 : gs.length ≤ 18) {i : Nat → Int32} {u : Nat → Nat} {L : List Nat} {R k n w : Nat} {l : List Nat} (hR : R ≤ 13) (hn : n ≤ 12) (hT : tryN gs.length n ≤ 999999) (hw : TbW w) (hd : Dst gs w (R + n)) (hl : PthR gs (R + n) w l) : ∀ (c a m : Nat) (r : Nat → Nat → Int32), a + c = n → c < m → ByS gs i r u L R k → r 3 0 = nI w → ∃ i' r' w', f_X7_stepsToRim_12 u m i r (nI a) = some (nI n, i', r') ∧ FRm 0 i r i' r' ∧ i' 12 = nI w' ∧ TbW w' ∧ Dst gs w' R ∧ PthR gs R w' (l.drop n) ∧ ∀ j g, j < n → l[j]? = some g → r' 1 j = nI g := by
  have i0 : inb (0 : Int32) 13 = true := by
    have e := inb_nI (N := 13) (n := 0) (by omega) (by omega)
    rw [nI_0] at e
    exact e
  have beg : ∀ (a : Nat) (r : Nat → Nat → Int32), f_X7_reachRim i r u (nI a) = f_X7_reachRim_11 u 2000000 i (va_up r 2 (upd (r 2) 0 0)) (nI a) (nI 0) (nI 0) := fun a r => by
    rw [f_X7_reachRim, ck_t i0, show (0 : Int32).toNatClampNeg = 0 from rfl, nI_0]
  have fr0 : ∀ r : Nat → Nat → Int32, FRm 0 i r i (va_up r 2 (upd (r 2) 0 0)) := fun r => ⟨fun _ _ => rfl, fun q _ h2 _ => up_n h2, fun j hj => by omega⟩
  intro c
  induction c with
  | zero =>
    intro a m r ha hm h h3
    obtain ⟨m', rfl⟩ : ∃ m', m = m' + 1 := ⟨m - 1, by omega⟩
    have e : a = n := ha
    subst e
    obtain ⟨i', r', w', b1, b2, b3, b4, b5, b6, b7⟩ := rim_yes hz h18 hR hn a 0 w l (va_up r 2 (upd (r 2) 0 0)) 0 2000000 (by omega) (by omega) (by omega) ((fr0 r).bs h) hw (by rw [up_s, pk_us]) (by rw [up_n (by omega)]; exact h3) hd hl
    refine ⟨i', r', w', ?_, (fr0 r).tr b2, b3, b4, b5, b6, fun j g hj hg => ?_⟩
    · rw [f_X7_stepsToRim_12, if_neg (show ¬ (12 : Int32) < nI a from nI_nlt (a := 12) (by omega) (by omega)), beg, b1, bd_some, if_neg n10]
    · have q := b7 j g hj hg
      rw [Nat.zero_add] at q
      exact q
  | succ c ih =>
    intro a m r ha hm h h3
    obtain ⟨m', rfl⟩ : ∃ m', m = m' + 1 := ⟨m - 1, by omega⟩
    have hTa : tryN gs.length a ≤ 999999 := Nat.le_trans (tryN_le (show a ≤ n by omega)) hT
    obtain ⟨y, hy⟩ : ∃ y, 2000000 = y + 1 + tryN gs.length a := ⟨2000000 - tryN gs.length a - 1, by omega⟩
    obtain ⟨r1, b1, b2⟩ := rim_no hz h18 (i := i) hR (show a ≤ 12 by omega) a 0 w (va_up r 2 (upd (r 2) 0 0)) 0 (y + 1) (by omega) (by omega) ((fr0 r).bs h) hw (by rw [up_s, pk_us]) (by rw [up_n (by omega)]; exact h3) (Wrd.no hd (by omega))
    have b3 : f_X7_reachRim i r u (nI a) = some (0, i, r1) := by
      rw [beg, hy, b1, f_X7_reachRim_11]
      by_cases q : (1000000 : Int32) ≤ nI (0 + tryN gs.length a)
      · rw [if_pos q]
      · rw [if_neg q, if_pos (show nI 0 + (-1) < (0 : Int32) by decide)]
    have fr1 : FRm 0 i r i r1 := (fr0 r).tr (b2.fr i)
    obtain ⟨i', r', w', c1, c2, c3⟩ := ih (a + 1) m' r1 (by omega) (by omega) (fr1.bs h) ((b2.2.2 0 (Nat.le_refl _)).trans (by rw [up_n (by omega)]; exact h3))
    refine ⟨i', r', w', ?_, fr1.tr c2, c3⟩
    rw [f_X7_stepsToRim_12, if_neg (show ¬ (12 : Int32) < nI a from nI_nlt (a := 12) (by omega) (by omega)), b3, bd_some, if_pos rfl, nI_1]
    exact c1
