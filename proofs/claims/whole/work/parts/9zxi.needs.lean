/-! ===== least: the reference's search ===== -/
theorem pm_sur {v : Nat → Nat} (h : PmV v) : ∀ x, x < 8 → ∃ o, o < 8 ∧ v o = x := by
  intro x hx
  refine Classical.byContradiction (fun q => ?_)
  have nd := nd_map (f := v) (l := List.range 8) List.nodup_range (fun a ha b hb e => h.2 a b (List.mem_range.mp ha) (List.mem_range.mp hb) e)
  have nd2 : (x :: (List.range 8).map v).Nodup := List.nodup_cons.mpr ⟨fun hm => by
    obtain ⟨o, a, b⟩ := List.mem_map.mp hm
    exact q ⟨o, List.mem_range.mp a, b⟩, nd⟩
  have := nd_le nd2 (m := List.range 8) (fun y hy => by
    rw [List.mem_range]
    rcases List.mem_cons.mp hy with e | hy
    · rw [e]; exact hx
    · obtain ⟨o, a, b⟩ := List.mem_map.mp hy
      rw [← b]
      exact h.1 o (List.mem_range.mp a))
  rw [List.length_cons, List.length_map, List.length_range] at this
  omega
def ivW (w x : Nat) : Nat := ((List.range 8).find? (fun o => vlW w o == x)).getD 0
theorem iv_ok {w : Nat} (h : TbW w) {x : Nat} (hx : x < 8) : ivW w x < 8 ∧ vlW w (ivW w x) = x := by
  obtain ⟨o, a, b⟩ := pm_sur h.2 x hx
  unfold ivW
  cases e : (List.range 8).find? (fun o => vlW w o == x) with
  | none =>
    have := List.find?_eq_none.mp e o (List.mem_range.mpr a)
    rw [b] at this
    simp at this
  | some z =>
    have h1 := List.find?_some e
    have h2 := List.mem_of_find?_eq_some e
    exact ⟨List.mem_range.mp h2, by simpa using h1⟩
theorem iv_vl {w : Nat} (h : TbW w) {o : Nat} (ho : o < 8) : ivW w (vlW w o) = o := by
  obtain ⟨a, b⟩ := iv_ok h (vlW_lt w o)
  exact h.2.2 _ _ a ho b
theorem iv_pm {w : Nat} (h : TbW w) : PmV (ivW w) := ⟨fun x hx => (iv_ok h hx).1, fun a b ha hb e => by rw [← (iv_ok h ha).2, ← (iv_ok h hb).2, e]⟩
theorem iv_sur {w : Nat} (h : TbW w) : ∀ u, u < 8 → ∃ z, z < 8 ∧ ivW w z = u := fun u hu => ⟨vlW w u, vlW_lt w u, iv_vl h hu⟩
theorem iv_pw {g w x : Nat} (hg : g ∈ zG) (h : TbW w) (hx : x < 8) : ivW (pwG g w) x = ivW w (apV g x) := by
  obtain ⟨a, b⟩ := iv_ok h (apV_lt hg hx)
  have e : vlW (pwG g w) (ivW w (apV g x)) = x := by rw [vl_pw hg a, b, apV_inv hg hx]
  have := iv_vl (pw_PW hg h) a
  rw [e] at this
  exact this
def rkW (w : Nat) : Nat := rkN (ivW w)
theorem rkW_lt (w : Nat) : rkW w < 40320 := rkN_lt _
theorem rkW_inj {w w' : Nat} (h : TbW w) (h' : TbW w') (e : rkW w = rkW w') : w = w' := by
  obtain ⟨r1, a1, a2, _⟩ := unrank_ok (iv_pm h) (iv_sur h) (i := fun _ => 0) (l := fun _ _ => 0) (fun _ _ => 0)
  obtain ⟨r2, b1, b2, _⟩ := unrank_ok (iv_pm h') (iv_sur h') (i := fun _ => 0) (l := fun _ _ => 0) (fun _ _ => 0)
  have e : rkN (ivW w) = rkN (ivW w') := e
  rw [e, b1] at a1
  have er : r2 = r1 := Option.some.inj a1
  have hv : ∀ z, z < 8 → ivW w z = ivW w' z := fun z hz => by
    have h1 := a2 z hz
    rw [← er, b2 z hz] at h1
    have l1 := (iv_ok h hz).1
    have l2 := (iv_ok h' hz).1
    exact (nI_inj (by omega) (by omega) h1).symm
  refine w_ext h.1 h'.1 (fun o ho => ?_)
  have h1 := iv_vl h ho
  rw [hv _ (vlW_lt w o)] at h1
  rw [← h1, (iv_ok h' (vlW_lt w _)).2, h1]
theorem rkN_id : rkN (fun x => x) = 0 := by decide
theorem rkW_e0 : rkW e0W = 0 := by
  unfold rkW
  rw [rkN_congr (q := fun x => x) (fun x hx => ?_), rkN_id]
  have := iv_vl e0_PW hx
  rw [e0_vl ⟨x, hx⟩] at this
  exact this
theorem gF_ap : ∀ g ∈ zG, ∀ x : Fin 8, apS (gF g) x.1 = apV g x.1 := by decide
theorem gF_wf {g : Nat} (hg : g ∈ zG) : wfS 3 (gF g) := by
  obtain ⟨h1, h2⟩ := zG_ok g hg
  unfold gF
  by_cases q : 64 ≤ g
  · obtain ⟨a1, a2, a3, a4⟩ := h1 q
    rw [if_pos q]
    refine ⟨show (g - 64) / 32 < 3 by omega, show g % 8 < 8 by omega, a3, fun b hb => ?_⟩
    have hb : g / 8 % 4 = b := Option.some.inj hb
    subst hb
    exact ⟨a2, by show g / 8 % 4 ≠ (g - 64) / 32; omega, a4⟩
  · obtain ⟨a1, a2⟩ := h2 q
    rw [if_neg q]
    exact ⟨a1, show g % 8 < 8 by omega, a2, fun b hb => by cases hb⟩
/-- the reference's gates -/
def GA (gs : List Nat) (i : Nat → Int32) (r : Nat → Nat → Int32) : Prop := i 24 = nI gs.length ∧ ∀ j g, gs[j]? = some g → r 21 j = nI (gF g).1 ∧ r 22 j = oI (gF g).2.1 ∧ r 23 j = nI (gF g).2.2
theorem GA.congr {gs : List Nat} {i : Nat → Int32} {r r' : Nat → Nat → Int32} (h : GA gs i r) (h1 : r' 21 = r 21) (h2 : r' 22 = r 22) (h3 : r' 23 = r 23) : GA gs i r' := by
  unfold GA at h ⊢
  rw [h1, h2, h3]
  exact h
theorem wout_ok {gs : List Nat} (hz : ∀ g ∈ gs, g ∈ zG) (h18 : gs.length ≤ 18) {i : Nat → Int32} {r : Nat → Nat → Int32} {l : Nat → Nat → Int64} {w j g : Nat} (hG : GA gs i r) (hw : TbW w) (h19 : ∀ x, x < 8 → r 19 x = nI (ivW w x)) (hg : gs[j]? = some g) : ∃ r', f_X13_without i r l (nI j) = some (nI (rkW (pwG g w)), r') ∧ ∀ q, q ≠ 20 → r' q = r q := by
  have hgz := hz g (List.mem_of_getElem? hg)
  have hj := (List.getElem?_eq_some_iff.mp hg).1
  obtain ⟨g1, g2, g3⟩ := hG.2 j g hg
  have ij := inb_nI (N := 18) (n := j) (by omega) (by omega)
  have go : ∀ (c x n : Nat) (r' : Nat → Nat → Int32), x + c = 8 → c < n → (∀ q, q ≠ 20 → r' q = r q) → (∀ z, z < x → r' 20 z = nI (ivW (pwG g w) z)) → ∃ r'', f_X13_without_2 i l n r' (nI j) (nI x) = some (nI (rkW (pwG g w)), r'') ∧ ∀ q, q ≠ 20 → r'' q = r q := by
    intro c
    induction c with
    | zero =>
      intro x n r' hx hn hq h20
      obtain ⟨m, rfl⟩ : ∃ m, n = m + 1 := ⟨n - 1, by omega⟩
      have e : x = 8 := by omega
      subst e
      refine ⟨r', ?_, hq⟩
      rw [f_X13_without_2, if_pos (show (8 : Int32) ≤ nI 8 from nI_le (a := 8) (by omega) (by omega)), rank_ok h20 (iv_pm (pw_PW hgz hw)).1, bd_some]
      rfl
    | succ c ih =>
      intro x n r' hx hn hq h20
      obtain ⟨m, rfl⟩ : ∃ m, n = m + 1 := ⟨n - 1, by omega⟩
      have ix := inb_nI (N := 8) (n := x) (by omega) (by omega)
      have ha := apV_lt hgz (show x < 8 by omega)
      have ia := inb_nI (N := 8) (n := apV g x) ha (by omega)
      have hd := done_ok (L := 3) (t := gF g) (v := x) (by omega) (gF_wf hgz) (show x < 2 ^ 3 by omega)
      have eg : apS (gF g) x = apV g x := gF_ap g hgz ⟨x, by omega⟩
      rw [eg] at hd
      obtain ⟨r'', a1, a2⟩ := ih (x + 1) m (va_up r' 20 (upd (r' 20) x (nI (ivW (pwG g w) x)))) (by omega) (by omega) (fun q hq' => (up_n hq').trans (hq q hq')) (fun z hz' => by
        rw [up_s]
        by_cases e : z = x
        · rw [e, pk_us]
        · rw [pk_un e]
          exact h20 z (by omega))
      refine ⟨r'', ?_, a2⟩
      rw [f_X13_without_2, if_neg (show ¬ (8 : Int32) ≤ nI x from nI_ge (b := 8) (by omega) (by omega)), ck_t ij, ck_t ij, ck_t ij, nI_clamp (by omega), hq 21 (by omega), hq 22 (by omega), hq 23 (by omega), g1, g2, g3, hd, bd_some, ck_t ia, ck_t ix, nI_clamp (by omega), nI_clamp (by omega), hq 19 (by omega), h19 _ ha, nI_1, ← iv_pw hgz hw (by omega)]
      exact a1
  exact go 8 0 2000000 r (by omega) (by omega) (fun _ _ => rfl) (fun z hz' => by omega)
/-- distances found so far -/
def NdS (gs : List Nat) (r : Nat → Nat → Int32) (L : List Nat) : Prop := (∀ w ∈ L, ∃ n, n ≤ 12 ∧ Dst gs w n ∧ r 17 (rkW w) = nI n) ∧ (∀ x, x < 40320 → (∀ w ∈ L, rkW w ≠ x) → r 17 x = -1) ∧ ∀ j w, L[j]? = some w → r 18 j = nI (rkW w)
theorem NdS.congr {gs : List Nat} {r r' : Nat → Nat → Int32} {L : List Nat} (h : NdS gs r L) (h1 : r' 17 = r 17) (h2 : r' 18 = r 18) : NdS gs r' L := by
  unfold NdS at h ⊢
  rw [h1, h2]
  exact h
theorem LyB.all {gs L : List Nat} {d m k : Nat} (h : LyB gs L d m k) : L.length ≤ 40320 := by
  have nd := nd_map (f := rkW) h.nd (fun a ha b hb e => rkW_inj (h.pw a ha) (h.pw b hb) e)
  have := nd_le nd (m := List.range 40320) (fun x hx => by
    obtain ⟨w, _, e⟩ := List.mem_map.mp hx
    rw [← e]
    exact List.mem_range.mpr (rkW_lt w))
  rw [List.length_map, List.length_range] at this
  exact this
theorem NdS.isin {gs L : List Nat} {r : Nat → Nat → Int32} {d m k : Nat} (h : NdS gs r L) (hL : LyB gs L d m k) {w : Nat} (hw : TbW w) : r 17 (rkW w) = -1 ↔ w ∉ L := by
  constructor
  · intro e hin
    obtain ⟨n, n1, _, n2⟩ := h.1 w hin
    rw [n2] at e
    exact nm1 (by omega) e
  · intro hn
    exact h.2.1 _ (rkW_lt w) (fun x hx e => hn ((rkW_inj (hL.pw x hx) hw e) ▸ hx))
theorem NdS.add {gs L : List Nat} {r : Nat → Nat → Int32} {d m k w n : Nat} (h : NdS gs r L) (hL : LyB gs L d m k) (hw : TbW w) (hn : w ∉ L) (hd : Dst gs w n) (h12 : n ≤ 12) : NdS gs (va_up (va_up r 17 (upd (r 17) (rkW w) (nI n))) 18 (upd (r 18) L.length (nI (rkW w)))) (L ++ [w]) := by
  refine ⟨fun x hx => ?_, fun x hx hne => ?_, fun j x hx => ?_⟩
  · rw [up_n (by omega), up_s]
    rcases List.mem_append.mp hx with q | q
    · obtain ⟨n', a, b, c⟩ := h.1 x q
      refine ⟨n', a, b, ?_⟩
      rw [pk_un (fun e => hn ((rkW_inj (hL.pw x q) hw e) ▸ q))]
      exact c
    · rw [List.mem_singleton.mp q]
      exact ⟨n, h12, hd, pk_us⟩
  · rw [up_n (by omega), up_s, pk_un (fun e => hne w (List.mem_append.mpr (Or.inr (List.mem_singleton.mpr rfl))) e.symm)]
    exact h.2.1 x hx (fun y hy => hne y (List.mem_append.mpr (Or.inl hy)))
  · rw [up_s]
    by_cases q : j < L.length
    · rw [List.getElem?_append_left q] at hx
      rw [pk_un (by omega)]
      exact h.2.2 j x hx
    · rw [List.getElem?_append_right (by omega)] at hx
      have h1 : j - L.length < 1 := (List.getElem?_eq_some_iff.mp hx).1
      have e : j = L.length := by omega
      subst e
      rw [Nat.sub_self] at hx
      rw [pk_us, ← Option.some.inj hx]
theorem need_in {k0 : Nat} (hk0 : k0 < 32) {i : Nat → Int32} {l : Nat → Nat → Int64} {d m k w : Nat} (hkm : k < m) {K58 : (Nat → Int32) → (Nat → Nat → Int32) → Int32 → Int32 → Option ((Nat → Int32) × (Nat → Nat → Int32))} : ∀ (c j n : Nat) (L : List Nat) (r : Nat → Nat → Int32), j + c = (gsK k0).length → c < n → LyB (gsK k0) L d m k → NdS (gsK k0) r L → GA (gsK k0) i r → L[k]? = some w → (∀ x, x < 8 → r 19 x = nI (ivW w x)) → (∀ q g, q < j → (gsK k0)[q]? = some g → pwG g w ∈ L) → ∃ L' r', f_X13_findNeeds_84 l K58 n i r (nI L.length) (nI k) (nI (rkW w)) (nI j) = K58 i r' (nI L'.length) (nI (k + 1)) ∧ LyB (gsK k0) L' d m (k + 1) ∧ NdS (gsK k0) r' L' ∧ GA (gsK k0) i r' := by
  have hz := gsK_in k0
  have h18 := gsK_len k0
  intro c
  induction c with
  | zero =>
    intro j n L r hj hn hL hN hG hk h19 hdn
    obtain ⟨n', rfl⟩ : ∃ n', n = n' + 1 := ⟨n - 1, by omega⟩
    refine ⟨L, r, ?_, hL.step hkm hk (fun g hg => ?_), hN, hG⟩
    · rw [f_X13_findNeeds_84, hG.1, if_pos (nI_le (by omega) (by omega)), nI_1]
    · obtain ⟨q, hq⟩ := List.getElem?_of_mem hg
      exact hdn q g (by have := (List.getElem?_eq_some_iff.mp hq).1; omega) hq
  | succ c ih =>
    intro j n L r hj hn hL hN hG hk h19 hdn
    obtain ⟨n', rfl⟩ : ∃ n', n = n' + 1 := ⟨n - 1, by omega⟩
    obtain ⟨g, hg⟩ : ∃ g, (gsK k0)[j]? = some g := ⟨(gsK k0)[j], List.getElem?_eq_getElem (by omega)⟩
    have hgm := List.mem_of_getElem? hg
    have hwm := List.mem_of_getElem? hk
    have hwp := hL.pw w hwm
    have hkl := (List.getElem?_eq_some_iff.mp hk).1
    have hp2 := pw_PW (hz g hgm) hwp
    obtain ⟨r1, a1, a2⟩ := wout_ok hz h18 (l := l) hG hwp h19 hg
    have hN1 : NdS (gsK k0) r1 L := hN.congr (a2 17 (by omega)) (a2 18 (by omega))
    have hG1 : GA (gsK k0) i r1 := hG.congr (a2 21 (by omega)) (a2 22 (by omega)) (a2 23 (by omega))
    have it := inb_nI (N := 40320) (rkW_lt (pwG g w)) (by omega)
    have hb := rkW_lt (pwG g w)
    have hbw := rkW_lt w
    have iw := inb_nI (N := 40320) hbw (by omega)
    have hall := hL.all
    have pre : f_X13_findNeeds_84 l K58 (n' + 1) i r (nI L.length) (nI k) (nI (rkW w)) (nI j) = if r1 17 (rkW (pwG g w)) = -1 then (ck (inb (nI L.length) 40320) (f_X13_findNeeds_84 l K58 n' i (va_up (va_up r1 17 (upd (r1 17) (rkW (pwG g w)) (vp_nar .byte ((r1 17 (rkW w) + 1).toInt8.toInt32)))) 18 (upd (r1 18) L.length (nI (rkW (pwG g w))))) (nI (L.length + 1)) (nI k) (nI (rkW w)) (nI (j + 1)))) else f_X13_findNeeds_84 l K58 n' i r1 (nI L.length) (nI k) (nI (rkW w)) (nI (j + 1)) := by
      rw [f_X13_findNeeds_84, hG.1, if_neg (nI_ge (by omega) (by omega)), a1, bd_some, ck_t it, nI_clamp (by omega), ck_t iw, ck_t it, nI_clamp (by omega), f_X13_findNeeds_144, f_X13_findNeeds_147, f_X13_findNeeds_147, nI_1, nI_1, nI_clamp (by omega)]
    by_cases hin : pwG g w ∈ L
    · obtain ⟨L', r', b1, b2, b3, b4⟩ := ih (j + 1) n' L r1 (by omega) (by omega) hL hN1 hG1 hk (fun x hx => by rw [a2 19 (by omega)]; exact h19 x hx) (fun q x hq hx => by
        by_cases e : q = j
        · subst e
          rw [hg] at hx
          rw [← Option.some.inj hx]
          exact hin
        · exact hdn q x (by omega) hx)
      refine ⟨L', r', ?_, b2, b3, b4⟩
      rw [pre, if_neg (fun z => (hN1.isin hL hp2).mp z hin)]
      exact b1
    · have hL2 := hL.add hz hkm hk hgm hin
      have hall2 := hL2.all
      rw [List.length_append] at hall2
      have hall2 : L.length + 1 ≤ 40320 := hall2
      have hfar : Dst (gsK k0) (pwG g w) (d + 1) := hL2.far (j := L.length) hL.le (by rw [List.getElem?_append_right (by omega), Nat.sub_self]; rfl)
      have h12 := Dst12 hk0 hp2 hfar
      have hdw := hL.lay k w (Nat.le_refl _) hkm hk
      have h17 : r1 17 (rkW w) = nI d := by
        obtain ⟨n0, _, e1, e2⟩ := hN1.1 w hwm
        rw [e2, e1.uq hdw]
      have il := inb_nI (N := 40320) (n := L.length) (by omega) (by omega)
      have hN2 := hN1.add hL hp2 hin hfar h12
      obtain ⟨L', r', b1, b2, b3, b4⟩ := ih (j + 1) n' (L ++ [pwG g w]) (va_up (va_up r1 17 (upd (r1 17) (rkW (pwG g w)) (nI (d + 1)))) 18 (upd (r1 18) L.length (nI (rkW (pwG g w))))) (by omega) (by omega) hL2 hN2 (hG1.congr (by rw [up_n (by omega), up_n (by omega)]) (by rw [up_n (by omega), up_n (by omega)]) (by rw [up_n (by omega), up_n (by omega)])) (by rw [List.getElem?_append_left hkl]; exact hk) (fun x hx => by rw [up_n (by omega), up_n (by omega), a2 19 (by omega)]; exact h19 x hx) (fun q x hq hx => by
        by_cases e : q = j
        · subst e
          rw [hg] at hx
          rw [← Option.some.inj hx]
          exact List.mem_append.mpr (Or.inr (List.mem_singleton.mpr rfl))
        · exact List.mem_append.mpr (Or.inl (hdn q x (by omega) hx)))
      refine ⟨L', r', ?_, b2, b3, b4⟩
      rw [List.length_append] at b1
      rw [pre, if_pos ((hN1.isin hL hp2).mpr hin), ck_t il, h17, byt_p ⟨d, by omega⟩]
      exact b1
theorem need_out {k0 : Nat} (hk0 : k0 < 32) {i : Nat → Int32} {l : Nat → Nat → Int64} : ∀ (c k n : Nat) (L : List Nat) (d m : Nat) (r : Nat → Nat → Int32), 40320 ≤ k + c → c < n → LyB (gsK k0) L d m k → NdS (gsK k0) r L → GA (gsK k0) i r → ∃ L' d' r', f_X13_findNeeds_58 l n i r (nI L.length) (nI k) = some (i, r') ∧ LyB (gsK k0) L' d' L'.length L'.length ∧ NdS (gsK k0) r' L' ∧ GA (gsK k0) i r' := by
  have hz := gsK_in k0
  intro c
  induction c with
  | zero =>
    intro k n L d m r hk hn hL hN hG
    obtain ⟨n', rfl⟩ : ∃ n', n = n' + 1 := ⟨n - 1, by omega⟩
    have h1 := hL.all
    have h2 := hL.le
    have h3 := hL.km
    have e1 : m = L.length := by omega
    have e2 : k = L.length := by omega
    refine ⟨L, d, r, ?_, by rw [e1] at hL; rw [e2] at hL; exact hL, hN, hG⟩
    rw [f_X13_findNeeds_58, if_pos (nI_le (by omega) (by omega))]
  | succ c ih =>
    intro k n L d m r hk hn hL hN hG
    obtain ⟨n', rfl⟩ : ∃ n', n = n' + 1 := ⟨n - 1, by omega⟩
    have h1 := hL.all
    have h2 := hL.le
    have h3 := hL.km
    by_cases q : k = L.length
    · have e1 : m = L.length := by omega
      refine ⟨L, d, r, ?_, by rw [e1] at hL; rw [q] at hL; exact hL, hN, hG⟩
      rw [f_X13_findNeeds_58, if_pos (nI_le (by omega) (by omega))]
    · obtain ⟨d2, m2, hL2, hk2⟩ : ∃ d2 m2, LyB (gsK k0) L d2 m2 k ∧ k < m2 := by
        by_cases z : k < m
        · exact ⟨d, m, hL, z⟩
        · have e : k = m := by omega
          subst e
          exact ⟨d + 1, L.length, hL.turn hz, by omega⟩
      obtain ⟨w, hw⟩ : ∃ w, L[k]? = some w := ⟨L[k], List.getElem?_eq_getElem (by omega)⟩
      have hwp := hL.pw w (List.mem_of_getElem? hw)
      have ik := inb_nI (N := 40320) (n := k) (by omega) (by omega)
      obtain ⟨r1, a1, a2, a3⟩ := unrank_ok (iv_pm hwp) (iv_sur hwp) (i := i) (l := l) r
      obtain ⟨L', r', b1, b2, b3, b4⟩ := need_in hk0 (l := l) (K58 := f_X13_findNeeds_58 l n') hk2 (gsK k0).length 0 2000000 L r1 (by omega) (by have := gsK_len k0; omega) hL2 (hN.congr (a3 17 (by omega) (by omega)) (a3 18 (by omega) (by omega))) (hG.congr (a3 21 (by omega) (by omega)) (a3 22 (by omega) (by omega)) (a3 23 (by omega) (by omega))) hw a2 (fun q g hq => by omega)
      obtain ⟨L'', d'', r'', c1, c2⟩ := ih (k + 1) n' L' d2 m2 r' (by omega) (by omega) b2 b3 b4
      refine ⟨L'', d'', r'', ?_, c2⟩
      have a1 : f_X13_unrank i r l (nI (rkW w)) = some r1 := a1
      rw [nI_0] at b1
      rw [f_X13_findNeeds_58, if_neg (nI_ge (by omega) (by omega)), ck_t ik, nI_clamp (by omega), hN.2.2 k w hw, a1, bd_some, b1]
      exact c1
/-- the reference's distances of kind set k -/
def NDk (k : Nat) (r : Nat → Nat → Int32) : Prop := ∀ w, TbW w → (∀ n, Dst (gsK k) w n → r 17 (rkW w) = nI n) ∧ ((∀ n, ¬ RcN (gsK k) n w) → r 17 (rkW w) = -1)
theorem NDk.of {k0 : Nat} {r : Nat → Nat → Int32} {L : List Nat} {d : Nat} (hL : LyB (gsK k0) L d L.length L.length) (hN : NdS (gsK k0) r L) : NDk k0 r := by
  intro w hw
  have hsh := LyB.shut (gsK_in k0) hL rfl
  refine ⟨fun n hd => ?_, fun hn => (hN.isin hL hw).mpr (fun hin => ?_)⟩
  · obtain ⟨j, _, e⟩ := (hL.ball w hw).mp (hsh n w hw hd.1)
    obtain ⟨n', _, h2, h3⟩ := hN.1 w (List.mem_of_getElem? e)
    rw [h3, h2.uq hd]
  · obtain ⟨n', _, h2, _⟩ := hN.1 w hin
    exact hn n' h2.1
theorem fill_need {k0 : Nat} {i : Nat → Int32} {l : Nat → Nat → Int64} : ∀ (c j n : Nat) (r : Nat → Nat → Int32), j + c = 40320 → c < n → GA (gsK k0) i r → (∀ x, x < j → r 17 x = -1) → ∃ r', f_X13_findNeeds_21 l n i r (nI j) = f_X13_findNeeds_54 l i r' ∧ GA (gsK k0) i r' ∧ NdS (gsK k0) r' [e0W] := by
  intro c
  induction c with
  | zero =>
    intro j n r hj hn hG h17
    obtain ⟨n', rfl⟩ : ∃ n', n = n' + 1 := ⟨n - 1, by omega⟩
    have e : j = 40320 := by omega
    subst e
    have i0 : inb 0 40320 = true := inb_nI (n := 0) (N := 40320) (by omega) (by omega)
    have z0 : (0 : Int32).toNatClampNeg = 0 := nI_clamp (n := 0) (by omega)
    refine ⟨va_up (va_up r 17 (upd (r 17) 0 (nI 0))) 18 (upd (r 18) 0 0), ?_, hG.congr (by rw [up_n (by omega), up_n (by omega)]) (by rw [up_n (by omega), up_n (by omega)]) (by rw [up_n (by omega), up_n (by omega)]), ?_⟩
    · rw [f_X13_findNeeds_21, if_pos (show (40320 : Int32) ≤ nI 40320 from nI_le (a := 40320) (by omega) (by omega)), ck_t i0, ck_t i0, z0, byt_0]
    · refine ⟨fun w hw => ?_, fun x hx hne => ?_, fun j w hw => ?_⟩
      · rw [List.mem_singleton.mp hw, rkW_e0, up_n (by omega), up_s]
        exact ⟨0, by omega, ⟨rfl, fun m hm => by omega⟩, pk_us⟩
      · have := hne e0W (List.mem_singleton.mpr rfl)
        rw [rkW_e0] at this
        rw [up_n (by omega), up_s, pk_un (fun e => this e.symm)]
        exact h17 x hx
      · have h1 : j < 1 := (List.getElem?_eq_some_iff.mp hw).1
        have e : j = 0 := by omega
        subst e
        have e : e0W = w := Option.some.inj hw
        subst e
        rw [up_s, pk_us, rkW_e0]
        rfl
  | succ c ih =>
    intro j n r hj hn hG h17
    obtain ⟨n', rfl⟩ : ∃ n', n = n' + 1 := ⟨n - 1, by omega⟩
    have ij := inb_nI (N := 40320) (n := j) (by omega) (by omega)
    rw [f_X13_findNeeds_21, if_neg (show ¬ (40320 : Int32) ≤ nI j from nI_ge (b := 40320) (by omega) (by omega)), ck_t ij, nI_clamp (by omega), byt_m, nI_1]
    exact ih (j + 1) n' (va_up r 17 (upd (r 17) j (-1))) (by omega) (by omega) (hG.congr (up_n (by omega)) (up_n (by omega)) (up_n (by omega))) (fun x hx => by
      rw [up_s]
      by_cases e : x = j
      · rw [e, pk_us]
      · rw [pk_un e]
        exact h17 x (by omega))
theorem search_ok {k0 : Nat} (hk0 : k0 < 32) {i : Nat → Int32} {l : Nat → Nat → Int64} {r : Nat → Nat → Int32} (hG : GA (gsK k0) i r) : ∃ r', f_X13_findNeeds_21 l 2000000 i r 0 = some (i, r') ∧ GA (gsK k0) i r' ∧ NDk k0 r' := by
  obtain ⟨r1, a1, a2, a3⟩ := fill_need (l := l) 40320 0 2000000 r (by omega) (by omega) hG (fun x hx => by omega)
  obtain ⟨L', d', r', b1, b2, b3, b4⟩ := need_out hk0 (i := i) (l := l) 40320 0 2000000 [e0W] 0 1 r1 (by omega) (by omega) (LyB.start _) a3 a2
  refine ⟨r', ?_, b4, NDk.of b2 b3⟩
  rw [nI_0] at a1 b1
  rw [a1, f_X13_findNeeds_54]
  exact b1
