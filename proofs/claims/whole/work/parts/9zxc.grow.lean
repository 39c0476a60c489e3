/-! ===== least: the class's search by layers ===== -/
theorem LyB.rn {gs L : List Nat} {d m k w : Nat} (h : LyB gs L d m k) (hw : w ∈ L) : RcN gs (d + 1) w := by
  obtain ⟨j, e⟩ := List.getElem?_of_mem hw
  by_cases q : j < m
  · exact Or.inl ((h.ball w (h.pw w hw)).mpr ⟨j, q, e⟩)
  · exact h.next j w (by omega) e
theorem LyB.room {gs L : List Nat} (hz : ∀ g ∈ gs, g ∈ zG) {d m k : Nat} (h : LyB gs L d m k) : L.length ≤ bcn 21 (bball gs (d + 1)) := ball_up hz h.nd (fun w hw => ⟨h.pw w hw, h.rn hw⟩)
theorem grow_in {gs : List Nat} (hz : ∀ g ∈ gs, g ∈ zG) (h18 : gs.length ≤ 18) {u : Nat → Nat} {d m k w to : Nat} (hd : d ≤ 12) (hkm : k < m) (hroom : bcn 21 (bball gs (d + 1)) ≤ 16384) {K30 : (Nat → Int32) → (Nat → Nat → Int32) → Int32 → Int32 → Option ((Nat → Int32) × (Nat → Nat → Int32))} : ∀ (c j n : Nat) (L : List Nat) (i : Nat → Int32) (r : Nat → Nat → Int32), j + c = gs.length → c < n → LyB gs L d m k → CkS gs i r u L → L[k]? = some w → i 10 = nI (d + 1) → (∀ q g, q < j → gs[q]? = some g → pwG g w ∈ L) → ∃ L' i' r', f_X7_growNear_38 u K30 n i r (nI to) (nI k) (nI j) = K30 i' r' (nI to) (nI (k + 1)) ∧ LyB gs L' d m (k + 1) ∧ CkS gs i' r' u L' ∧ (∀ q, q ≠ 8 → i' q = i q) ∧ r' 1 = r 1 := by
  intro c
  induction c with
  | zero =>
    intro j n L i r hj hn hL hC hk h8 hdn
    obtain ⟨n', rfl⟩ : ∃ n', n = n' + 1 := ⟨n - 1, by omega⟩
    refine ⟨L, i, r, ?_, hL.step hkm hk (fun g hg => ?_), hC, fun q _ => rfl, rfl⟩
    · rw [f_X7_growNear_38, hC.2.2.2.2.2.1, if_pos (nI_le (by omega) (by omega)), nI_1]
    · obtain ⟨q, hq⟩ := List.getElem?_of_mem hg
      exact hdn q g (by have := (List.getElem?_eq_some_iff.mp hq).1; omega) hq
  | succ c ih =>
    intro j n L i r hj hn hL hC hk h8 hdn
    obtain ⟨n', rfl⟩ : ∃ n', n = n' + 1 := ⟨n - 1, by omega⟩
    have hjl : j < gs.length := by omega
    obtain ⟨g, hg⟩ : ∃ g, gs[j]? = some g := ⟨gs[j], List.getElem?_eq_getElem hjl⟩
    have hgm := List.mem_of_getElem? hg
    have hwm := List.mem_of_getElem? hk
    have hwp := hL.pw w hwm
    have hkl := (List.getElem?_eq_some_iff.mp hk).1
    have hlen := hL.room hz
    have ij := inb_nI (N := 18) (n := j) (by omega) (by omega)
    have ik : inb (nI k) (u 5) = true := by rw [hC.2.1]; exact inb_nI (by omega) (by omega)
    have hr0 := hC.2.2.2.2.2.2 j g hg
    have hr3 := hC.2.2.2.1 k w hk
    have pre : f_X7_growNear_38 u K30 (n' + 1) i r (nI to) (nI k) (nI j) = bd (f_X7_keep i r u (nI (pwG g w))) (fun q4 => f_X7_growNear_38 u K30 n' q4.1 q4.2 (nI to) (nI k) (nI (j + 1))) := by
      rw [f_X7_growNear_38, hC.2.2.2.2.2.1, if_neg (nI_ge (by omega) (by omega)), ck_t ij, ck_t ik, nI_clamp (by omega), nI_clamp (by omega), hr0, hr3, pasw_ok (hz g hgm) hwp.1, bd_some, nI_1]
    by_cases hin : pwG g w ∈ L
    · obtain ⟨L', i', r', a1, a2, a3, a4, a5⟩ := ih (j + 1) n' L i r (by omega) (by omega) hL hC hk h8 (fun q x hq hx => by
        by_cases e : q = j
        · subst e
          rw [hg] at hx
          rw [← Option.some.inj hx]
          exact hin
        · exact hdn q x (by omega) hx)
      refine ⟨L', i', r', ?_, a2, a3, a4, a5⟩
      rw [pre, keep_old hC hin, bd_some]
      exact a1
    · have hL2 := hL.add hz hkm hk hgm hin
      have hl2 := hL2.room hz
      rw [List.length_append] at hl2
      have hl2 : L.length + 1 ≤ bcn 21 (bball gs (d + 1)) := hl2
      have hp2 := pw_PW (hz g hgm) hwp
      have hfar : Dst gs (pwG g w) (d + 1) := hL2.far (j := L.length) hL.le (by rw [List.getElem?_append_right (by omega), Nat.sub_self]; rfl)
      obtain ⟨i1, r1, b1, b2, b3, b4⟩ := keep_new hC hin (PW_ne0 hp2) hp2.1 (by omega) h8 (by omega) hfar
      obtain ⟨L', i', r', a1, a2, a3, a4, a5⟩ := ih (j + 1) n' (L ++ [pwG g w]) i1 r1 (by omega) (by omega) hL2 b2 (by rw [List.getElem?_append_left hkl]; exact hk) (by rw [b3 10 (by omega)]; exact h8) (fun q x hq hx => by
        by_cases e : q = j
        · subst e
          rw [hg] at hx
          rw [← Option.some.inj hx]
          exact List.mem_append.mpr (Or.inr (List.mem_singleton.mpr rfl))
        · exact List.mem_append.mpr (Or.inl (hdn q x (by omega) hx)))
      refine ⟨L', i', r', ?_, a2, a3, fun q hq => (a4 q hq).trans (b3 q hq), a5.trans b4⟩
      rw [pre, b1, bd_some]
      exact a1
theorem grow_out {gs : List Nat} (hz : ∀ g ∈ gs, g ∈ zG) (h18 : gs.length ≤ 18) {u : Nat → Nat} {d m : Nat} (hd : d ≤ 12) (hm : m ≤ 16384) (hroom : bcn 21 (bball gs (d + 1)) ≤ 16384) : ∀ (c k n : Nat) (L : List Nat) (i : Nat → Int32) (r : Nat → Nat → Int32), k + c = m → c < n → LyB gs L d m k → CkS gs i r u L → i 10 = nI (d + 1) → ∃ L' i' r', f_X7_growNear_30 u n i r (nI m) (nI k) = some (i', r') ∧ LyB gs L' d m m ∧ CkS gs i' r' u L' ∧ ((i' 11 = 0 ∧ m < L'.length) ∨ (i' 11 = 1 ∧ m = L'.length)) ∧ (∀ q, q ≠ 8 → q ≠ 11 → i' q = i q) ∧ r' 1 = r 1 := by
  intro c
  induction c with
  | zero =>
    intro k n L i r hk hn hL hC h8
    obtain ⟨n', rfl⟩ : ∃ n', n = n' + 1 := ⟨n - 1, by omega⟩
    have e : k = m := by omega
    subst e
    have hlen := hL.room hz
    have hle := hL.le
    rw [f_X7_growNear_30, if_pos (nI_le (by omega) (by omega)), hC.2.2.1]
    by_cases q : L.length = k
    · rw [if_pos (by rw [q])]
      exact ⟨L, upd i 11 1, r, rfl, hL, hC.congr (pk_un (by omega)) (pk_un (by omega)) rfl rfl rfl, Or.inr ⟨pk_us, q.symm⟩, fun z _ hz => pk_un hz, rfl⟩
    · rw [if_neg (fun z => q (nI_inj (by omega) (by omega) z))]
      exact ⟨L, upd i 11 0, r, rfl, hL, hC.congr (pk_un (by omega)) (pk_un (by omega)) rfl rfl rfl, Or.inl ⟨pk_us, by omega⟩, fun z _ hz => pk_un hz, rfl⟩
  | succ c ih =>
    intro k n L i r hk hn hL hC h8
    obtain ⟨n', rfl⟩ : ∃ n', n = n' + 1 := ⟨n - 1, by omega⟩
    have hle := hL.le
    obtain ⟨w, hw⟩ : ∃ w, L[k]? = some w := ⟨L[k], List.getElem?_eq_getElem (by omega)⟩
    obtain ⟨L1, i1, r1, a1, a2, a3, a4, a5⟩ := grow_in hz h18 (u := u) (K30 := f_X7_growNear_30 u n') (to := m) hd (show k < m by omega) hroom gs.length 0 2000000 L i r (by omega) (by omega) hL hC hw h8 (fun q g hq => by omega)
    obtain ⟨L', i', r', b1, b2, b3, b4, b5, b6⟩ := ih (k + 1) n' L1 i1 r1 (by omega) (by omega) a2 a3 (by rw [a4 10 (by omega)]; exact h8)
    refine ⟨L', i', r', ?_, b2, b3, b4, fun q h6 h9 => (b5 q h6 h9).trans (a4 q h6), b6.trans a5⟩
    rw [f_X7_growNear_30, if_neg (nI_ge (by omega) (by omega))]
    rw [nI_0] at a1
    rw [a1]
    exact b1
/-- the class's search between calls: radius d, the last layer from k on -/
def ByS (gs : List Nat) (i : Nat → Int32) (r : Nat → Nat → Int32) (u : Nat → Nat) (L : List Nat) (d k : Nat) : Prop :=
  CkS gs i r u L ∧ LyB gs L d L.length k ∧ i 10 = nI d ∧ i 9 = nI k ∧ ((i 11 = 0 ∧ k < L.length) ∨ (i 11 = 1 ∧ k = L.length))
theorem ByS.congr {gs : List Nat} {i i' : Nat → Int32} {r r' : Nat → Nat → Int32} {u : Nat → Nat} {L : List Nat} {d k : Nat} (h : ByS gs i r u L d k) (hi : ∀ q, q = 6 ∨ (8 ≤ q ∧ q ≤ 11) → i' q = i q) (hr : ∀ q, q = 0 ∨ q = 4 ∨ q = 5 → r' q = r q) : ByS gs i' r' u L d k := by
  obtain ⟨h1, h2, h3, h4, h5⟩ := h
  refine ⟨h1.congr (hi 8 (by omega)) (hi 6 (by omega)) (hr 0 (by omega)) (hr 4 (by omega)) (hr 5 (by omega)), h2, ?_, ?_, ?_⟩
  · rw [hi 10 (by omega)]; exact h3
  · rw [hi 9 (by omega)]; exact h4
  · rw [hi 11 (by omega)]; exact h5
theorem grow_ok {k0 : Nat} (hk0 : k0 < 32) (h18 : (gsK k0).length ≤ 18) {i : Nat → Int32} {r : Nat → Nat → Int32} {u : Nat → Nat} {L : List Nat} {d k : Nat} (h : ByS (gsK k0) i r u L d k) (h9 : i 11 = 0) (hL : L.length ≤ 5040) : ∃ L' i' r', f_X7_growNear i r u = some (i', r') ∧ ByS (gsK k0) i' r' u L' (d + 1) L.length ∧ (∀ q, q = 7 ∨ q = 12 → i' q = i q) ∧ r' 1 = r 1 ∧ d ≤ 12 := by
  obtain ⟨h1, h2, h3, h4, h5⟩ := h
  have hkl : k < L.length := by
    rcases h5 with h5 | h5
    · exact h5.2
    · rw [h5.1] at h9
      exact absurd h9 n10
  have hd : d ≤ 12 := by
    have e := List.getElem?_eq_getElem hkl
    exact Dst12 hk0 (h2.pw _ (List.mem_of_getElem? e)) (h2.lay k _ (Nat.le_refl _) hkl e)
  have hb := ball_dn (gsK_in k0) (L := L) (d := d) (fun w hw q => by
    obtain ⟨j, _, e⟩ := (h2.ball w hw).mp q
    exact List.mem_of_getElem? e)
  have hroom := room_ok hk0 (Nat.le_trans hb hL)
  obtain ⟨L', i', r', a1, a2, a3, a4, a5, a6⟩ := grow_out (gsK_in k0) h18 (u := u) hd (show L.length ≤ 16384 by omega) hroom (L.length - k) k 2000000 L (upd (upd i 9 (nI L.length)) 10 (nI (d + 1))) r (by omega) (by omega) h2 (h1.congr (by rw [pk_un (by omega), pk_un (by omega)]) (by rw [pk_un (by omega), pk_un (by omega)]) rfl rfl rfl) pk_us
  refine ⟨L', i', r', ?_, ⟨a3, a2.turn (gsK_in k0), ?_, ?_, a4⟩, ?_, a6, hd⟩
  · rw [f_X7_growNear, h1.2.2.1, h3, h4, nI_1]
    exact a1
  · rw [a5 10 (by omega) (by omega), pk_us]
  · rw [a5 9 (by omega) (by omega), pk_un (by omega), pk_us]
  · intro q hq
    rw [a5 q (by omega) (by omega), pk_un (by omega), pk_un (by omega)]
/-! the beginning -/
theorem zG_kd : ∀ g ∈ zG, kdN g = (if 64 ≤ g then 3 else 0) + cnt (g % 8) 10 ∧ nI g &&& 7 = nI (g % 8) ∧ ((64 : Int32) ≤ nI g ↔ 64 ≤ g) ∧ kdN g < 5 := by decide
theorem kind_ok {g : Nat} (hg : g ∈ zG) : f_X7_kindOf (nI g) = some (nI (kdN g)) := by
  obtain ⟨h1, h2, h3, _⟩ := zG_kd g hg
  have hc := (cnt_both (g % 8) (by omega)).1
  rw [f_X7_kindOf]
  by_cases q : 64 ≤ g
  · rw [if_pos (h3.mpr q), f_X7_kindOf_11, h2, hc, bd_some, h1, if_pos q, ← nI_add]
    rfl
  · rw [if_neg (fun z => q (h3.mp z)), f_X7_kindOf_11, h2, hc, bd_some, h1, if_neg q, ← nI_add]
    rfl
theorem zS_at : ∀ j : Fin 18, zSteps.getD j.1 0 = nI (zG.getD j.1 0) ∧ zG[j.1]? = some (zG.getD j.1 0) := by decide
def flK (k j : Nat) : List Nat := (zG.take j).filter (fun g => k.testBit (kdN g))
theorem flK_18 (k : Nat) : flK k 18 = gsK k := rfl
theorem flK_succ {k j g : Nat} (h : zG[j]? = some g) : flK k (j + 1) = flK k j ++ (if k.testBit (kdN g) = true then [g] else []) := by
  obtain ⟨a, b⟩ := List.getElem?_eq_some_iff.mp h
  unfold flK
  rw [List.take_succ_eq_append_getElem a, List.filter_append, b]
  congr 1
  cases q : k.testBit (kdN g) <;> simp [q]
theorem flK_len (k j : Nat) : (flK k j).length ≤ j := Nat.le_trans (List.length_filter_le _ _) (by rw [List.length_take]; omega)
theorem gsK_len (k : Nat) : (gsK k).length ≤ 18 := flK_len k 18
theorem begin_go {k : Nat} (hk : k < 32) {u : Nat → Nat} : ∀ (c j n : Nat) (i : Nat → Int32) (r : Nat → Nat → Int32), j + c = 18 → c < n → i 6 = nI (flK k j).length → (∀ z g, (flK k j)[z]? = some g → r 0 z = nI g) → ∃ i' r', f_X7_beginNear_48 u n i r (nI k) (nI j) = f_X7_beginNear_121 u (upd (upd (upd (upd i' 8 0) 9 0) 10 0) 11 0) r' ∧ i' 6 = nI (gsK k).length ∧ (∀ z g, (gsK k)[z]? = some g → r' 0 z = nI g) ∧ (∀ q, q ≠ 6 → i' q = i q) ∧ (∀ q, q ≠ 0 → r' q = r q) := by
  intro c
  induction c with
  | zero =>
    intro j n i r hj hn h4 h0
    obtain ⟨n', rfl⟩ : ∃ n', n = n' + 1 := ⟨n - 1, by omega⟩
    have e : j = 18 := by omega
    subst e
    refine ⟨i, r, ?_, h4, h0, fun _ _ => rfl, fun _ _ => rfl⟩
    rw [f_X7_beginNear_48, if_pos (show (18 : Int32) ≤ nI 18 from nI_le (a := 18) (by omega) (by omega))]
  | succ c ih =>
    intro j n i r hj hn h4 h0
    obtain ⟨n', rfl⟩ : ∃ n', n = n' + 1 := ⟨n - 1, by omega⟩
    obtain ⟨s1, s2⟩ := zS_at ⟨j, by omega⟩
    obtain ⟨g, eg⟩ : ∃ g, g = zG.getD j 0 := ⟨_, rfl⟩
    have s1 : zSteps.getD j 0 = nI g := by rw [eg]; exact s1
    have s2 : zG[j]? = some g := by rw [eg]; exact s2
    have hg := List.mem_of_getElem? s2
    have hkd := (zG_kd g hg).2.2.2
    have ij := inb_nI (N := 18) (n := j) (by omega) (by omega)
    have hfl := flK_len k j
    have ia := inb_nI (N := 18) (n := (flK k j).length) (by omega) (by omega)
    have hs := flK_succ (k := k) s2
    rw [f_X7_beginNear_48, if_neg (show ¬ (18 : Int32) ≤ nI j from nI_ge (b := 18) (by omega) (by omega)), ck_t ij, nI_clamp (by omega), s1, kind_ok hg, bd_some]
    cases q : k.testBit (kdN g) with
    | false =>
      rw [q, if_neg (by decide), List.append_nil] at hs
      rw [if_pos ((bit_if (by omega) (by omega)).mpr q), f_X7_beginNear_95, nI_1]
      exact ih (j + 1) n' i r (by omega) (by omega) (by rw [hs]; exact h4) (by rw [hs]; exact h0)
    | true =>
      rw [q, if_pos rfl] at hs
      rw [if_neg (fun z => by rw [(bit_if (by omega) (by omega)).mp z] at q; cases q), ck_t ij, h4, ck_t ia, f_X7_beginNear_95, nI_1, nI_1, nI_clamp (by omega)]
      obtain ⟨i', r', a1, a2, a3, a4, a5⟩ := ih (j + 1) n' (upd i 6 (nI ((flK k j).length + 1))) (va_up r 0 (upd (r 0) (flK k j).length (nI g))) (by omega) (by omega) (by rw [pk_us, hs, List.length_append]; rfl) (fun z x hx => by
        rw [hs] at hx
        rw [up_s]
        by_cases e : z < (flK k j).length
        · rw [List.getElem?_append_left e] at hx
          rw [pk_un (by omega)]
          exact h0 z x hx
        · rw [List.getElem?_append_right (by omega)] at hx
          have h1 : z - (flK k j).length < 1 := (List.getElem?_eq_some_iff.mp hx).1
          have e : z = (flK k j).length := by omega
          subst e
          rw [Nat.sub_self] at hx
          rw [pk_us, ← Option.some.inj hx])
      exact ⟨i', r', a1, a2, a3, fun z hz => (a4 z hz).trans (pk_un hz), fun z hz => (a5 z hz).trans (up_n hz)⟩
theorem begn_ok {k : Nat} (hk : k < 32) {i : Nat → Int32} {r : Nat → Nat → Int32} {u : Nat → Nat} (u2 : u 4 = 32768) (u3 : u 5 = 16384) (hr : ∀ p, p < 32768 → r 4 p = 0) : ∃ i' r', f_X7_beginNear_36 u i r (nI k) = some (i', r') ∧ ByS (gsK k) i' r' u [e0W] 0 0 ∧ i' 7 = nI k ∧ r' 1 = r 1 := by
  obtain ⟨i1, r1, a1, a2, a3, a4, a5⟩ := begin_go hk (u := u) 18 0 2000000 (upd (upd i 7 (nI k)) 6 0) r (by omega) (by omega) (by rw [pk_us]; rfl) (fun z g hz => by cases hz)
  have cs0 : CkS (gsK k) (upd (upd (upd (upd i1 8 0) 9 0) 10 0) 11 0) r1 u [] := by
    refine ⟨u2, u3, ?_, (fun j w h => by cases h), ⟨fun _ => 0, Nat.zero_le _, (fun w hw => by cases hw), (fun j w h => by cases h), fun p hp h => absurd ?_ h⟩, ?_, a3⟩
    · rw [pk_un (by omega), pk_un (by omega), pk_un (by omega), pk_us]; rfl
    · rw [a5 4 (by omega)]; exact hr p hp
    · rw [pk_un (by omega), pk_un (by omega), pk_un (by omega), pk_un (by omega)]; exact a2
  obtain ⟨i', r', b1, b2, b3, b4⟩ := keep_new (d := 0) cs0 (w := e0W) (by simp) (by decide) (by decide) (by decide) (by rw [pk_un (by omega), pk_us]; rfl) (by omega) ⟨rfl, fun m hm => by omega⟩
  refine ⟨i', r', ?_, ⟨b2, LyB.start _, ?_, ?_, Or.inl ⟨?_, by decide⟩⟩, ?_, b4.trans (a5 1 (by omega))⟩
  · rw [nI_0] at a1
    rw [f_X7_beginNear_36, a1, f_X7_beginNear_121, show (15781034 : Int32) = nI e0W from rfl, b1, bd_some]
  · rw [b3 10 (by omega), pk_un (by omega), pk_us]; rfl
  · rw [b3 9 (by omega), pk_un (by omega), pk_un (by omega), pk_us]; rfl
  · rw [b3 11 (by omega), pk_us]
  · rw [b3 7 (by omega), pk_un (by omega), pk_un (by omega), pk_un (by omega), pk_un (by omega), a4 7 (by omega), pk_un (by omega), pk_us]
