/-! ===== least: the class's table of what it has found ===== -/
theorem pkB_extM {x : Int32} {f : Nat → Bool} {n : Nat} (h : ∀ i, i < 32 → bq x i = (decide (i < n) && f i)) : x = nI (pkB f n) := b_ext (fun i hi => by
  rw [bqN _ hi, pkB_bit]
  exact h i hi)
def hsh (w : Nat) : Nat := pkB (fun i => bq (nI w * (-1640531535)) (17 + i)) 15
theorem hsh_lt (w : Nat) : hsh w < 32768 := pkB_lt _ 15
theorem hsh_ok (w : Nat) : (((nI w * (-1640531535)).toUInt32 >>> ((17 : Int32).toUInt32 &&& Int32.toUInt32 31)).toInt32) = nI (hsh w) := pkB_extM (fun i hi => by
  have e : bq ((nI w * (-1640531535)).toUInt32 >>> ((17 : Int32).toUInt32 &&& Int32.toUInt32 31)).toInt32 i = bq (nI w * (-1640531535)) (17 + i) := b_ushr 17 (by omega) _ i
  rw [e]
  by_cases q : i < 15
  · rw [decide_eq_true q, Bool.true_and]
  · rw [decide_eq_false q, Bool.false_and]
    exact b_big (by omega))
theorem sv_and {d w : Nat} (hd : d ≤ 13) (hw : w < 2 ^ 24) : nI (d * 2 ^ 24 + w) &&& 16777215 = nI w := by
  have h : d * 2 ^ 24 ≤ 13 * 2 ^ 24 := Nat.mul_le_mul_right _ hd
  rw [pk_andN (by omega) 24 (by decide), show (d * 2 ^ 24 + w) % 2 ^ 24 = w by omega]
theorem sv_shr {d w : Nat} (hd : d ≤ 13) (hw : w < 2 ^ 24) : nI (d * 2 ^ 24 + w) >>> (24 &&& 31) = nI d := by
  have h : d * 2 ^ 24 ≤ 13 * 2 ^ 24 := Nat.mul_le_mul_right _ hd
  have e : nI (d * 2 ^ 24 + w) >>> (24 &&& 31) = nI ((d * 2 ^ 24 + w) / 2 ^ 24) := shr (a := 24) (by omega) (by omega)
  rw [e, show (d * 2 ^ 24 + w) / 2 ^ 24 = d by omega]
theorem sv_mk {d w : Nat} (hd : d ≤ 13) (hw : w < 2 ^ 24) : (nI d <<< (24 &&& 31)) ||| nI w = nI (d * 2 ^ 24 + w) := by
  have h : d * 2 ^ 24 ≤ 13 * 2 ^ 24 := Nat.mul_le_mul_right _ hd
  have e : nI d <<< (24 &&& 31) = nI (d * 2 ^ 24) := pk_shlN (24 &&& 31) 24 (s_l 24 (by omega)) (by omega)
  rw [e, fa_or, ← Nat.shiftLeft_eq, ← Nat.shiftLeft_add_eq_or_of_lt hw]
theorem sv_ne {d w : Nat} (hd : d ≤ 13) (h0 : 0 < w) (hw : w < 2 ^ 24) : ¬ nI (d * 2 ^ 24 + w) = 0 := nI_ne0 (by omega) (by
  have h : d * 2 ^ 24 ≤ 13 * 2 ^ 24 := Nat.mul_le_mul_right _ hd
  omega)
/-- the slots s hold the words of L, each with its distance -/
def HaS (Q : Nat → Nat → Prop) (s : Nat → Int32) (L : List Nat) (sl : Nat → Nat) : Prop :=
  L.length ≤ 16384 ∧ (∀ w ∈ L, 0 < w ∧ w < 2 ^ 24) ∧ (∀ j w, L[j]? = some w → (∃ d, d ≤ 13 ∧ Q w d ∧ s (sl j) = nI (d * 2 ^ 24 + w)) ∧ ∃ t, t < 32768 ∧ sl j = (hsh w + t) % 32768 ∧ ∀ t', t' < t → ¬ s ((hsh w + t') % 32768) = 0) ∧ (∀ p, p < 32768 → ¬ s p = 0 → ∃ j, j < L.length ∧ sl j = p)
theorem hs_free {Q : Nat → Nat → Prop} {s : Nat → Int32} {L : List Nat} {sl : Nat → Nat} (h : HaS Q s L sl) (x : Nat) (hx : x < 32768) : ∃ t, t < 32768 ∧ s ((x + t) % 32768) = 0 := by
  obtain ⟨h1, _, _, h4⟩ := h
  refine Classical.byContradiction (fun q => ?_)
  have all : ∀ p, p < 32768 → ∃ j, j < L.length ∧ sl j = p := fun p hp => h4 p hp (fun z => q ⟨(p + 32768 - x) % 32768, Nat.mod_lt _ (by omega), by
    rw [show (x + (p + 32768 - x) % 32768) % 32768 = p by omega]
    exact z⟩)
  have := nd_le (l := List.range 32768) (m := (List.range L.length).map sl) List.nodup_range (fun p hp => by
    obtain ⟨j, a, b⟩ := all p (List.mem_range.mp hp)
    exact List.mem_map.mpr ⟨j, List.mem_range.mpr a, b⟩)
  rw [List.length_range, List.length_map, List.length_range] at this
  omega
theorem slot_go {i : Nat → Int32} {r : Nat → Nat → Int32} {u : Nat → Nat} (hu : u 4 = 32768) {w x t0 : Nat} (ht0 : t0 < 32768) (hP : r 4 ((x + t0) % 32768) = 0 ∨ r 4 ((x + t0) % 32768) &&& 16777215 = nI w) (hN : ∀ t, t < t0 → ¬ r 4 ((x + t) % 32768) = 0 ∧ ¬ r 4 ((x + t) % 32768) &&& 16777215 = nI w) : ∀ (d t n : Nat), t + d = t0 → d < n → f_X7_slotOf_10 i r u n (nI w) (nI ((x + t) % 32768)) (nI t) = some (nI ((x + t0) % 32768)) := by
  intro d
  induction d with
  | zero =>
    intro t n ht hn
    obtain ⟨m, rfl⟩ : ∃ m, n = m + 1 := ⟨n - 1, by omega⟩
    have e : t = t0 := by omega
    subst e
    have hm : (x + t) % 32768 < 32768 := Nat.mod_lt _ (by omega)
    have ic : inb (nI ((x + t) % 32768)) (u 4) = true := by rw [hu]; exact inb_nI hm (by omega)
    rw [f_X7_slotOf_10, if_neg (show ¬ (32768 : Int32) ≤ nI t from nI_ge (b := 32768) (by omega) (by omega)), ck_t ic, nI_clamp (by omega)]
    by_cases q : r 4 ((x + t) % 32768) = 0
    · rw [if_pos q]
    · rw [if_neg q, ck_t ic, if_pos (hP.resolve_left q)]
  | succ d ih =>
    intro t n ht hn
    obtain ⟨m, rfl⟩ : ∃ m, n = m + 1 := ⟨n - 1, by omega⟩
    have hm : (x + t) % 32768 < 32768 := Nat.mod_lt _ (by omega)
    have ic : inb (nI ((x + t) % 32768)) (u 4) = true := by rw [hu]; exact inb_nI hm (by omega)
    obtain ⟨n1, n2⟩ := hN t (by omega)
    have ew : (nI ((x + t) % 32768 + 1)) &&& 32767 = nI ((x + (t + 1)) % 32768) := by
      rw [pk_andN (by omega) 15 (by decide), show ((x + t) % 32768 + 1) % 2 ^ 15 = (x + (t + 1)) % 32768 by omega]
    rw [f_X7_slotOf_10, if_neg (show ¬ (32768 : Int32) ≤ nI t from nI_ge (b := 32768) (by omega) (by omega)), ck_t ic, nI_clamp (by omega), if_neg n1, ck_t ic, if_neg n2, nI_1, nI_1, ew]
    exact ih (t + 1) m (by omega) (by omega)
theorem slot_ok {Q : Nat → Nat → Prop} {i : Nat → Int32} {r : Nat → Nat → Int32} {u : Nat → Nat} {L : List Nat} {sl : Nat → Nat} (hu : u 4 = 32768) (h : HaS Q (r 4) L sl) {w : Nat} (h0 : 0 < w) (hw : w < 2 ^ 24) : ∃ p, p < 32768 ∧ f_X7_slotOf i r u (nI w) = some (nI p) ∧ ((w ∈ L ∧ ∃ d, d ≤ 13 ∧ Q w d ∧ r 4 p = nI (d * 2 ^ 24 + w)) ∨ (w ∉ L ∧ r 4 p = 0 ∧ ∃ t, t < 32768 ∧ p = (hsh w + t) % 32768 ∧ ∀ t', t' < t → ¬ r 4 ((hsh w + t') % 32768) = 0)) := by
  obtain ⟨tf, htf, hf⟩ := hs_free h (hsh w) (hsh_lt w)
  obtain ⟨t0, c1, c2, c3⟩ := ex_first (P := fun t => r 4 ((hsh w + t) % 32768) = 0 ∨ r 4 ((hsh w + t) % 32768) &&& 16777215 = nI w) tf (Or.inl hf)
  have hgo := slot_go (i := i) (r := r) (u := u) hu (w := w) (x := hsh w) (t0 := t0) (by omega) c2 (fun t ht => ⟨fun q => c3 t ht (Or.inl q), fun q => c3 t ht (Or.inr q)⟩) t0 0 2000000 (by omega) (by omega)
  have hm : (hsh w + t0) % 32768 < 32768 := Nat.mod_lt _ (by omega)
  refine ⟨(hsh w + t0) % 32768, hm, ?_, ?_⟩
  · rw [f_X7_slotOf, hsh_ok]
    rw [Nat.add_zero, Nat.mod_eq_of_lt (hsh_lt w)] at hgo
    exact hgo
  · by_cases q : r 4 ((hsh w + t0) % 32768) = 0
    · right
      refine ⟨fun hin => ?_, q, t0, by omega, rfl, fun t ht z => c3 t ht (Or.inl z)⟩
      obtain ⟨j, hj⟩ := List.getElem?_of_mem hin
      obtain ⟨⟨d, d1, d2, d3⟩, t1, e1, e2, e3⟩ := h.2.2.1 j w hj
      rw [e2] at d3
      have hne := sv_ne d1 h0 hw
      rcases Nat.lt_trichotomy t0 t1 with z | z | z
      · exact e3 t0 z q
      · rw [z, d3] at q
        exact hne q
      · exact c3 t1 z (Or.inr (by rw [d3]; exact sv_and d1 hw))
    · left
      obtain ⟨j, j1, j2⟩ := h.2.2.2 _ hm q
      obtain ⟨w', hw'⟩ : ∃ w', L[j]? = some w' := ⟨L[j], List.getElem?_eq_getElem j1⟩
      obtain ⟨⟨d, d1, d2, d3⟩, -⟩ := h.2.2.1 j w' hw'
      obtain ⟨b1, b2⟩ := h.2.1 w' (List.mem_of_getElem? hw')
      have e := c2.resolve_left q
      rw [j2] at d3
      rw [d3, sv_and d1 b2] at e
      have e := nI_inj (by omega) (by omega) e
      subst e
      exact ⟨List.mem_of_getElem? hw', d, d1, d2, d3⟩
theorem dist_in {Q : Nat → Nat → Prop} {i : Nat → Int32} {r : Nat → Nat → Int32} {u : Nat → Nat} {L : List Nat} {sl : Nat → Nat} (hu : u 4 = 32768) (h : HaS Q (r 4) L sl) {w : Nat} (hw : w ∈ L) : ∃ d, Q w d ∧ d ≤ 13 ∧ f_X7_distance i r u (nI w) = some (nI d) := by
  obtain ⟨h0, h24⟩ := h.2.1 w hw
  obtain ⟨p, p1, p2, ⟨_, d, d1, d2, d3⟩ | ⟨n, _⟩⟩ := slot_ok (i := i) hu h h0 h24
  · refine ⟨d, d2, d1, ?_⟩
    have ic : inb (nI p) (u 4) = true := by rw [hu]; exact inb_nI p1 (by omega)
    rw [f_X7_distance, p2, bd_some, ck_t ic, nI_clamp (by omega), d3, if_neg (sv_ne d1 h0 h24), sv_shr d1 h24]
  · exact absurd hw n
theorem dist_out {Q : Nat → Nat → Prop} {i : Nat → Int32} {r : Nat → Nat → Int32} {u : Nat → Nat} {L : List Nat} {sl : Nat → Nat} (hu : u 4 = 32768) (h : HaS Q (r 4) L sl) {w : Nat} (h0 : 0 < w) (h24 : w < 2 ^ 24) (hw : w ∉ L) : f_X7_distance i r u (nI w) = some (-1) := by
  obtain ⟨p, p1, p2, ⟨n, _⟩ | ⟨_, z, _⟩⟩ := slot_ok (i := i) hu h h0 h24
  · exact absurd n hw
  · have ic : inb (nI p) (u 4) = true := by rw [hu]; exact inb_nI p1 (by omega)
    rw [f_X7_distance, p2, bd_some, ck_t ic, nI_clamp (by omega), z, if_pos rfl]
/-- what the class keeps between calls: gates, slots, the list L -/
def CkS (gs : List Nat) (i : Nat → Int32) (r : Nat → Nat → Int32) (u : Nat → Nat) (L : List Nat) : Prop :=
  u 4 = 32768 ∧ u 5 = 16384 ∧ i 8 = nI L.length ∧ (∀ j w, L[j]? = some w → r 5 j = nI w) ∧ (∃ sl, HaS (Dst gs) (r 4) L sl) ∧ i 6 = nI gs.length ∧ (∀ j g, gs[j]? = some g → r 0 j = nI g)
theorem CkS.congr {gs : List Nat} {i i' : Nat → Int32} {r r' : Nat → Nat → Int32} {u : Nat → Nat} {L : List Nat} (h : CkS gs i r u L) (h6 : i' 8 = i 8) (h4 : i' 6 = i 6) (r0 : r' 0 = r 0) (r2 : r' 4 = r 4) (r3 : r' 5 = r 5) : CkS gs i' r' u L := by
  unfold CkS at h ⊢
  rw [h6, h4, r0, r2, r3]
  exact h
theorem keep_old {gs : List Nat} {i : Nat → Int32} {r : Nat → Nat → Int32} {u : Nat → Nat} {L : List Nat} (h : CkS gs i r u L) {w : Nat} (hw : w ∈ L) : f_X7_keep i r u (nI w) = some (i, r) := by
  obtain ⟨u2, u3, i6, l3, ⟨sl, hs⟩, -, -⟩ := h
  obtain ⟨h0, h24⟩ := hs.2.1 w hw
  obtain ⟨p, p1, p2, ⟨_, d, d1, d2, d3⟩ | ⟨n, _⟩⟩ := slot_ok (i := i) u2 hs h0 h24
  · have ic : inb (nI p) (u 4) = true := by rw [u2]; exact inb_nI p1 (by omega)
    rw [f_X7_keep, p2, bd_some, ck_t ic, nI_clamp (by omega), d3, if_neg (sv_ne d1 h0 h24)]
  · exact absurd hw n
theorem keep_new {gs : List Nat} {i : Nat → Int32} {r : Nat → Nat → Int32} {u : Nat → Nat} {L : List Nat} (h : CkS gs i r u L) {w d : Nat} (hw : w ∉ L) (h0 : 0 < w) (h24 : w < 2 ^ 24) (hl : L.length < 16384) (h8 : i 10 = nI d) (hd : d ≤ 13) (hq : Dst gs w d) : ∃ i' r', f_X7_keep i r u (nI w) = some (i', r') ∧ CkS gs i' r' u (L ++ [w]) ∧ (∀ k, k ≠ 8 → i' k = i k) ∧ r' 1 = r 1 := by
  obtain ⟨u2, u3, i6, l3, ⟨sl, hs⟩, i4, g0⟩ := h
  obtain ⟨p, p1, p2, ⟨n, _⟩ | ⟨_, z, t, t1, t2, t3⟩⟩ := slot_ok (i := i) u2 hs h0 h24
  · exact absurd n hw
  · have ic : inb (nI p) (u 4) = true := by rw [u2]; exact inb_nI p1 (by omega)
    have i3 : inb (nI L.length) (u 5) = true := by rw [u3]; exact inb_nI hl (by omega)
    refine ⟨upd i 8 (nI (L.length + 1)), va_up (va_up r 4 (upd (r 4) p (nI (d * 2 ^ 24 + w)))) 5 (upd (r 5) L.length (nI w)), ?_, ?_, fun k hk => pk_un hk, ?_⟩
    · rw [f_X7_keep, p2, bd_some, ck_t ic, nI_clamp (by omega), if_pos z, u3, i6, if_neg (show ¬ Int32.ofNat 16384 ≤ nI L.length from nI_ge (b := 16384) hl (by omega)), ck_t ic]
      rw [u3] at i3
      rw [ck_t i3, f_X7_keep_52, i6, nI_1, h8, sv_mk hd h24, nI_clamp (by omega)]
    · have rp : ∀ q, q ≠ p → upd (r 4) p (nI (d * 2 ^ 24 + w)) q = r 4 q := fun q hq => pk_un hq
      have npz : ∀ q, ¬ r 4 q = 0 → ¬ upd (r 4) p (nI (d * 2 ^ 24 + w)) q = 0 := fun q hq => by
        by_cases e : q = p
        · rw [e, pk_us]
          exact sv_ne hd h0 h24
        · rw [rp q e]
          exact hq
      have ss : ∀ j, j < L.length → setC sl L.length p j = sl j := fun j hj => if_neg (by omega)
      have s1 : setC sl L.length p L.length = p := if_pos rfl
      refine ⟨u2, u3, ?_, ?_, ⟨setC sl L.length p, ?_, ?_, ?_, ?_⟩, ?_, ?_⟩
      · rw [pk_us, List.length_append]
        rfl
      · intro j x hx
        rw [up_s]
        by_cases q : j < L.length
        · rw [List.getElem?_append_left q] at hx
          rw [pk_un (by omega)]
          exact l3 j x hx
        · rw [List.getElem?_append_right (by omega)] at hx
          have h1 : j - L.length < 1 := (List.getElem?_eq_some_iff.mp hx).1
          have e : j = L.length := by omega
          subst e
          rw [Nat.sub_self] at hx
          rw [pk_us, ← Option.some.inj hx]
      · rw [List.length_append]
        show L.length + 1 ≤ 16384
        omega
      · intro x hx
        rcases List.mem_append.mp hx with q | q
        · exact hs.2.1 x q
        · rw [List.mem_singleton.mp q]
          exact ⟨h0, h24⟩
      · intro j x hx
        rw [up_n (show (4 : Nat) ≠ 5 by omega), up_s]
        by_cases q : j < L.length
        · rw [List.getElem?_append_left q] at hx
          obtain ⟨⟨d', a1, a2, a3⟩, t', b1, b2, b3⟩ := hs.2.2.1 j x hx
          have hx0 := hs.2.1 x (List.mem_of_getElem? hx)
          rw [ss j q]
          have ne : sl j ≠ p := fun e => by
            rw [e, z] at a3
            exact sv_ne a1 hx0.1 hx0.2 a3.symm
          exact ⟨⟨d', a1, a2, by rw [rp _ ne]; exact a3⟩, t', b1, b2, fun t'' ht => npz _ (b3 t'' ht)⟩
        · rw [List.getElem?_append_right (by omega)] at hx
          have h1 : j - L.length < 1 := (List.getElem?_eq_some_iff.mp hx).1
          have e : j = L.length := by omega
          subst e
          rw [Nat.sub_self] at hx
          have hx : w = x := Option.some.inj hx
          subst hx
          rw [s1]
          exact ⟨⟨d, hd, hq, pk_us⟩, t, t1, t2, fun t' ht => npz _ (t3 t' ht)⟩
      · intro q hq hnz
        rw [up_n (show (4 : Nat) ≠ 5 by omega), up_s] at hnz
        rw [List.length_append]
        by_cases e : q = p
        · exact ⟨L.length, by show L.length < L.length + 1; omega, by rw [s1, e]⟩
        · rw [rp q e] at hnz
          obtain ⟨j, j1, j2⟩ := hs.2.2.2 q hq hnz
          exact ⟨j, by show j < L.length + 1; omega, by rw [ss j j1]; exact j2⟩
      · rw [pk_un (by omega)]
        exact i4
      · rw [up_n (by omega), up_n (by omega)]
        exact g0
    · rw [up_n (by omega), up_n (by omega)]
