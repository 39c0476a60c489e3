/-! ===== cracks: the runs with a STEP left out ===== -/
/-- the run of l with step c left out -/
def runB (l : List FSt) (c v : Nat) : Nat := runS (l.drop (c + 1)) (runS (l.take c) v)
theorem runB_40 {l : List FSt} (h : l.length ≤ 40) (v : Nat) : runB l 40 v = runS l v := by
  rw [runB, List.drop_eq_nil_of_le (by omega), List.take_of_length_le h]
  rfl
theorem runB_lt {L : Nat} {l : List FSt} (h : ∀ t ∈ l, wfS L t) {c v : Nat} (hv : v < 2 ^ L) : runB l c v < 2 ^ L :=
  runS_lt (fun t ht => h t (List.mem_of_mem_drop ht)) (runS_lt (fun t ht => h t (List.mem_of_mem_take ht)) hv)
theorem runS_take {l : List FSt} {k : Nat} {t : FSt} (h : l[k]? = some t) (v : Nat) : runS (l.take (k + 1)) v = apS t (runS (l.take k) v) := by
  have hk := (List.getElem?_eq_some_iff.mp h)
  obtain ⟨h1, h2⟩ := hk
  rw [List.take_succ_eq_append_getElem h1, runS, List.foldl_append, h2]
  rfl
theorem runS_end (l : List FSt) (t : FSt) (v : Nat) : runS (l ++ [t]) v = apS t (runS l v) := by
  rw [runS, List.foldl_append]
  rfl
theorem runS_split (l : List FSt) (k v : Nat) : runS l v = runS (l.drop k) (runS (l.take k) v) := by
  have h : runS (l.take k ++ l.drop k) v = runS (l.drop k) (runS (l.take k) v) := by
    rw [runS, List.foldl_append]
    rfl
  rw [List.take_append_drop] at h
  exact h
theorem but_go {L j : Nat} {l : List FSt} {mi : Nat → Int32} {mr : Nat → Nat → Int32} {ml : Nat → Nat → Int64} (hj : j < 8) (hf : fineF L l) (h : MF L l mr j) {c : Nat} (hc : c ≤ 40) {v0 : Nat} (hv0 : v0 < 2 ^ L) : ∀ (d k n v : Nat), k + d = l.length → d < n → v = (if k ≤ c then runS (l.take k) v0 else runS ((l.take k).drop (c + 1)) (runS (l.take c) v0)) → f_X13_outBut_6 mi mr ml n (nI j) 0 (nI c) (nI v) (nI k) = some (nI (runB l c v0)) := by
  have h40 := hf.2.2.1
  have ij := inb_nI (N := 8) hj (by omega)
  have cj : (nI j).toNatClampNeg = j := nI_clamp (by omega)
  intro d
  induction d with
  | zero =>
    intro k n v hk hn hv
    obtain ⟨m, rfl⟩ : ∃ m, n = m + 1 := ⟨n - 1, by omega⟩
    rw [f_X13_outBut_6, ck_t ij, cj, h.2.1, if_pos (nI_le (by omega) (by omega)), hv, runB]
    by_cases e : k ≤ c
    · rw [if_pos e, List.drop_eq_nil_of_le (by omega), List.take_of_length_le (show l.length ≤ k by omega), List.take_of_length_le (show l.length ≤ c by omega)]
      rfl
    · rw [if_neg e, List.take_of_length_le (show l.length ≤ k by omega)]
  | succ d ih =>
    intro k n v hk hn hv
    obtain ⟨m, rfl⟩ : ∃ m, n = m + 1 := ⟨n - 1, by omega⟩
    obtain ⟨t, ht, _⟩ := drop_c (l := l) (k := k) (by omega)
    have hm := hf.2.2.2 t (List.mem_of_getElem? ht)
    have hvl : v < 2 ^ L := by
      rw [hv]
      split
      · exact runS_lt (fun t ht => hf.2.2.2 t (List.mem_of_mem_take ht)) hv0
      · exact runS_lt (fun t ht => hf.2.2.2 t (List.mem_of_mem_take (List.mem_of_mem_drop ht))) (runS_lt (fun t ht => hf.2.2.2 t (List.mem_of_mem_take ht)) hv0)
    obtain ⟨c1, c2, c3⟩ := h.2.2 k t ht
    have i3 := inb_nI (n := 40 * j + k) (N := 320) (by omega) (by omega)
    rw [f_X13_outBut_6, ck_t ij, cj, h.2.1, if_neg (nI_ge (by omega) (by omega)), if_pos rfl, f_X13_outBut_37]
    by_cases e : k = c
    · rw [if_pos (by rw [e]), f_X13_outBut_83, nI_1]
      refine ih (k + 1) m v (by omega) (by omega) ?_
      rw [if_neg (by omega), hv, if_pos (by omega), e, List.drop_eq_nil_of_le (by rw [List.length_take]; omega)]
      rfl
    · rw [if_neg (fun q => e (nI_inj (by omega) (by omega) q)), mul40, ck_t i3, ck_t i3, ck_t i3, nI_clamp (by omega), c1, c2, c3, done_ok hf.2.1 hm hvl, bd_some, f_X13_outBut_83, nI_1]
      refine ih (k + 1) m (apS t v) (by omega) (by omega) ?_
      by_cases e2 : k < c
      · rw [if_pos (by omega), hv, if_pos (by omega), runS_take ht]
      · rw [if_neg (by omega), hv, if_neg (by omega)]
        have hk2 := (List.getElem?_eq_some_iff.mp ht)
        obtain ⟨h1, h2⟩ := hk2
        rw [List.take_succ_eq_append_getElem h1, List.drop_append_of_le_length (by rw [List.length_take]; omega), h2]
        rw [runS_end]
theorem but_ok {L j : Nat} {l : List FSt} {mi : Nat → Int32} {mr : Nat → Nat → Int32} {ml : Nat → Nat → Int64} (hj : j < 8) (hf : fineF L l) (h : MF L l mr j) {c v : Nat} (hc : c ≤ 40) (hv : v < 2 ^ L) : f_X13_outBut mi mr ml (nI j) (nI v) 0 (nI c) = some (nI (runB l c v)) := by
  have h40 := hf.2.2.1
  rw [f_X13_outBut]
  exact but_go hj hf h hc hv l.length 0 2000000 v (by omega) (by omega) (by rw [if_pos (by omega)]; rfl)
/-! the class: what comes out with a STEP left out, all at once -/
def OTS (L : Nat) (l : List FSt) (i : Nat) (t : Nat → Int32) : Prop := (∀ v, v < 2 ^ L → t (10240 + v) = nI (runS l v)) ∧ (∀ c, c < i → ∀ v, v < 2 ^ L → t (c * 256 + v) = nI (runB l c v)) ∧ ∀ z, z < 10496 → ∃ w, w < 256 ∧ t z = nI w
theorem mul256 (a b : Nat) : nI a * 256 + nI b = nI (a * 256 + b) := by
  rw [show (256 : Int32) = nI 256 from rfl, pk_mul, nI_add]
theorem fo86 {L i : Nat} {l : List FSt} {t : FSt} {ii i1 : Nat → Int32} {u : Nat → Nat} {r1 : Nat → Nat → Int32} {K : (Nat → Nat → Int32) → Int32 → Int32 → Option (Nat → Nat → Int32)} (hu : u 9 = 10496) (hf : fineF L l) (hF : FL L l i1 r1) (h12 : ii 12 = nI (2 ^ L)) (ht : l[i]? = some t) : ∀ (d k n : Nat) (r : Nat → Nat → Int32), k + d = 2 ^ L → d < n → (∀ v, k ≤ v → v < 2 ^ L → r 6 v = nI (runS (l.take i) v)) → (∀ v, v < k → r 6 v = nI (runS (l.take (i + 1)) v)) → (∀ v, v < 2 ^ L → r 7 (runS (l.take i) v) = nI v) → OTS L l i (r 9) → (∀ v, v < k → r 9 (i * 256 + v) = nI (runB l i v)) → ∃ r', f_X1_fillOuts_86 ii u i1 r1 K n r (nI 10240) (nI i) (nI k) = K r' (nI 10240) (nI (i + 1)) ∧ (∀ v, v < 2 ^ L → r' 6 v = nI (runS (l.take (i + 1)) v)) ∧ OTS L l (i + 1) (r' 9) ∧ ∀ a, a ≠ 6 → a ≠ 7 → a ≠ 9 → r' a = r a := by
  have h256 := p2 hf.2.1
  have h40 := hf.2.2.1
  have hi : i < l.length := (List.getElem?_eq_some_iff.mp ht).1
  have hwt := hf.2.2.2 t (List.mem_of_getElem? ht)
  have hwi : ∀ t ∈ l.take i, wfS L t := fun t ht => hf.2.2.2 t (List.mem_of_mem_take ht)
  intro d
  induction d with
  | zero =>
    intro k n r hk hn h6 h6b h7 h9 h9b
    obtain ⟨m, rfl⟩ : ∃ m, n = m + 1 := ⟨n - 1, by omega⟩
    refine ⟨r, ?_, fun v hv => h6b v (by omega), ⟨h9.1, fun c hc v hv => ?_, h9.2.2⟩, fun a _ _ _ => rfl⟩
    · rw [f_X1_fillOuts_86, h12, if_pos (nI_le (by omega) (by omega)), nI_1]
    · by_cases e : c = i
      · subst e
        exact h9b v (by omega)
      · exact h9.2.1 c (by omega) v hv
  | succ d ih =>
    intro k n r hk hn h6 h6b h7 h9 h9b
    obtain ⟨m, rfl⟩ : ∃ m, n = m + 1 := ⟨n - 1, by omega⟩
    have hk2 : k < 2 ^ L := by omega
    have hnow := runS_lt hwi hk2
    have hp := apS_lt hwt hnow
    have hw : runS (l.take i).reverse (apS t (runS (l.take i) k)) < 2 ^ L := runS_lt (fun t ht => hwi t (List.mem_reverse.mp ht)) hp
    generalize ew : runS (l.take i).reverse (apS t (runS (l.take i) k)) = w at hw
    have hback : runS (l.take i) w = apS t (runS (l.take i) k) := by
      have h8 := runS_inv (L := L) (l := (l.take i).reverse) (fun t ht => hwi t (List.mem_reverse.mp ht)) (apS t (runS (l.take i) k))
      rw [List.reverse_reverse, ew] at h8
      exact h8
    have h7w : r 7 (apS t (runS (l.take i) k)) = nI w := by rw [← hback]; exact h7 w hw
    have hval : runS l w = runB l i k := by
      obtain ⟨t2, ht2, hd2⟩ := drop_c (l := l) (k := i) hi
      have : t2 = t := Option.some.inj (ht2.symm.trans ht)
      subst this
      rw [runS_split l i w, hback, hd2, runB]
      show runS (l.drop (i + 1)) (apS t2 (apS t2 (runS (l.take i) k))) = _
      rw [apS_inv hwt]
    have ik := inb_nI (N := 256) (n := k) (by omega) (by omega)
    have ip := inb_nI (N := 256) (n := apS t (runS (l.take i) k)) (by omega) (by omega)
    have j1 := inb_nI (N := 10496) (n := 10240 + w) (by omega) (by omega)
    have j2 := inb_nI (N := 10496) (n := i * 256 + k) (by omega) (by omega)
    have hB : runB l i k < 256 := by have := runB_lt (c := i) hf.2.2.2 hk2; omega
    obtain ⟨r', a1, a2, a3, a4⟩ := ih (k + 1) m (va_up (va_up r 9 (upd (r 9) (i * 256 + k) (nI (runB l i k)))) 6 (upd (r 6) k (nI (apS t (runS (l.take i) k))))) (by omega) (by omega) (fun v h1 h2 => by rw [up_s, pk_un (by omega)]; exact h6 v (by omega) h2) (fun v hv => by
      rw [up_s]
      by_cases e : v = k
      · subst e
        rw [pk_us, runS_take ht]
      · rw [pk_un e]
        exact h6b v (by omega)) (fun v hv => by rw [up_n (by omega), up_n (by omega)]; exact h7 v hv) (by
      rw [up_n (by omega), up_s]
      refine ⟨fun v hv => ?_, fun c hc v hv => ?_, fun z hz => ?_⟩
      · rw [pk_un (by omega)]
        exact h9.1 v hv
      · rw [pk_un (by omega)]
        exact h9.2.1 c hc v hv
      · by_cases e : z = i * 256 + k
        · rw [e, pk_us]
          exact ⟨_, hB, rfl⟩
        · rw [pk_un e]
          exact h9.2.2 z hz) (fun v hv => by
      rw [up_n (by omega), up_s]
      by_cases e : v = k
      · subst e
        rw [pk_us]
      · rw [pk_un (by omega)]
        exact h9b v (by omega))
    refine ⟨r', ?_, a2, a3, fun a b6 b7 b9 => by rw [a4 a b6 b7 b9, up_n b6, up_n b9]⟩
    rw [f_X1_fillOuts_86, h12, if_neg (nI_ge (by omega) (by omega)), ck_t ik, nI_clamp (n := k) (by omega), h6 k (by omega) hk2, pass_ok hf hF ht hnow, bd_some, ck_t ip, nI_clamp (n := apS t (runS (l.take i) k)) (by omega), h7w, nI_add, hu, ck_t j1, mul256, ck_t j2, ck_t ik, nI_clamp (n := 10240 + w) (by omega), h9.1 w hw, hval, nI_clamp (n := i * 256 + k) (by omega), f_X1_fillOuts_145, nI_1]
    exact a1
theorem fo54 {L i : Nat} {l : List FSt} {t : FSt} {ii i1 : Nat → Int32} {u : Nat → Nat} {r1 : Nat → Nat → Int32} {K : (Nat → Nat → Int32) → Int32 → Int32 → Option (Nat → Nat → Int32)} (hu : u 9 = 10496) (hf : fineF L l) (hF : FL L l i1 r1) (h12 : ii 12 = nI (2 ^ L)) (ht : l[i]? = some t) : ∀ (d k n : Nat) (r : Nat → Nat → Int32), k + d = 2 ^ L → d < n → (∀ v, v < 2 ^ L → r 6 v = nI (runS (l.take i) v)) → (∀ v, v < k → r 7 (runS (l.take i) v) = nI v) → OTS L l i (r 9) → ∃ r', f_X1_fillOuts_54 ii u i1 r1 K n r (nI 10240) (nI i) (nI k) = K r' (nI 10240) (nI (i + 1)) ∧ (∀ v, v < 2 ^ L → r' 6 v = nI (runS (l.take (i + 1)) v)) ∧ OTS L l (i + 1) (r' 9) ∧ ∀ a, a ≠ 6 → a ≠ 7 → a ≠ 9 → r' a = r a := by
  have h256 := p2 hf.2.1
  have hwi : ∀ t ∈ l.take i, wfS L t := fun t ht => hf.2.2.2 t (List.mem_of_mem_take ht)
  intro d
  induction d with
  | zero =>
    intro k n r hk hn h6 h7 h9
    obtain ⟨m, rfl⟩ : ∃ m, n = m + 1 := ⟨n - 1, by omega⟩
    rw [f_X1_fillOuts_54, h12, if_pos (nI_le (by omega) (by omega))]
    exact fo86 hu hf hF h12 ht (2 ^ L) 0 2000000 r (by omega) (by omega) (fun v _ hv => h6 v hv) (fun v hv => by omega) (fun v hv => h7 v (by omega)) h9 (fun v hv => by omega)
  | succ d ih =>
    intro k n r hk hn h6 h7 h9
    obtain ⟨m, rfl⟩ : ∃ m, n = m + 1 := ⟨n - 1, by omega⟩
    have hk2 : k < 2 ^ L := by omega
    have hnow := runS_lt hwi hk2
    have ik := inb_nI (N := 256) (n := k) (by omega) (by omega)
    have ip := inb_nI (N := 256) (n := runS (l.take i) k) (by omega) (by omega)
    obtain ⟨r', a1, a2, a3, a4⟩ := ih (k + 1) m (va_up r 7 (upd (r 7) (runS (l.take i) k) (nI k))) (by omega) (by omega) (fun v hv => by rw [up_n (by omega)]; exact h6 v hv) (fun v hv => by
      rw [up_s]
      by_cases e : v = k
      · subst e
        rw [pk_us]
      · rw [pk_un (fun q => e (runS_inj hwi q))]
        exact h7 v (by omega)) (by rw [up_n (by omega)]; exact h9)
    refine ⟨r', ?_, a2, a3, fun a b6 b7 b9 => by rw [a4 a b6 b7 b9, up_n b7]⟩
    rw [f_X1_fillOuts_54, h12, if_neg (nI_ge (by omega) (by omega)), ck_t ik, nI_clamp (n := k) (by omega), h6 k hk2, ck_t ip, nI_clamp (n := runS (l.take i) k) (by omega), nI_1]
    exact a1
theorem fo43 {L : Nat} {l : List FSt} {ii i1 : Nat → Int32} {u : Nat → Nat} {r1 : Nat → Nat → Int32} (hu : u 9 = 10496) (hf : fineF L l) (hF : FL L l i1 r1) (h11 : ii 11 = nI l.length) (h12 : ii 12 = nI (2 ^ L)) : ∀ (d i n : Nat) (r : Nat → Nat → Int32), i + d = l.length → d < n → (∀ v, v < 2 ^ L → r 6 v = nI (runS (l.take i) v)) → OTS L l i (r 9) → ∃ r', f_X1_fillOuts_43 ii u i1 r1 n r (nI 10240) (nI i) = some r' ∧ OTS L l l.length (r' 9) ∧ ∀ a, a ≠ 6 → a ≠ 7 → a ≠ 9 → r' a = r a := by
  have h256 := p2 hf.2.1
  have h40 := hf.2.2.1
  intro d
  induction d with
  | zero =>
    intro i n r hk hn h6 h9
    obtain ⟨m, rfl⟩ : ∃ m, n = m + 1 := ⟨n - 1, by omega⟩
    rw [Nat.add_zero] at hk
    subst hk
    exact ⟨r, by rw [f_X1_fillOuts_43, h11, if_pos (nI_le (by omega) (by omega))], h9, fun a _ _ _ => rfl⟩
  | succ d ih =>
    intro i n r hk hn h6 h9
    obtain ⟨m, rfl⟩ : ∃ m, n = m + 1 := ⟨n - 1, by omega⟩
    obtain ⟨t, ht, _⟩ := drop_c (l := l) (k := i) (by omega)
    obtain ⟨r2, a1, a2, a3, a4⟩ := fo54 (K := f_X1_fillOuts_43 ii u i1 r1 m) hu hf hF h12 ht (2 ^ L) 0 2000000 r (by omega) (by omega) h6 (fun v hv => by omega) h9
    obtain ⟨r', b1, b2, b3⟩ := ih (i + 1) m r2 (by omega) (by omega) a2 a3
    refine ⟨r', ?_, b2, fun a b6 b7 b9 => by rw [b3 a b6 b7 b9, a4 a b6 b7 b9]⟩
    have a1' : f_X1_fillOuts_54 ii u i1 r1 (f_X1_fillOuts_43 ii u i1 r1 m) 2000000 r (nI 10240) (nI i) 0 = _ := a1
    rw [f_X1_fillOuts_43, h11, if_neg (nI_ge (by omega) (by omega)), a1']
    exact b1
theorem fo6 {L : Nat} {l : List FSt} {ii i1 : Nat → Int32} {u : Nat → Nat} {r1 : Nat → Nat → Int32} (hu : u 9 = 10496) (hf : fineF L l) (hF : FL L l i1 r1) (h11 : ii 11 = nI l.length) (h12 : ii 12 = nI (2 ^ L)) : ∀ (d k n : Nat) (r : Nat → Nat → Int32), k + d = 2 ^ L → d < n → (∀ v, v < k → r 6 v = nI v ∧ r 9 (10240 + v) = nI (runS l v)) → (∀ z, z < 10496 → ∃ w, w < 256 ∧ r 9 z = nI w) → ∃ r', f_X1_fillOuts_6 ii u i1 r1 n r (nI 10240) (nI k) = some r' ∧ OTS L l l.length (r' 9) ∧ ∀ a, a ≠ 6 → a ≠ 7 → a ≠ 9 → r' a = r a := by
  have h256 := p2 hf.2.1
  have h40 := hf.2.2.1
  intro d
  induction d with
  | zero =>
    intro k n r hk hn h6 h9
    obtain ⟨m, rfl⟩ : ∃ m, n = m + 1 := ⟨n - 1, by omega⟩
    rw [f_X1_fillOuts_6, h12, if_pos (nI_le (by omega) (by omega))]
    exact fo43 hu hf hF h11 h12 l.length 0 2000000 r (by omega) (by omega) (fun v hv => (h6 v (by omega)).1) ⟨fun v hv => (h6 v (by omega)).2, fun c hc => by omega, h9⟩
  | succ d ih =>
    intro k n r hk hn h6 h9
    obtain ⟨m, rfl⟩ : ∃ m, n = m + 1 := ⟨n - 1, by omega⟩
    have hk2 : k < 2 ^ L := by omega
    have hlt := runS_lt hf.2.2.2 hk2
    have ik := inb_nI (N := 256) (n := k) (by omega) (by omega)
    have j1 := inb_nI (N := 10496) (n := 10240 + k) (by omega) (by omega)
    obtain ⟨r', a1, a2, a3⟩ := ih (k + 1) m (va_up (va_up r 6 (upd (r 6) k (nI k))) 9 (upd (r 9) (10240 + k) (nI (runS l k)))) (by omega) (by omega) (fun v hv => by
      rw [up_n (show (6 : Nat) ≠ 9 by omega), up_s, up_s]
      by_cases e : v = k
      · subst e
        exact ⟨pk_us, pk_us⟩
      · rw [pk_un e, pk_un (by omega)]
        exact h6 v (by omega)) (fun z hz => by
      rw [up_s]
      by_cases e : z = 10240 + k
      · rw [e, pk_us]
        exact ⟨_, by omega, rfl⟩
      · rw [pk_un e]
        exact h9 z hz)
    refine ⟨r', ?_, a2, fun a b6 b7 b9 => by rw [a3 a b6 b7 b9, up_n b9, up_n b6]⟩
    rw [f_X1_fillOuts_6, h12, if_neg (nI_ge (by omega) (by omega)), ck_t ik, nI_clamp (n := k) (by omega), outOf_ok hf hF hk2, bd_some, nI_add, hu, ck_t j1, nI_clamp (n := 10240 + k) (by omega), f_X1_fillOuts_35, nI_1]
    exact a1
/-! ===== cracks: what both sides keep ===== -/
/-- a FLOOR is watched -/
def GW1 (L : Nat) (l : List FSt) (i : Nat → Int32) (r : Nat → Nat → Int32) (u : Nat → Nat) (mi : Nat → Int32) (mr : Nat → Nat → Int32) (ns nr tl : Nat) : Prop :=
  fineF L l ∧ MF L l mr 7 ∧ u 9 = 10496 ∧ (i 10 = 1 ∧ i 11 = nI l.length ∧ i 12 = nI (2 ^ L) ∧ i 13 = nI ns ∧ i 14 = nI nr ∧ i 15 = nI tl) ∧ (mi 76 = 1 ∧ mi 77 = nI ns ∧ mi 78 = nI nr ∧ mi 79 = nI tl) ∧ (ns ≤ 20 ∧ nr ≤ 20 ∧ tl ≤ 999) ∧ (OTS L l l.length (r 9) ∧ ∀ z, z < 256 → r 8 z = 0) ∧ (∀ k, k < ns → ∃ a b c, a ≤ 999 ∧ b < 2 ^ L ∧ c < 2 ^ L ∧ r 0 k = nI a ∧ r 1 k = nI b ∧ r 2 k = nI c ∧ mr 82 k = nI a ∧ mr 80 k = nI b ∧ mr 81 k = nI c) ∧ (∀ k, k < nr → ∃ a b c, a ≤ 999 ∧ b < ns ∧ c < 2 ^ L ∧ r 3 k = nI a ∧ r 4 k = nI b ∧ r 5 k = nI c ∧ mr 85 k = nI a ∧ mr 83 k = nI b ∧ mr 84 k = nI c)
/-- none is -/
def GW0 (i : Nat → Int32) (r : Nat → Nat → Int32) (u : Nat → Nat) (mi : Nat → Int32) : Prop :=
  u 9 = 0 ∧ (i 10 = 0 ∧ i 12 = 256 ∧ i 13 = 0 ∧ i 14 = 0 ∧ i 15 = 0) ∧ (mi 76 = 0 ∧ mi 77 = 0 ∧ mi 78 = 0 ∧ mi 79 = 0) ∧ ∀ z, z < 256 → r 8 z = 0
def GW (i : Nat → Int32) (r : Nat → Nat → Int32) (u : Nat → Nat) (mi : Nat → Int32) (mr : Nat → Nat → Int32) : Prop := GW0 i r u mi ∨ ∃ L l ns nr tl, GW1 L l i r u mi mr ns nr tl
theorem begin_ok {L j : Nat} {l : List FSt} {i i1 mi : Nat → Int32} {r r1 mr : Nat → Nat → Int32} {u : Nat → Nat} {ml : Nat → Nat → Int64} (hj : j < 6) (hu : u 9 = 10496) (hf : fineF L l) (hF : FL L l i1 r1) (hM : MF L l mr j) (h8 : ∀ z, z < 256 → r 8 z = 0) (h9 : ∀ z, z < 10496 → ∃ w, w < 256 ∧ r 9 z = nI w) : ∃ i' r' mi' mr', f_X1_begin_17 u i1 r1 i r = some (i', r') ∧ (bd (f_X13_copyFloor mi mr ml (nI j) 7) (fun q4 => f_X13_watch_37 ml (upd (upd (upd (upd mi 76 1) 77 0) 78 0) 79 0) q4)) = some (nI l.length, mi', mr') ∧ GW1 L l i' r' u mi' mr' 0 0 0 ∧ KP 7 mr mr' := by
  have h256 := p2 hf.2.1
  obtain ⟨mr', c1, c2, c3⟩ := mcopy_ok (mi := mi) (ml := ml) (show j < 8 by omega) (show 7 < 8 by omega) (by omega) hf.2.2.1 hM
  have c1' : f_X13_copyFloor mi mr ml (nI j) 7 = some mr' := c1
  obtain ⟨r', a1, a2, a3⟩ := fo6 (ii := upd (upd (upd (upd (upd (upd i 10 1) 11 (nI l.length)) 12 (nI (2 ^ L))) 13 0) 14 0) 15 0) hu hf hF (by rw [pk_un (by omega), pk_un (by omega), pk_un (by omega), pk_un (by omega), pk_us]) (by rw [pk_un (by omega), pk_un (by omega), pk_un (by omega), pk_us]) (2 ^ L) 0 2000000 r (by omega) (by omega) (fun v hv => by omega) h9
  have A : f_X1_begin_17 u i1 r1 i r = some (upd (upd (upd (upd (upd (upd i 10 1) 11 (nI l.length)) 12 (nI (2 ^ L))) 13 0) 14 0) 15 0, r') := by
    have a1' : f_X1_fillOuts_6 (upd (upd (upd (upd (upd (upd i 10 1) 11 (nI l.length)) 12 (nI (2 ^ L))) 13 0) 14 0) 15 0) u i1 r1 2000000 r 10240 0 = some r' := a1
    rw [f_X1_begin_17, f_X2_steps, bd_some, rows_ok hf.2.1 hF, bd_some, hF.2.1, f_X1_begin_43, f_X1_fillOuts, a1', bd_some]
  have i7 : inb 7 8 = true := inb_nI (n := 7) (N := 8) (by omega) (by omega)
  have s7 : (7 : Int32).toNatClampNeg = 7 := nI_clamp (n := 7) (by omega)
  have B : (bd (f_X13_copyFloor mi mr ml (nI j) 7) (fun q4 => f_X13_watch_37 ml (upd (upd (upd (upd mi 76 1) 77 0) 78 0) 79 0) q4)) = some (nI l.length, upd (upd (upd (upd mi 76 1) 77 0) 78 0) 79 0, mr') := by
    rw [c1', bd_some, f_X13_watch_37, ck_t i7, s7, c2.2.1]
  refine ⟨_, _, _, _, A, B, ⟨hf, c2, hu, ⟨?_, ?_, ?_, ?_, ?_, ?_⟩, ⟨?_, ?_, ?_, ?_⟩, ⟨by omega, by omega, by omega⟩, ⟨a2, fun z hz => by rw [a3 8 (by omega) (by omega) (by omega)]; exact h8 z hz⟩, fun k hk => by omega, fun k hk => by omega⟩, c3⟩
  · rw [pk_un (by omega), pk_un (by omega), pk_un (by omega), pk_un (by omega), pk_un (by omega), pk_us]
  · rw [pk_un (by omega), pk_un (by omega), pk_un (by omega), pk_un (by omega), pk_us]
  · rw [pk_un (by omega), pk_un (by omega), pk_un (by omega), pk_us]
  · rw [pk_un (by omega), pk_un (by omega), pk_us]
    rfl
  · rw [pk_un (by omega), pk_us]
    rfl
  · rw [pk_us]
    rfl
  · rw [pk_un (by omega), pk_un (by omega), pk_un (by omega), pk_us]
  · rw [pk_un (by omega), pk_un (by omega), pk_us]
    rfl
  · rw [pk_un (by omega), pk_us]
    rfl
  · rw [pk_us]
    rfl
theorem watch_ok {P : Nat → Nat → Int32} {S : Nat → Nat → Nat → Int32} {i mi : Nat → Int32} {r mr : Nat → Nat → Int32} {u : Nat → Nat} {ml : Nat → Nat → Int64} (hG : GF P S mr) (h : GW i r u mi mr) (x1 : Int32) : (∃ q m, f_X11_watch i r u P S x1 = some q ∧ f_X13_watch mi mr ml x1 = some m ∧ q.1 = m.1 ∧ GF P S m.2.2 ∧ GW q.2.1 q.2.2 u m.2.1 m.2.2) ∨ (Int32.ofNat (u 9) = 0 ∧ ∃ q m, g_X11_watch i r u P S x1 = some q ∧ f_X13_watch mi mr ml x1 = some m ∧ q.1 = m.1 ∧ GF P S m.2.2 ∧ GW q.2.1 q.2.2 (va_up u 9 10496) m.2.1 m.2.2) := by
  rcases fl_cases x1 with ⟨j, hj, hx, ha, hb⟩ | ⟨ha, hb⟩
  · obtain ⟨L, l, hf, hF, hM⟩ := hG j hj
    have c6 := inb_nI (N := 6) hj (by omega)
    have cj : (nI j).toNatClampNeg = j := nI_clamp (by omega)
    have keep : ∀ mr', KP 7 mr mr' → GF P S mr' := fun mr' hK j hj => by
      obtain ⟨L, l, hf, hF, hM⟩ := hG j hj
      exact ⟨L, l, hf, hF, hK.mf (by omega) (by omega) hf.2.2.1 hM⟩
    rcases h with ⟨h1, _, _, h8⟩ | ⟨L2, l2, ns, nr, tl, h1, h2, h3, h4, h5, h6, h7, _⟩
    · refine Or.inr ⟨by rw [h1]; rfl, ?_⟩
      obtain ⟨i', r', mi', mr', a1, a2, a3, a4⟩ := begin_ok (i := i) (mi := mi) (ml := ml) (u := va_up u 9 10496) (r := va_up r 9 (fun _ => 0)) hj (by rw [up_s]) hf hF hM (fun z hz => by rw [up_n (by omega)]; exact h8 z hz) (fun z hz => ⟨0, by omega, by rw [up_s]; rfl⟩)
      have A : g_X11_watch i r u P S x1 = some (nI l.length, i', r') := by
        rw [g_X11_watch, ha, bd_some, if_pos rfl, hx, ck_t c6, cj, a1, bd_some, ck_t c6, f_X2_steps, bd_some, hF.2.1]
      have B : f_X13_watch mi mr ml x1 = some (nI l.length, mi', mr') := by
        rw [f_X13_watch, hb, bd_some, if_neg n10, hx, a2]
      exact ⟨_, _, A, B, rfl, keep mr' a4, Or.inr ⟨L, l, 0, 0, 0, a3⟩⟩
    · refine Or.inl ?_
      obtain ⟨i', r', mi', mr', a1, a2, a3, a4⟩ := begin_ok (i := i) (mi := mi) (ml := ml) (u := u) (r := r) hj h3 hf hF hM h7.2 h7.1.2.2
      have A : f_X11_watch i r u P S x1 = some (nI l.length, i', r') := by
        rw [f_X11_watch, ha, bd_some, if_pos rfl, hx, ck_t c6, cj, f_X1_begin, h3, if_neg (show ¬ Int32.ofNat 10496 = 0 by decide), a1, bd_some, ck_t c6, f_X2_steps, bd_some, hF.2.1]
      have B : f_X13_watch mi mr ml x1 = some (nI l.length, mi', mr') := by
        rw [f_X13_watch, hb, bd_some, if_neg n10, hx, a2]
      exact ⟨_, _, A, B, rfl, keep mr' a4, Or.inr ⟨L, l, 0, 0, 0, a3⟩⟩
  · refine Or.inl ⟨(-2, i, r), (-2, mi, mr), ?_, ?_, rfl, hG, h⟩
    · rw [f_X11_watch, ha, bd_some, if_neg n10]
    · rw [f_X13_watch, hb, bd_some, if_pos rfl]
