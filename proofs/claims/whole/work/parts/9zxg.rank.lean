/-! ===== least: the reference's numbers of tables ===== -/
def lsT (p : Nat → Nat) (k j : Nat) : Nat := (List.range j).countP (fun z => decide (k < z ∧ p z < p k))
theorem lsT_succ (p : Nat → Nat) (k j : Nat) : lsT p k (j + 1) = lsT p k j + (if k < j ∧ p j < p k then 1 else 0) := by
  unfold lsT
  rw [List.range_succ, List.countP_append, List.countP_singleton]
  congr 1
  by_cases q : k < j ∧ p j < p k
  · rw [if_pos q, if_pos (decide_eq_true q)]
  · rw [if_neg q, if_neg (by rw [decide_eq_false q]; decide)]
theorem lsT_0 (p : Nat → Nat) (k : Nat) : lsT p k (k + 1) = 0 := by
  unfold lsT
  rw [List.countP_eq_zero]
  intro z hz
  have := List.mem_range.mp hz
  have h : ¬ (k < z ∧ p z < p k) := by omega
  simp [h]
theorem lsT_le (p : Nat → Nat) {k : Nat} (hk : k < 8) : lsT p k 8 ≤ 7 - k := by
  have h : ∀ k : Fin 8, (List.range 8).countP (fun z => decide (k.1 < z)) = 7 - k.1 := by decide
  rw [← h ⟨k, hk⟩]
  unfold lsT
  refine List.countP_mono_left (fun z _ hz => ?_)
  have hz := of_decide_eq_true hz
  exact decide_eq_true hz.1
def rkT (p : Nat → Nat) : Nat → Nat
  | 0 => 0
  | k + 1 => rkT p k * (8 - k) + lsT p k 8
def rkN (p : Nat → Nat) : Nat := rkT p 8
def fal : Nat → Nat
  | 0 => 1
  | k + 1 => fal k * (8 - k)
theorem rkT_lt (p : Nat → Nat) : ∀ k, k ≤ 8 → rkT p k < fal k
  | 0, _ => Nat.zero_lt_one
  | k + 1, h => by
    have h1 := rkT_lt p k (by omega)
    have h2 := lsT_le p (show k < 8 by omega)
    show rkT p k * (8 - k) + lsT p k 8 < fal k * (8 - k)
    have h3 : (rkT p k + 1) * (8 - k) ≤ fal k * (8 - k) := Nat.mul_le_mul_right _ h1
    rw [Nat.add_mul, Nat.one_mul] at h3
    omega
theorem fal_le : ∀ k : Fin 9, fal k.1 ≤ 40320 := by decide
theorem rkN_lt (p : Nat → Nat) : rkN p < 40320 := rkT_lt p 8 (by omega)
theorem rkT_big (p : Nat → Nat) {k : Nat} (hk : k ≤ 8) : rkT p k < 40320 := Nat.lt_of_lt_of_le (rkT_lt p k hk) (fal_le ⟨k, by omega⟩)
theorem rank_in {g : Nat → Int32} {p : Nat → Nat} (hg : ∀ x, x < 8 → g x = nI (p x)) (h8 : ∀ x, x < 8 → p x < 8) {K4 : Int32 → Int32 → Option Int32} {k x1 : Nat} (hk : k < 8) : ∀ (c j n : Nat), j + c = 8 → c < n → k < j → f_X13_rank_17 8 g K4 n (nI x1) (nI k) (nI (lsT p k j)) (nI j) = K4 (nI (x1 * (8 - k) + lsT p k 8)) (nI (k + 1)) := by
  intro c
  induction c with
  | zero =>
    intro j n hj hn hkj
    obtain ⟨m, rfl⟩ : ∃ m, n = m + 1 := ⟨n - 1, by omega⟩
    have e : j = 8 := by omega
    subst e
    have e8 : (8 : Int32) - nI k = nI (8 - k) := pk_sub (a := 8) (by omega)
    rw [f_X13_rank_17, if_pos (show (8 : Int32) ≤ nI 8 from nI_le (a := 8) (by omega) (by omega)), e8, pk_mul, nI_add, nI_1]
  | succ c ih =>
    intro j n hj hn hkj
    obtain ⟨m, rfl⟩ : ∃ m, n = m + 1 := ⟨n - 1, by omega⟩
    have ij := inb_nI (N := 8) (n := j) (by omega) (by omega)
    have ik := inb_nI (N := 8) (n := k) (by omega) (by omega)
    have b1 := h8 k hk
    have b2 := h8 j (by omega)
    rw [f_X13_rank_17, if_neg (show ¬ (8 : Int32) ≤ nI j from nI_ge (b := 8) (by omega) (by omega)), ck_t ij, ck_t ik, nI_clamp (by omega), nI_clamp (by omega), hg k hk, hg j (by omega)]
    have hs := lsT_succ p k j
    by_cases q : p k ≤ p j
    · rw [if_neg (show ¬ (k < j ∧ p j < p k) by omega)] at hs
      have hs : lsT p k (j + 1) = lsT p k j := hs
      rw [if_pos (nI_le q (by omega)), f_X13_rank_40, nI_1, show nI (lsT p k j) + 0 = nI (lsT p k (j + 1)) by rw [hs]; exact nI_add _ 0]
      exact ih (j + 1) m (by omega) (by omega) (by omega)
    · rw [if_pos (show k < j ∧ p j < p k by omega)] at hs
      rw [if_neg (nI_ge (by omega) (by omega)), f_X13_rank_40, nI_1, nI_1, ← hs]
      exact ih (j + 1) m (by omega) (by omega) (by omega)
theorem rank_ok {g : Nat → Int32} {p : Nat → Nat} (hg : ∀ x, x < 8 → g x = nI (p x)) (h8 : ∀ x, x < 8 → p x < 8) : f_X13_rank 8 g = some (nI (rkN p)) := by
  have go : ∀ (c k n : Nat), k + c = 8 → c < n → f_X13_rank_4 8 g n (nI (rkT p k)) (nI k) = some (nI (rkN p)) := by
    intro c
    induction c with
    | zero =>
      intro k n hk hn
      obtain ⟨m, rfl⟩ : ∃ m, n = m + 1 := ⟨n - 1, by omega⟩
      have e : k = 8 := by omega
      subst e
      rw [f_X13_rank_4, if_pos (show (8 : Int32) ≤ nI 8 from nI_le (a := 8) (by omega) (by omega))]
      rfl
    | succ c ih =>
      intro k n hk hn
      obtain ⟨m, rfl⟩ : ∃ m, n = m + 1 := ⟨n - 1, by omega⟩
      have e := rank_in hg h8 (K4 := f_X13_rank_4 8 g m) (x1 := rkT p k) (show k < 8 by omega) (7 - k) (k + 1) 2000000 (by omega) (by omega) (by omega)
      rw [lsT_0, nI_0] at e
      rw [f_X13_rank_4, if_neg (show ¬ (8 : Int32) ≤ nI k from nI_ge (b := 8) (by omega) (by omega)), nI_1, e]
      exact ih (k + 1) m (by omega) (by omega)
  exact go 8 0 2000000 (by omega) (by omega)
/-! back from a number -/
theorem nzN {n : Nat} (h : 0 < n) (h2 : n < 2 ^ 31) : nz (nI n) = true := decide_eq_true (nI_ne0 h h2)
theorem digit_go {p : Nat → Nat} {i : Nat → Int32} {l : Nat → Nat → Int64} : ∀ (k n : Nat) (r : Nat → Nat → Int32), k ≤ 8 → k < n → (∀ z, k ≤ z → z < 8 → r 26 z = nI (lsT p z 8)) → ∃ r', f_X13_unrank_6 i l n r (nI (rkT p k)) (nI k + (-1)) = f_X13_unrank_45 i l 2000000 r' 0 0 ∧ (∀ z, z < 8 → r' 26 z = nI (lsT p z 8)) ∧ ∀ q, q ≠ 26 → r' q = r q := by
  intro k
  induction k with
  | zero =>
    intro n r hk hn hr
    obtain ⟨m, rfl⟩ : ∃ m, n = m + 1 := ⟨n - 1, by omega⟩
    refine ⟨r, ?_, fun z hz => hr z (by omega) hz, fun _ _ => rfl⟩
    rw [f_X13_unrank_6, if_pos (show nI 0 + (-1) < 0 by decide)]
  | succ k ih =>
    intro n r hk hn hr
    obtain ⟨m, rfl⟩ : ∃ m, n = m + 1 := ⟨n - 1, by omega⟩
    have e8 : (8 : Int32) - nI k = nI (8 - k) := pk_sub (a := 8) (by omega)
    have hz := nzN (n := 8 - k) (by omega) (by omega)
    have ik := inb_nI (N := 8) (n := k) (by omega) (by omega)
    have hb := rkT_big p (show k + 1 ≤ 8 by omega)
    have hl := lsT_le p (show k < 8 by omega)
    have er : rkT p (k + 1) % (8 - k) = lsT p k 8 := by
      show (rkT p k * (8 - k) + lsT p k 8) % (8 - k) = _
      rw [Nat.mul_comm, Nat.mul_add_mod, Nat.mod_eq_of_lt (by omega)]
    have ed : rkT p (k + 1) / (8 - k) = rkT p k := by
      show (rkT p k * (8 - k) + lsT p k 8) / (8 - k) = _
      rw [Nat.mul_comm, Nat.mul_add_div (by omega), Nat.div_eq_of_lt (by omega), Nat.add_zero]
    obtain ⟨r', a1, a2, a3⟩ := ih m (va_up r 26 (upd (r 26) k (nI (lsT p k 8)))) (by omega) (by omega) (fun z h1 h2 => by
      rw [up_s]
      by_cases q : z = k
      · rw [q, pk_us]
      · rw [pk_un q]
        exact hr z (by omega) h2)
    refine ⟨r', ?_, a2, fun q hq => (a3 q hq).trans (up_n hq)⟩
    rw [f_X13_unrank_6, pk_m1, if_neg (nI_pos (by omega)), e8, ck_t hz, ck_t ik, ck_t hz, nI_clamp (by omega), pk_rem (by omega) (by omega) (by omega), pk_div (by omega) (by omega) (by omega), er, ed]
    exact a1
/-- hd: the values had by p below k -/
def Hds (p : Nat → Nat) (k hd : Nat) : Prop := hd < 256 ∧ ∀ u, u < 8 → (hd.testBit u = true ↔ ∃ z, z < k ∧ p z = u)
theorem value_go {p : Nat → Nat} {k hd : Nat} {i : Nat → Int32} {l : Nat → Nat → Int64} {r : Nat → Nat → Int32} {K45 : (Nat → Nat → Int32) → Int32 → Int32 → Option (Nat → Nat → Int32)} (hk : k < 8) (hp : p k < 8) (hh : hd < 256) (hn : hd.testBit (p k) = false) : ∀ (c v n : Nat), v + c = p k → c < n → f_X13_unrank_64 i l K45 n r (nI hd) (nI k) (nI ((List.range' v c).countP (fun u => !hd.testBit u))) (nI v) = K45 (va_up r 19 (upd (r 19) k (nI (p k)))) (nI (hd ||| 2 ^ p k)) (nI (k + 1)) := by
  have ik := inb_nI (N := 8) (n := k) (by omega) (by omega)
  have b0 : ∀ v, v < 8 → ((nI hd >>> (nI v &&& 31)) &&& 1 = 0 ↔ hd.testBit v = false) := fun v hv => bit_if (by omega) (by omega)
  have b1 : ∀ v, v < 8 → ((nI hd >>> (nI v &&& 31)) &&& 1 = 1 ↔ hd.testBit v = true) := fun v hv => by
    rw [shr (by omega) (by omega), and1 (Nat.lt_of_le_of_lt (Nat.div_le_self _ _) (by omega)), dm_bit]
    cases hd.testBit v <;> decide
  intro c
  induction c with
  | zero =>
    intro v n hv hn'
    obtain ⟨m, rfl⟩ : ∃ m, n = m + 1 := ⟨n - 1, by omega⟩
    have e : v = p k := by omega
    subst e
    rw [f_X13_unrank_64, if_neg (fun q => by rw [(b1 _ hp).mp q] at hn; cases hn), if_pos (show nI ((List.range' (p k) 0).countP (fun u => !hd.testBit u)) ≤ 0 from nI_le (a := 0) (b := 0) (by omega) (by omega)), ck_t ik, nI_clamp (by omega), sh1 (by omega), fa_or, nI_1]
  | succ c ih =>
    intro v n hv hn'
    obtain ⟨m, rfl⟩ : ∃ m, n = m + 1 := ⟨n - 1, by omega⟩
    have hc : (List.range' (v + 1) c).countP (fun u => !hd.testBit u) ≤ c := by
      have := List.countP_le_length (p := fun u => !hd.testBit u) (l := List.range' (v + 1) c)
      rw [List.length_range'] at this
      exact this
    rw [f_X13_unrank_64, List.range'_succ, List.countP_cons]
    by_cases q : hd.testBit v = true
    · rw [if_pos ((b1 v (by omega)).mpr q), f_X13_unrank_80, if_neg (fun z => by rw [(b0 v (by omega)).mp z] at q; cases q), f_X13_unrank_93, nI_1, q]
      exact ih (v + 1) m (by omega) (by omega)
    · have q' : hd.testBit v = false := by simpa using q
      rw [if_neg (fun z => q ((b1 v (by omega)).mp z)), q', if_pos (show (!false) = true from rfl), if_neg (show ¬ nI ((List.range' (v + 1) c).countP (fun u => !hd.testBit u) + 1) ≤ 0 from nI_ge (a := 0) (by omega) (by omega)), f_X13_unrank_80, if_pos ((b0 v (by omega)).mpr q'), f_X13_unrank_93, nI_1, pk_m1]
      exact ih (v + 1) m (by omega) (by omega)
theorem less_eq {p : Nat → Nat} (hp : PmV p) (hs : ∀ u, u < 8 → ∃ z, z < 8 ∧ p z = u) {k hd : Nat} (hk : k < 8) (hh : Hds p k hd) : lsT p k 8 = (List.range' 0 (p k)).countP (fun u => !hd.testBit u) := by
  have hpk := hp.1 k hk
  have n1 : (List.range' 0 (p k)).Nodup := List.nodup_range'
  unfold lsT
  rw [List.countP_eq_length_filter, List.countP_eq_length_filter]
  have nd := nd_map (f := p) (l := (List.range 8).filter (fun z => decide (k < z ∧ p z < p k))) (List.nodup_range.filter _) (fun a ha b hb e => hp.2 a b (List.mem_range.mp (List.mem_filter.mp ha).1) (List.mem_range.mp (List.mem_filter.mp hb).1) e)
  have h1 := nd_le nd (m := (List.range' 0 (p k)).filter (fun u => !hd.testBit u)) (fun u hu => by
    obtain ⟨z, hz, e⟩ := List.mem_map.mp hu
    obtain ⟨z1, z2⟩ := List.mem_filter.mp hz
    have z1 := List.mem_range.mp z1
    have z2 := of_decide_eq_true z2
    have hu8 := hp.1 z z1
    refine List.mem_filter.mpr ⟨List.mem_range'_1.mpr (by omega), ?_⟩
    cases q : hd.testBit u with
    | false => rfl
    | true =>
      obtain ⟨y, y1, y2⟩ := (hh.2 u (by omega)).mp q
      have := hp.2 y z (by omega) z1 (by rw [y2, e])
      omega)
  have h2 := nd_le (n1.filter (fun u => !hd.testBit u)) (m := ((List.range 8).filter (fun z => decide (k < z ∧ p z < p k))).map p) (fun u hu => by
    obtain ⟨u1, u2⟩ := List.mem_filter.mp hu
    have u1 := List.mem_range'_1.mp u1
    have u2 : hd.testBit u = false := by simpa using u2
    obtain ⟨z, z1, z2⟩ := hs u (by omega)
    have zk : k < z := by
      rcases Nat.lt_trichotomy z k with q | q | q
      · have := (hh.2 u (by omega)).mpr ⟨z, q, z2⟩
        rw [u2] at this
        cases this
      · rw [q] at z2
        omega
      · exact q
    exact List.mem_map.mpr ⟨z, List.mem_filter.mpr ⟨List.mem_range.mpr z1, decide_eq_true ⟨zk, by omega⟩⟩, z2⟩)
  rw [List.length_map] at h1 h2
  omega
theorem Hds.next {p : Nat → Nat} {k hd : Nat} (h : Hds p k hd) (hp : p k < 8) : Hds p (k + 1) (hd ||| 2 ^ p k) := by
  have h7 : 2 ^ p k ≤ 2 ^ 7 := Nat.pow_le_pow_right (by omega) (by omega)
  refine ⟨Nat.or_lt_two_pow (n := 8) h.1 (by omega), fun u hu => ?_⟩
  rw [Nat.testBit_or, Nat.testBit_two_pow, Bool.or_eq_true, h.2 u hu]
  constructor
  · rintro (⟨z, a, b⟩ | q)
    · exact ⟨z, by omega, b⟩
    · exact ⟨k, by omega, of_decide_eq_true q⟩
  · rintro ⟨z, a, b⟩
    by_cases q : z = k
    · right
      rw [q] at b
      exact decide_eq_true b
    · exact Or.inl ⟨z, by omega, b⟩
theorem values_go {p : Nat → Nat} (hp : PmV p) (hs : ∀ u, u < 8 → ∃ z, z < 8 ∧ p z = u) {i : Nat → Int32} {l : Nat → Nat → Int64} : ∀ (c k n hd : Nat) (r : Nat → Nat → Int32), k + c = 8 → c < n → Hds p k hd → (∀ z, z < 8 → r 26 z = nI (lsT p z 8)) → (∀ z, z < k → r 19 z = nI (p z)) → ∃ r', f_X13_unrank_45 i l n r (nI hd) (nI k) = some r' ∧ (∀ z, z < 8 → r' 19 z = nI (p z)) ∧ ∀ q, q ≠ 19 → r' q = r q := by
  intro c
  induction c with
  | zero =>
    intro k n hd r hk hn hh h26 h19
    obtain ⟨m, rfl⟩ : ∃ m, n = m + 1 := ⟨n - 1, by omega⟩
    have e : k = 8 := by omega
    subst e
    refine ⟨r, ?_, h19, fun _ _ => rfl⟩
    rw [f_X13_unrank_45, if_pos (show (8 : Int32) ≤ nI 8 from nI_le (a := 8) (by omega) (by omega))]
  | succ c ih =>
    intro k n hd r hk hn hh h26 h19
    obtain ⟨m, rfl⟩ : ∃ m, n = m + 1 := ⟨n - 1, by omega⟩
    have hpk := hp.1 k (by omega)
    have ik := inb_nI (N := 8) (n := k) (by omega) (by omega)
    have hnb : hd.testBit (p k) = false := by
      cases q : hd.testBit (p k) with
      | false => rfl
      | true =>
        obtain ⟨z, z1, z2⟩ := (hh.2 _ hpk).mp q
        have := hp.2 z k (by omega) (by omega) z2
        omega
    have e := value_go (i := i) (l := l) (r := r) (K45 := f_X13_unrank_45 i l m) (show k < 8 by omega) hpk hh.1 hnb (p k) 0 2000000 (by omega) (by omega)
    rw [nI_0] at e
    obtain ⟨r', a1, a2, a3⟩ := ih (k + 1) m (hd ||| 2 ^ p k) (va_up r 19 (upd (r 19) k (nI (p k)))) (by omega) (by omega) (hh.next hpk) (fun z hz => by rw [up_n (by omega)]; exact h26 z hz) (fun z hz => by
      rw [up_s]
      by_cases q : z = k
      · rw [q, pk_us]
      · rw [pk_un q]
        exact h19 z (by omega))
    refine ⟨r', ?_, a2, fun q hq => (a3 q hq).trans (up_n hq)⟩
    rw [f_X13_unrank_45, if_neg (show ¬ (8 : Int32) ≤ nI k from nI_ge (b := 8) (by omega) (by omega)), ck_t ik, nI_clamp (by omega), h26 k (by omega), less_eq hp hs (by omega) hh, e]
    exact a1
theorem unrank_ok {p : Nat → Nat} (hp : PmV p) (hs : ∀ u, u < 8 → ∃ z, z < 8 ∧ p z = u) {i : Nat → Int32} {l : Nat → Nat → Int64} (r : Nat → Nat → Int32) : ∃ r', f_X13_unrank i r l (nI (rkN p)) = some r' ∧ (∀ z, z < 8 → r' 19 z = nI (p z)) ∧ ∀ q, q ≠ 19 → q ≠ 26 → r' q = r q := by
  obtain ⟨r1, a1, a2, a3⟩ := digit_go (p := p) (i := i) (l := l) 8 2000000 r (by omega) (by omega) (fun z h1 h2 => by omega)
  obtain ⟨r2, b1, b2, b3⟩ := values_go hp hs (i := i) (l := l) 8 0 2000000 0 r1 (by omega) (by omega) ⟨by omega, fun u hu => by simp⟩ a2 (fun z hz => by omega)
  refine ⟨r2, ?_, b2, fun q h1 h2 => (b3 q h1).trans (a3 q h2)⟩
  rw [f_X13_unrank]
  rw [show nI 8 + (-1) = 7 from by decide] at a1
  rw [nI_0] at b1
  exact a1.trans b1
theorem rkT_congr {p q : Nat → Nat} (h : ∀ x, x < 8 → p x = q x) : ∀ k, k ≤ 8 → rkT p k = rkT q k
  | 0, _ => rfl
  | k + 1, hk => by
    show rkT p k * (8 - k) + lsT p k 8 = rkT q k * (8 - k) + lsT q k 8
    rw [rkT_congr h k (by omega)]
    congr 1
    unfold lsT
    refine List.countP_congr (fun z hz => ?_)
    rw [h z (List.mem_range.mp hz), h k (by omega)]
theorem rkN_congr {p q : Nat → Nat} (h : ∀ x, x < 8 → p x = q x) : rkN p = rkN q := rkT_congr h 8 (by omega)
