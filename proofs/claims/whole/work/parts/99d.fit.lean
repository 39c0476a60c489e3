/-! ===== fit ===== -/
theorem amt64 : ∀ c, c < 64 → (((nI c).toInt64 &&& 63).toBitVec.smod 64).toNat = c := by decide +kernel
theorem bitL {n c : Nat} (hn : n < 2 ^ 62) (hc : c < 62) : (lg_cmp ((lN n >>> ((nI c).toInt64 &&& 63)) &&& 1) 0 = 0) ↔ n.testBit c = false := by
  have h1 : n / 2 ^ c < 2 ^ 64 := Nat.lt_of_le_of_lt (Nat.div_le_self _ _) (by omega)
  rw [pf_shr (amt64 c (by omega)) hn, wb_a1 h1, dm_bit]
  cases n.testBit c
  · exact ⟨fun _ => rfl, fun _ => by decide⟩
  · constructor
    · intro h
      exact absurd h (by decide)
    · intro h
      cases h
theorem orL {n c : Nat} (hn : n < 2 ^ 41) (hc : c ≤ 40) : lN n ||| ((1 : Int64) <<< ((nI c).toInt64 &&& 63)) = lN (n ||| 2 ^ c) ∧ n ||| 2 ^ c < 2 ^ 41 := by
  have hp : 2 ^ c < 2 ^ 41 := Nat.pow_lt_pow_right (by omega) (by omega)
  have h1 := wb_shl 1 (k := c) (by omega)
  rw [Nat.one_mul] at h1
  rw [show (1 : Int64) = lN 1 from rfl, h1, wb_or (by omega) (by omega)]
  exact ⟨rfl, Nat.or_lt_two_pow hn hp⟩
theorem clL {n c : Nat} (hn : n < 2 ^ 41) (hc : c ≤ 40) : lN n &&& (((1 : Int64) <<< ((nI c).toInt64 &&& 63)) ^^^ (-1)) = lN (n &&& (2 ^ c ^^^ (2 ^ 64 - 1))) ∧ n &&& (2 ^ c ^^^ (2 ^ 64 - 1)) < 2 ^ 41 := by
  have hp : 2 ^ c < 2 ^ 41 := Nat.pow_lt_pow_right (by omega) (by omega)
  have h1 := wb_shl 1 (k := c) (by omega)
  rw [Nat.one_mul] at h1
  have hx : 2 ^ c ^^^ (2 ^ 64 - 1) < 2 ^ 64 := Nat.xor_lt_two_pow (by omega) (by omega)
  rw [show (-1 : Int64) = lN (2 ^ 64 - 1) by decide, show (1 : Int64) = lN 1 from rfl, h1, lN_xor, wb_and (by omega) hx]
  exact ⟨rfl, Nat.lt_of_le_of_lt Nat.and_le_left hn⟩
theorem cl_bit (n c z : Nat) (hz : z < 64) : (n &&& (2 ^ c ^^^ (2 ^ 64 - 1))).testBit z = (n.testBit z && !decide (c = z)) := by
  rw [Nat.testBit_and, Nat.testBit_xor, Nat.testBit_two_pow, Nat.testBit_two_pow_sub_one, decide_eq_true hz, Bool.xor_true]
/-- the tellings k .. k + d - 1 that were known fit case c -/
def okR (l : List FSt) (tld row ko : Nat → Nat) (kn c : Nat) : Nat → Nat → Bool
  | 0, _ => true
  | d + 1, k => (decide (kn < tld k) || decide (runB l c (row k) = ko k)) && okR l tld row ko kn c d (k + 1)
theorem known_go {i mi : Nat → Int32} {r mr : Nat → Nat → Int32} {u : Nat → Nat} {ml : Nat → Nat → Int64} {nr : Nat} {x1 x2 : Int32} {N : Nat} (hN : nr ≤ 20) (h14 : i 14 = nI nr) (h78 : mi 78 = nI nr) (hR : ∀ k, k < nr → ∃ w, w < N ∧ r 4 k = mr 83 k ∧ r 3 k = mr 85 k ∧ r 5 k = nI w ∧ mr 84 k = nI w) : ∀ (d k n n2 c : Nat), k + d = nr → d < n → d < n2 → c < N → ∃ a, a < N ∧ f_X1_knownOut_10 i r u n x1 x2 (nI c) (nI k) = some (nI a) ∧ f_X13_outAsKnown_10 mi mr ml n2 x1 x2 (nI c) (nI k) = some (nI a) := by
  intro d
  induction d with
  | zero =>
    intro k n n2 c hk hn hn2 hc
    obtain ⟨m, rfl⟩ : ∃ m, n = m + 1 := ⟨n - 1, by omega⟩
    obtain ⟨m2, rfl⟩ : ∃ m, n2 = m + 1 := ⟨n2 - 1, by omega⟩
    refine ⟨c, hc, ?_, ?_⟩
    · rw [f_X1_knownOut_10, h14, if_pos (nI_le (by omega) (by omega))]
    · rw [f_X13_outAsKnown_10, h78, if_pos (nI_le (by omega) (by omega))]
  | succ d ih =>
    intro k n n2 c hk hn hn2 hc
    obtain ⟨m, rfl⟩ : ∃ m, n = m + 1 := ⟨n - 1, by omega⟩
    obtain ⟨m2, rfl⟩ : ∃ m, n2 = m + 1 := ⟨n2 - 1, by omega⟩
    have ik := inb_nI (N := 20) (n := k) (by omega) (by omega)
    obtain ⟨w, w0, w1, w2, w3, w4⟩ := hR k (by omega)
    rw [f_X1_knownOut_10, h14, if_neg (nI_ge (by omega) (by omega)), f_X13_outAsKnown_10, h78, if_neg (nI_ge (by omega) (by omega))]
    simp only [ck_t ik, nI_clamp (show k < 2 ^ 31 by omega), w1, w2, w3, w4, f_X1_knownOut_49, f_X13_outAsKnown_49, nI_1]
    by_cases e : mr 83 k = x1
    · rw [if_pos e, if_pos e]
      by_cases e2 : x2 < mr 85 k
      · rw [if_pos e2, if_pos e2]
        exact ih (k + 1) m m2 c (by omega) (by omega) (by omega) hc
      · rw [if_neg e2, if_neg e2]
        exact ih (k + 1) m m2 w (by omega) (by omega) (by omega) w0
    · rw [if_neg e, if_neg e]
      exact ih (k + 1) m m2 c (by omega) (by omega) (by omega) hc
theorem leave_go {L : Nat} {l : List FSt} {i : Nat → Int32} {r : Nat → Nat → Int32} {u : Nat → Nat} {v o : Nat} (hL : L ≤ 8) (hfi : fineF L l) (hu : u 9 = 10496) (hO : OTS L l l.length (r 9)) (hv : v < 2 ^ L) (ho : o < 2 ^ L) : ∀ (d c n x : Nat), c + d = 41 → d < n → x < 2 ^ 41 → (∀ z, x.testBit z = true → z < l.length ∨ z = 40) → ∃ x', f_X1_leaveFitting_6 i r u n (nI v) (nI o) (lN x) (nI c) = some (lN x') ∧ x' < 2 ^ 41 ∧ ∀ z, z ≤ 40 → x'.testBit z = (x.testBit z && (decide (z < c) || decide (runB l z v = o))) := by
  have h256 := p2 hL
  have h40 := hfi.2.2.1
  intro d
  induction d with
  | zero =>
    intro c n x hk hn hx hz
    obtain ⟨m, rfl⟩ : ∃ m, n = m + 1 := ⟨n - 1, by omega⟩
    refine ⟨x, ?_, hx, fun z hz => ?_⟩
    · rw [f_X1_leaveFitting_6, if_pos (show (41 : Int32) ≤ nI c from nI_le (a := 41) (by omega) (by omega))]
    · rw [decide_eq_true (show z < c by omega), Bool.true_or, Bool.and_true]
  | succ d ih =>
    intro c n x hk hn hx hz
    obtain ⟨m, rfl⟩ : ∃ m, n = m + 1 := ⟨n - 1, by omega⟩
    rw [f_X1_leaveFitting_6, if_neg (show ¬ (41 : Int32) ≤ nI c from nI_ge (b := 41) (by omega) (by omega))]
    have step : ∀ (x1 : Nat), (∀ z, z ≤ 40 → x1.testBit z = (x.testBit z && (!decide (z = c) || decide (runB l z v = o)))) → ∀ x' : Nat, (∀ z, z ≤ 40 → x'.testBit z = (x1.testBit z && (decide (z < c + 1) || decide (runB l z v = o)))) → ∀ z, z ≤ 40 → x'.testBit z = (x.testBit z && (decide (z < c) || decide (runB l z v = o))) := by
      intro x1 h1 x' h2 z hz
      rw [h2 z hz, h1 z hz]
      by_cases e : z = c
      · rw [decide_eq_true e, decide_eq_true (show z < c + 1 by omega), decide_eq_false (show ¬ z < c by omega)]
        simp
      · rw [decide_eq_false e]
        by_cases e2 : z < c
        · rw [decide_eq_true e2, decide_eq_true (show z < c + 1 by omega)]
          simp
        · rw [decide_eq_false e2, decide_eq_false (show ¬ z < c + 1 by omega)]
          simp
    by_cases e : x.testBit c = false
    · rw [if_pos ((bitL (by omega) (by omega)).mpr e), f_X1_leaveFitting_56, nI_1]
      obtain ⟨x', a1, a2, a3⟩ := ih (c + 1) m x (by omega) (by omega) hx hz
      refine ⟨x', a1, a2, step x (fun z hz => ?_) x' a3⟩
      by_cases ez : z = c
      · rw [ez, e]
        rfl
      · rw [decide_eq_false ez]
        simp
    · have e' : x.testBit c = true := by
        cases h9 : x.testBit c
        · exact absurd h9 e
        · rfl
      have j1 := inb_nI (N := 10496) (n := c * 256 + v) (by omega) (by omega)
      have hval : r 9 (c * 256 + v) = nI (runB l c v) := by
        rcases hz c e' with h | h
        · exact hO.2.1 c h v hv
        · rw [h, runB_40 h40]
          exact hO.1 v hv
      have hB := runB_lt (c := c) hfi.2.2.2 hv
      rw [if_neg (fun q => e ((bitL (by omega) (by omega)).mp q)), mul256, hu, ck_t j1, nI_clamp (by omega), hval, f_X1_leaveFitting_56, f_X1_leaveFitting_56, nI_1]
      by_cases eo : runB l c v = o
      · rw [if_pos (by rw [eo])]
        obtain ⟨x', a1, a2, a3⟩ := ih (c + 1) m x (by omega) (by omega) hx hz
        refine ⟨x', a1, a2, step x (fun z hz => ?_) x' a3⟩
        by_cases ez : z = c
        · rw [ez, decide_eq_true eo]
          simp
        · rw [decide_eq_false ez]
          simp
      · obtain ⟨k1, k2⟩ := clL hx (show c ≤ 40 by omega)
        rw [if_neg (fun q => eo (nI_inj (by omega) (by omega) q)), k1]
        obtain ⟨x', a1, a2, a3⟩ := ih (c + 1) m _ (by omega) (by omega) k2 (fun z h => by
          rw [Nat.testBit_and] at h
          refine hz z ?_
          cases h9 : x.testBit z
          · rw [h9] at h
            cases h
          · rfl)
        refine ⟨x', a1, a2, step _ (fun z hz => ?_) x' a3⟩
        rw [cl_bit x c z (by omega)]
        by_cases ez : z = c
        · rw [ez, decide_eq_false eo]
          simp
        · rw [decide_eq_false ez, decide_eq_false (fun q => ez q.symm)]
          simp
/-- both sides' tellings as numbers -/
def TL (L : Nat) (l : List FSt) (i : Nat → Int32) (r : Nat → Nat → Int32) (u : Nat → Nat) (mi : Nat → Int32) (mr : Nat → Nat → Int32) (ml : Nat → Nat → Int64) (ns kn : Nat) (tld row ko : Nat → Nat) : Prop := ∀ k, k < ns → tld k ≤ 999 ∧ row k < 2 ^ L ∧ ko k < 2 ^ L ∧ r 0 k = nI (tld k) ∧ r 1 k = nI (row k) ∧ mr 82 k = nI (tld k) ∧ mr 80 k = nI (row k) ∧ f_X1_knownOut i r u (nI k) (nI kn) = some (nI (ko k)) ∧ f_X13_outAsKnown mi mr ml (nI k) (nI kn) = some (nI (ko k))
theorem TL_of {L : Nat} {l : List FSt} {i mi : Nat → Int32} {r mr : Nat → Nat → Int32} {u : Nat → Nat} {ml : Nat → Nat → Int64} {ns nr tl : Nat} (h : GW1 L l i r u mi mr ns nr tl) (kn : Nat) : ∃ tld row ko, TL L l i r u mi mr ml ns kn tld row ko := by
  obtain ⟨h1, h2, h3, ⟨g0, g1, g2, g3, g4, g5⟩, ⟨m0, m1, m2, m3⟩, ⟨b1, b2, b3⟩, h7, hS, hR⟩ := h
  have hall : ∀ k, ∃ t : Nat × Nat × Nat, k < ns → t.1 ≤ 999 ∧ t.2.1 < 2 ^ L ∧ t.2.2 < 2 ^ L ∧ r 0 k = nI t.1 ∧ r 1 k = nI t.2.1 ∧ mr 82 k = nI t.1 ∧ mr 80 k = nI t.2.1 ∧ f_X1_knownOut i r u (nI k) (nI kn) = some (nI t.2.2) ∧ f_X13_outAsKnown mi mr ml (nI k) (nI kn) = some (nI t.2.2) := by
    intro k
    by_cases hk : k < ns
    · obtain ⟨a, b, c, d1, d2, d3, d4, d5, d6, d7, d8, d9⟩ := hS k hk
      have ik := inb_nI (N := 20) (n := k) (by omega) (by omega)
      obtain ⟨o, o1, o2, o3⟩ := known_go (u := u) (ml := ml) (x1 := nI k) (x2 := nI kn) (N := 2 ^ L) b2 g4 m2 (fun k hk => by
        obtain ⟨a, b, c, e1, e2, e3, e4, e5, e6, e7, e8, e9⟩ := hR k hk
        exact ⟨c, e3, by rw [e5, e8], by rw [e4, e7], e6, e9⟩) nr 0 2000000 2000000 c (by omega) (by omega) (by omega) d3
      refine ⟨(a, b, o), fun _ => ⟨d1, d2, o1, d4, d5, d7, d8, ?_, ?_⟩⟩
      · rw [f_X1_knownOut, ck_t ik, nI_clamp (by omega), d6]
        exact o2
      · rw [f_X13_outAsKnown, ck_t ik, nI_clamp (by omega), d9]
        exact o3
    · exact ⟨(0, 0, 0), fun h => absurd h hk⟩
  obtain ⟨t, ht⟩ := Classical.axiomOfChoice hall
  exact ⟨fun k => (t k).1, fun k => (t k).2.1, fun k => (t k).2.2, ht⟩
theorem fit32 {L : Nat} {l : List FSt} {i mi : Nat → Int32} {r mr : Nat → Nat → Int32} {u : Nat → Nat} {ml : Nat → Nat → Int64} {ns kn : Nat} {tld row ko : Nat → Nat} (hfi : fineF L l) (hu : u 9 = 10496) (hO : OTS L l l.length (r 9)) (hns : ns ≤ 20) (hkn : kn ≤ 999) (g3 : i 13 = nI ns) (hT : TL L l i r u mi mr ml ns kn tld row ko) : ∀ (d k n x : Nat), k + d = ns → d < n → x < 2 ^ 41 → (∀ z, x.testBit z = true → z < l.length ∨ z = 40) → ∃ x', f_X1_fitting_32 i r u n (nI kn) (lN x) (nI k) = some (lN x') ∧ x' < 2 ^ 41 ∧ ∀ z, z ≤ 40 → x'.testBit z = (x.testBit z && okR l tld row ko kn z d k) := by
  intro d
  induction d with
  | zero =>
    intro k n x hk hn hx hz
    obtain ⟨m, rfl⟩ : ∃ m, n = m + 1 := ⟨n - 1, by omega⟩
    refine ⟨x, by rw [f_X1_fitting_32, g3, if_pos (nI_le (by omega) (by omega))], hx, fun z _ => by rw [okR, Bool.and_true]⟩
  | succ d ih =>
    intro k n x hk hn hx hz
    obtain ⟨m, rfl⟩ : ∃ m, n = m + 1 := ⟨n - 1, by omega⟩
    have ik := inb_nI (N := 20) (n := k) (by omega) (by omega)
    obtain ⟨t1, t2, t3, t4, t5, t6, t7, t8, t9⟩ := hT k (by omega)
    rw [f_X1_fitting_32, g3, if_neg (nI_ge (by omega) (by omega)), ck_t ik, nI_clamp (by omega), t4]
    by_cases e : kn < tld k
    · rw [if_pos (nI_lt e (by omega)), f_X1_fitting_72, nI_1]
      obtain ⟨x', a1, a2, a3⟩ := ih (k + 1) m x (by omega) (by omega) hx hz
      refine ⟨x', a1, a2, fun z hz => ?_⟩
      rw [a3 z hz, okR, decide_eq_true e, Bool.true_or, Bool.true_and]
    · obtain ⟨x1, b1, b2, b3⟩ := leave_go (i := i) (r := r) (u := u) hfi.2.1 hfi hu hO t2 t3 41 0 2000000 x (by omega) (by omega) hx hz
      have b1' : f_X1_leaveFitting_6 i r u 2000000 (nI (row k)) (nI (ko k)) (lN x) 0 = some (lN x1) := b1
      rw [if_neg (nI_nlt (by omega) (by omega)), ck_t ik, t8, bd_some, t5, f_X1_leaveFitting, b1', bd_some, f_X1_fitting_72, nI_1]
      obtain ⟨x', a1, a2, a3⟩ := ih (k + 1) m x1 (by omega) (by omega) b2 (fun z h => by
        by_cases hz4 : z ≤ 40
        · rw [b3 z hz4] at h
          refine hz z ?_
          cases h9 : x.testBit z
          · rw [h9] at h
            cases h
          · rfl
        · rw [Nat.testBit_lt_two_pow (Nat.lt_of_lt_of_le b2 (Nat.pow_le_pow_right (by omega) (by omega)))] at h
          cases h)
      refine ⟨x', a1, a2, fun z hz => ?_⟩
      rw [a3 z hz, b3 z hz, okR, decide_eq_false e, decide_eq_false (show ¬ z < 0 by omega), Bool.false_or, Bool.and_assoc]
theorem fit7 {L : Nat} {l : List FSt} {i mi : Nat → Int32} {r mr : Nat → Nat → Int32} {u : Nat → Nat} {ml : Nat → Nat → Int64} {ns kn : Nat} {tld row ko : Nat → Nat} (hfi : fineF L l) (hu : u 9 = 10496) (hO : OTS L l l.length (r 9)) (hns : ns ≤ 20) (hkn : kn ≤ 999) (g1 : i 11 = nI l.length) (g3 : i 13 = nI ns) (hT : TL L l i r u mi mr ml ns kn tld row ko) : ∀ (d k n x : Nat), k + d = l.length → d < n → x < 2 ^ 41 → (∀ z, x.testBit z = (decide (z < k) || decide (z = 40))) → ∃ x', f_X1_fitting_7 i r u n (nI kn) (lN x) (nI k) = some (lN x') ∧ x' < 2 ^ 41 ∧ ∀ z, z ≤ 40 → x'.testBit z = ((decide (z < l.length) || decide (z = 40)) && okR l tld row ko kn z ns 0) := by
  have h40 := hfi.2.2.1
  intro d
  induction d with
  | zero =>
    intro k n x hk hn hx hz
    obtain ⟨m, rfl⟩ : ∃ m, n = m + 1 := ⟨n - 1, by omega⟩
    rw [Nat.add_zero] at hk
    subst hk
    rw [f_X1_fitting_7, g1, if_pos (nI_le (by omega) (by omega))]
    obtain ⟨x', a1, a2, a3⟩ := fit32 hfi hu hO hns hkn g3 hT ns 0 2000000 x (by omega) (by omega) hx (fun z h => by
      rw [hz z, Bool.or_eq_true, decide_eq_true_iff, decide_eq_true_iff] at h
      exact h)
    refine ⟨x', a1, a2, fun z h => ?_⟩
    rw [a3 z h, hz z]
  | succ d ih =>
    intro k n x hk hn hx hz
    obtain ⟨m, rfl⟩ : ∃ m, n = m + 1 := ⟨n - 1, by omega⟩
    obtain ⟨o1, o2⟩ := orL hx (show k ≤ 40 by omega)
    rw [f_X1_fitting_7, g1, if_neg (nI_ge (by omega) (by omega)), o1, nI_1]
    refine ih (k + 1) m _ (by omega) (by omega) o2 (fun z => ?_)
    rw [Nat.testBit_or, hz z, Nat.testBit_two_pow]
    by_cases e : k = z
    · rw [decide_eq_true e, decide_eq_true (show z < k + 1 by omega)]
      simp
    · rw [decide_eq_false e, Bool.or_false]
      by_cases e2 : z < k
      · rw [decide_eq_true e2, decide_eq_true (show z < k + 1 by omega)]
      · rw [decide_eq_false e2, decide_eq_false (show ¬ z < k + 1 by omega)]
/-! the reference -/
theorem may_go {L : Nat} {l : List FSt} {i mi : Nat → Int32} {r mr : Nat → Nat → Int32} {u : Nat → Nat} {ml : Nat → Nat → Int64} {ns kn : Nat} {tld row ko : Nat → Nat} (hfi : fineF L l) (hM : MF L l mr 7) (hns : ns ≤ 20) (hkn : kn ≤ 999) (m1 : mi 77 = nI ns) (hT : TL L l i r u mi mr ml ns kn tld row ko) {c : Nat} (hc : c ≤ 40) : ∀ (d k n : Nat), k + d = ns → d < n → f_X13_mayBe_2 mi mr ml n (nI c) (nI kn) (nI k) = some (if okR l tld row ko kn c d k then 1 else 0) := by
  have h256 := p2 hfi.2.1
  intro d
  induction d with
  | zero =>
    intro k n hk hn
    obtain ⟨m, rfl⟩ : ∃ m, n = m + 1 := ⟨n - 1, by omega⟩
    rw [f_X13_mayBe_2, m1, if_pos (nI_le (by omega) (by omega)), okR]
    rfl
  | succ d ih =>
    intro k n hk hn
    obtain ⟨m, rfl⟩ : ∃ m, n = m + 1 := ⟨n - 1, by omega⟩
    have ik := inb_nI (N := 20) (n := k) (by omega) (by omega)
    obtain ⟨t1, t2, t3, t4, t5, t6, t7, t8, t9⟩ := hT k (by omega)
    rw [f_X13_mayBe_2, m1, if_neg (nI_ge (by omega) (by omega)), ck_t ik, nI_clamp (by omega), t6, okR]
    by_cases e : kn < tld k
    · rw [if_pos (nI_lt e (by omega)), f_X13_mayBe_45, nI_1, ih (k + 1) m (by omega) (by omega), decide_eq_true e, Bool.true_or, Bool.true_and]
    · have hb : f_X13_outBut mi mr ml 7 (nI (row k)) 0 (nI c) = some (nI (runB l c (row k))) := but_ok (j := 7) (by omega) hfi hM hc t2
      have hB := runB_lt (c := c) hfi.2.2.2 t2
      rw [if_neg (nI_nlt (by omega) (by omega)), ck_t ik, t7, hb, bd_some, t9, bd_some, decide_eq_false e, Bool.false_or]
      by_cases e2 : runB l c (row k) = ko k
      · rw [if_pos (by rw [e2]), f_X13_mayBe_45, nI_1, ih (k + 1) m (by omega) (by omega), decide_eq_true e2, Bool.true_and]
      · rw [if_neg (fun q => e2 (nI_inj (by omega) (by omega) q)), decide_eq_false e2, Bool.false_and]
        rfl
theorem fitOf_go {L : Nat} {l : List FSt} {i mi : Nat → Int32} {r mr : Nat → Nat → Int32} {u : Nat → Nat} {ml : Nat → Nat → Int64} {ns kn : Nat} {tld row ko : Nat → Nat} (hfi : fineF L l) (hM : MF L l mr 7) (hns : ns ≤ 20) (hkn : kn ≤ 999) (m1 : mi 77 = nI ns) (hT : TL L l i r u mi mr ml ns kn tld row ko) : ∀ (d k n x : Nat), k + d = l.length → d < n → x < 2 ^ 41 → (∀ z, z ≤ 40 → x.testBit z = ((decide (z < k) || decide (z = 40)) && okR l tld row ko kn z ns 0)) → ∃ x', f_X13_fitOf_21 mi mr ml n (nI kn) (lN x) (nI k) = some (lN x') ∧ x' < 2 ^ 41 ∧ ∀ z, z ≤ 40 → x'.testBit z = ((decide (z < l.length) || decide (z = 40)) && okR l tld row ko kn z ns 0) := by
  have h40 := hfi.2.2.1
  have i7 : inb 7 8 = true := inb_nI (n := 7) (N := 8) (by omega) (by omega)
  have s7 : (7 : Int32).toNatClampNeg = 7 := nI_clamp (n := 7) (by omega)
  intro d
  induction d with
  | zero =>
    intro k n x hk hn hx hz
    obtain ⟨m, rfl⟩ : ∃ m, n = m + 1 := ⟨n - 1, by omega⟩
    rw [Nat.add_zero] at hk
    subst hk
    exact ⟨x, by rw [f_X13_fitOf_21, ck_t i7, s7, hM.2.1, if_pos (nI_le (by omega) (by omega))], hx, hz⟩
  | succ d ih =>
    intro k n x hk hn hx hz
    obtain ⟨m, rfl⟩ : ∃ m, n = m + 1 := ⟨n - 1, by omega⟩
    have hm : f_X13_mayBe mi mr ml (nI k) (nI kn) = some (if okR l tld row ko kn k ns 0 then 1 else 0) := by
      rw [f_X13_mayBe]
      exact may_go hfi hM hns hkn m1 hT (by omega) ns 0 2000000 (by omega) (by omega)
    rw [f_X13_fitOf_21, ck_t i7, s7, hM.2.1, if_neg (nI_ge (by omega) (by omega)), hm, bd_some]
    cases hok : okR l tld row ko kn k ns 0
    · rw [if_neg (show ¬ (false = true) by decide), if_pos rfl, f_X13_fitOf_50, nI_1]
      refine ih (k + 1) m x (by omega) (by omega) hx (fun z h => ?_)
      rw [hz z h]
      by_cases e : z = k
      · rw [e, hok, Bool.and_false, Bool.and_false]
      · by_cases e2 : z < k
        · rw [decide_eq_true e2, decide_eq_true (show z < k + 1 by omega)]
        · rw [decide_eq_false e2, decide_eq_false (show ¬ z < k + 1 by omega)]
    · obtain ⟨o1, o2⟩ := orL hx (show k ≤ 40 by omega)
      rw [if_pos rfl, if_neg n10, o1, f_X13_fitOf_50, nI_1]
      refine ih (k + 1) m _ (by omega) (by omega) o2 (fun z h => ?_)
      rw [Nat.testBit_or, hz z h, Nat.testBit_two_pow]
      by_cases e : k = z
      · rw [decide_eq_true e, decide_eq_true (show z < k + 1 by omega), ← e, hok]
        simp
      · rw [decide_eq_false e, Bool.or_false]
        by_cases e2 : z < k
        · rw [decide_eq_true e2, decide_eq_true (show z < k + 1 by omega)]
        · rw [decide_eq_false e2, decide_eq_false (show ¬ z < k + 1 by omega)]
theorem fits_ok {L : Nat} {l : List FSt} {i mi : Nat → Int32} {r mr : Nat → Nat → Int32} {u : Nat → Nat} {ml : Nat → Nat → Int64} {ns nr tl : Nat} (h : GW1 L l i r u mi mr ns nr tl) {kn : Nat} (hkn : kn ≤ 999) : ∃ x, x < 2 ^ 41 ∧ f_X1_fitting i r u (nI kn) = some (lN x) ∧ f_X13_fitOf mi mr ml (nI kn) = some (lN x) ∧ ∀ z, x.testBit z = true → z < l.length ∨ z = 40 := by
  obtain ⟨tld, row, ko, hT⟩ := TL_of (ml := ml) h kn
  obtain ⟨h1, h2, h3, ⟨g0, g1, g2, g3, g4, g5⟩, ⟨m0, m1, m2, m3⟩, ⟨b1, b2, b3⟩, h7, hS, hR⟩ := h
  have h40 := h1.2.2.1
  obtain ⟨x, a1, a2, a3⟩ := fit7 h1 h3 h7.1 b1 hkn g1 g3 hT l.length 0 2000000 (2 ^ 40) (by omega) (by omega) (by omega) (fun z => by
    rw [Nat.testBit_two_pow, decide_eq_false (show ¬ z < 0 by omega), Bool.false_or]
    by_cases e : z = 40
    · rw [decide_eq_true e, decide_eq_true e.symm]
    · rw [decide_eq_false e, decide_eq_false (fun q => e q.symm)])
  have hm : f_X13_mayBe mi mr ml 40 (nI kn) = some (if okR l tld row ko kn 40 ns 0 then 1 else 0) := by
    rw [f_X13_mayBe]
    exact may_go (c := 40) h1 h2 b1 hkn m1 hT (by omega) ns 0 2000000 (by omega) (by omega)
  have fin : ∀ x0 : Nat, x0 < 2 ^ 41 → (∀ z, z ≤ 40 → x0.testBit z = ((decide (z < 0) || decide (z = 40)) && okR l tld row ko kn z ns 0)) → f_X13_fitOf_17 mi mr ml (nI kn) (lN x0) = some (lN x) := fun x0 h0 hz => by
    obtain ⟨y, c1, c2, c3⟩ := fitOf_go h1 h2 b1 hkn m1 hT l.length 0 2000000 x0 (by omega) (by omega) h0 hz
    have : x = y := by
      apply Nat.eq_of_testBit_eq
      intro z
      by_cases hz4 : z ≤ 40
      · rw [a3 z hz4, c3 z hz4]
      · rw [Nat.testBit_lt_two_pow (Nat.lt_of_lt_of_le a2 (Nat.pow_le_pow_right (by omega) (by omega))), Nat.testBit_lt_two_pow (Nat.lt_of_lt_of_le c2 (Nat.pow_le_pow_right (by omega) (by omega)))]
    rw [this, f_X13_fitOf_17]
    exact c1
  refine ⟨x, a2, ?_, ?_, fun z hz => ?_⟩
  · rw [f_X1_fitting]
    exact a1
  · rw [f_X13_fitOf, hm, bd_some]
    cases hok : okR l tld row ko kn 40 ns 0
    · rw [if_neg (show ¬ (false = true) by decide), if_pos rfl]
      refine fin 0 (by omega) (fun z hz => ?_)
      rw [Nat.zero_testBit, decide_eq_false (show ¬ z < 0 by omega), Bool.false_or]
      by_cases e : z = 40
      · rw [e, hok, Bool.and_false]
      · rw [decide_eq_false e, Bool.false_and]
    · rw [if_pos rfl, if_neg n10, show (1099511627776 : Int64) = lN (2 ^ 40) by decide]
      refine fin (2 ^ 40) (by omega) (fun z hz => ?_)
      rw [Nat.testBit_two_pow, decide_eq_false (show ¬ z < 0 by omega), Bool.false_or]
      by_cases e : z = 40
      · rw [e, hok]
        rfl
      · rw [decide_eq_false e, decide_eq_false (fun q => e q.symm), Bool.false_and]
  · by_cases hz4 : z ≤ 40
    · rw [a3 z hz4, Bool.and_eq_true, Bool.or_eq_true, decide_eq_true_iff, decide_eq_true_iff] at hz
      exact hz.1
    · rw [Nat.testBit_lt_two_pow (Nat.lt_of_lt_of_le a2 (Nat.pow_le_pow_right (by omega) (by omega)))] at hz
      cases hz
theorem fit_ok {i mi : Nat → Int32} {r mr : Nat → Nat → Int32} {u : Nat → Nat} {ml : Nat → Nat → Int64} (h : GW i r u mi mr) (x1 : Int32) : ∃ q m, f_X11_fit i r u x1 = some q ∧ f_X13_fit mi mr ml x1 = some m ∧ q = m := by
  have hin : f_X13_in x1.toInt64 0 999 = some (if 0 ≤ x1.toInt ∧ x1.toInt ≤ 999 then 1 else 0) := by rw [f_in, i2l_toInt, z64, l999]
  by_cases hk : 0 ≤ x1.toInt ∧ x1.toInt ≤ 999
  · obtain ⟨kn, k1, k2, k3⟩ := nI_ofI (x := x1) (by omega)
    have c1 : ¬ x1 < 0 := by rw [lt32, z32]; omega
    have c2 : x1 ≤ 999 := by rw [le32, i999]; omega
    rw [if_pos hk] at hin
    rcases id h with ⟨h1, ⟨g0, g2, g3, g4, g5⟩, ⟨m0, m1, m2, m3⟩, h8⟩ | ⟨L, l, ns, nr, tl, hG⟩
    · refine ⟨-4, -4, ?_, ?_, rfl⟩
      · rw [f_X11_fit, if_neg c1, if_pos c2, f_X1_watching, g0, ck_t (by decide), bd_some, if_pos rfl]
      · rw [f_X13_fit, hin, bd_some, if_neg n10, if_pos m0]
    · obtain ⟨x, a1, a2, a3, _⟩ := fits_ok (ml := ml) hG (kn := kn) (by omega)
      have g0 := hG.2.2.2.1.1
      have m0 := hG.2.2.2.2.1.1
      refine ⟨lN x, lN x, ?_, ?_, rfl⟩
      · rw [f_X11_fit, if_neg c1, if_pos c2, f_X1_watching, g0, ck_t (by decide), bd_some, if_neg n10, k2, a2, bd_some]
      · rw [f_X13_fit, hin, bd_some, if_neg n10, m0, if_neg n10, k2, a3, bd_some]
  · rw [if_neg hk] at hin
    refine ⟨-2, -2, ?_, ?_, rfl⟩
    · rw [f_X11_fit]
      by_cases e : x1 < 0
      · rw [if_pos e]
      · rw [if_neg e, if_neg (by rw [le32, i999]; rw [lt32, z32] at e; omega)]
    · rw [f_X13_fit, hin, bd_some, if_pos rfl]
