/-! ===== lay ===== -/
theorem and_pow0 (x a : Nat) : x &&& 2 ^ a = 0 ↔ x.testBit a = false := by
  constructor
  · intro h
    have h1 : (x &&& 2 ^ a).testBit a = false := by rw [h]; exact Nat.zero_testBit a
    rw [Nat.testBit_and, Nat.testBit_two_pow_self, Bool.and_true] at h1
    exact h1
  · intro h
    apply Nat.eq_of_testBit_eq
    intro j
    rw [Nat.testBit_and, Nat.testBit_two_pow, Nat.zero_testBit]
    by_cases e : a = j
    · subst e
      rw [h]
      rfl
    · rw [decide_eq_false e, Bool.and_false]
theorem m1_n : (-1 : Int32) = nI (2 ^ 32 - 1) := by decide
theorem tb_not {x a : Nat} (h : a < 32) : (x ^^^ (2 ^ 32 - 1)).testBit a = !x.testBit a := by
  rw [Nat.testBit_xor, Nat.testBit_two_pow_sub_one, decide_eq_true h, Bool.xor_true]
/-- set in x, not set in y -/
theorem onlyL {x y a : Nat} (ha : a < 8) : ((nI x &&& (nI y ^^^ (-1))) &&& ((1 : Int32) <<< (nI a &&& 31)) = 0) ↔ (x.testBit a && !y.testBit a) = false := by
  have hp : 2 ^ a ≤ 2 ^ 8 := Nat.pow_le_pow_right (by omega) (by omega)
  have hq : (x &&& (y ^^^ (2 ^ 32 - 1))) &&& 2 ^ a ≤ 2 ^ a := Nat.and_le_right
  rw [m1_n, nx_xor, nx_and, sh1 (by omega), nx_and, show (0 : Int32) = nI 0 from rfl, nI_eq (by omega) (by omega), and_pow0, Nat.testBit_and, tb_not (by omega)]
def hld (x a : Nat) : Nat := x &&& (2 ^ a ^^^ (2 ^ 32 - 1))
theorem hld_I {x a : Nat} (ha : a < 8) : nI x &&& (((1 : Int32) <<< (nI a &&& 31)) ^^^ (-1)) = nI (hld x a) := by
  rw [m1_n, sh1 (by omega), nx_xor, nx_and]
  rfl
theorem hld_wf {L x a : Nat} (hL : L ≤ 8) (ha : a < L) (hx : x < 2 ^ L) : wfS L (a, none, hld x a) := by
  refine ⟨ha, Nat.lt_of_le_of_lt Nat.and_le_left hx, ?_, fun b hb => by cases hb⟩
  show (hld x a).testBit a = false
  rw [hld, Nat.testBit_and, tb_not (by omega), Nat.testBit_two_pow_self, Bool.not_true, Bool.and_false]
theorem raw_wf {L x a : Nat} (ha : a < L) (hx : x < 2 ^ L) (hb : x.testBit a = false) : wfS L (a, none, x) := ⟨ha, hx, hb, fun b hb => by cases hb⟩
def gI (x1 x2 y : Int32) : Int32 := if (y &&& x2) = x2 then y ^^^ ((1 : Int32) <<< (x1 &&& 31)) else y
theorem gI_ok {L a g v : Nat} (hL : L ≤ 8) (ht : wfS L (a, none, g)) (hv : v < 2 ^ L) : gI (nI a) (nI g) (nI v) = nI (apS (a, none, g) v) := by
  have h := done_ok hL ht hv
  have h : f_X13_done (nI a) (-1) (nI g) (nI v) = some (nI (apS (a, none, g) v)) := h
  rw [f_X13_done] at h
  rw [gI]
  by_cases e : (nI v &&& nI g) = nI g
  · rw [if_pos e, if_pos rfl] at h
    rw [if_pos e]
    exact Option.some.inj h
  · rw [if_neg e] at h
    rw [if_neg e]
    exact Option.some.inj h
theorem lt_go {i : Nat → Int32} {x1 x2 : Int32} {N : Nat} (hN : N ≤ 256) : ∀ (d k n : Nat) (r : Nat → Nat → Int32), k + d = N → d < n → ∃ r', f_X8_layTurn_3 n i r x1 x2 (nI N) (nI k) = (if (40 : Int32) ≤ i 3 then f_X8_layTurn_70 i r' else ck (inb (i 3) 40) (ck (inb (i 3) 40) (f_X8_layTurn_70 i (va_up (va_up r' 1 (upd (r' 1) (i 3).toNatClampNeg x1)) 2 (upd (r' 2) (i 3).toNatClampNeg x2))))) ∧ (∀ u, k ≤ u → u < N → r' 0 u = gI x1 x2 (r 0 u)) ∧ (∀ u, u < k → r' 0 u = r 0 u) ∧ ∀ a, a ≠ 0 → r' a = r a := by
  intro d
  induction d with
  | zero =>
    intro k n r hk hn
    obtain ⟨m, rfl⟩ : ∃ m, n = m + 1 := ⟨n - 1, by omega⟩
    refine ⟨r, ?_, fun u h1 h2 => by omega, fun u _ => rfl, fun a _ => rfl⟩
    rw [f_X8_layTurn_3, if_pos (nI_le (by omega) (by omega))]
  | succ d ih =>
    intro k n r hk hn
    obtain ⟨m, rfl⟩ : ∃ m, n = m + 1 := ⟨n - 1, by omega⟩
    have ic := inb_nI (N := 256) (n := k) (by omega) (by omega)
    rw [f_X8_layTurn_3, if_neg (nI_ge (by omega) (by omega)), ck_t ic, nI_clamp (by omega), ck_t ic, ck_t ic, f_X8_layTurn_35, f_X8_layTurn_35, nI_1]
    by_cases e : (r 0 k &&& x2) = x2
    · rw [if_pos e]
      obtain ⟨r', a1, a2, a3, a4⟩ := ih (k + 1) m (va_up r 0 (upd (r 0) k (r 0 k ^^^ (1 : Int32) <<< (x1 &&& 31)))) (by omega) (by omega)
      refine ⟨r', a1, fun u h1 h2 => ?_, fun u hu => ?_, fun a ha => by rw [a4 a ha, up_n ha]⟩
      · by_cases eu : u = k
        · subst eu
          rw [a3 u (by omega), up_s, pk_us, gI, if_pos e]
        · rw [a2 u (by omega) h2, up_s, pk_un eu]
      · rw [a3 u (by omega), up_s, pk_un (by omega)]
    · rw [if_neg e]
      obtain ⟨r', a1, a2, a3, a4⟩ := ih (k + 1) m r (by omega) (by omega)
      refine ⟨r', a1, fun u h1 h2 => ?_, fun u hu => a3 u (by omega), a4⟩
      by_cases eu : u = k
      · subst eu
        rw [a3 u (by omega), gI, if_neg e]
      · exact a2 u (by omega) h2
theorem over_turn {i : Nat → Int32} {r : Nat → Nat → Int32} {x1 x2 : Int32} {N c : Nat} (hN : N ≤ 256) (hi : i 3 = nI c) (hc : 40 ≤ c) (hc2 : c < 2000) : ∃ i' r', f_X8_layTurn i r x1 x2 (nI N) = some (i', r') ∧ i' 3 = nI (c + 1) := by
  obtain ⟨r', a1, _⟩ := lt_go (i := i) (x1 := x1) (x2 := x2) hN N 0 2000000 r (by omega) (by omega)
  refine ⟨upd i 3 (nI c + 1), r', ?_, by rw [pk_us, nI_1]⟩
  have a1' : f_X8_layTurn_3 2000000 i r x1 x2 (nI N) 0 = _ := a1
  rw [f_X8_layTurn, a1', hi, if_pos (show (40 : Int32) ≤ nI c from nI_le (a := 40) hc (by omega)), f_X8_layTurn_70, hi]
theorem over_49 {L N v : Nat} (hL : L ≤ 8) (hN : N ≤ 256) (hv : v < 256) : ∀ (d k n c : Nat) (i : Nat → Int32) (r : Nat → Nat → Int32), i 3 = nI c → 40 ≤ c → c + d ≤ 1000 → k + d = L → d < n → ∃ i' r' c', f_X8_mendRow_49 n i r (nI v) (nI L) (nI N) (nI k) = some (i', r') ∧ i' 3 = nI c' ∧ c ≤ c' ∧ c' ≤ c + d := by
  have iv := inb_nI (N := 256) (n := v) hv (by omega)
  intro d
  induction d with
  | zero =>
    intro k n c i r hi h40 hc hk hn
    obtain ⟨m, rfl⟩ : ∃ m, n = m + 1 := ⟨n - 1, by omega⟩
    exact ⟨i, r, c, by rw [f_X8_mendRow_49, if_pos (nI_le (by omega) (by omega))], hi, by omega, by omega⟩
  | succ d ih =>
    intro k n c i r hi h40 hc hk hn
    obtain ⟨m, rfl⟩ : ∃ m, n = m + 1 := ⟨n - 1, by omega⟩
    rw [f_X8_mendRow_49, if_neg (nI_ge (by omega) (by omega)), ck_t iv, nI_clamp (by omega)]
    split
    · rw [f_X8_mendRow_93, nI_1]
      obtain ⟨i', r', c', a1, a2, a3, a4⟩ := ih (k + 1) m c i r hi h40 (by omega) (by omega) (by omega)
      exact ⟨i', r', c', a1, a2, a3, by omega⟩
    · obtain ⟨i2, r2, b1, b2⟩ := over_turn (r := r) (x1 := nI k) (x2 := (r 0 v) &&& (((1 : Int32) <<< (nI k &&& 31)) ^^^ (-1))) hN hi h40 (by omega)
      rw [ck_t iv, b1, bd_some, f_X8_mendRow_93, nI_1]
      obtain ⟨i', r', c', a1, a2, a3, a4⟩ := ih (k + 1) m (c + 1) i2 r2 b2 (by omega) (by omega) (by omega) (by omega)
      exact ⟨i', r', c', a1, a2, by omega, by omega⟩
theorem over_3 {L N v : Nat} (hL : L ≤ 8) (hN : N ≤ 256) (hv : v < 256) : ∀ (d k n c : Nat) (i : Nat → Int32) (r : Nat → Nat → Int32), i 3 = nI c → 40 ≤ c → c + d + L ≤ 1000 → k + d = L → d < n → ∃ i' r' c', f_X8_mendRow_3 n i r (nI v) (nI L) (nI N) (nI k) = some (i', r') ∧ i' 3 = nI c' ∧ c ≤ c' ∧ c' ≤ c + d + L := by
  have iv := inb_nI (N := 256) (n := v) hv (by omega)
  intro d
  induction d with
  | zero =>
    intro k n c i r hi h40 hc hk hn
    obtain ⟨m, rfl⟩ : ∃ m, n = m + 1 := ⟨n - 1, by omega⟩
    rw [f_X8_mendRow_3, if_pos (nI_le (by omega) (by omega))]
    obtain ⟨i', r', c', a1, a2, a3, a4⟩ := over_49 hL hN hv L 0 2000000 c i r hi h40 (by omega) (by omega) (by omega)
    exact ⟨i', r', c', a1, a2, a3, by omega⟩
  | succ d ih =>
    intro k n c i r hi h40 hc hk hn
    obtain ⟨m, rfl⟩ : ∃ m, n = m + 1 := ⟨n - 1, by omega⟩
    rw [f_X8_mendRow_3, if_neg (nI_ge (by omega) (by omega)), ck_t iv, nI_clamp (by omega)]
    split
    · rw [f_X8_mendRow_40, nI_1]
      obtain ⟨i', r', c', a1, a2, a3, a4⟩ := ih (k + 1) m c i r hi h40 (by omega) (by omega) (by omega)
      exact ⟨i', r', c', a1, a2, a3, by omega⟩
    · obtain ⟨i2, r2, b1, b2⟩ := over_turn (r := r) (x1 := nI k) (x2 := r 0 v) hN hi h40 (by omega)
      rw [ck_t iv, b1, bd_some, f_X8_mendRow_40, nI_1]
      obtain ⟨i', r', c', a1, a2, a3, a4⟩ := ih (k + 1) m (c + 1) i2 r2 b2 (by omega) (by omega) (by omega) (by omega)
      exact ⟨i', r', c', a1, a2, by omega, by omega⟩
theorem lays_go {L : Nat} {t : FSt} {T : Nat → Nat} {mi : Nat → Int32} {ml : Nat → Nat → Int64} (hL : L ≤ 8) (ht : wfS L t) (hn0 : t.2.1 = none) (hT : ∀ u, u < 2 ^ L → T u < 2 ^ L) : ∀ (d k n : Nat) (mr : Nat → Nat → Int32), (∀ u, k ≤ u → u < 2 ^ L → mr 15 u = nI (T u)) → k + d = 2 ^ L → d < n → ∃ mr', f_X13_lays_52 ml n mi mr (nI t.1) (nI t.2.2) (nI (2 ^ L)) (nI k) = some (1, mi, mr') ∧ (∀ u, k ≤ u → u < 2 ^ L → mr' 15 u = nI (apS t (T u))) ∧ (∀ u, u < k → mr' 15 u = mr 15 u) ∧ ∀ a, a ≠ 15 → mr' a = mr a := by
  have h256 := p2 hL
  intro d
  induction d with
  | zero =>
    intro k n mr h15 hk hn
    obtain ⟨m, rfl⟩ : ∃ m, n = m + 1 := ⟨n - 1, by omega⟩
    refine ⟨mr, ?_, fun u h1 h2 => by omega, fun u _ => rfl, fun a _ => rfl⟩
    rw [f_X13_lays_52, if_pos (nI_le (by omega) (by omega))]
  | succ d ih =>
    intro k n mr h15 hk hn
    obtain ⟨m, rfl⟩ : ∃ m, n = m + 1 := ⟨n - 1, by omega⟩
    have ic := inb_nI (N := 256) (n := k) (by omega) (by omega)
    have hd := done_ok hL ht (hT k (by omega))
    rw [hn0] at hd
    have hd : f_X13_done (nI t.1) (-1) (nI t.2.2) (nI (T k)) = some (nI (apS t (T k))) := hd
    obtain ⟨mr', a1, a2, a3, a4⟩ := ih (k + 1) m (va_up mr 15 (upd (mr 15) k (nI (apS t (T k))))) (fun u h1 h2 => by rw [up_s, pk_un (by omega)]; exact h15 u (by omega) h2) (by omega) (by omega)
    refine ⟨mr', ?_, fun u h1 h2 => ?_, fun u hu => ?_, fun a ha => by rw [a4 a ha, up_n ha]⟩
    · rw [f_X13_lays_52, if_neg (nI_ge (by omega) (by omega)), ck_t ic, nI_clamp (by omega), h15 k (by omega) (by omega), hd, bd_some, ck_t ic, nI_1]
      exact a1
    · by_cases eu : u = k
      · subst eu
        rw [a3 u (by omega), up_s, pk_us]
      · exact a2 u (by omega) h2
    · rw [a3 u (by omega), up_s, pk_un (by omega)]
/-- the two tables and the turns laid so far -/
def LR (f L : Nat) (l : List FSt) (T : Nat → Nat) (ls : List FSt) (i : Nat → Int32) (r : Nat → Nat → Int32) (mi : Nat → Int32) (mr : Nat → Nat → Int32) : Prop := MF L l mr f ∧ ls.length ≤ 40 ∧ (∀ t ∈ ls, wfS L t ∧ t.2.1 = none) ∧ (∀ u, u < 2 ^ L → T u < 2 ^ L ∧ r 0 u = nI (T u) ∧ mr 15 u = nI (T u)) ∧ i 3 = nI ls.length ∧ mi 27 = nI ls.length ∧ ∀ k t, ls[k]? = some t → r 1 k = nI t.1 ∧ r 2 k = nI t.2.2 ∧ mr 12 (279 - k) = nI t.1 ∧ mr 14 (279 - k) = nI t.2.2
theorem turn_ok {f L : Nat} {l ls : List FSt} {T : Nat → Nat} {i mi : Nat → Int32} {r mr : Nat → Nat → Int32} {ml : Nat → Nat → Int64} (hL : L ≤ 8) (hf : f < 6) (hl : l.length ≤ 40) (h : LR f L l T ls i r mi mr) {a g : Nat} (ht : wfS L (a, none, g)) : (∃ i' r' mi' mr', f_X8_layTurn i r (nI a) (nI g) (nI (2 ^ L)) = some (i', r') ∧ f_X13_lays mi mr ml (nI a) (nI g) (nI (2 ^ L)) = some (1, mi', mr') ∧ LR f L l (fun u => apS (a, none, g) (T u)) (ls ++ [(a, none, g)]) i' r' mi' mr' ∧ KP 6 mr mr') ∨ (∃ i' r', f_X8_layTurn i r (nI a) (nI g) (nI (2 ^ L)) = some (i', r') ∧ i' 3 = nI 41 ∧ f_X13_lays mi mr ml (nI a) (nI g) (nI (2 ^ L)) = some (0, mi, mr)) := by
  have h256 := p2 hL
  obtain ⟨h1, h2, h3, h4, h5, h6, h7⟩ := h
  by_cases e : ls.length = 40
  · obtain ⟨i', r', a1, a2⟩ := over_turn (r := r) (x1 := nI a) (x2 := nI g) h256 h5 (by omega) (by omega)
    refine Or.inr ⟨i', r', a1, by rw [a2, e], ?_⟩
    rw [f_X13_lays, h6, e, if_pos (show nI 40 = (40 : Int32) from rfl)]
  · have hc : ls.length < 40 := by omega
    have ic := inb_nI (N := 40) (n := ls.length) hc (by omega)
    have im := inb_nI (N := 320) (n := 279 - ls.length) (by omega) (by omega)
    have e279 : (279 : Int32) - nI ls.length = nI (279 - ls.length) := by rw [show (279 : Int32) = nI 279 from rfl, pk_sub (by omega)]
    obtain ⟨r', a1, a2, a3, a4⟩ := lt_go (i := i) (x1 := nI a) (x2 := nI g) h256 (2 ^ L) 0 2000000 r (by omega) (by omega)
    have a1' : f_X8_layTurn_3 2000000 i r (nI a) (nI g) (nI (2 ^ L)) 0 = _ := a1
    have A : f_X8_layTurn i r (nI a) (nI g) (nI (2 ^ L)) = some (upd i 3 (nI (ls.length + 1)), va_up (va_up r' 1 (upd (r' 1) ls.length (nI a))) 2 (upd (r' 2) ls.length (nI g))) := by
      rw [f_X8_layTurn, a1', h5, if_neg (show ¬ (40 : Int32) ≤ nI ls.length from nI_ge (b := 40) hc (by omega)), ck_t ic, ck_t ic, nI_clamp (by omega), f_X8_layTurn_70, h5, nI_1]
    obtain ⟨mr', b1, b2, b3, b4⟩ := lays_go (t := (a, none, g)) (T := T) (mi := upd mi 27 (nI (ls.length + 1))) (ml := ml) hL ht rfl (fun u hu => (h4 u hu).1) (2 ^ L) 0 2000000 (va_up (va_up mr 12 (upd (mr 12) (279 - ls.length) (nI a))) 14 (upd (mr 14) (279 - ls.length) (nI g))) (fun u _ hu => by rw [up_n (by omega), up_n (by omega)]; exact (h4 u hu).2.2) (by omega) (by omega)
    have b1' : f_X13_lays_52 ml 2000000 (upd mi 27 (nI (ls.length + 1))) (va_up (va_up mr 12 (upd (mr 12) (279 - ls.length) (nI a))) 14 (upd (mr 14) (279 - ls.length) (nI g))) (nI a) (nI g) (nI (2 ^ L)) 0 = _ := b1
    have B : f_X13_lays mi mr ml (nI a) (nI g) (nI (2 ^ L)) = some (1, upd mi 27 (nI (ls.length + 1)), mr') := by
      rw [f_X13_lays, h6, if_neg (show ¬ nI ls.length = (40 : Int32) from fun q => by have := nI_inj (b := 40) (by omega) (by omega) q; omega), e279, ck_t im, ck_t im, nI_clamp (by omega), f_X13_lays_39, h6, nI_1, b1']
    have K1 : KP 6 mr mr' := by
      intro j hj hJ
      rw [b4 10 (by omega), b4 11 (by omega), b4 12 (by omega), b4 13 (by omega), b4 14 (by omega)]
      refine ⟨by rw [up_n (by omega), up_n (by omega)], by rw [up_n (by omega), up_n (by omega)], fun k hk => ⟨?_, ?_, ?_⟩⟩
      · rw [up_n (by omega), up_s, pk_un (by omega)]
      · rw [up_n (by omega), up_n (by omega)]
      · rw [up_s, pk_un (by omega)]
    refine Or.inl ⟨_, _, _, _, A, B, ⟨K1.mf (by omega) (by omega) hl h1, by rw [List.length_append]; show ls.length + 1 ≤ 40; omega, ?_, ?_, ?_, ?_, ?_⟩, K1⟩
    · intro t hm
      rcases List.mem_append.mp hm with hm | hm
      · exact h3 t hm
      · rw [List.mem_singleton.mp hm]
        exact ⟨ht, rfl⟩
    · intro u hu
      obtain ⟨c1, c2, c3⟩ := h4 u hu
      refine ⟨apS_lt ht c1, ?_, b2 u (by omega) hu⟩
      rw [up_n (by omega), up_n (by omega), a2 u (by omega) hu, c2, gI_ok hL ht c1]
    · rw [pk_us, List.length_append]
      rfl
    · rw [pk_us, List.length_append]
      rfl
    · intro k t hk
      rw [up_n (show (1 : Nat) ≠ 2 by omega), up_s, up_s, b4 12 (by omega), b4 14 (by omega), up_n (show (12 : Nat) ≠ 14 by omega), up_s, up_s, a4 1 (by omega), a4 2 (by omega)]
      rcases app_at hk with ⟨k1, k2⟩ | ⟨k1, k2⟩
      · rw [pk_un (by omega), pk_un (by omega), pk_un (by omega), pk_un (by omega)]
        exact h7 k t k2
      · subst k1
        subst k2
        exact ⟨pk_us, pk_us, pk_us, pk_us⟩
