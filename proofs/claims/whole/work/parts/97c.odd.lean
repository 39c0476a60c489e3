/-! ===== odd ===== -/
theorem orb_ne {f : Nat → Nat} {v p : Nat} (hi : ∀ v w, f v = f w → v = w) (hp : ∀ k, 1 ≤ k → k < p → itr f k v ≠ v) {i j : Nat} (h1 : i < j) (h2 : j < p) : itr f i v ≠ itr f j v := by
  intro e
  have h3 := itr_back hi v i (j - i) (by rw [show i + (j - i) = j by omega]; exact e)
  exact hp (j - i) (by omega) (by omega) h3.symm
/-- the class's table: -1 at rows of M, else where a row goes -/
def TB (N : Nat) (f : Nat → Nat) (M : Nat → Prop) (t : Nat → Int32) : Prop := ∀ u, u < N → (M u → t u = -1) ∧ (¬ M u → t u = nI (f u))
/-- M is made of whole cycles -/
def CL (N : Nat) (f : Nat → Nat) (M : Nat → Prop) : Prop := ∀ u, u < N → (M u ↔ M (f u))
theorem CL.its {N : Nat} {f : Nat → Nat} {M : Nat → Prop} (h : CL N f M) (hf : ∀ v, v < N → f v < N) {v : Nat} (hv : v < N) : ∀ k, M v ↔ M (itr f k v)
  | 0 => Iff.rfl
  | k + 1 => (CL.its h hf hv k).trans (h _ (itr_lt hf k v hv))
/-- M and the cycle of v -/
def OR (f : Nat → Nat) (v p : Nat) (M : Nat → Prop) : Nat → Prop := fun u => M u ∨ ∃ j, j < p ∧ itr f j v = u
theorem CL.or {N : Nat} {f : Nat → Nat} {M : Nat → Prop} (h : CL N f M) (hi : ∀ v w, f v = f w → v = w) {v p : Nat} (hp0 : 1 ≤ p) (hp : itr f p v = v) : CL N f (OR f v p M) := by
  intro u hu
  constructor
  · rintro (hm | ⟨j, h1, h2⟩)
    · exact Or.inl ((h u hu).mp hm)
    · by_cases e : j + 1 = p
      · refine Or.inr ⟨0, hp0, ?_⟩
        have h9 : f (itr f j v) = v := by
          have h8 : itr f (j + 1) v = v := by rw [e]; exact hp
          exact h8
        show v = f u
        rw [← h2, h9]
      · exact Or.inr ⟨j + 1, by omega, by show f (itr f j v) = f u; rw [h2]⟩
  · rintro (hm | ⟨j, h1, h2⟩)
    · exact Or.inl ((h u hu).mpr hm)
    · match j, h1, h2 with
      | 0, h1, h2 =>
        refine Or.inr ⟨p - 1, by omega, hi _ _ ?_⟩
        have h2 : v = f u := h2
        have h3 : f (itr f (p - 1) v) = itr f p v := by
          rw [show p = (p - 1) + 1 by omega]
          rfl
        rw [h3, hp, h2]
      | j + 1, h1, h2 => exact Or.inr ⟨j, by omega, hi _ _ h2⟩
theorem take_go {N : Nat} {f : Nat → Nat} {i : Nat → Int32} (hN : N ≤ 256) (hf : ∀ v, v < N → f v < N) (hi : ∀ v w, f v = f w → v = w) {v p : Nat} (hv : v < N) (hp0 : 1 ≤ p) (hpN : p ≤ N) (hp1 : itr f p v = v) (hp2 : ∀ k, 1 ≤ k → k < p → itr f k v ≠ v) : ∀ (d k n : Nat) (r : Nat → Nat → Int32), k + d = p → d < n → (∀ j, j < k → r 0 (itr f j v) = -1) → (∀ j, k ≤ j → j < p → r 0 (itr f j v) = nI (f (itr f j v))) → ∃ r', f_X8_takeCycle_4 i n r (nI k) (nI (itr f k v)) = some (nI p, r') ∧ (∀ j, j < p → r' 0 (itr f j v) = -1) ∧ (∀ u, (∀ j, j < p → itr f j v ≠ u) → r' 0 u = r 0 u) := by
  intro d
  induction d with
  | zero =>
    intro k n r hk hn h1 h2
    obtain ⟨m, rfl⟩ : ∃ m, n = m + 1 := ⟨n - 1, by omega⟩
    rw [Nat.add_zero] at hk
    subst hk
    refine ⟨r, ?_, h1, fun u _ => rfl⟩
    rw [f_X8_takeCycle_4]
    by_cases e : (256 : Int32) ≤ nI k
    · rw [if_pos e]
    · rw [if_neg e, hp1, ck_t (inb_nI (by omega) (by omega)), nI_clamp (by omega), if_pos (show r 0 v = -1 from h1 0 hp0)]
  | succ d ih =>
    intro k n r hk hn h1 h2
    obtain ⟨m, rfl⟩ : ∃ m, n = m + 1 := ⟨n - 1, by omega⟩
    have hl := itr_lt hf k v hv
    have hfl := hf _ hl
    have ic := inb_nI (N := 256) (n := itr f k v) (by omega) (by omega)
    obtain ⟨r', a1, a2, a3⟩ := ih (k + 1) m (va_up r 0 (upd (r 0) (itr f k v) (-1))) (by omega) (by omega) (fun j hj => by
      rw [up_s]
      by_cases e : itr f j v = itr f k v
      · rw [e, pk_us]
      · rw [pk_un e]
        by_cases ej : j = k
        · exact absurd (by rw [ej]) e
        · exact h1 j (by omega)) (fun j hj hj2 => by
      rw [up_s, pk_un (fun e => orb_ne hi hp2 (show k < j by omega) hj2 e.symm)]
      exact h2 j (by omega) hj2)
    refine ⟨r', ?_, a2, fun u hu => ?_⟩
    · rw [f_X8_takeCycle_4, if_neg (show ¬ (256 : Int32) ≤ nI k from nI_ge (b := 256) (by omega) (by omega)), ck_t ic, nI_clamp (by omega), h2 k (by omega) (by omega), if_neg (nm1 (by omega)), ck_t ic, ck_t ic, nI_1]
      exact a1
    · rw [a3 u hu, up_s, pk_un (fun e => hu k (by omega) e.symm)]
theorem take_ok {N : Nat} {f : Nat → Nat} {M : Nat → Prop} {i : Nat → Int32} {r : Nat → Nat → Int32} (hN : N ≤ 256) (hf : ∀ v, v < N → f v < N) (hi : ∀ v w, f v = f w → v = w) (hT : TB N f M (r 0)) (hC : CL N f M) {v p : Nat} (hv : v < N) (hm : ¬ M v) (hp0 : 1 ≤ p) (hpN : p ≤ N) (hp1 : itr f p v = v) (hp2 : ∀ k, 1 ≤ k → k < p → itr f k v ≠ v) : ∃ r', f_X8_takeCycle i r (nI v) = some (nI p, r') ∧ TB N f (OR f v p M) (r' 0) := by
  obtain ⟨r', a1, a2, a3⟩ := take_go (i := i) hN hf hi hv hp0 hpN hp1 hp2 p 0 2000000 r (by omega) (by omega) (fun j hj => by omega) (fun j _ _ => (hT _ (itr_lt hf j v hv)).2 (fun q => hm ((hC.its hf hv j).mpr q)))
  refine ⟨r', a1, fun u hu => ⟨?_, fun h => ?_⟩⟩
  · rintro (h | ⟨j, h1, h2⟩)
    · by_cases e : ∃ j, j < p ∧ itr f j v = u
      · obtain ⟨j, h1, h2⟩ := e
        rw [← h2]
        exact a2 j h1
      · rw [a3 u (fun j h1 h2 => e ⟨j, h1, h2⟩)]
        exact (hT u hu).1 h
    · rw [← h2]
      exact a2 j h1
  · rw [a3 u (fun j h1 h2 => h (Or.inr ⟨j, h1, h2⟩))]
    exact (hT u hu).2 (fun q => h (Or.inl q))
theorem fillT_go {L : Nat} {l : List FSt} {i : Nat → Int32} {r : Nat → Nat → Int32} (hf : fineF L l) (h : FL L l i r) : ∀ (d k n : Nat) (g : Nat → Int32), (∀ v, v < k → g v = nI (runS l v)) → k + d = 2 ^ L → d < n → ∃ g', f_X2_fillTable_2 256 i r n g (nI k) = some g' ∧ ∀ v, v < 2 ^ L → g' v = nI (runS l v) := by
  have hL := hf.2.1
  have h256 := p2 hL
  intro d
  induction d with
  | zero =>
    intro k n g hT hk hn
    obtain ⟨m, rfl⟩ : ∃ m, n = m + 1 := ⟨n - 1, by omega⟩
    refine ⟨g, ?_, fun v hv => hT v (by omega)⟩
    rw [f_X2_fillTable_2, rows_ok hL h, bd_some, if_pos (nI_le (by omega) (by omega))]
  | succ d ih =>
    intro k n g hT hk hn
    obtain ⟨m, rfl⟩ : ∃ m, n = m + 1 := ⟨n - 1, by omega⟩
    have hk2 : k < 2 ^ L := by omega
    rw [f_X2_fillTable_2, rows_ok hL h, bd_some, if_neg (nI_ge (by omega) (by omega)), if_neg (show ¬ Int32.ofNat 256 ≤ nI k from nI_ge (b := 256) (by omega) (by omega)), outOf_ok hf h hk2, bd_some, ck_t (inb_nI (by omega) (by omega)), nI_clamp (by omega), nI_1]
    refine ih (k + 1) m _ (fun v hv => ?_) (by omega) (by omega)
    by_cases e : v = k
    · subst e
      rw [pk_us]
    · rw [pk_un e]
      exact hT v (by omega)
theorem fillT {L : Nat} {l : List FSt} {i : Nat → Int32} {r : Nat → Nat → Int32} (hf : fineF L l) (h : FL L l i r) (g : Nat → Int32) : ∃ g', f_X2_fillTable 256 i r g = some g' ∧ ∀ v, v < 2 ^ L → g' v = nI (runS l v) := by
  have h256 := p2 hf.2.1
  rw [f_X2_fillTable]
  exact fillT_go hf h (2 ^ L) 0 2000000 g (fun v hv => by omega) (by omega) (by omega)
/-- the reference's marks -/
def SN (N : Nat) (M : Nat → Prop) (t : Nat → Int32) : Prop := ∀ u, u < N → (M u → t u = 1) ∧ (¬ M u → t u = 0)
theorem seen_go {N : Nat} {f : Nat → Nat} {mi : Nat → Int32} {ml : Nat → Nat → Int64} {K : (Nat → Nat → Int32) → Int32 → Int32 → Int32 → Option (Int32 × (Nat → Nat → Int32))} {x1 : Int32} (hN : N ≤ 256) (hf : ∀ v, v < N → f v < N) (hi : ∀ v w, f v = f w → v = w) {v p c : Nat} (hv : v < N) (hp0 : 1 ≤ p) (hp1 : itr f p v = v) (hp2 : ∀ k, 1 ≤ k → k < p → itr f k v ≠ v) : ∀ (d k n : Nat) (mr : Nat → Nat → Int32), k + d = p → d < n → (∀ u, u < N → mr 15 u = nI (f u)) → (∀ j, j < k → mr 16 (itr f j v) = 1) → (∀ j, k ≤ j → j < p → mr 16 (itr f j v) = 0) → ∃ mr', f_X13_odd_61 mi ml K n mr x1 (nI (if k = p then c + (p - 1) else c + k)) (nI v) (nI (itr f k v)) = K mr' x1 (nI (c + (p - 1))) (nI (v + 1)) ∧ (∀ j, j < p → mr' 16 (itr f j v) = 1) ∧ (∀ u, (∀ j, j < p → itr f j v ≠ u) → mr' 16 u = mr 16 u) ∧ (∀ a, a ≠ 16 → mr' a = mr a) := by
  intro d
  induction d with
  | zero =>
    intro k n mr hk hn h15 h1 h2
    obtain ⟨m, rfl⟩ : ∃ m, n = m + 1 := ⟨n - 1, by omega⟩
    rw [Nat.add_zero] at hk
    subst hk
    refine ⟨mr, ?_, h1, fun u _ => rfl, fun a _ => rfl⟩
    rw [f_X13_odd_61, hp1, ck_t (inb_nI (by omega) (by omega)), nI_clamp (by omega), show mr 16 v = 1 from h1 0 hp0, if_neg n10, if_pos rfl, nI_1]
  | succ d ih =>
    intro k n mr hk hn h15 h1 h2
    obtain ⟨m, rfl⟩ : ∃ m, n = m + 1 := ⟨n - 1, by omega⟩
    have hl := itr_lt hf k v hv
    have hfl := hf _ hl
    have ic := inb_nI (N := 256) (n := itr f k v) (by omega) (by omega)
    have hnx : itr f (k + 1) v = f (itr f k v) := rfl
    obtain ⟨mr', a1, a2, a3, a4⟩ := ih (k + 1) m (va_up mr 16 (upd (mr 16) (itr f k v) 1)) (by omega) (by omega) (fun u hu => by rw [up_n (by omega)]; exact h15 u hu) (fun j hj => by
      rw [up_s]
      by_cases e : itr f j v = itr f k v
      · rw [e, pk_us]
      · rw [pk_un e]
        by_cases ej : j = k
        · exact absurd (by rw [ej]) e
        · exact h1 j (by omega)) (fun j hj hj2 => by
      rw [up_s, pk_un (fun e => orb_ne hi hp2 (show k < j by omega) hj2 e.symm)]
      exact h2 j (by omega) hj2)
    refine ⟨mr', ?_, a2, fun u hu => ?_, fun a ha => ?_⟩
    · rw [f_X13_odd_61, ck_t ic, nI_clamp (by omega), h2 k (by omega) (by omega), if_pos rfl, ck_t ic, ck_t ic, h15 _ hl, if_neg (show ¬ k = p by omega)]
      show (if nI (f (itr f k v)) = nI v then f_X13_odd_96 mi ml K (f_X13_odd_61 mi ml K m) (va_up mr 16 (upd (mr 16) (itr f k v) 1)) x1 (nI v) (nI (itr f k v)) 0 (nI (c + k)) else f_X13_odd_96 mi ml K (f_X13_odd_61 mi ml K m) (va_up mr 16 (upd (mr 16) (itr f k v) 1)) x1 (nI v) (nI (itr f k v)) 1 (nI (c + k))) = _
      by_cases e : k + 1 = p
      · have e2 : f (itr f k v) = v := by rw [← hnx, e]; exact hp1
        rw [if_pos e] at a1
        rw [if_pos (by rw [e2]), f_X13_odd_96, ck_t ic, nI_clamp (by omega), up_n (show (15 : Nat) ≠ 16 by omega), h15 _ hl, ← hnx, show nI (c + k) + 0 = nI (c + (p - 1)) from by rw [show (0 : Int32) = nI 0 from rfl, nI_add]; congr 1; omega]
        exact a1
      · have e2 : ¬ nI (f (itr f k v)) = nI v := fun q => hp2 (k + 1) (by omega) (by omega) (nI_inj (by omega) (by omega) q)
        rw [if_neg e] at a1
        rw [if_neg e2, f_X13_odd_96, ck_t ic, nI_clamp (by omega), up_n (show (15 : Nat) ≠ 16 by omega), h15 _ hl, ← hnx, nI_1]
        exact a1
    · rw [a3 u hu, up_s, pk_un (fun e => hu k (by omega) e.symm)]
    · rw [a4 a ha, up_n ha]
theorem SN.or {N : Nat} {f : Nat → Nat} {M : Nat → Prop} {t t' : Nat → Int32} (h : SN N M t) {v p : Nat} (a2 : ∀ j, j < p → t' (itr f j v) = 1) (a3 : ∀ u, (∀ j, j < p → itr f j v ≠ u) → t' u = t u) : SN N (OR f v p M) t' := by
  intro u hu
  refine ⟨?_, fun q => ?_⟩
  · rintro (hm | ⟨j, h1, h2⟩)
    · by_cases e : ∃ j, j < p ∧ itr f j v = u
      · obtain ⟨j, h1, h2⟩ := e
        rw [← h2]
        exact a2 j h1
      · rw [a3 u (fun j h1 h2 => e ⟨j, h1, h2⟩)]
        exact (h u hu).1 hm
    · rw [← h2]
      exact a2 j h1
  · rw [a3 u (fun j h1 h2 => q (Or.inr ⟨j, h1, h2⟩))]
    exact (h u hu).2 (fun z => q (Or.inl z))
theorem xor_par (a b : Nat) : nI (a % 2) ^^^ nI (b % 2) = nI ((a + b) % 2) := by
  rw [nx_xor]
  congr 1
  have h1 := xor_mod2 a b
  have h2 : a % 2 ^^^ b % 2 < 2 ^ 1 := Nat.xor_lt_two_pow (Nat.mod_lt _ (by omega)) (Nat.mod_lt _ (by omega))
  have h3 := xor_mod2 (a % 2) (b % 2)
  omega
theorem odd_go {L j : Nat} {l : List FSt} {i0 i mi : Nat → Int32} {r : Nat → Nat → Int32} {ml : Nat → Nat → Int64} (hj : j < 8) (hf : fineF L l) (hF : FL L l i r) : ∀ (d k n n2 c : Nat) (M : Nat → Prop) (r0 mr : Nat → Nat → Int32), MF L l mr j → (∀ u, u < 2 ^ L → mr 15 u = nI (runS l u)) → TB (2 ^ L) (runS l) M (r0 0) → SN (2 ^ L) M (mr 16) → CL (2 ^ L) (runS l) M → c ≤ 256 * k → k + d = 2 ^ L → d < n → d < n2 → ∃ a q m, f_X8_oddness_12 i0 i r n r0 (nI (c % 2)) (nI k) = some (a, q) ∧ f_X13_odd_46 mi ml n2 mr (nI j) (nI c) (nI k) = some (a, m) := by
  have hL := hf.2.1
  have h256 := p2 hL
  have hlt : ∀ v, v < 2 ^ L → runS l v < 2 ^ L := fun v hv => runS_lt hf.2.2.2 hv
  have hin : ∀ v w, runS l v = runS l w → v = w := fun v w e => runS_inj hf.2.2.2 e
  have ij := inb_nI (N := 8) hj (by omega)
  intro d
  induction d with
  | zero =>
    intro k n n2 c M r0 mr hM h15 hT hS hC hc hk hn hn2
    obtain ⟨m, rfl⟩ : ∃ m, n = m + 1 := ⟨n - 1, by omega⟩
    obtain ⟨m2, rfl⟩ : ∃ m, n2 = m + 1 := ⟨n2 - 1, by omega⟩
    refine ⟨nI (c % 2), r0, mr, ?_, ?_⟩
    · rw [f_X8_oddness_12, rows_ok hL hF, bd_some, if_pos (nI_le (by omega) (by omega))]
    · rw [f_X13_odd_46, ck_t ij, nI_clamp (by omega), hM.1, sh1 (by omega), if_pos (nI_le (by omega) (by omega)), ck_t (by decide), show (2 : Int32) = nI 2 from rfl, pk_rem (by omega) (by omega) (by omega)]
  | succ d ih =>
    intro k n n2 c M r0 mr hM h15 hT hS hC hc hk hn hn2
    obtain ⟨m, rfl⟩ : ∃ m, n = m + 1 := ⟨n - 1, by omega⟩
    obtain ⟨m2, rfl⟩ : ∃ m, n2 = m + 1 := ⟨n2 - 1, by omega⟩
    have hk2 : k < 2 ^ L := by omega
    have ik := inb_nI (N := 256) (n := k) (by omega) (by omega)
    rw [f_X8_oddness_12, rows_ok hL hF, bd_some, if_neg (nI_ge (by omega) (by omega)), ck_t ik, nI_clamp (by omega), f_X13_odd_46, ck_t ij, nI_clamp (n := j) (by omega), hM.1, sh1 (by omega), if_neg (nI_ge (by omega) (by omega))]
    by_cases hm : M k
    · rw [if_pos ((hT k hk2).1 hm), f_X8_oddness_42, nI_1, show (2000000 : Nat) = 1999999 + 1 from rfl, f_X13_odd_61, ck_t ik, nI_clamp (by omega), (hS k hk2).1 hm, if_neg n10, nI_1]
      exact ih (k + 1) m m2 c M r0 mr hM h15 hT hS hC (by omega) (by omega) (by omega) (by omega)
    · obtain ⟨p, p1, p3, p4, p5⟩ := period hlt hin hk2
      obtain ⟨r', t1, t2⟩ := take_ok (i := i0) h256 hlt hin hT hC hk2 hm p1 p3 p4 p5
      obtain ⟨mr', s1, s2, s3, s4⟩ := seen_go (mi := mi) (ml := ml) (K := f_X13_odd_46 mi ml m2) (x1 := nI j) (c := c) h256 hlt hin hk2 p1 p4 p5 p 0 2000000 mr (by omega) (by omega) h15 (fun j hj => by omega) (fun j _ _ => (hS _ (itr_lt hlt j k hk2)).2 (fun q => hm ((hC.its hlt hk2 j).mpr q)))
      have s1' : f_X13_odd_61 mi ml (f_X13_odd_46 mi ml m2) 2000000 mr (nI j) (nI c) (nI k) (nI k) = f_X13_odd_46 mi ml m2 mr' (nI j) (nI (c + (p - 1))) (nI (k + 1)) := by
        rw [if_neg (show ¬ 0 = p by omega)] at s1
        exact s1
      have hpar : nI (c % 2) ^^^ ((nI p - 1) &&& 1) = nI ((c + (p - 1)) % 2) := by
        rw [show (1 : Int32) = nI 1 from rfl, pk_sub p1, show nI (p - 1) &&& nI 1 = nI ((p - 1) % 2) from and1 (by omega), xor_par]
      rw [if_neg (by rw [(hT k hk2).2 hm]; exact nm1 (by have := hlt k hk2; omega)), t1, bd_some, f_X8_oddness_42, s1']
      show ∃ a q m_1, f_X8_oddness_12 i0 i r m r' (nI (c % 2) ^^^ ((nI p - 1) &&& 1)) (nI k + 1) = some (a, q) ∧ _
      rw [hpar, nI_1]
      refine ih (k + 1) m m2 (c + (p - 1)) (OR (runS l) k p M) r' mr' (hM.congr (s4 10 (by omega)) (s4 11 (by omega)) (s4 12 (by omega)) (s4 13 (by omega)) (s4 14 (by omega))) (fun u hu => by rw [s4 15 (by omega)]; exact h15 u hu) t2 (hS.or s2 s3) (hC.or hin p1 p4) (by omega) (by omega) (by omega) (by omega)
theorem clear_go {L j : Nat} {l : List FSt} {mi : Nat → Int32} {ml : Nat → Nat → Int64} {c : Int32} (hj : j < 8) (hf : fineF L l) : ∀ (d k n : Nat) (mr : Nat → Nat → Int32), MF L l mr j → (∀ v, v < k → mr 16 v = 0) → k + d = 2 ^ L → d < n → ∃ mr', f_X13_odd_19 mi ml n mr (nI j) c (nI k) = f_X13_odd_46 mi ml 2000000 mr' (nI j) c 0 ∧ (∀ v, v < 2 ^ L → mr' 16 v = 0) ∧ ∀ a, a ≠ 16 → mr' a = mr a := by
  have hL := hf.2.1
  have h256 := p2 hL
  have ij := inb_nI (N := 8) hj (by omega)
  intro d
  induction d with
  | zero =>
    intro k n mr hM hT hk hn
    obtain ⟨m, rfl⟩ : ∃ m, n = m + 1 := ⟨n - 1, by omega⟩
    refine ⟨mr, ?_, fun v hv => hT v (by omega), fun _ _ => rfl⟩
    rw [f_X13_odd_19, ck_t ij, nI_clamp (by omega), hM.1, sh1 (by omega), if_pos (nI_le (by omega) (by omega))]
  | succ d ih =>
    intro k n mr hM hT hk hn
    obtain ⟨m, rfl⟩ : ∃ m, n = m + 1 := ⟨n - 1, by omega⟩
    obtain ⟨mr', a1, a2, a3⟩ := ih (k + 1) m (va_up mr 16 (upd (mr 16) k 0)) (hM.congr (up_n (by omega)) (up_n (by omega)) (up_n (by omega)) (up_n (by omega)) (up_n (by omega))) (fun v hv => by
      rw [up_s]
      by_cases e : v = k
      · rw [e, pk_us]
      · rw [pk_un e]
        exact hT v (by omega)) (by omega) (by omega)
    refine ⟨mr', ?_, a2, fun a ha => by rw [a3 a ha, up_n ha]⟩
    rw [f_X13_odd_19, ck_t ij, nI_clamp (n := j) (by omega), hM.1, sh1 (by omega), if_neg (nI_ge (by omega) (by omega)), ck_t (inb_nI (by omega) (by omega)), nI_clamp (by omega), nI_1]
    exact a1
theorem odd_ok {P : Nat → Nat → Int32} {S : Nat → Nat → Nat → Int32} {i mi : Nat → Int32} {r mr : Nat → Nat → Int32} {ml : Nat → Nat → Int64} (h : GF P S mr) (x1 : Int32) : ∃ q m, f_X11_odd i r P S x1 = some q ∧ f_X13_odd mi mr ml x1 = some m ∧ q.1 = m.1 := by
  rcases fl_cases x1 with ⟨j, hj, hx, ha, hb⟩ | ⟨ha, hb⟩
  · obtain ⟨L, l, hf, hF, hM⟩ := h j hj
    have h256 := p2 hf.2.1
    have c6 := inb_nI (N := 6) hj (by omega)
    obtain ⟨g, g1, g2⟩ := fillT hf hF (r 0)
    obtain ⟨mr1, e1, e2⟩ := findT (mi := mi) (ml := ml) (show j < 8 by omega) hf hM
    have F := fr_X13_findTable e1
    obtain ⟨mr2, b1, b2, b3⟩ := clear_go (mi := mi) (ml := ml) (c := 0) (show j < 8 by omega) hf (2 ^ L) 0 2000000 mr1 (hM.congr (F 10 (by omega)) (F 11 (by omega)) (F 12 (by omega)) (F 13 (by omega)) (F 14 (by omega))) (fun v hv => by omega) (by omega) (by omega)
    obtain ⟨a, q, m, k1, k2⟩ := odd_go (i0 := i) (mi := mi) (ml := ml) (show j < 8 by omega) hf hF (2 ^ L) 0 2000000 2000000 0 (fun _ => False) (va_up r 0 g) mr2 (hM.congr ((b3 10 (by omega)).trans (F 10 (by omega))) ((b3 11 (by omega)).trans (F 11 (by omega))) ((b3 12 (by omega)).trans (F 12 (by omega))) ((b3 13 (by omega)).trans (F 13 (by omega))) ((b3 14 (by omega)).trans (F 14 (by omega)))) (fun u hu => by rw [b3 15 (by omega)]; exact e2 u hu) (fun u hu => ⟨fun q => q.elim, fun _ => by rw [up_s]; exact g2 u hu⟩) (fun u hu => ⟨fun q => q.elim, fun _ => b2 u hu⟩) (fun u hu => Iff.rfl) (by omega) (by omega) (by omega) (by omega)
    have k1' : f_X8_oddness_12 i (P j) (S j) 2000000 (va_up r 0 g) 0 0 = some (a, q) := k1
    have k2' : f_X13_odd_46 mi ml 2000000 mr2 (nI j) 0 0 = some (a, m) := k2
    have b1' : f_X13_odd_19 mi ml 2000000 mr1 (nI j) 0 0 = f_X13_odd_46 mi ml 2000000 mr2 (nI j) 0 0 := b1
    refine ⟨(a, q), (a, m), ?_, ?_, rfl⟩
    · rw [f_X11_odd, ha, bd_some, if_pos rfl, hx, ck_t c6, nI_clamp (by omega), f_X8_oddness, g1, bd_some, k1']
      rfl
    · rw [f_X13_odd, hb, bd_some, if_neg n10, hx, e1, bd_some, b1', k2']
  · refine ⟨(-2, r), (-2, mr), ?_, ?_, rfl⟩
    · rw [f_X11_odd, ha, bd_some, if_neg n10]
    · rw [f_X13_odd, hb, bd_some, if_pos rfl]
