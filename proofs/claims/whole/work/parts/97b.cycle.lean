/-! ===== a FLOOR's table is one to one; cycle ===== -/
theorem pow_and {a h : Nat} (hb : h.testBit a = false) : 2 ^ a &&& h = 0 := by
  apply Nat.eq_of_testBit_eq
  intro i
  rw [Nat.testBit_and, Nat.testBit_two_pow, Nat.zero_testBit]
  by_cases e : a = i
  · subst e
    simp [hb]
  · simp [e]
theorem xor_and {v m h : Nat} (hm : m &&& h = 0) : (v ^^^ m) &&& h = v &&& h := by
  rw [Nat.and_xor_distrib_right, hm, Nat.xor_zero]
theorem dm_bit (v a : Nat) : v / 2 ^ a % 2 = (v.testBit a).toNat := by
  rw [Nat.testBit_eq_decide_div_mod_eq]
  have : v / 2 ^ a % 2 < 2 := Nat.mod_lt _ (by omega)
  by_cases h : v / 2 ^ a % 2 = 1
  · simp [h]
  · have h0 : v / 2 ^ a % 2 = 0 := by omega
    simp [h0]
theorem apS_inv {L : Nat} {t : FSt} (ht : wfS L t) (v : Nat) : apS t (apS t v) = v := by
  obtain ⟨a, o, g⟩ := t
  obtain ⟨w1, w2, w3, w4⟩ := ht
  by_cases e : v &&& g = g
  · cases o with
    | none =>
      have e1 : apS (a, none, g) v = v ^^^ 2 ^ a := by
        unfold apS
        exact if_pos e
      have e2 : (v ^^^ 2 ^ a) &&& g = g := by rw [xor_and (pow_and w3)]; exact e
      rw [e1]
      unfold apS
      show (if (v ^^^ 2 ^ a) &&& g = g then v ^^^ 2 ^ a ^^^ 2 ^ a else v ^^^ 2 ^ a) = v
      rw [if_pos e2, Nat.xor_assoc, Nat.xor_self, Nat.xor_zero]
    | some b =>
      obtain ⟨hb1, hb2, hb3⟩ := w4 b rfl
      have hab : b ≠ a := hb2
      have e1 : apS (a, some b, g) v = v ^^^ ((v / 2 ^ a + v / 2 ^ b) % 2 * 2 ^ a) ^^^ ((v / 2 ^ a + v / 2 ^ b) % 2 * 2 ^ b) := by
        unfold apS
        exact if_pos e
      rcases Nat.mod_two_eq_zero_or_one (v / 2 ^ a + v / 2 ^ b) with h0 | h1
      · have e2 : apS (a, some b, g) v = v := by rw [e1, h0]; simp
        rw [e2, e2]
      · have e2 : apS (a, some b, g) v = v ^^^ 2 ^ a ^^^ 2 ^ b := by rw [e1, h1, Nat.one_mul, Nat.one_mul]
        rw [e2]
        have e3 : (v ^^^ 2 ^ a ^^^ 2 ^ b) &&& g = g := by rw [xor_and (pow_and hb3), xor_and (pow_and w3)]; exact e
        have ta : (v ^^^ 2 ^ a ^^^ 2 ^ b) / 2 ^ a % 2 = (! v.testBit a).toNat := by
          rw [dm_bit, Nat.testBit_xor, Nat.testBit_xor, Nat.testBit_two_pow, Nat.testBit_two_pow]
          simp [hab]
        have tb : (v ^^^ 2 ^ a ^^^ 2 ^ b) / 2 ^ b % 2 = (! v.testBit b).toNat := by
          rw [dm_bit, Nat.testBit_xor, Nat.testBit_xor, Nat.testBit_two_pow, Nat.testBit_two_pow]
          have hab' : ¬ a = b := fun q => hab q.symm
          simp [hab']
        have va := dm_bit v a
        have vb := dm_bit v b
        have h2 : ((v ^^^ 2 ^ a ^^^ 2 ^ b) / 2 ^ a + (v ^^^ 2 ^ a ^^^ 2 ^ b) / 2 ^ b) % 2 = 1 := by
          cases hA : v.testBit a <;> cases hB : v.testBit b <;> rw [hA] at ta va <;> rw [hB] at tb vb <;> simp at ta tb va vb <;> omega
        unfold apS
        show (if (v ^^^ 2 ^ a ^^^ 2 ^ b) &&& g = g then (v ^^^ 2 ^ a ^^^ 2 ^ b) ^^^ (((v ^^^ 2 ^ a ^^^ 2 ^ b) / 2 ^ a + (v ^^^ 2 ^ a ^^^ 2 ^ b) / 2 ^ b) % 2 * 2 ^ a) ^^^ (((v ^^^ 2 ^ a ^^^ 2 ^ b) / 2 ^ a + (v ^^^ 2 ^ a ^^^ 2 ^ b) / 2 ^ b) % 2 * 2 ^ b) else _) = v
        rw [if_pos e3, h2, Nat.one_mul, Nat.one_mul, Nat.xor_assoc, Nat.xor_assoc, Nat.xor_assoc, Nat.xor_comm (2 ^ b) (2 ^ a ^^^ 2 ^ b), Nat.xor_assoc, Nat.xor_self, Nat.xor_zero, Nat.xor_self, Nat.xor_zero]
  · have e1 : apS (a, o, g) v = v := by
      unfold apS
      exact if_neg e
    rw [e1, e1]
theorem runS_inv {L : Nat} : ∀ {l : List FSt}, (∀ t ∈ l, wfS L t) → ∀ v, runS l.reverse (runS l v) = v
  | [], _, v => rfl
  | t :: l, h, v => by
    show runS (t :: l).reverse (runS l (apS t v)) = v
    rw [List.reverse_cons]
    show List.foldl (fun v t => apS t v) (runS l (apS t v)) (l.reverse ++ [t]) = v
    rw [List.foldl_append]
    show apS t (runS l.reverse (runS l (apS t v))) = v
    rw [runS_inv (fun x hx => h x (List.mem_cons_of_mem _ hx)), apS_inv (h t List.mem_cons_self)]
theorem runS_inj {L : Nat} {l : List FSt} (h : ∀ t ∈ l, wfS L t) {v w : Nat} (e : runS l v = runS l w) : v = w := by
  rw [← runS_inv h v, e, runS_inv h w]
/-- n times -/
def itr (f : Nat → Nat) : Nat → Nat → Nat
  | 0, v => v
  | n + 1, v => f (itr f n v)
theorem pigeon : ∀ (N : Nat) (g : Nat → Nat), (∀ i, i ≤ N → g i < N) → ∃ i j, i < j ∧ j ≤ N ∧ g i = g j
  | 0, g, h => absurd (h 0 (by omega)) (by omega)
  | N + 1, g, h => by
    by_cases hx : ∃ i, i < N + 1 ∧ g i = g (N + 1)
    · obtain ⟨i, h1, h2⟩ := hx
      exact ⟨i, N + 1, h1, by omega, h2⟩
    · have hn : ∀ i, i < N + 1 → g i ≠ g (N + 1) := fun i h1 h2 => hx ⟨i, h1, h2⟩
      obtain ⟨i, j, h1, h2, h3⟩ := pigeon N (fun i => if g i = N then g (N + 1) else g i) (fun i hi => by
        show (if g i = N then g (N + 1) else g i) < N
        by_cases e : g i = N
        · rw [if_pos e]
          have := hn i (by omega)
          have := h (N + 1) (by omega)
          omega
        · rw [if_neg e]
          have := h i (by omega)
          omega)
      refine ⟨i, j, h1, by omega, ?_⟩
      have h3 : (if g i = N then g (N + 1) else g i) = (if g j = N then g (N + 1) else g j) := h3
      by_cases ei : g i = N <;> by_cases ej : g j = N
      · rw [ei, ej]
      · rw [if_pos ei, if_neg ej] at h3
        exact absurd h3.symm (hn j (by omega))
      · rw [if_neg ei, if_pos ej] at h3
        exact absurd h3 (hn i (by omega))
      · rw [if_neg ei, if_neg ej] at h3
        exact h3
theorem itr_lt {f : Nat → Nat} {N : Nat} (hf : ∀ v, v < N → f v < N) : ∀ (n v : Nat), v < N → itr f n v < N
  | 0, _, h => h
  | n + 1, v, h => hf _ (itr_lt hf n v h)
theorem itr_back {f : Nat → Nat} (hi : ∀ v w, f v = f w → v = w) (v : Nat) : ∀ (i d : Nat), itr f i v = itr f (i + d) v → v = itr f d v
  | 0, d, h => by rw [Nat.zero_add] at h; exact h
  | i + 1, d, h => by
    rw [show i + 1 + d = (i + d) + 1 by omega] at h
    exact itr_back hi v i d (hi _ _ h)
/-- the least number of times that brings v home -/
theorem period {f : Nat → Nat} {N v : Nat} (hf : ∀ v, v < N → f v < N) (hi : ∀ v w, f v = f w → v = w) (hv : v < N) : ∃ p, 1 ≤ p ∧ p ≤ N ∧ itr f p v = v ∧ ∀ k, 1 ≤ k → k < p → itr f k v ≠ v := by
  obtain ⟨i, j, h1, h2, h3⟩ := pigeon N (fun i => itr f i v) (fun i _ => itr_lt hf i v hv)
  have h4 : v = itr f (j - i) v := itr_back hi v i (j - i) (by rw [show i + (j - i) = j by omega]; exact h3)
  obtain ⟨p, ⟨q1, q2⟩, q3⟩ := pk_least (fun p => 1 ≤ p ∧ itr f p v = v) ⟨j - i, by omega, h4.symm⟩
  have q4 : p ≤ j - i := Nat.le_of_not_lt fun h => q3 _ h ⟨by omega, h4.symm⟩
  exact ⟨p, q1, by omega, q2, fun k k1 k2 k3 => q3 k k2 ⟨k1, k3⟩⟩
theorem runs_go {L : Nat} {l : List FSt} {i : Nat → Int32} {r : Nat → Nat → Int32} (hf : fineF L l) (h : FL L l i r) {v p : Nat} (hv : v < 2 ^ L) (hp : p ≤ 2 ^ L) (hp1 : itr (runS l) p v = v) (hp2 : ∀ k, 1 ≤ k → k < p → itr (runS l) k v ≠ v) : ∀ (d k n : Nat), k + d = p → 1 ≤ k → d < n → f_X2_runsTillThereAgain_9 i r n (nI v) (nI (itr (runS l) k v)) (nI k) = some (nI p) := by
  have h256 := p2 hf.2.1
  have hlt : ∀ k, itr (runS l) k v < 2 ^ L := fun k => itr_lt (fun v hv => runS_lt hf.2.2.2 hv) k v hv
  intro d
  induction d with
  | zero =>
    intro k n hk h1 hn
    obtain ⟨m, rfl⟩ : ∃ m, n = m + 1 := ⟨n - 1, by omega⟩
    rw [Nat.add_zero] at hk
    subst hk
    rw [f_X2_runsTillThereAgain_9, hp1, if_pos rfl]
  | succ d ih =>
    intro k n hk h1 hn
    obtain ⟨m, rfl⟩ : ∃ m, n = m + 1 := ⟨n - 1, by omega⟩
    have hl := hlt k
    rw [f_X2_runsTillThereAgain_9, if_neg (fun q => hp2 k h1 (by omega) (nI_inj (by omega) (by omega) q)), if_neg (show ¬ (256 : Int32) ≤ nI k from nI_ge (b := 256) (by omega) (by omega)), outOf_ok hf h hl, bd_some, nI_1]
    exact ih (k + 1) m (by omega) (by omega) (by omega)
theorem MF.congr {L j : Nat} {l : List FSt} {mr mr' : Nat → Nat → Int32} (h : MF L l mr j) (h0 : mr' 10 = mr 10) (h1 : mr' 11 = mr 11) (h2 : mr' 12 = mr 12) (h3 : mr' 13 = mr 13) (h4 : mr' 14 = mr 14) : MF L l mr' j := by
  unfold MF at h ⊢
  rw [h0, h1, h2, h3, h4]
  exact h
theorem findT_go {L j : Nat} {l : List FSt} {mi : Nat → Int32} {ml : Nat → Nat → Int64} (hj : j < 8) (hf : fineF L l) : ∀ (d k n : Nat) (mr : Nat → Nat → Int32), MF L l mr j → (∀ v, v < k → mr 15 v = nI (runS l v)) → k + d = 2 ^ L → d < n → ∃ mr', f_X13_findTable_2 mi ml n mr (nI j) (nI k) = some mr' ∧ ∀ v, v < 2 ^ L → mr' 15 v = nI (runS l v) := by
  have hL := hf.2.1
  have h256 := p2 hL
  have ij := inb_nI (N := 8) hj (by omega)
  intro d
  induction d with
  | zero =>
    intro k n mr hM hT hk hn
    obtain ⟨m, rfl⟩ : ∃ m, n = m + 1 := ⟨n - 1, by omega⟩
    refine ⟨mr, ?_, fun v hv => hT v (by omega)⟩
    rw [f_X13_findTable_2, ck_t ij, nI_clamp (by omega), hM.1, sh1 (by omega), if_pos (nI_le (by omega) (by omega))]
  | succ d ih =>
    intro k n mr hM hT hk hn
    obtain ⟨m, rfl⟩ : ∃ m, n = m + 1 := ⟨n - 1, by omega⟩
    have hk2 : k < 2 ^ L := by omega
    rw [f_X13_findTable_2, ck_t ij, nI_clamp (n := j) (by omega), hM.1, sh1 (by omega), if_neg (nI_ge (by omega) (by omega)), outBut_ok hj hf hM hk2, bd_some, ck_t (inb_nI (by omega) (by omega)), nI_clamp (by omega), nI_1]
    refine ih (k + 1) m _ (hM.congr (up_n (by omega)) (up_n (by omega)) (up_n (by omega)) (up_n (by omega)) (up_n (by omega))) (fun v hv => ?_) (by omega) (by omega)
    rw [up_s]
    by_cases e : v = k
    · subst e
      rw [pk_us]
    · rw [pk_un e]
      exact hT v (by omega)
theorem findT {L j : Nat} {l : List FSt} {mi : Nat → Int32} {mr : Nat → Nat → Int32} {ml : Nat → Nat → Int64} (hj : j < 8) (hf : fineF L l) (hM : MF L l mr j) : ∃ mr', f_X13_findTable mi mr ml (nI j) = some mr' ∧ ∀ v, v < 2 ^ L → mr' 15 v = nI (runS l v) := by
  have h256 := p2 hf.2.1
  rw [f_X13_findTable]
  exact findT_go hj hf (2 ^ L) 0 2000000 mr hM (fun v hv => by omega) (by omega) (by omega)
theorem cycle_go {L : Nat} {l : List FSt} {mi : Nat → Int32} {mr : Nat → Nat → Int32} {ml : Nat → Nat → Int64} (hf : fineF L l) (hT : ∀ v, v < 2 ^ L → mr 15 v = nI (runS l v)) {v p : Nat} (hv : v < 2 ^ L) (hp : p ≤ 2 ^ L) (hp1 : itr (runS l) p v = v) (hp2 : ∀ k, 1 ≤ k → k < p → itr (runS l) k v ≠ v) : ∀ (d k n : Nat), k + d = p → 1 ≤ k → d < n → f_X13_cycleOf_9 mi mr ml n (nI v) (nI k) (nI (itr (runS l) k v)) = some (nI p) := by
  have h256 := p2 hf.2.1
  have hlt : ∀ k, itr (runS l) k v < 2 ^ L := fun k => itr_lt (fun v hv => runS_lt hf.2.2.2 hv) k v hv
  intro d
  induction d with
  | zero =>
    intro k n hk h1 hn
    obtain ⟨m, rfl⟩ : ∃ m, n = m + 1 := ⟨n - 1, by omega⟩
    rw [Nat.add_zero] at hk
    subst hk
    rw [f_X13_cycleOf_9, hp1, if_pos rfl]
  | succ d ih =>
    intro k n hk h1 hn
    obtain ⟨m, rfl⟩ : ∃ m, n = m + 1 := ⟨n - 1, by omega⟩
    have hl := hlt k
    rw [f_X13_cycleOf_9, if_neg (fun q => hp2 k h1 (by omega) (nI_inj (by omega) (by omega) q)), ck_t (inb_nI (by omega) (by omega)), nI_clamp (by omega), hT _ hl, nI_1]
    exact ih (k + 1) m (by omega) (by omega) (by omega)
theorem cycleOf_ok {L : Nat} {l : List FSt} {mi : Nat → Int32} {mr : Nat → Nat → Int32} {ml : Nat → Nat → Int64} (hf : fineF L l) (hT : ∀ v, v < 2 ^ L → mr 15 v = nI (runS l v)) {v p : Nat} (hv : v < 2 ^ L) (hp0 : 1 ≤ p) (hp : p ≤ 2 ^ L) (hp1 : itr (runS l) p v = v) (hp2 : ∀ k, 1 ≤ k → k < p → itr (runS l) k v ≠ v) : f_X13_cycleOf mi mr ml (nI v) = some (nI p) := by
  have h256 := p2 hf.2.1
  rw [f_X13_cycleOf, ck_t (inb_nI (by omega) (by omega)), nI_clamp (by omega), hT v hv]
  exact cycle_go hf hT hv hp hp1 hp2 (p - 1) 1 2000000 (by omega) (by omega) (by omega)
theorem cycle_ok {P : Nat → Nat → Int32} {S : Nat → Nat → Nat → Int32} {mi : Nat → Int32} {mr : Nat → Nat → Int32} {ml : Nat → Nat → Int64} (h : GF P S mr) (x1 x2 : Int32) : ∃ q m, f_X11_cycle P S x1 x2 = some q ∧ f_X13_cycle mi mr ml x1 x2 = some m ∧ q = m.1 := by
  rcases fl_cases x1 with ⟨j, hj, hx, ha, hb⟩ | ⟨ha, hb⟩
  · obtain ⟨L, l, hf, hF, hM⟩ := h j hj
    have h256 := p2 hf.2.1
    have c6 := inb_nI (N := 6) hj (by omega)
    rw [f_X11_cycle, ha, bd_some, if_pos rfl, hx, ck_t c6, nI_clamp (by omega), f_X13_cycle, ← hx, hb, bd_some, if_neg n10, hx]
    rcases row_cases (mi := mi) (ml := ml) (show j < 8 by omega) hf.2.1 hF hM x2 with ⟨v, hv, hx2, hc, hd⟩ | ⟨hc, hd⟩
    · obtain ⟨p, p1, p3, p4, p5⟩ := period (f := runS l) (fun v hv => runS_lt hf.2.2.2 hv) (fun v w e => runS_inj hf.2.2.2 e) hv
      obtain ⟨mr', g1, g2⟩ := findT (mi := mi) (ml := ml) (show j < 8 by omega) hf hM
      rw [hc, bd_some, if_pos rfl, ck_t c6, hd, bd_some, if_neg n10, hx2, g1, bd_some, cycleOf_ok hf g2 hv p1 p3 p4 p5, bd_some, f_X2_runsTillThereAgain, outOf_ok hf hF hv, bd_some]
      have hr := runs_go hf hF hv p3 p4 p5 (p - 1) 1 2000000 (by omega) (by omega) (by omega)
      have hr' : f_X2_runsTillThereAgain_9 (P j) (S j) 2000000 (nI v) (nI (runS l v)) 1 = some (nI p) := hr
      rw [hr']
      exact ⟨_, _, rfl, rfl, rfl⟩
    · rw [hc, bd_some, if_neg n10, hd, bd_some, if_pos rfl]
      exact ⟨_, _, rfl, rfl, rfl⟩
  · rw [f_X11_cycle, ha, bd_some, if_neg n10, f_X13_cycle, hb, bd_some, if_pos rfl]
    exact ⟨_, _, rfl, rfl, rfl⟩
