/-! ===== CELLS: the class's side: the going ===== -/
theorem b_pow (k : Nat) {i : Nat} (hi : i < 32) : bq (nI (2 ^ k)) i = decide (k = i) := by rw [bqN _ hi, Nat.testBit_two_pow]
theorem b_one {i : Nat} (hi : i < 32) : bq (1 : Int32) i = decide (0 = i) := b_pow 0 hi
theorem b_shl1 (x : Int32) {i : Nat} (hi : i < 32) : bq (x <<< ((1 : Int32) &&& 31)) i = (decide (1 ≤ i) && bq x (i - 1)) := b_shl 1 (by omega) x hi
theorem b_sshr1 (x : Int32) {i : Nat} (hi : i < 32) : bq (x >>> ((1 : Int32) &&& 31)) i = if 1 + i < 32 then bq x (1 + i) else bq x 31 := b_sshr 1 (by omega) x hi
theorem last_ok {W : Nat} (h1 : 1 ≤ W) (h2 : W ≤ 10) : (1 : Int32) <<< ((nI W - 1) &&& 31) = nI (2 ^ (W - 1)) := by
  have e : nI W - 1 = nI (W - 1) := pk_sub (a := W) (b := 1) h1
  rw [e, sh1 (by omega)]
/-- a goes up by one place, its last comes from b -/
theorem goUp {W : Nat} {a b : Nat → Bool} (h1 : 1 ≤ W) (h2 : W ≤ 10) (ha : ∀ x, W ≤ x → a x = false) : (((nI (pkB a 10)) &&& (nI (2 ^ (W - 1)) ^^^ (-1))) <<< ((1 : Int32) &&& 31)) ||| ((nI (pkB b 10)) &&& 1) = nI (pkB (fun x => if x < W then (if x = 0 then b 0 else a (x - 1)) else false) 10) := by
  refine pkB_ext (fun i hi => ?_)
  have hi1 : i - 1 < 32 := by omega
  rw [b_or, b_shl1 _ hi, b_and, b_and, b_xor, b_m1 _ hi1, bqP _ _ hi1, bqP _ _ hi, b_pow _ hi1, b_one hi]
  by_cases h0 : i = 0
  · subst h0
    simp [show 0 < W by omega]
  · by_cases hw : i < W
    · have e1 : ¬ (W - 1 = i - 1) := by omega
      have e2 : i - 1 < 10 := by omega
      have e3 : i < 10 := by omega
      have e4 : 1 ≤ i := by omega
      have e5 : ¬ 0 = i := by omega
      simp [h0, hw, e1, e2, e3, e4, e5]
    · have e5 : ¬ 0 = i := by omega
      by_cases e6 : i = W
      · have e7 : W - 1 = i - 1 := by omega
        simp [h0, hw, e5, e7]
      · have e8 : a (i - 1) = false := ha (i - 1) (by omega)
        simp [h0, hw, e5, e8]
/-- a goes down by one place, its first comes from b -/
theorem goDown {W : Nat} {a b : Nat → Bool} (h1 : 1 ≤ W) (h2 : W ≤ 10) (ha : ∀ x, W ≤ x → a x = false) : ((nI (pkB a 10)) >>> ((1 : Int32) &&& 31)) ||| ((nI (pkB b 10)) &&& nI (2 ^ (W - 1))) = nI (pkB (fun x => if x < W then (if x + 1 = W then b x else a (x + 1)) else false) 10) := by
  refine pkB_ext (fun i hi => ?_)
  rw [b_or, b_sshr1 _ hi, b_and, bqP _ _ hi, b_pow _ hi]
  have eL : (if 1 + i < 32 then bq (nI (pkB a 10)) (1 + i) else bq (nI (pkB a 10)) 31) = (decide (1 + i < 10) && a (1 + i)) := by
    by_cases h : 1 + i < 32
    · rw [if_pos h, bqP _ _ h]
    · rw [if_neg h, bqP _ _ (by omega)]
      simp [show ¬ 1 + i < 10 by omega]
  rw [eL, Nat.add_comm 1 i]
  by_cases hw : i < W
  · by_cases e : i + 1 = W
    · have e1 : W - 1 = i := by omega
      have e2 : a (i + 1) = false := ha (i + 1) (by omega)
      simp [hw, e, e1, e2, show a W = false from ha W (by omega)]
    · have e1 : ¬ W - 1 = i := by omega
      have e2 : i + 1 < 10 := by omega
      have e3 : i < 10 := by omega
      simp [hw, e, e1, e2, e3]
  · have e1 : ¬ W - 1 = i := by omega
    have e2 : a (i + 1) = false := ha (i + 1) (by omega)
    simp [hw, e1, e2]

def gA (W H : Nat) (m : CT) (k : Nat) : CT := fun w y => if y < k ∧ (w = 0 ∨ w = 2) then mv W H m w y else m w y
theorem mvA_go {i : Nat → Int32} {W H : Nat} {m : CT} (h1 : 1 ≤ W) (h2 : W ≤ 10) (hH1 : 1 ≤ H) (hH : H ≤ 10) (hin : ∀ w y x, ¬ (y < H ∧ x < W) → m w y x = false) (h4 : i 4 = nI H) : ∀ (d k n : Nat) (r : Nat → Nat → Int32), k + d = H → d < n → CBr 10 r (gA W H m k) → ∃ r', f_X0_moveAll_11 i n r (nI (2 ^ (W - 1))) (nI k) = f_X0_moveAll_111 i 2000000 r' (nI (pkB (m 1 (H - 1)) 10)) (nI (pkB (m 3 0) 10)) (nI (H - 1)) ∧ CBr 10 r' (gA W H m H) ∧ ∀ s, 20 ≤ s → r' s = r s := by
  intro d
  induction d with
  | zero =>
    intro k n r hk hn hC
    obtain ⟨q, rfl⟩ : ∃ q, n = q + 1 := ⟨n - 1, by omega⟩
    have e : k = H := by omega
    subst e
    refine ⟨r, ?_, hC, fun _ _ => rfl⟩
    have eH : nI k - 1 = nI (k - 1) := pk_sub (a := k) (b := 1) hH1
    have c1 : r (10 + 1) (k - 1) = nI (pkB (m 1 (k - 1)) 10) := by
      rw [hC 1 (by omega) _ (by omega)]
      exact congrArg nI (pkB_congr (fun x _ => by simp [gA]))
    have c3 : r (10 + 3) 0 = nI (pkB (m 3 0) 10) := by
      rw [hC 3 (by omega) _ (by omega)]
      exact congrArg nI (pkB_congr (fun x _ => by simp [gA]))
    have i0 : inb (0 : Int32) 10 = true := inb_nI (n := 0) (by omega) (by omega)
    have ik : inb (nI (k - 1)) 10 = true := inb_nI (by omega) (by omega)
    have z0 : (0 : Int32).toNatClampNeg = 0 := nI_clamp (n := 0) (by omega)
    rw [f_X0_moveAll_11, h4, if_pos (nI_le (by omega) (by omega)), eH, ck_t ik, ck_t i0, nI_clamp (n := k - 1) (by omega), z0, c1, c3]
    all_goals rfl
  | succ d ih =>
    intro k n r hk hn hC
    obtain ⟨q, rfl⟩ : ∃ q, n = q + 1 := ⟨n - 1, by omega⟩
    have ik : inb (nI k) 10 = true := inb_nI (by omega) (by omega)
    have ck2 : (nI k).toNatClampNeg = k := nI_clamp (by omega)
    have hk10 : k < 10 := by omega
    have c0 : r (10 + 0) k = nI (pkB (m 0 k) 10) := by
      rw [hC 0 (by omega) k hk10]
      exact congrArg nI (pkB_congr (fun x _ => by simp [gA]))
    have c2 : r (10 + 2) k = nI (pkB (m 2 k) 10) := by
      rw [hC 2 (by omega) k hk10]
      exact congrArg nI (pkB_congr (fun x _ => by simp [gA]))
    have v0 := goUp (a := m 0 k) (b := m 2 k) h1 h2 (fun x hx => hin _ _ _ (by omega))
    have v2 := goDown (a := m 2 k) (b := m 0 k) h1 h2 (fun x hx => hin _ _ _ (by omega))
    obtain ⟨o, ho⟩ : ∃ o, f_X0_moveAll_11 i (q + 1) r (nI (2 ^ (W - 1))) (nI k) = o := ⟨_, rfl⟩
    rw [ho]
    rw [f_X0_moveAll_11, h4, if_neg (nI_ge (by omega) (by omega)), ck_t ik, ck_t ik, ck_t ik, ck_t ik, ck2, c0, c2, v0, v2, f_X0_moveAll_74, nI_1] at ho
    have hC1 := (hC.put (w := 0) (y := k) (fun x => if x < W then (if x = 0 then m 2 k 0 else m 0 k (x - 1)) else false) rfl).put' (w := 2) (y := k) (row := r (10 + 2)) (fun x => if x < W then (if x + 1 = W then m 0 k x else m 2 k (x + 1)) else false) rfl (by rw [up_n (by omega)])
    obtain ⟨r2, b1, b2, b3⟩ := ih (k + 1) q _ (by omega) (by omega) (hC1.congr (g := gA W H m (k + 1)) (fun w hw y hy x hx => by
      unfold gA
      by_cases e : y = k
      · subst e
        have e1 : y < H := by omega
        rcases w4 hw with h | h | h | h <;> subst h <;> simp [mv, e1]
      · by_cases e2 : y < k
        · simp [e, e2, show y < k + 1 by omega]
        · simp [e, e2, show ¬ y < k + 1 by omega]))
    subst ho
    refine ⟨r2, b1, b2, fun s hs => (b3 s hs).trans ?_⟩
    rw [up_n (by omega), up_n (by omega)]
def gRd (W H : Nat) (m : CT) (k : Nat) : CT := fun w y => if w = 1 ∧ k < y ∧ y < H then m 1 (y - 1) else gA W H m H w y
def gRa (W H : Nat) (m : CT) (k : Nat) : CT := fun w y => if w = 3 ∧ y < k then m 3 (y + 1) else gRd W H m 0 w y
theorem mvD_go {i : Nat → Int32} {W H : Nat} {m : CT} (h1 : 1 ≤ W) (h2 : W ≤ 10) (hH1 : 1 ≤ H) (hH : H ≤ 10) (hin : ∀ w y x, ¬ (y < H ∧ x < W) → m w y x = false) (h4 : i 4 = nI H) : ∀ (k n : Nat) (r : Nat → Nat → Int32), k < H → k < n → CBr 10 r (gRd W H m k) → ∃ r', f_X0_moveAll_111 i n r (nI (pkB (m 1 (H - 1)) 10)) (nI (pkB (m 3 0) 10)) (nI k) = f_X0_moveAll_145 i 2000000 r' (nI (pkB (m 1 (H - 1)) 10)) (nI (pkB (m 3 0) 10)) (nI 0) ∧ CBr 10 r' (gRd W H m 0) ∧ ∀ s, 20 ≤ s → r' s = r s := by
  intro k
  induction k with
  | zero =>
    intro n r hk hn hC
    obtain ⟨q, rfl⟩ : ∃ q, n = q + 1 := ⟨n - 1, by omega⟩
    have hle : nI 0 ≤ (0 : Int32) := nI_le (a := 0) (b := 0) (by omega) (by omega)
    refine ⟨r, ?_, hC, fun _ _ => rfl⟩
    rw [f_X0_moveAll_111, if_pos hle]
    all_goals rfl
  | succ k ih =>
    intro n r hk hn hC
    obtain ⟨q, rfl⟩ : ∃ q, n = q + 1 := ⟨n - 1, by omega⟩
    have ik : inb (nI (k + 1)) 10 = true := inb_nI (by omega) (by omega)
    have ik1 : inb (nI k) 10 = true := inb_nI (by omega) (by omega)
    have e1 : nI (k + 1) - 1 = nI k := nI_pred k
    have e2 : nI (k + 1) + (-1) = nI k := by rw [← m1_eq, e1]
    have cc : r (10 + 1) k = nI (pkB (m 1 k) 10) := by
      rw [hC 1 (by omega) k (by omega)]
      refine congrArg nI (pkB_congr (fun x _ => ?_))
      simp [gRd, gRa, gA, show ¬ k + 1 < k by omega]
    have hC1 := hC.put (w := 1) (y := k + 1) (m 1 k) rfl
    obtain ⟨r2, b1, b2, b3⟩ := ih q _ (by omega) (by omega) (hC1.congr (g := gRd W H m k) (fun w hw y hy x hx => by
      unfold gRd
      by_cases e : w = 1
      · subst e
        by_cases e3 : y = k + 1
        · subst e3
          simp [show k + 1 < H by omega]
        · by_cases e4 : k + 1 < y
          · simp [e3, e4, show k < y by omega]
          · simp [e3, e4, show ¬ k < y by omega]
      · simp [e]))
    refine ⟨r2, ?_, b2, fun s hs => (b3 s hs).trans (by rw [up_n (by omega)])⟩
    rw [f_X0_moveAll_111, if_neg (nI_nle (by omega) (by omega)), e1, ck_t ik1, ck_t ik, nI_clamp (n := k + 1) (by omega), nI_clamp (n := k) (by omega), e2, cc]
    exact b1
theorem mvU_go {i : Nat → Int32} {W H : Nat} {m : CT} (h1 : 1 ≤ W) (h2 : W ≤ 10) (hH1 : 1 ≤ H) (hH : H ≤ 10) (hin : ∀ w y x, ¬ (y < H ∧ x < W) → m w y x = false) (h4 : i 4 = nI H) : ∀ (d k n : Nat) (r : Nat → Nat → Int32), k + d = H - 1 → d < n → CBr 10 r (gRa W H m k) → ∃ r', f_X0_moveAll_145 i n r (nI (pkB (m 1 (H - 1)) 10)) (nI (pkB (m 3 0) 10)) (nI k) = some r' ∧ CBr 10 r' (mv W H m) ∧ ∀ s, 20 ≤ s → r' s = r s := by
  intro d
  have eH : nI H - 1 = nI (H - 1) := pk_sub (a := H) (b := 1) hH1
  induction d with
  | zero =>
    intro k n r hk hn hC
    obtain ⟨q, rfl⟩ : ∃ q, n = q + 1 := ⟨n - 1, by omega⟩
    have e : k = H - 1 := by omega
    subst e
    have hC1 := (hC.put (w := 1) (y := 0) (m 3 0) rfl).put' (w := 3) (y := (H - 1)) (row := r (10 + 3)) (m 1 (H - 1)) rfl (by rw [up_n (by omega)])
    refine ⟨_, ?_, hC1.congr (g := mv W H m) (fun w hw y hy x hx => ?_), fun s hs => by rw [up_n (by omega), up_n (by omega)]⟩
    · have i0 : inb (0 : Int32) 10 = true := inb_nI (n := 0) (by omega) (by omega)
      have ik : inb (nI (H - 1)) 10 = true := inb_nI (by omega) (by omega)
      have z0 : (0 : Int32).toNatClampNeg = 0 := nI_clamp (n := 0) (by omega)
      rw [f_X0_moveAll_145, h4, eH, if_pos (nI_le (by omega) (by omega)), ck_t i0, ck_t ik, nI_clamp (n := H - 1) (by omega), z0]
    · by_cases hxW : x < W
      · by_cases hyH : y < H
        · by_cases y0 : y = 0
          · subst y0
            rcases w4 hw with h | h | h | h <;> subst h <;> simp [mv, gA, gRa, gRd, hxW, hyH] <;> (repeat' split) <;> (first | rfl | omega | (congr 1 <;> omega) | (exfalso; omega) | skip)
          · by_cases yH : y + 1 = H
            · have yH2 : y = H - 1 := by omega
              rcases w4 hw with h | h | h | h <;> subst h <;> simp [mv, gA, gRa, gRd, hxW, hyH, y0, yH, ← yH2, show ¬ H - 1 = 0 by omega, show 0 < y by omega]
            · have yH2 : ¬ y = H - 1 := by omega
              rcases w4 hw with h | h | h | h <;> subst h <;> simp [mv, gA, gRa, gRd, hxW, hyH, y0, yH, yH2, show 0 < y by omega, show y < H - 1 by omega]
        · have e1 : ∀ w, m w y x = false := fun w => hin w y x (by omega)
          have e2 : ¬ y = 0 := by omega
          have e3 : ¬ y = H - 1 := by omega
          have e4 : ¬ y < H - 1 := by omega
          rcases w4 hw with h | h | h | h <;> subst h <;> simp [mv, gA, gRa, gRd, hxW, hyH, e1, e2, e3, e4]
      · have e1 : ∀ w y, m w y x = false := fun w y => hin w y x (by omega)
        rcases w4 hw with h | h | h | h <;> subst h <;> simp [mv, gA, gRa, gRd, hxW, e1] <;> (repeat' split) <;> (first | rfl | exact e1 _ _ | exact mv_in W H m _ _ _ (by omega))
  | succ d ih =>
    intro k n r hk hn hC
    obtain ⟨q, rfl⟩ : ∃ q, n = q + 1 := ⟨n - 1, by omega⟩
    have ik : inb (nI (k + 1)) 10 = true := inb_nI (by omega) (by omega)
    have ik1 : inb (nI k) 10 = true := inb_nI (by omega) (by omega)
    have cc : r (10 + 3) (k + 1) = nI (pkB (m 3 (k + 1)) 10) := by
      rw [hC 3 (by omega) (k + 1) (by omega)]
      refine congrArg nI (pkB_congr (fun x _ => ?_))
      simp [gRd, gRa, gA, show ¬ k + 1 < k by omega]
    have hC1 := hC.put (w := 3) (y := k) (m 3 (k + 1)) rfl
    obtain ⟨r2, b1, b2, b3⟩ := ih (k + 1) q _ (by omega) (by omega) (hC1.congr (g := gRa W H m (k + 1)) (fun w hw y hy x hx => by
      unfold gRa
      by_cases e : w = 3
      · subst e
        by_cases e3 : y = k
        · subst e3
          simp
        · by_cases e4 : y < k
          · simp [e3, e4, show y < k + 1 by omega]
          · simp [e3, e4, show ¬ y < k + 1 by omega]
      · simp [e]))
    refine ⟨r2, ?_, b2, fun s hs => (b3 s hs).trans (by rw [up_n (by omega)])⟩
    rw [f_X0_moveAll_145, h4, eH, if_neg (nI_ge (by omega) (by omega)), nI_1, ck_t ik, ck_t ik1, nI_clamp (n := k + 1) (by omega), nI_clamp (n := k) (by omega), cc]
    exact b1
theorem moveAll_ok {i : Nat → Int32} {r : Nat → Nat → Int32} {W H : Nat} {m : CT} (h1 : 1 ≤ W) (h2 : W ≤ 10) (hH1 : 1 ≤ H) (hH : H ≤ 10) (hin : ∀ w y x, ¬ (y < H ∧ x < W) → m w y x = false) (h3 : i 3 = nI W) (h4 : i 4 = nI H) (hC : CBr 10 r m) : ∃ r', f_X0_moveAll i r = some r' ∧ CBr 10 r' (mv W H m) ∧ ∀ s, 20 ≤ s → r' s = r s := by
  obtain ⟨r1, a1, a2, a3⟩ := mvA_go h1 h2 hH1 hH hin h4 H 0 2000000 r (by omega) (by omega) (hC.congr (fun w _ y _ x _ => by simp [gA]))
  obtain ⟨r2, b1, b2, b3⟩ := mvD_go h1 h2 hH1 hH hin h4 (H - 1) 2000000 r1 (by omega) (by omega) (a2.congr (fun w _ y _ x _ => by
    unfold gRd
    rw [if_neg (by omega)]))
  obtain ⟨r3, d1, d2, d3⟩ := mvU_go h1 h2 hH1 hH hin h4 (H - 1) 0 2000000 r2 (by omega) (by omega) (b2.congr (fun w _ y _ x _ => by simp [gRa]))
  refine ⟨r3, ?_, d2, fun s hs => ((d3 s hs).trans (b3 s hs)).trans (a3 s hs)⟩
  rw [f_X0_moveAll, h3, last_ok h1 h2]
  exact a1.trans (b1.trans d1)

def gAk (W H : Nat) (m : CT) (k : Nat) : CT := fun w y => if y < k ∧ (w = 0 ∨ w = 2) then mvb W H m w y else m w y
theorem mvAk_go {i : Nat → Int32} {W H : Nat} {m : CT} (h1 : 1 ≤ W) (h2 : W ≤ 10) (hH1 : 1 ≤ H) (hH : H ≤ 10) (hin : ∀ w y x, ¬ (y < H ∧ x < W) → m w y x = false) (h4 : i 4 = nI H) : ∀ (d k n : Nat) (r : Nat → Nat → Int32), k + d = H → d < n → CBr 10 r (gAk W H m k) → ∃ r', f_X0_moveAllBack_11 i n r (nI (2 ^ (W - 1))) (nI k) = f_X0_moveAllBack_106 i 2000000 r' (nI (pkB (m 1 0) 10)) (nI (pkB (m 3 (H - 1)) 10)) (nI 0) ∧ CBr 10 r' (gAk W H m H) ∧ ∀ s, 20 ≤ s → r' s = r s := by
  intro d
  induction d with
  | zero =>
    intro k n r hk hn hC
    obtain ⟨q, rfl⟩ : ∃ q, n = q + 1 := ⟨n - 1, by omega⟩
    have e : k = H := by omega
    subst e
    refine ⟨r, ?_, hC, fun _ _ => rfl⟩
    have eH : nI k - 1 = nI (k - 1) := pk_sub (a := k) (b := 1) hH1
    have c1 : r (10 + 1) 0 = nI (pkB (m 1 0) 10) := by
      rw [hC 1 (by omega) _ (by omega)]
      exact congrArg nI (pkB_congr (fun x _ => by simp [gAk]))
    have c3 : r (10 + 3) (k - 1) = nI (pkB (m 3 (k - 1)) 10) := by
      rw [hC 3 (by omega) _ (by omega)]
      exact congrArg nI (pkB_congr (fun x _ => by simp [gAk]))
    have i0 : inb (0 : Int32) 10 = true := inb_nI (n := 0) (by omega) (by omega)
    have ik : inb (nI (k - 1)) 10 = true := inb_nI (by omega) (by omega)
    have z0 : (0 : Int32).toNatClampNeg = 0 := nI_clamp (n := 0) (by omega)
    rw [f_X0_moveAllBack_11, h4, if_pos (nI_le (by omega) (by omega)), eH, ck_t i0, ck_t ik, nI_clamp (n := k - 1) (by omega), z0, c1, c3]
    all_goals rfl
  | succ d ih =>
    intro k n r hk hn hC
    obtain ⟨q, rfl⟩ : ∃ q, n = q + 1 := ⟨n - 1, by omega⟩
    have ik : inb (nI k) 10 = true := inb_nI (by omega) (by omega)
    have ck2 : (nI k).toNatClampNeg = k := nI_clamp (by omega)
    have hk10 : k < 10 := by omega
    have c0 : r (10 + 0) k = nI (pkB (m 0 k) 10) := by
      rw [hC 0 (by omega) k hk10]
      exact congrArg nI (pkB_congr (fun x _ => by simp [gAk]))
    have c2 : r (10 + 2) k = nI (pkB (m 2 k) 10) := by
      rw [hC 2 (by omega) k hk10]
      exact congrArg nI (pkB_congr (fun x _ => by simp [gAk]))
    have v2 := goUp (a := m 2 k) (b := m 0 k) h1 h2 (fun x hx => hin _ _ _ (by omega))
    have v0 := goDown (a := m 0 k) (b := m 2 k) h1 h2 (fun x hx => hin _ _ _ (by omega))
    obtain ⟨o, ho⟩ : ∃ o, f_X0_moveAllBack_11 i (q + 1) r (nI (2 ^ (W - 1))) (nI k) = o := ⟨_, rfl⟩
    rw [ho]
    rw [f_X0_moveAllBack_11, h4, if_neg (nI_ge (by omega) (by omega)), ck_t ik, ck_t ik, ck_t ik, ck_t ik, ck2, c0, c2, v0, v2, f_X0_moveAllBack_74, nI_1] at ho
    have hC1 := (hC.put (w := 0) (y := k) (fun x => if x < W then (if x + 1 = W then m 2 k x else m 0 k (x + 1)) else false) rfl).put' (w := 2) (y := k) (row := r (10 + 2)) (fun x => if x < W then (if x = 0 then m 0 k 0 else m 2 k (x - 1)) else false) rfl (by rw [up_n (by omega)])
    obtain ⟨r2, b1, b2, b3⟩ := ih (k + 1) q _ (by omega) (by omega) (hC1.congr (g := gAk W H m (k + 1)) (fun w hw y hy x hx => by
      unfold gAk
      by_cases e : y = k
      · subst e
        have e1 : y < H := by omega
        rcases w4 hw with h | h | h | h <;> subst h <;> simp [mvb, e1]
      · by_cases e2 : y < k
        · simp [e, e2, show y < k + 1 by omega]
        · simp [e, e2, show ¬ y < k + 1 by omega]))
    subst ho
    refine ⟨r2, b1, b2, fun s hs => (b3 s hs).trans ?_⟩
    rw [up_n (by omega), up_n (by omega)]
def gRka (W H : Nat) (m : CT) (k : Nat) : CT := fun w y => if w = 1 ∧ y < k then m 1 (y + 1) else gAk W H m H w y
def gRkd (W H : Nat) (m : CT) (k : Nat) : CT := fun w y => if w = 3 ∧ k < y ∧ y < H then m 3 (y - 1) else gRka W H m (H - 1) w y
theorem mvUk_go {i : Nat → Int32} {W H : Nat} {m : CT} (h1 : 1 ≤ W) (h2 : W ≤ 10) (hH1 : 1 ≤ H) (hH : H ≤ 10) (hin : ∀ w y x, ¬ (y < H ∧ x < W) → m w y x = false) (h4 : i 4 = nI H) : ∀ (d k n : Nat) (r : Nat → Nat → Int32), k + d = H - 1 → d < n → CBr 10 r (gRka W H m k) → ∃ r', f_X0_moveAllBack_106 i n r (nI (pkB (m 1 0) 10)) (nI (pkB (m 3 (H - 1)) 10)) (nI k) = f_X0_moveAllBack_151 i 2000000 r' (nI (pkB (m 1 0) 10)) (nI (pkB (m 3 (H - 1)) 10)) (nI (H - 1)) ∧ CBr 10 r' (gRka W H m (H - 1)) ∧ ∀ s, 20 ≤ s → r' s = r s := by
  intro d
  have eH : nI H - 1 = nI (H - 1) := pk_sub (a := H) (b := 1) hH1
  induction d with
  | zero =>
    intro k n r hk hn hC
    obtain ⟨q, rfl⟩ : ∃ q, n = q + 1 := ⟨n - 1, by omega⟩
    have e : k = H - 1 := by omega
    subst e
    refine ⟨r, ?_, hC, fun _ _ => rfl⟩
    rw [f_X0_moveAllBack_106, h4, eH, if_pos (nI_le (by omega) (by omega))]
  | succ d ih =>
    intro k n r hk hn hC
    obtain ⟨q, rfl⟩ : ∃ q, n = q + 1 := ⟨n - 1, by omega⟩
    have ik : inb (nI (k + 1)) 10 = true := inb_nI (by omega) (by omega)
    have ik1 : inb (nI k) 10 = true := inb_nI (by omega) (by omega)
    have cc : r (10 + 1) (k + 1) = nI (pkB (m 1 (k + 1)) 10) := by
      rw [hC 1 (by omega) (k + 1) (by omega)]
      refine congrArg nI (pkB_congr (fun x _ => ?_))
      simp [gRkd, gRka, gAk, show ¬ k + 1 < k by omega]
    have hC1 := hC.put (w := 1) (y := k) (m 1 (k + 1)) rfl
    obtain ⟨r2, b1, b2, b3⟩ := ih (k + 1) q _ (by omega) (by omega) (hC1.congr (g := gRka W H m (k + 1)) (fun w hw y hy x hx => by
      unfold gRka
      by_cases e : w = 1
      · subst e
        by_cases e3 : y = k
        · subst e3
          simp
        · by_cases e4 : y < k
          · simp [e3, e4, show y < k + 1 by omega]
          · simp [e3, e4, show ¬ y < k + 1 by omega]
      · simp [e]))
    refine ⟨r2, ?_, b2, fun s hs => (b3 s hs).trans (by rw [up_n (by omega)])⟩
    rw [f_X0_moveAllBack_106, h4, eH, if_neg (nI_ge (by omega) (by omega)), nI_1, ck_t ik, ck_t ik1, nI_clamp (n := k + 1) (by omega), nI_clamp (n := k) (by omega), cc]
    exact b1
theorem mvDk_go {i : Nat → Int32} {W H : Nat} {m : CT} (h1 : 1 ≤ W) (h2 : W ≤ 10) (hH1 : 1 ≤ H) (hH : H ≤ 10) (hin : ∀ w y x, ¬ (y < H ∧ x < W) → m w y x = false) (h4 : i 4 = nI H) : ∀ (k n : Nat) (r : Nat → Nat → Int32), k < H → k < n → CBr 10 r (gRkd W H m k) → ∃ r', f_X0_moveAllBack_151 i n r (nI (pkB (m 1 0) 10)) (nI (pkB (m 3 (H - 1)) 10)) (nI k) = some r' ∧ CBr 10 r' (mvb W H m) ∧ ∀ s, 20 ≤ s → r' s = r s := by
  intro k
  induction k with
  | zero =>
    intro n r hk hn hC
    obtain ⟨q, rfl⟩ : ∃ q, n = q + 1 := ⟨n - 1, by omega⟩
    have hle : nI 0 ≤ (0 : Int32) := nI_le (a := 0) (b := 0) (by omega) (by omega)
    have hC1 := (hC.put (w := 1) (y := (H - 1)) (m 3 (H - 1)) rfl).put' (w := 3) (y := 0) (row := r (10 + 3)) (m 1 0) rfl (by rw [up_n (by omega)])
    refine ⟨_, ?_, hC1.congr (g := mvb W H m) (fun w hw y hy x hx => ?_), fun s hs => by rw [up_n (by omega), up_n (by omega)]⟩
    · have eH : nI H - 1 = nI (H - 1) := pk_sub (a := H) (b := 1) hH1
      have i0 : inb (0 : Int32) 10 = true := inb_nI (n := 0) (by omega) (by omega)
      have ik : inb (nI (H - 1)) 10 = true := inb_nI (by omega) (by omega)
      have z0 : (0 : Int32).toNatClampNeg = 0 := nI_clamp (n := 0) (by omega)
      rw [f_X0_moveAllBack_151, if_pos hle, h4, eH, ck_t ik, ck_t i0, nI_clamp (n := H - 1) (by omega), z0]
    · by_cases hxW : x < W
      · by_cases hyH : y < H
        · by_cases y0 : y = 0
          · subst y0
            rcases w4 hw with h | h | h | h <;> subst h <;> simp [mvb, gAk, gRka, gRkd, hxW, hyH] <;> (repeat' split) <;> (first | rfl | omega | (congr 1 <;> omega) | (exfalso; omega) | skip)
          · by_cases yH : y + 1 = H
            · have yH2 : y = H - 1 := by omega
              rcases w4 hw with h | h | h | h <;> subst h <;> simp [mvb, gAk, gRka, gRkd, hxW, hyH, y0, yH, ← yH2, show ¬ H - 1 = 0 by omega, show 0 < y by omega]
            · have yH2 : ¬ y = H - 1 := by omega
              rcases w4 hw with h | h | h | h <;> subst h <;> simp [mvb, gAk, gRka, gRkd, hxW, hyH, y0, yH, yH2, show 0 < y by omega, show y < H - 1 by omega]
        · have e1 : ∀ w, m w y x = false := fun w => hin w y x (by omega)
          have e2 : ¬ y = 0 := by omega
          have e3 : ¬ y = H - 1 := by omega
          have e4 : ¬ y < H - 1 := by omega
          rcases w4 hw with h | h | h | h <;> subst h <;> simp [mvb, gAk, gRka, gRkd, hxW, hyH, e1, e2, e3, e4]
      · have e1 : ∀ w y, m w y x = false := fun w y => hin w y x (by omega)
        rcases w4 hw with h | h | h | h <;> subst h <;> simp [mvb, gAk, gRka, gRkd, hxW, e1] <;> (repeat' split) <;> (first | rfl | exact e1 _ _ | exact mvb_in W H m _ _ _ (by omega))
  | succ k ih =>
    intro n r hk hn hC
    obtain ⟨q, rfl⟩ : ∃ q, n = q + 1 := ⟨n - 1, by omega⟩
    have ik : inb (nI (k + 1)) 10 = true := inb_nI (by omega) (by omega)
    have ik1 : inb (nI k) 10 = true := inb_nI (by omega) (by omega)
    have e1 : nI (k + 1) - 1 = nI k := nI_pred k
    have e2 : nI (k + 1) + (-1) = nI k := by rw [← m1_eq, e1]
    have cc : r (10 + 3) k = nI (pkB (m 3 k) 10) := by
      rw [hC 3 (by omega) k (by omega)]
      refine congrArg nI (pkB_congr (fun x _ => ?_))
      simp [gRkd, gRka, gAk, show ¬ k + 1 < k by omega]
    have hC1 := hC.put (w := 3) (y := k + 1) (m 3 k) rfl
    obtain ⟨r2, b1, b2, b3⟩ := ih q _ (by omega) (by omega) (hC1.congr (g := gRkd W H m k) (fun w hw y hy x hx => by
      unfold gRkd
      by_cases e : w = 3
      · subst e
        by_cases e3 : y = k + 1
        · subst e3
          simp [show k + 1 < H by omega]
        · by_cases e4 : k + 1 < y
          · simp [e3, e4, show k < y by omega]
          · simp [e3, e4, show ¬ k < y by omega]
      · simp [e]))
    refine ⟨r2, ?_, b2, fun s hs => (b3 s hs).trans (by rw [up_n (by omega)])⟩
    rw [f_X0_moveAllBack_151, if_neg (nI_nle (by omega) (by omega)), e1, ck_t ik1, ck_t ik, nI_clamp (n := k + 1) (by omega), nI_clamp (n := k) (by omega), e2, cc]
    exact b1
theorem moveAllBack_ok {i : Nat → Int32} {r : Nat → Nat → Int32} {W H : Nat} {m : CT} (h1 : 1 ≤ W) (h2 : W ≤ 10) (hH1 : 1 ≤ H) (hH : H ≤ 10) (hin : ∀ w y x, ¬ (y < H ∧ x < W) → m w y x = false) (h3 : i 3 = nI W) (h4 : i 4 = nI H) (hC : CBr 10 r m) : ∃ r', f_X0_moveAllBack i r = some r' ∧ CBr 10 r' (mvb W H m) ∧ ∀ s, 20 ≤ s → r' s = r s := by
  obtain ⟨r1, a1, a2, a3⟩ := mvAk_go h1 h2 hH1 hH hin h4 H 0 2000000 r (by omega) (by omega) (hC.congr (fun w _ y _ x _ => by simp [gAk]))
  obtain ⟨r2, b1, b2, b3⟩ := mvUk_go h1 h2 hH1 hH hin h4 (H - 1) 0 2000000 r1 (by omega) (by omega) (a2.congr (fun w _ y _ x _ => by simp [gRka]))
  obtain ⟨r3, d1, d2, d3⟩ := mvDk_go h1 h2 hH1 hH hin h4 (H - 1) 2000000 r2 (by omega) (by omega) (b2.congr (fun w _ y _ x _ => by
    unfold gRkd
    rw [if_neg (by omega)]))
  refine ⟨r3, ?_, d2, fun s hs => ((d3 s hs).trans (b3 s hs)).trans (a3 s hs)⟩
  rw [f_X0_moveAllBack, h3, last_ok h1 h2]
  exact a1.trans (b1.trans d1)
