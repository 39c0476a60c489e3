/-! ===== CELLS: the class's side: what is done in the cells ===== -/
theorem CBr.put' {b : Nat} {r : Nat → Nat → Int32} {f : CT} (h : CBr b r f) {w y : Nat} {v : Int32} {row : Nat → Int32} (g : Nat → Bool) (hv : v = nI (pkB g 10)) (hr : row = r (b + w)) : CBr b (va_up r (b + w) (upd row y v)) (fun w' y' => if w' = w ∧ y' = y then g else f w' y') := by
  subst hr
  exact h.put g hv
theorem sm_add4 (A B C D : Nat → Nat) : ∀ n, sm (fun x => A x + B x + C x + D x) n = sm A n + sm B n + sm C n + sm D n
  | 0 => rfl
  | n + 1 => by
    show sm (fun x => A x + B x + C x + D x) n + (A n + B n + C n + D n) = (sm A n + A n) + (sm B n + B n) + (sm C n + C n) + (sm D n + D n)
    rw [sm_add4 A B C D n]
    omega
theorem tk_class {W : Nat} (hW : W ≤ 10) (p : Nat → Nat → Nat) (c : CT) (y : Nat) : sm (fun x => (c 0 y x && (decide (x < W) && decide (p y x = 3))).toNat) 10 + sm (fun x => (c 1 y x && (decide (x < W) && decide (p y x = 3))).toNat) 10 + sm (fun x => (c 2 y x && (decide (x < W) && decide (p y x = 3))).toNat) 10 + sm (fun x => (c 3 y x && (decide (x < W) && decide (p y x = 3))).toNat) 10 = tk W p c y := by
  refine (sm_add4 _ _ _ _ 10).symm.trans ?_
  obtain ⟨d, hd⟩ : ∃ d, 10 = W + d := ⟨10 - W, by omega⟩
  rw [hd, sm_cut (fun i hi => by
    have h3 : ¬ i < W := by omega
    simp [h3])]
  refine sm_congr (fun x hx => ?_)
  by_cases e : p y x = 3
  · simp [e, hx, sm]
  · simp [e]
theorem mtb (P : Nat) (hP : P < 4) (f : Nat → Bool) (a b : Bool) :
    ((((((a && f 0) ^^ ((a && (b && decide (P = 0))) && ((((a && f 0) && (a && f 2)) && (((a && f 1) || (a && f 3)) ^^ true)) || (((a && f 1) && (a && f 3)) && (((a && f 0) || (a && f 2)) ^^ true))))) && (a && (b && decide (P = 0)))) || ((a && f 1) && (a && (b && decide (P = 1))))) || ((a && f 3) && (a && (b && decide (P = 2))))) = (a && (b && mt P f 0))) ∧
    ((((((a && f 1) ^^ ((a && (b && decide (P = 0))) && ((((a && f 0) && (a && f 2)) && (((a && f 1) || (a && f 3)) ^^ true)) || (((a && f 1) && (a && f 3)) && (((a && f 0) || (a && f 2)) ^^ true))))) && (a && (b && decide (P = 0)))) || ((a && f 0) && (a && (b && decide (P = 1))))) || ((a && f 2) && (a && (b && decide (P = 2))))) = (a && (b && mt P f 1))) ∧
    ((((((a && f 2) ^^ ((a && (b && decide (P = 0))) && ((((a && f 0) && (a && f 2)) && (((a && f 1) || (a && f 3)) ^^ true)) || (((a && f 1) && (a && f 3)) && (((a && f 0) || (a && f 2)) ^^ true))))) && (a && (b && decide (P = 0)))) || ((a && f 3) && (a && (b && decide (P = 1))))) || ((a && f 1) && (a && (b && decide (P = 2))))) = (a && (b && mt P f 2))) ∧
    ((((((a && f 3) ^^ ((a && (b && decide (P = 0))) && ((((a && f 0) && (a && f 2)) && (((a && f 1) || (a && f 3)) ^^ true)) || (((a && f 1) && (a && f 3)) && (((a && f 0) || (a && f 2)) ^^ true))))) && (a && (b && decide (P = 0)))) || ((a && f 2) && (a && (b && decide (P = 1))))) || ((a && f 0) && (a && (b && decide (P = 2))))) = (a && (b && mt P f 3))) := by
  have e1 : s1w 0 = 1 ∧ s1w 1 = 0 ∧ s1w 2 = 3 ∧ s1w 3 = 2 := by decide
  have e2 : s2w 0 = 3 ∧ s2w 1 = 2 ∧ s2w 2 = 1 ∧ s2w 3 = 0 := by decide
  simp only [mt, e1.1, e1.2.1, e1.2.2.1, e1.2.2.2, e2.1, e2.2.1, e2.2.2.1, e2.2.2.2]
  generalize f 0 = g0
  generalize f 1 = g1
  generalize f 2 = g2
  generalize f 3 = g3
  rcases w4 hP with e | e | e | e <;> subst e <;> revert a b g0 g1 g2 g3 <;> decide
theorem meetRow_ok {i : Nat → Int32} {r : Nat → Nat → Int32} {W : Nat} {c : CT} {p : Nat → Nat → Nat} (hW : W ≤ 10) (hp : ∀ y x, p y x < 4) (hC : CBr 10 r c) (hP : PBr W p r) {y : Nat} (hy : y < 10) : ∃ r', f_X0_meetRow i r (nI y) = some (nI (tk W p c y), r') ∧ CBr 10 r' (fun w y' => if y' = y then mtA W p c w y' else c w y') ∧ ∀ s, 20 ≤ s → r' s = r s := by
  have c0 := hC 0 (by omega) y hy
  have c1 := hC 1 (by omega) y hy
  have c2 := hC 2 (by omega) y hy
  have c3 := hC 3 (by omega) y hy
  have q0 := hP 0 (by omega) y hy
  have q1 := hP 1 (by omega) y hy
  have q2 := hP 2 (by omega) y hy
  have q3 := hP 3 (by omega) y hy
  have iy : inb (nI y) 10 = true := inb_nI hy (by omega)
  have cy : (nI y).toNatClampNeg = y := nI_clamp (by omega)
  have B : ∀ w, w < 4 → f_J6_bitCount_0f7a4 (r (10 + w) y &&& r (30 + 3) y) = some (nI (sm (fun x => (c w y x && (decide (x < W) && decide (p y x = 3))).toNat) 10)) := fun w hw => by
    rw [hC w hw y hy, q3, pkB_and, bc_pkB]
  obtain ⟨o, ho⟩ : ∃ o, f_X0_meetRow i r (nI y) = o := ⟨_, rfl⟩
  rw [ho]
  rw [f_X0_meetRow, ck_t iy, ck_t iy, ck_t iy, ck_t iy, ck_t iy, cy, B 0 (by omega), bd_some, B 1 (by omega), bd_some, B 2 (by omega), bd_some, B 3 (by omega), bd_some, ck_t iy, nI_add, nI_add, nI_add, tk_class hW, f_X0_meetRow_117, ck_t iy, ck_t iy, ck_t iy, ck_t iy, ck_t iy, cy, f_X0_meetRow_199, ck_t iy, ck_t iy, cy] at ho
  subst ho
  refine ⟨_, rfl, ?_, ?_⟩
  · refine CBr.congr (CBr.put' (CBr.put' (CBr.put' (CBr.put' hC (mtA W p c 0 y) ?_ rfl) (mtA W p c 1 y) ?_ ?_) (mtA W p c 2 y) ?_ ?_) (mtA W p c 3 y) ?_ ?_) ?_
    · refine pkB_ext (fun i hi => ?_)
      rw [c0, c1, c2, c3, q0, q1, q2]
      simp only [b_or, b_and, b_xor, b_m1 i hi, bqP _ _ hi]
      exact (mtb (p y i) (hp y i) (fun k => c k y i) _ _).1
    · refine pkB_ext (fun i hi => ?_)
      rw [c0, c1, c2, c3, q0, q1, q2]
      simp only [b_or, b_and, b_xor, b_m1 i hi, bqP _ _ hi]
      exact (mtb (p y i) (hp y i) (fun k => c k y i) _ _).2.1
    · rw [up_n (by omega)]
    · refine pkB_ext (fun i hi => ?_)
      rw [c0, c1, c2, c3, q0, q1, q2]
      simp only [b_or, b_and, b_xor, b_m1 i hi, bqP _ _ hi]
      exact (mtb (p y i) (hp y i) (fun k => c k y i) _ _).2.2.1
    · rfl
    · refine pkB_ext (fun i hi => ?_)
      rw [c0, c1, c2, c3, q0, q1, q2]
      simp only [b_or, b_and, b_xor, b_m1 i hi, bqP _ _ hi]
      exact (mtb (p y i) (hp y i) (fun k => c k y i) _ _).2.2.2
    · rw [up_n (show 10 + 3 ≠ 10 + 2 by omega)]
    · intro w hw y' hy' x hx
      by_cases e : y' = y
      · subst e
        rcases w4 hw with h | h | h | h <;> subst h <;> simp
      · simp [e]
  · intro s hs
    rw [up_n (by omega), up_n (by omega), up_n (by omega), up_n (by omega)]
theorem PBr.slot {W : Nat} {p : Nat → Nat → Nat} {r r' : Nat → Nat → Int32} (h : PBr W p r) (e : ∀ s, 20 ≤ s → r' s = r s) : PBr W p r' := fun k hk y hy => by
  rw [e (30 + k) (by omega)]
  exact h k hk y hy
def gM (W : Nat) (p : Nat → Nat → Nat) (c : CT) (k : Nat) : CT := fun w y => if y < k then mtA W p c w y else c w y
theorem meetAll_go {i : Nat → Int32} {W H : Nat} {c : CT} {p : Nat → Nat → Nat} (hW : W ≤ 10) (hH : H ≤ 10) (hp : ∀ y x, p y x < 4) (h4 : i 4 = nI H) : ∀ (d k n : Nat) (r : Nat → Nat → Int32), k + d = H → d < n → CBr 10 r (gM W p c k) → PBr W p r → ∃ r', f_X0_meetAll_4 i n r (nI (sm (tk W p c) k)) (nI k) = some (nI (sm (tk W p c) H), r') ∧ CBr 10 r' (gM W p c H) ∧ ∀ s, 20 ≤ s → r' s = r s := by
  intro d
  induction d with
  | zero =>
    intro k n r hk hn hC hP
    obtain ⟨m, rfl⟩ : ∃ m, n = m + 1 := ⟨n - 1, by omega⟩
    have e : k = H := by omega
    subst e
    refine ⟨r, ?_, hC, fun _ _ => rfl⟩
    rw [f_X0_meetAll_4, h4, if_pos (nI_le (by omega) (by omega))]
  | succ d ih =>
    intro k n r hk hn hC hP
    obtain ⟨m, rfl⟩ : ∃ m, n = m + 1 := ⟨n - 1, by omega⟩
    obtain ⟨r1, a1, a2, a3⟩ := meetRow_ok (i := i) hW hp hC hP (y := k) (by omega)
    have ht : tk W p (gM W p c k) k = tk W p c k := by
      unfold tk gM
      simp
    have hC1 : CBr 10 r1 (gM W p c (k + 1)) := a2.congr (fun w hw y hy x hx => by
      unfold gM
      by_cases e : y = k
      · subst e
        simp [mtA]
      · by_cases e2 : y < k
        · simp [e, e2, show y < k + 1 by omega]
        · simp [e, e2, show ¬ y < k + 1 by omega])
    obtain ⟨r2, b1, b2, b3⟩ := ih (k + 1) m r1 (by omega) (by omega) hC1 (hP.slot a3)
    refine ⟨r2, ?_, b2, fun s hs => (b3 s hs).trans (a3 s hs)⟩
    rw [f_X0_meetAll_4, h4, if_neg (nI_ge (by omega) (by omega)), a1, bd_some, ht, nI_add, nI_1]
    exact b1
theorem meetAll_ok {i : Nat → Int32} {r : Nat → Nat → Int32} {W H : Nat} {c : CT} {p : Nat → Nat → Nat} (hW : W ≤ 10) (hH : H ≤ 10) (hp : ∀ y x, p y x < 4) (h4 : i 4 = nI H) (hin : INC W H c) (hC : CBr 10 r c) (hP : PBr W p r) : ∃ r', f_X0_meetAll i r = some (nI (sm (tk W p c) H), r') ∧ CBr 10 r' (mtA W p c) ∧ ∀ s, 20 ≤ s → r' s = r s := by
  obtain ⟨r1, a1, a2, a3⟩ := meetAll_go (i := i) (c := c) hW hH hp h4 H 0 2000000 r (by omega) (by omega) (hC.congr (fun w _ y _ x _ => by simp [gM])) hP
  refine ⟨r1, ?_, a2.congr (fun w hw y hy x hx => ?_), a3⟩
  · rw [f_X0_meetAll]
    exact a1
  · unfold gM
    by_cases e : y < H
    · rw [if_pos e]
    · rw [if_neg e, hin w y x (by omega), mtA_out hin w y x (by omega)]
