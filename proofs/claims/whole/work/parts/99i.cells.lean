/-! ===== CELLS: the picture ===== -/
/-- bits f 0 .. f (n-1), packed -/
def pkB (f : Nat → Bool) : Nat → Nat
  | 0 => 0
  | n + 1 => pkB f n + (if f n then 2 ^ n else 0)
theorem pkB_lt (f : Nat → Bool) : ∀ n, pkB f n < 2 ^ n
  | 0 => by show 0 < 1; omega
  | n + 1 => by
    have := pkB_lt f n
    show pkB f n + (if f n then 2 ^ n else 0) < 2 ^ (n + 1)
    rw [Nat.pow_succ]
    split <;> omega
theorem pkB_bit (f : Nat → Bool) : ∀ n i, (pkB f n).testBit i = (decide (i < n) && f i)
  | 0, i => by simp [pkB]
  | n + 1, i => by
    have ih := pkB_bit f n
    have hlt := pkB_lt f n
    show (pkB f n + (if f n then 2 ^ n else 0)).testBit i = _
    by_cases hf : f n = true
    · rw [if_pos hf, Nat.add_comm]
      rcases Nat.lt_trichotomy i n with h | h | h
      · rw [Nat.testBit_two_pow_add_gt h, ih]
        simp [h, Nat.lt_succ_of_lt h]
      · subst h
        rw [Nat.testBit_two_pow_add_eq, ih]
        simp [hf]
      · rw [Nat.testBit_lt_two_pow (by
          have h2 : 2 ^ (n + 1) ≤ 2 ^ i := Nat.pow_le_pow_right (by omega) h
          rw [Nat.pow_succ] at h2
          omega)]
        have h3 : ¬ i < n + 1 := by omega
        simp [h3]
    · rw [if_neg hf, Nat.add_zero, ih]
      by_cases h : i = n
      · subst h
        simp at hf
        simp [hf]
      · have h3 : (i < n + 1) ↔ (i < n) := by omega
        simp [h3]
theorem bqN (v : Nat) {i : Nat} (hi : i < 32) : bq (nI v) i = v.testBit i := by
  unfold bq
  show (BitVec.ofNat 32 v).getLsbD i = _
  rw [BitVec.getLsbD_ofNat]
  simp [hi]
theorem bqP (f : Nat → Bool) (n : Nat) {i : Nat} (hi : i < 32) : bq (nI (pkB f n)) i = (decide (i < n) && f i) := by rw [bqN _ hi, pkB_bit]
theorem pkB_ext {x : Int32} {f : Nat → Bool} {n : Nat} (h : ∀ i, i < 32 → bq x i = (decide (i < n) && f i)) : x = nI (pkB f n) := b_ext (fun i hi => by
  rw [bqP _ _ hi]
  exact h i hi)
theorem pkB_congr {f g : Nat → Bool} : ∀ {n : Nat}, (∀ i, i < n → f i = g i) → pkB f n = pkB g n
  | 0, _ => rfl
  | n + 1, h => by
    show pkB f n + (if f n then 2 ^ n else 0) = pkB g n + (if g n then 2 ^ n else 0)
    rw [pkB_congr (fun i hi => h i (by omega)), h n (by omega)]
theorem pkB_inj {f g : Nat → Bool} {n : Nat} (hn : n ≤ 32) (h : nI (pkB f n) = nI (pkB g n)) {i : Nat} (hi : i < n) : f i = g i := by
  have h1 := congrArg (fun x => bq x i) h
  simp only [bqP f n (show i < 32 by omega), bqP g n (show i < 32 by omega), hi, decide_true, Bool.true_and] at h1
  exact h1
theorem pkB_and (f g : Nat → Bool) (n : Nat) : nI (pkB f n) &&& nI (pkB g n) = nI (pkB (fun x => f x && g x) n) := pkB_ext (fun i hi => by
  rw [b_and, bqP _ _ hi, bqP _ _ hi]
  cases decide (i < n) <;> simp)
/-- sums -/
def sm (f : Nat → Nat) : Nat → Nat
  | 0 => 0
  | n + 1 => sm f n + f n
theorem sm_congr {f g : Nat → Nat} : ∀ {n : Nat}, (∀ i, i < n → f i = g i) → sm f n = sm g n
  | 0, _ => rfl
  | n + 1, h => by
    show sm f n + f n = sm g n + g n
    rw [sm_congr (fun i hi => h i (by omega)), h n (by omega)]
theorem sm_add (f g : Nat → Nat) : ∀ n, sm (fun x => f x + g x) n = sm f n + sm g n
  | 0 => rfl
  | n + 1 => by
    show sm (fun x => f x + g x) n + (f n + g n) = (sm f n + f n) + (sm g n + g n)
    rw [sm_add f g n]
    omega
theorem sm_zero : ∀ n, sm (fun _ => 0) n = 0
  | 0 => rfl
  | n + 1 => by
    show sm (fun _ => 0) n + 0 = 0
    rw [sm_zero n]
theorem sm_cut {f : Nat → Nat} {W : Nat} (h : ∀ i, W ≤ i → f i = 0) : ∀ d, sm f (W + d) = sm f W
  | 0 => rfl
  | d + 1 => by
    show sm f (W + d) + f (W + d) = _
    rw [h (W + d) (by omega), sm_cut h d]
    rfl
theorem cnt_pkB (f : Nat → Bool) (n : Nat) : ∀ k, k ≤ n → cnt (pkB f n) k = sm (fun x => (f x).toNat) k
  | 0, _ => rfl
  | k + 1, h => by
    show cnt (pkB f n) k + (if (pkB f n).testBit k then 1 else 0) = sm (fun x => (f x).toNat) k + (f k).toNat
    rw [cnt_pkB f n k (by omega), pkB_bit]
    have h3 : k < n := by omega
    simp only [h3, decide_true, Bool.true_and]
    cases f k <;> rfl
theorem bc_pkB (f : Nat → Bool) : f_J6_bitCount_0f7a4 (nI (pkB f 10)) = some (nI (sm (fun x => (f x).toNat) 10)) := by
  rw [(cnt_both _ (pkB_lt f 10)).1, cnt_pkB f 10 10 (by omega)]
theorem bits_pkB (f : Nat → Bool) : f_X13_bits (nI (pkB f 4)) = some (nI (sm (fun x => (f x).toNat) 4)) := by
  have h := pkB_lt f 4
  rw [(cnt_both _ (by omega)).2, cnt_L h (by omega), cnt_pkB f 4 4 (by omega)]
/-! what is done in a cell, and the going -/
def s1w (w : Nat) : Nat := if w = 0 then 1 else if w = 1 then 0 else if w = 2 then 3 else 2
def s2w (w : Nat) : Nat := if w = 0 then 3 else if w = 1 then 2 else if w = 2 then 1 else 0
def mt (P : Nat) (a : Nat → Bool) (w : Nat) : Bool := if P = 0 then (if (a 0 && a 2 && !(a 1) && !(a 3)) || (a 1 && a 3 && !(a 0) && !(a 2)) then !(a w) else a w) else if P = 1 then a (s1w w) else if P = 2 then a (s2w w) else false
abbrev CT : Type := Nat → Nat → Nat → Bool
def mtA (W : Nat) (p : Nat → Nat → Nat) (c : CT) : CT := fun w y x => decide (x < W) && mt (p y x) (fun k => c k y x) w
def mv (W H : Nat) (m : CT) : CT := fun w y x =>
  if w < 4 ∧ y < H ∧ x < W then
    (if w = 0 then (if x = 0 then m 2 y 0 else m 0 y (x - 1))
     else if w = 1 then (if y = 0 then m 3 0 x else m 1 (y - 1) x)
     else if w = 2 then (if x + 1 = W then m 0 y x else m 2 y (x + 1))
     else (if y + 1 = H then m 1 y x else m 3 (y + 1) x))
  else false
def mvb (W H : Nat) (m : CT) : CT := fun w y x =>
  if w < 4 ∧ y < H ∧ x < W then
    (if w = 0 then (if x + 1 = W then m 2 y x else m 0 y (x + 1))
     else if w = 1 then (if y + 1 = H then m 3 y x else m 1 (y + 1) x)
     else if w = 2 then (if x = 0 then m 0 y 0 else m 2 y (x - 1))
     else (if y = 0 then m 1 0 x else m 3 (y - 1) x))
  else false
/-- no ball outside of the table -/
def INC (W H : Nat) (c : CT) : Prop := ∀ w y x, ¬ (w < 4 ∧ y < H ∧ x < W) → c w y x = false
theorem mv_in (W H : Nat) (m : CT) : INC W H (mv W H m) := fun w y x h => by unfold mv; rw [if_neg h]
theorem mvb_in (W H : Nat) (m : CT) : INC W H (mvb W H m) := fun w y x h => by unfold mvb; rw [if_neg h]
theorem mt_f {P : Nat} {a : Nat → Bool} (h : ∀ k, a k = false) (w : Nat) : mt P a w = false := by
  unfold mt
  simp [h]
theorem w4 {w : Nat} (h : w < 4) : w = 0 ∨ w = 1 ∨ w = 2 ∨ w = 3 := by omega
theorem mtA_out {W H : Nat} {p : Nat → Nat → Nat} {c : CT} (h : INC W H c) : ∀ w y x, ¬ (y < H ∧ x < W) → mtA W p c w y x = false := by
  intro w y x hn
  unfold mtA
  rw [mt_f (fun k => h k y x (fun g => hn g.2)), Bool.and_false]
/-- the class's rows, the reference's cells -/
def CBr (b : Nat) (r : Nat → Nat → Int32) (f : CT) : Prop := ∀ w, w < 4 → ∀ y, y < 10 → r (b + w) y = nI (pkB (f w y) 10)
def PBr (W : Nat) (p : Nat → Nat → Nat) (r : Nat → Nat → Int32) : Prop := ∀ k, k < 4 → ∀ y, y < 10 → r (30 + k) y = nI (pkB (fun x => decide (x < W) && decide (p y x = k)) 10)
def MBr (s : Nat) (mr : Nat → Nat → Int32) (f : CT) : Prop := ∀ y, y < 10 → ∀ x, x < 10 → mr s (10 * y + x) = nI (pkB (fun w => f w y x) 4)
def PMr (p : Nat → Nat → Nat) (mr : Nat → Nat → Int32) : Prop := ∀ y, y < 10 → ∀ x, x < 10 → mr 68 (10 * y + x) = nI (p y x)
theorem CBr.congr {b : Nat} {r : Nat → Nat → Int32} {f g : CT} (h : CBr b r f) (e : ∀ w, w < 4 → ∀ y, y < 10 → ∀ x, x < 10 → f w y x = g w y x) : CBr b r g := fun w hw y hy => by
  rw [h w hw y hy, pkB_congr (fun x hx => e w hw y hy x hx)]
theorem CBr.put {b : Nat} {r : Nat → Nat → Int32} {f : CT} (h : CBr b r f) {w y : Nat} {v : Int32} (g : Nat → Bool) (hv : v = nI (pkB g 10)) : CBr b (va_up r (b + w) (upd (r (b + w)) y v)) (fun w' y' => if w' = w ∧ y' = y then g else f w' y') := by
  intro w' hw' y' hy'
  show _ = nI (pkB (if w' = w ∧ y' = y then g else f w' y') 10)
  by_cases e : w' = w
  · subst e
    rw [up_s]
    by_cases e2 : y' = y
    · subst e2
      rw [pk_us, if_pos ⟨rfl, rfl⟩, hv]
    · rw [pk_un e2, if_neg (fun q => e2 q.2)]
      exact h w' hw' y' hy'
  · rw [up_n (by omega), if_neg (fun q => e q.1)]
    exact h w' hw' y' hy'
theorem MBr.congr {s : Nat} {r : Nat → Nat → Int32} {f g : CT} (h : MBr s r f) (e : ∀ w, w < 4 → ∀ y, y < 10 → ∀ x, x < 10 → f w y x = g w y x) : MBr s r g := fun y hy x hx => by
  rw [h y hy x hx, pkB_congr (fun w hw => e w hw y hy x hx)]
theorem MBr.slot {s : Nat} {r r' : Nat → Nat → Int32} {f : CT} (h : MBr s r f) (e : r' s = r s) : MBr s r' f := fun y hy x hx => by
  rw [e]
  exact h y hy x hx
theorem MBr.put {s : Nat} {r : Nat → Nat → Int32} {f : CT} (h : MBr s r f) {y x : Nat} (hx : x < 10) {v : Int32} (g : Nat → Bool) (hv : v = nI (pkB g 4)) : MBr s (va_up r s (upd (r s) (10 * y + x) v)) (fun w y' x' => if y' = y ∧ x' = x then g w else f w y' x') := by
  intro y' hy' x' hx'
  rw [up_s]
  by_cases e : y' = y ∧ x' = x
  · obtain ⟨e1, e2⟩ := e
    subst e1
    subst e2
    rw [pk_us, hv]
    simp
  · rw [pk_un (by omega), h y' hy' x' hx']
    simp [e]
/-- how many balls STOPS take in a row -/
def tk (W : Nat) (p : Nat → Nat → Nat) (c : CT) (y : Nat) : Nat := sm (fun x => if p y x = 3 then sm (fun w => (c w y x).toNat) 4 else 0) W
