/-! ===== least: counting a bitmap ===== -/
def bcn : Nat → Nat → Nat
  | 0, B => B % 2
  | n + 1, B => if B = 0 then 0 else bcn n (B % 2 ^ (2 ^ n)) + bcn n (B >>> (2 ^ n))
def bCt (B N : Nat) : Nat := (List.range N).countP (fun i => B.testBit i)
theorem bCt_add (B a b : Nat) : bCt B (a + b) = bCt (B % 2 ^ a) a + bCt (B >>> a) b := by
  unfold bCt
  rw [List.range_add, List.countP_append, List.countP_map]
  congr 1
  · refine List.countP_congr (fun i hi => ?_)
    have hi := List.mem_range.mp hi
    rw [Nat.testBit_mod_two_pow]
    simp [hi]
  · refine List.countP_congr (fun i hi => ?_)
    rw [Nat.testBit_shiftRight]
    rfl
theorem bcn_ct : ∀ n B, bcn n B = bCt B (2 ^ n)
  | 0, B => by
    show B % 2 = (List.range 1).countP (fun i => B.testBit i)
    rw [show List.range 1 = [0] from rfl, List.countP_cons, List.countP_nil, Nat.testBit_zero]
    rcases Nat.mod_two_eq_zero_or_one B with h | h <;> rw [h] <;> rfl
  | n + 1, B => by
    rw [bcn]
    by_cases e : B = 0
    · rw [if_pos e, e]
      symm
      unfold bCt
      rw [List.countP_eq_zero]
      intro i _
      simp
    · rw [if_neg e, bcn_ct n, bcn_ct n, show 2 ^ (n + 1) = 2 ^ n + 2 ^ n by rw [Nat.pow_succ]; omega, bCt_add]
theorem nd_le : ∀ {l m : List Nat}, l.Nodup → (∀ x ∈ l, x ∈ m) → l.length ≤ m.length
  | [], m, _, _ => Nat.zero_le _
  | x :: l, m, h, hs => by
    obtain ⟨h1, h2⟩ := List.nodup_cons.mp h
    have hx := hs x List.mem_cons_self
    have h3 := nd_le (l := l) (m := m.erase x) h2 (fun y hy => (List.mem_erase_of_ne (show y ≠ x from fun e => h1 (by rw [← e]; exact hy))).mpr (hs y (List.mem_cons_of_mem _ hy)))
    rw [List.length_erase_of_mem hx] at h3
    have h4 := List.length_pos_of_mem hx
    show l.length + 1 ≤ m.length
    omega
/-- a list of indices of set bits, none twice -/
theorem bcn_up {l : List Nat} {n B : Nat} (h : l.Nodup) (hb : ∀ x ∈ l, x < 2 ^ n ∧ B.testBit x = true) : l.length ≤ bcn n B := by
  rw [bcn_ct, bCt, List.countP_eq_length_filter]
  exact nd_le h (fun x hx => List.mem_filter.mpr ⟨List.mem_range.mpr (hb x hx).1, (hb x hx).2⟩)
/-- a list that has every set bit -/
theorem bcn_dn {l : List Nat} {n B : Nat} (hb : ∀ x, x < 2 ^ n → B.testBit x = true → x ∈ l) : bcn n B ≤ l.length := by
  rw [bcn_ct, bCt, List.countP_eq_length_filter]
  exact nd_le (List.nodup_range.filter _) (fun x hx => by
    obtain ⟨h1, h2⟩ := List.mem_filter.mp hx
    exact hb x (List.mem_range.mp h1) h2)
theorem bcn_mono {n A B : Nat} (h : ∀ x, x < 2 ^ n → A.testBit x = true → B.testBit x = true) : bcn n A ≤ bcn n B := by
  rw [bcn_ct, bcn_ct, bCt, bCt]
  exact List.countP_mono_left (fun x hr hx => h x (List.mem_range.mp hr) hx)
/-! all tables -/
def pmP (a b : Nat) : Nat := (bmk a 21 ^^^ bmk b 21) ||| (bmk (7 + a) 21 ^^^ bmk (7 + b) 21) ||| (bmk (14 + a) 21 ^^^ bmk (14 + b) 21)
def prs : List (Nat × Nat) := [(0, 1), (0, 2), (0, 3), (0, 4), (0, 5), (0, 6), (1, 2), (1, 3), (1, 4), (1, 5), (1, 6), (2, 3), (2, 4), (2, 5), (2, 6), (3, 4), (3, 5), (3, 6), (4, 5), (4, 6), (5, 6)]
def pmB : Nat := prs.foldl (fun A p => A &&& pmP p.1 p.2) (pmP 0 1)
theorem lt8_ne {x y : Nat} (hx : x < 8) (hy : y < 8) (h : x ≠ y) : ((x.testBit 0 ^^ y.testBit 0) || (x.testBit 1 ^^ y.testBit 1) || (x.testBit 2 ^^ y.testBit 2)) = true := by
  have : ∀ x : Fin 8, ∀ y : Fin 8, x.1 ≠ y.1 → ((x.1.testBit 0 ^^ y.1.testBit 0) || (x.1.testBit 1 ^^ y.1.testBit 1) || (x.1.testBit 2 ^^ y.1.testBit 2)) = true := by decide
  exact this ⟨x, hx⟩ ⟨y, hy⟩ h
theorem bmk_ix (v : Nat → Nat) {l o : Nat} (hl : l < 3) (ho : o < 7) : (bmk (7 * l + o) 21).testBit (ixB v) = (v o).testBit l := by
  rw [bmk_bit 21 _ _ (by omega), decide_eq_true (ixB_lt v), Bool.true_and, ixB_bit v hl ho]
theorem pmP_bit {v : Nat → Nat} {a b : Nat} (ha : a < 7) (hb : b < 7) (h1 : v a < 8) (h2 : v b < 8) (h : v a ≠ v b) : (pmP a b).testBit (ixB v) = true := by
  have a0 := bmk_ix v (l := 0) (by omega) ha
  have a1 := bmk_ix v (l := 1) (by omega) ha
  have a2 := bmk_ix v (l := 2) (by omega) ha
  have b0 := bmk_ix v (l := 0) (by omega) hb
  have b1 := bmk_ix v (l := 1) (by omega) hb
  have b2 := bmk_ix v (l := 2) (by omega) hb
  rw [show 7 * 0 + a = a by omega] at a0
  rw [show 7 * 0 + b = b by omega] at b0
  rw [show 7 * 1 + a = 7 + a by omega] at a1
  rw [show 7 * 1 + b = 7 + b by omega] at b1
  rw [show 7 * 2 + a = 14 + a by omega] at a2
  rw [show 7 * 2 + b = 14 + b by omega] at b2
  unfold pmP
  rw [Nat.testBit_or, Nat.testBit_or, Nat.testBit_xor, Nat.testBit_xor, Nat.testBit_xor, a0, a1, a2, b0, b1, b2]
  exact lt8_ne h1 h2 h
theorem fold_and {v : Nat → Nat} : ∀ (l : List (Nat × Nat)) (A : Nat), A.testBit (ixB v) = true → (∀ p ∈ l, (pmP p.1 p.2).testBit (ixB v) = true) → (l.foldl (fun A p => A &&& pmP p.1 p.2) A).testBit (ixB v) = true
  | [], A, h, _ => h
  | p :: l, A, h, hp => fold_and l _ (by rw [Nat.testBit_and, h, hp p List.mem_cons_self]; rfl) (fun q hq => hp q (List.mem_cons_of_mem _ hq))
theorem prs_ok : ∀ p ∈ prs, p.1 < 7 ∧ p.2 < 7 ∧ p.1 ≠ p.2 := by decide
theorem prB_bit {v : Nat → Nat} (h8 : ∀ o, o < 8 → v o < 8) (hi : ∀ a b, a < 8 → b < 8 → v a = v b → a = b) : pmB.testBit (ixB v) = true := by
  refine fold_and prs _ (pmP_bit (by omega) (by omega) (h8 0 (by omega)) (h8 1 (by omega)) (fun e => absurd (hi 0 1 (by omega) (by omega) e) (by omega))) (fun p hp => ?_)
  obtain ⟨h1, h2, h3⟩ := prs_ok p hp
  exact pmP_bit h1 h2 (h8 _ (by omega)) (h8 _ (by omega)) (fun e => h3 (hi _ _ (by omega) (by omega) e))
/-- kind set k is closed at radius n with at most 5040 tables -/
def smK (k n : Nat) : Bool := Nat.ble (bcn 21 (bball (gsK k) n)) 5040
/-- kind set k makes all tables by radius n; the first ball above 5040, of radius n0, has at most 16384 -/
def lgK (k n0 n : Nat) : Bool := Nat.beq (bball (gsK k) n) pmB && (Nat.ble 5041 (bcn 21 (bball (gsK k) n0)) && Nat.ble (bcn 21 (bball (gsK k) n0)) 16384)
