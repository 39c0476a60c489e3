/-! ===== least: the table of a floor, from outs to ins ===== -/
theorem wf8 {l : List FSt} (hf : fineF 3 l) : PmV (runS l) ∧ PmV (runS l.reverse) ∧ (∀ x, runS l.reverse (runS l x) = x) ∧ (∀ x, runS l (runS l.reverse x) = x) := by
  have h1 : ∀ t ∈ l, wfS 3 t := hf.2.2.2
  have h2 : ∀ t ∈ l.reverse, wfS 3 t := fun t ht => h1 t (List.mem_reverse.mp ht)
  have a := runS_inv h2
  rw [List.reverse_reverse] at a
  exact ⟨⟨fun o ho => runS_lt (L := 3) h1 ho, fun x y _ _ e => runS_inj h1 e⟩, ⟨fun o ho => runS_lt (L := 3) h2 ho, fun x y _ _ e => runS_inj h2 e⟩, runS_inv h1, a⟩
def tgW (l : List FSt) : Nat := wdV (runS l.reverse)
theorem tg_PW {l : List FSt} (hf : fineF 3 l) : TbW (tgW l) := by
  have h := (wf8 hf).2.1
  have e : ∀ o, o < 8 → vlW (tgW l) o = runS l.reverse o := fun o ho => vl_wd (h.1 o ho) ho
  refine ⟨wdV_lt _, fun o ho => vlW_lt _ _, fun a b ha hb q => ?_⟩
  rw [e a ha, e b hb] at q
  exact h.2 a b ha hb q
/-- rows below k, and of row k the lanes below j, are packed -/
def unT (v : Nat → Nat) (k j : Nat) : Nat := pkB (fun i => (decide (v (i % 8) < k) || (decide (v (i % 8) = k) && decide (i / 8 < j))) && (v (i % 8)).testBit (i / 8)) 24
theorem unT_step {v : Nat → Nat} {k j o : Nat} (hj : j < 3) (ho : o < 8) (h1 : ∀ z, z < 8 → (v z = k ↔ z = o)) : unT v k j ||| (k / 2 ^ j % 2 * 2 ^ (8 * j + o)) = unT v k (j + 1) := by
  apply Nat.eq_of_testBit_eq
  intro i
  rw [Nat.testBit_or, shfB, dm_bit]
  unfold unT
  rw [pkB_bit, pkB_bit]
  have hb : ∀ (b : Bool) n, (b.toNat).testBit n = (b && decide (n = 0)) := fun b n => by
    cases b
    · simp
    · cases n with
      | zero => rfl
      | succ n => simp [Nat.testBit_succ]
  rw [hb]
  have ho2 := (h1 (i % 8) (Nat.mod_lt _ (by omega)))
  by_cases e : i = 8 * j + o
  · subst e
    rw [show (8 * j + o) % 8 = o by omega, show (8 * j + o) / 8 = j by omega, (h1 o ho).mpr rfl]
    have : 8 * j + o < 24 := by omega
    simp [this]
  · have z : (decide (8 * j + o ≤ i) && (k.testBit j && decide (i - (8 * j + o) = 0))) = false := by
      by_cases q : 8 * j + o ≤ i
      · have : ¬ i - (8 * j + o) = 0 := by omega
        simp [this]
      · simp [q]
    rw [z, Bool.or_false]
    by_cases q : v (i % 8) = k
    · have := ho2.mp q
      have q2 : (i / 8 < j + 1) ↔ (i / 8 < j) := by omega
      simp [q2]
    · simp [q]
theorem unT_row (v : Nat → Nat) (k : Nat) : unT v k 3 = unT v (k + 1) 0 := by
  unfold unT
  refine pkB_congr (fun i hi => ?_)
  have h3 : i / 8 < 3 := by omega
  have h0 : ¬ i / 8 < 0 := by omega
  have e : (v (i % 8) < k + 1) ↔ (v (i % 8) < k ∨ v (i % 8) = k) := by omega
  simp [h3, e]
theorem undo_in {i : Nat → Int32} {r : Nat → Nat → Int32} {v : Nat → Nat} {k o : Nat} (hk : k < 8) (ho : o < 8) (h1 : ∀ z, z < 8 → (v z = k ↔ z = o)) {K4 : Int32 → Int32 → Option Int32} : ∀ (c j n : Nat), j + c = 3 → c < n → f_X7_undoing_20 i r K4 n (nI (unT v k j)) (nI k) (nI o) (nI j) = K4 (nI (unT v k 3)) (nI (k + 1)) := by
  intro c
  induction c with
  | zero =>
    intro j n hj hn
    obtain ⟨m, rfl⟩ : ∃ m, n = m + 1 := ⟨n - 1, by omega⟩
    have e : j = 3 := by omega
    subst e
    rw [f_X7_undoing_20, if_pos (show (3 : Int32) ≤ nI 3 from nI_le (a := 3) (by omega) (by omega)), nI_1]
  | succ c ih =>
    intro j n hj hn
    obtain ⟨m, rfl⟩ : ∃ m, n = m + 1 := ⟨n - 1, by omega⟩
    have hp : 2 ^ (8 * j + o) ≤ 2 ^ 23 := Nat.pow_le_pow_right (by omega) (by omega)
    have hm2 : k / 2 ^ j % 2 < 2 := Nat.mod_lt _ (by omega)
    have hmul : k / 2 ^ j % 2 * 2 ^ (8 * j + o) ≤ 1 * 2 ^ 23 := Nat.mul_le_mul (by omega) hp
    have e8 : (8 : Int32) * nI j + nI o = nI (8 * j + o) := by rw [show (8 : Int32) = nI 8 from rfl, pk_mul, nI_add]
    rw [f_X7_undoing_20, if_neg (show ¬ (3 : Int32) ≤ nI j from nI_ge (b := 3) (by omega) (by omega)), e8, shr (by omega) (by omega), and1 (Nat.lt_of_le_of_lt (Nat.div_le_self _ _) (by omega)), pk_shlN _ (8 * j + o) (s_l _ (by omega)) (by omega), fa_or, unT_step (by omega) ho h1, nI_1]
    exact ih (j + 1) m (by omega) (by omega)
theorem undo_ok {l : List FSt} {i : Nat → Int32} {r : Nat → Nat → Int32} (hf : fineF 3 l) (h : FL 3 l i r) : f_X7_undoing i r = some (nI (tgW l)) := by
  obtain ⟨p1, p2, p3, p4⟩ := wf8 hf
  have go : ∀ (c k n : Nat), k + c = 8 → c < n → f_X7_undoing_4 i r n (nI (unT (runS l.reverse) k 0)) (nI k) = some (nI (unT (runS l.reverse) 8 0)) := by
    intro c
    induction c with
    | zero =>
      intro k n hk hn
      obtain ⟨m, rfl⟩ : ∃ m, n = m + 1 := ⟨n - 1, by omega⟩
      have e : k = 8 := by omega
      subst e
      rw [f_X7_undoing_4, if_pos (show (8 : Int32) ≤ nI 8 from nI_le (a := 8) (by omega) (by omega))]
    | succ c ih =>
      intro k n hk hn
      obtain ⟨m, rfl⟩ : ∃ m, n = m + 1 := ⟨n - 1, by omega⟩
      have e := undo_in (i := i) (r := r) (v := runS l.reverse) (k := k) (o := runS l k) (by omega) (p1.1 k (by omega)) (fun z hz => ⟨fun q => by rw [← q, p4], fun q => by rw [q, p3]⟩) (K4 := f_X7_undoing_4 i r m) 3 0 2000000 (by omega) (by omega)
      rw [nI_0] at e
      rw [f_X7_undoing_4, if_neg (show ¬ (8 : Int32) ≤ nI k from nI_ge (b := 8) (by omega) (by omega)), outOf_ok hf h (show k < 2 ^ 3 by omega), bd_some, e, unT_row]
      exact ih (k + 1) m (by omega) (by omega)
  have e0 : unT (runS l.reverse) 0 0 = 0 := by
    apply Nat.eq_of_testBit_eq
    intro i
    unfold unT
    rw [pkB_bit]
    simp
  have e8 : unT (runS l.reverse) 8 0 = tgW l := by
    unfold unT tgW wdV
    refine pkB_congr (fun i hi => ?_)
    have := p2.1 (i % 8) (Nat.mod_lt _ (by omega))
    simp [this]
  have := go 8 0 2000000 (by omega) (by omega)
  rw [e0, e8, nI_0] at this
  exact this
