/-! ===== TRAILS: the search, as numbers ===== -/
def P12 (v : Nat) : Prop := f_J6_bitCount_0f7a4 (nI v) = some (nI (cnt v 12)) ∧ f_X13_bits (nI v) = some (nI (cnt v 12))
theorem c12_0 : ∀ v : Fin 1024, f_J6_bitCount_0f7a4 (nI v.val) = some (nI (cnt v.val 12)) ∧ f_X13_bits (nI v.val) = some (nI (cnt v.val 12)) := by decide +kernel
theorem c12_1 : ∀ v : Fin 1024, f_J6_bitCount_0f7a4 (nI (1024 + v.val)) = some (nI (cnt (1024 + v.val) 12)) ∧ f_X13_bits (nI (1024 + v.val)) = some (nI (cnt (1024 + v.val) 12)) := by decide +kernel
theorem c12_2 : ∀ v : Fin 1024, f_J6_bitCount_0f7a4 (nI (2048 + v.val)) = some (nI (cnt (2048 + v.val) 12)) ∧ f_X13_bits (nI (2048 + v.val)) = some (nI (cnt (2048 + v.val) 12)) := by decide +kernel
theorem c12_3 : ∀ v : Fin 1024, f_J6_bitCount_0f7a4 (nI (3072 + v.val)) = some (nI (cnt (3072 + v.val) 12)) ∧ f_X13_bits (nI (3072 + v.val)) = some (nI (cnt (3072 + v.val) 12)) := by decide +kernel
theorem c12 {v : Nat} (hv : v < 4096) : f_J6_bitCount_0f7a4 (nI v) = some (nI (cnt v 12)) ∧ f_X13_bits (nI v) = some (nI (cnt v 12)) := by
  by_cases h1 : v < 1024
  · exact c12_0 ⟨v, h1⟩
  · by_cases h2 : v < 2048
    · have h := c12_1 ⟨v - 1024, by omega⟩
      simp only [show 1024 + (v - 1024) = v by omega] at h
      exact h
    · by_cases h3 : v < 3072
      · have h := c12_2 ⟨v - 2048, by omega⟩
        simp only [show 2048 + (v - 2048) = v by omega] at h
        exact h
      · have h := c12_3 ⟨v - 3072, by omega⟩
        simp only [show 3072 + (v - 3072) = v by omega] at h
        exact h
def may (v p : Nat) : Bool := decide (p = 0) || v.testBit (p - 1)
abbrev TS : Type := (Nat → Option Nat) × (Nat → Nat) × Nat
def stT (k u p : Nat) (S : TS) : TS := if may u p = true ∧ S.1 (u ^^^ 2 ^ p) = none ∧ cnt (u ^^^ 2 ^ p) 12 ≤ k then (fun v => if v = u ^^^ 2 ^ p then some ((S.1 u).getD 0 + 1) else S.1 v, fun j => if j = S.2.2 then u ^^^ 2 ^ p else S.2.1 j, S.2.2 + 1) else S
def inT (k u : Nat) : Nat → Nat → TS → TS
  | 0, _, S => S
  | d + 1, p, S => inT k u d (p + 1) (stT k u p S)
theorem xlt {n u p : Nat} (hu : u < 2 ^ n) (hp : p < n) : u ^^^ 2 ^ p < 2 ^ n := Nat.xor_lt_two_pow hu (Nat.pow_lt_pow_right (by omega) hp)
theorem xxb (u p : Nat) : (u ^^^ 2 ^ p) ^^^ 2 ^ p = u := by rw [Nat.xor_assoc, Nat.xor_self, Nat.xor_zero]
theorem may_x (u p : Nat) : may (u ^^^ 2 ^ p) p = may u p := by
  unfold may
  by_cases e : p = 0
  · simp [e]
  · rw [Nat.testBit_xor, Nat.testBit_two_pow]
    have : ¬ p = p - 1 := by omega
    simp [this]
/-- what holds of the search; ds j: how far the j-th is -/
def BI (n k : Nat) (S : TS) (ds : Nat → Nat) (i : Nat) : Prop :=
  (∀ j, j < S.2.2 → S.2.1 j < 2 ^ n ∧ S.1 (S.2.1 j) = some (ds j) ∧ ds j ≤ j) ∧
  (∀ j j', j ≤ j' → j' < S.2.2 → ds j ≤ ds j') ∧
  (i < S.2.2 → ∀ j, j < S.2.2 → ds j ≤ ds i + 1) ∧
  (∀ j j', j < j' → j' < S.2.2 → S.2.1 j ≠ S.2.1 j') ∧
  (∀ v d, S.1 v = some (d + 1) → ∃ p, p < n ∧ may v p = true ∧ S.1 (v ^^^ 2 ^ p) = some d) ∧
  (∀ v d, S.1 v = some d → cnt v 12 ≤ k ∧ ∃ j, j < S.2.2 ∧ S.2.1 j = v)
theorem BI.room {n k i t : Nat} {S : TS} {ds : Nat → Nat} (h : BI n k S ds i) (ht : t < 2 ^ n) (hn : S.1 t = none) : S.2.2 < 2 ^ n := by
  refine Decidable.byContradiction (fun hc => ?_)
  obtain ⟨h1, _, _, h4, _⟩ := h
  obtain ⟨a, b, hab, hb, e⟩ := pigeon (2 ^ n) (fun j => if j < S.2.2 then S.2.1 j else t) (fun j hj => by
    show (if j < S.2.2 then S.2.1 j else t) < 2 ^ n
    by_cases q : j < S.2.2
    · rw [if_pos q]; exact (h1 j q).1
    · rw [if_neg q]; exact ht)
  have ha : a < S.2.2 := by omega
  simp only [ha, if_true] at e
  by_cases q : b < S.2.2
  · rw [if_pos q] at e
    exact h4 a b hab q e
  · rw [if_neg q] at e
    have := (h1 a ha).2.1
    rw [e, hn] at this
    cases this
theorem BI.step {n k i p : Nat} {S : TS} {ds : Nat → Nat} (h : BI n k S ds i) (hi : i < S.2.2) (hp : p < n) : ∃ ds', BI n k (stT k (S.2.1 i) p S) ds' i ∧ (∀ j, j < S.2.2 → ds' j = ds j) := by
  unfold stT
  by_cases hc : may (S.2.1 i) p = true ∧ S.1 (S.2.1 i ^^^ 2 ^ p) = none ∧ cnt (S.2.1 i ^^^ 2 ^ p) 12 ≤ k
  · rw [if_pos hc]
    obtain ⟨hm, hn, hk⟩ := hc
    have hu := (h.1 i hi).1
    have ht := xlt hu hp
    obtain ⟨h1, h2, h3, h4, h5, h6⟩ := h
    have hFu := (h1 i hi).2.1
    have hne : ∀ v d, S.1 v = some d → v ≠ S.2.1 i ^^^ 2 ^ p := fun v d hv e => by rw [e, hn] at hv; cases hv
    refine ⟨fun j => if j = S.2.2 then ds i + 1 else ds j, ⟨?_, ?_, ?_, ?_, ?_, ?_⟩, fun j hj => if_neg (by omega)⟩
    · intro j hj
      simp only [] at hj ⊢
      by_cases e : j = S.2.2
      · subst e
        simp only [if_true, hFu, Option.getD_some]
        exact ⟨ht, trivial, by have := (h1 i hi).2.2; omega⟩
      · have q := h1 j (by omega)
        rw [if_neg e, if_neg e, if_neg (hne _ _ q.2.1)]
        exact q
    · intro j j' hjj hj'
      simp only [] at hj' ⊢
      by_cases e' : j' = S.2.2
      · subst e'
        simp only [if_true]
        by_cases e : j = S.2.2
        · simp [e]
        · rw [if_neg e]
          exact h3 hi j (by omega)
      · rw [if_neg e', if_neg (show ¬ j = S.2.2 by omega)]
        exact h2 j j' hjj (by omega)
    · intro _ j hj
      simp only [] at hj ⊢
      rw [if_neg (show ¬ i = S.2.2 by omega)]
      by_cases e : j = S.2.2
      · rw [if_pos e]; omega
      · rw [if_neg e]
        exact h3 hi j (by omega)
    · intro j j' hjj hj'
      simp only [] at hj' ⊢
      rw [if_neg (show ¬ j = S.2.2 by omega)]
      by_cases e' : j' = S.2.2
      · rw [if_pos e']
        exact hne _ _ (h1 j (by omega)).2.1
      · rw [if_neg e']
        exact h4 j j' hjj (by omega)
    · intro v d hv
      simp only [] at hv ⊢
      by_cases e : v = S.2.1 i ^^^ 2 ^ p
      · rw [if_pos e, hFu, Option.getD_some] at hv
        have hd : d = ds i := by
          injection hv with hv
          omega
        refine ⟨p, hp, ?_, ?_⟩
        · rw [e, may_x]; exact hm
        · rw [e, xxb, if_neg (hne _ _ hFu), hFu, hd]
      · rw [if_neg e] at hv
        obtain ⟨p2, a, b, c⟩ := h5 v d hv
        exact ⟨p2, a, b, by rw [if_neg (hne _ _ c)]; exact c⟩
    · intro v d hv
      simp only [] at hv ⊢
      by_cases e : v = S.2.1 i ^^^ 2 ^ p
      · exact ⟨by rw [e]; exact hk, S.2.2, by omega, by rw [if_pos rfl, e]⟩
      · rw [if_neg e] at hv
        obtain ⟨a, j, b, c⟩ := h6 v d hv
        exact ⟨a, j, by omega, by rw [if_neg (by omega)]; exact c⟩
  · rw [if_neg hc]
    exact ⟨ds, h, fun _ _ => rfl⟩
/-- what a step leaves as it was -/
theorem stT_keep (k u p : Nat) (S : TS) : S.2.2 ≤ (stT k u p S).2.2 ∧ (∀ j, j < S.2.2 → (stT k u p S).2.1 j = S.2.1 j) ∧ (∀ v d, S.1 v = some d → (stT k u p S).1 v = some d) ∧ (∀ v d, S.1 v = none → (stT k u p S).1 v = some d → d = (S.1 u).getD 0 + 1) := by
  unfold stT
  by_cases hc : may u p = true ∧ S.1 (u ^^^ 2 ^ p) = none ∧ cnt (u ^^^ 2 ^ p) 12 ≤ k
  · rw [if_pos hc]
    refine ⟨by simp, fun j hj => by simp only []; rw [if_neg (by omega)], fun v d hv => ?_, fun v d hv hv2 => ?_⟩
    · simp only []
      rw [if_neg (fun e => by rw [e, hc.2.1] at hv; cases hv)]
      exact hv
    · simp only [] at hv2
      by_cases e : v = u ^^^ 2 ^ p
      · rw [if_pos e] at hv2
        injection hv2 with hv2
        exact hv2.symm
      · rw [if_neg e, hv] at hv2
        cases hv2
  · rw [if_neg hc]
    exact ⟨Nat.le_refl _, fun _ _ => rfl, fun _ _ h => h, fun v d h1 h2 => by rw [h1] at h2; cases h2⟩
theorem BI.inner {n k i : Nat} : ∀ (d p : Nat) (S : TS) (ds : Nat → Nat), p + d = n → BI n k S ds i → i < S.2.2 → ∃ ds', BI n k (inT k (S.2.1 i) d p S) ds' i ∧ (∀ j, j < S.2.2 → ds' j = ds j) ∧ S.2.2 ≤ (inT k (S.2.1 i) d p S).2.2 ∧ (∀ j, j < S.2.2 → (inT k (S.2.1 i) d p S).2.1 j = S.2.1 j) ∧ (∀ v d', S.1 v = some d' → (inT k (S.2.1 i) d p S).1 v = some d') ∧ (∀ v d', S.1 v = none → (inT k (S.2.1 i) d p S).1 v = some d' → d' = ds i + 1)
  | 0, p, S, ds, _, h, hi => ⟨ds, h, fun _ _ => rfl, Nat.le_refl _, fun _ _ => rfl, fun _ _ q => q, fun v d' q1 q2 => by rw [show inT k (S.2.1 i) 0 p S = S from rfl, q1] at q2; cases q2⟩
  | d + 1, p, S, ds, hpd, h, hi => by
    obtain ⟨ds1, a1, a2⟩ := h.step hi (p := p) (by omega)
    obtain ⟨k1, k2, k3, k4⟩ := stT_keep k (S.2.1 i) p S
    have hi1 : i < (stT k (S.2.1 i) p S).2.2 := by omega
    obtain ⟨ds2, b1, b2, b3, b4, b5, b6⟩ := BI.inner d (p + 1) (stT k (S.2.1 i) p S) ds1 (by omega) a1 hi1
    rw [k2 i hi] at b1 b3 b4 b5 b6
    have hF := (h.1 i hi).2.1
    refine ⟨ds2, b1, fun j hj => (b2 j (by omega)).trans (a2 j hj), by show _ ≤ (inT k (S.2.1 i) d (p + 1) (stT k (S.2.1 i) p S)).2.2; omega, fun j hj => (b4 j (by omega)).trans (k2 j hj), fun v d' q => b5 v d' (k3 v d' q), fun v d' q1 q2 => ?_⟩
    by_cases e : (stT k (S.2.1 i) p S).1 v = none
    · have := b6 v d' e q2
      rw [a2 i hi] at this
      exact this
    · obtain ⟨d1, hd1⟩ : ∃ d1, (stT k (S.2.1 i) p S).1 v = some d1 := by
        cases q : (stT k (S.2.1 i) p S).1 v with
        | none => exact absurd q e
        | some x => exact ⟨x, rfl⟩
      have h7 := k4 v d1 q1 hd1
      have h8 := b5 v d1 hd1
      have q2' : (inT k (S.2.1 i) d (p + 1) (stT k (S.2.1 i) p S)).1 v = some d' := q2
      rw [h8] at q2'
      injection q2' with q3
      rw [hF, Option.getD_some] at h7
      omega
theorem BI.next {n k i : Nat} {S : TS} {ds : Nat → Nat} (h : BI n k S ds i) (hi : i < S.2.2) : BI n k S ds (i + 1) := by
  obtain ⟨h1, h2, h3, h4, h5, h6⟩ := h
  refine ⟨h1, h2, fun hi1 j hj => ?_, h4, h5, h6⟩
  have a := h3 hi j hj
  have b := h2 i (i + 1) (by omega) hi1
  omega
theorem BI.le {n k i : Nat} {S : TS} {ds : Nat → Nat} (h : BI n k S ds i) (h0 : 0 < S.2.2) : S.2.2 ≤ 2 ^ n := by
  refine Decidable.byContradiction (fun hc => ?_)
  obtain ⟨h1, _, _, h4, _⟩ := h
  obtain ⟨a, b, hab, hb, e⟩ := pigeon (2 ^ n) S.2.1 (fun j hj => (h1 j (by omega)).1)
  exact h4 a b hab (by omega) e
