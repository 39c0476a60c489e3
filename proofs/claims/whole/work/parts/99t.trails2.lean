/-! ===== TRAILS: both searches ===== -/
def fI (o : Option Nat) : Int32 := match o with | none => -1 | some d => nI d
theorem fI_n1 {o : Option Nat} (h : ∀ d, o = some d → d < 4096) : (fI o = -1) ↔ o = none := by
  cases o with
  | none => exact ⟨fun _ => rfl, fun _ => rfl⟩
  | some d => exact ⟨fun q => absurd q (nm1 (by have := h d rfl; omega)), fun q => by cases q⟩
def RC (n : Nat) (S : TS) (r : Nat → Nat → Int32) : Prop := (∀ v, v < 2 ^ n → r 0 v = fI (S.1 v)) ∧ (∀ j, j < S.2.2 → r 1 j = nI (S.2.1 j))
def RM (n : Nat) (S : TS) (mr : Nat → Nat → Int32) : Prop := (∀ v, v < 2 ^ n → mr 72 v = fI (S.1 v)) ∧ (∀ j, j < S.2.2 → mr 73 j = nI (S.2.1 j))
theorem p12 {n : Nat} (h : n ≤ 12) : 2 ^ n ≤ 4096 := by
  have := Nat.pow_le_pow_right (n := 2) (by omega) h
  omega
theorem mayC {v p : Nat} (hv : v < 4096) (hp : p < 12) : f_X10_mayChange (nI v) (nI p) = some (if may v p = true then 1 else 0) := by
  rw [f_X10_mayChange]
  unfold may
  by_cases e : p = 0
  · subst e
    rw [if_pos (show nI 0 = (0 : Int32) from rfl)]
    simp
  · rw [if_neg (nI_ne0 (by omega) (by omega)), nI_s1 (by omega)]
    by_cases h : v.testBit (p - 1) = true
    · rw [if_neg (fun q => by rw [bit_if (by omega) (by omega), h] at q; cases q)]
      simp [h]
    · have h' : v.testBit (p - 1) = false := by simpa using h
      rw [if_pos ((bit_if (by omega) (by omega)).mpr h')]
      simp [e, h']
theorem xI {u p : Nat} (hp : p < 31) : nI u ^^^ ((1 : Int32) <<< (nI p &&& 31)) = nI (u ^^^ 2 ^ p) := by rw [sh1 hp, nx_xor]
theorem moveTo_ok {v p k : Nat} (hv : v < 4096) (hp : p < 12) (hk : k ≤ 12) : f_X13_moveTo (nI v) (nI (p + 1)) (nI k) = some (if may v p = true ∧ cnt (v ^^^ 2 ^ p) 12 ≤ k then nI (v ^^^ 2 ^ p) else -1) := by
  have hx : v ^^^ 2 ^ p < 4096 := xlt (n := 12) hv hp
  have e1 : nI (p + 1) - 1 = nI p := nI_pred p
  have h17 : f_X13_moveTo_17 (nI v) (nI (p + 1)) (nI k) = some (if cnt (v ^^^ 2 ^ p) 12 ≤ k then nI (v ^^^ 2 ^ p) else -1) := by
    have hc := cnt_le (v ^^^ 2 ^ p) 12
    rw [f_X13_moveTo_17, e1, xI (by omega), (c12 hx).2, bd_some]
    by_cases q : cnt (v ^^^ 2 ^ p) 12 ≤ k
    · rw [if_pos (nI_le q (by omega)), if_pos q]
    · rw [if_neg (nI_ge (by omega) (by omega)), if_neg q]
  rw [f_X13_moveTo, h17]
  unfold may
  by_cases e : p = 0
  · subst e
    rw [if_pos (show nI (0 + 1) ≤ (1 : Int32) from nI_le (a := 1) (b := 1) (by omega) (by omega))]
    simp
  · rw [if_neg (show ¬ nI (p + 1) ≤ (1 : Int32) from nI_ge (a := 1) (b := p + 1) (by omega) (by omega)), show nI (p + 1) - 2 = nI (p - 1) from pk_sub (a := p + 1) (b := 2) (by omega)]
    by_cases h : v.testBit (p - 1) = true
    · rw [if_neg (fun q => by rw [bit_if (by omega) (by omega), h] at q; cases q)]
      simp [h]
    · have h' : v.testBit (p - 1) = false := by simpa using h
      rw [if_pos ((bit_if (by omega) (by omega)).mpr h')]
      simp [e, h']
theorem BI.small {n k i : Nat} {S : TS} {ds : Nat → Nat} (h : BI n k S ds i) (hn : n ≤ 12) {v d : Nat} (hv : S.1 v = some d) : d < 4096 ∧ v < 2 ^ n := by
  obtain ⟨_, j, hj, e⟩ := h.2.2.2.2.2 v d hv
  have h1 := h.1 j hj
  rw [e] at h1
  have h2 := h.le (by omega)
  have h3 := p12 hn
  have h4 := h1.2.1
  rw [hv] at h4
  injection h4 with h4
  exact ⟨by omega, h1.1⟩
theorem stT_no {k u p : Nat} {S : TS} (h : ¬ (may u p = true ∧ S.1 (u ^^^ 2 ^ p) = none ∧ cnt (u ^^^ 2 ^ p) 12 ≤ k)) : stT k u p S = S := by
  unfold stT
  rw [if_neg h]
theorem m38_end {i0 : Nat → Int32} {u0 : Nat → Nat} {q e i : Nat} {r : Nat → Nat → Int32} {x1 x2 : Int32} (h : e ≤ i) (hi : i < 2 ^ 31) : f_X10_measure_38 i0 u0 (q + 1) r x1 x2 (nI e) (nI i) = some r := by
  rw [f_X10_measure_38]
  by_cases h4 : 4096 ≤ i
  · rw [if_pos (show (4096 : Int32) ≤ nI i from nI_le (a := 4096) h4 (by omega))]
  · rw [if_neg (show ¬ (4096 : Int32) ≤ nI i from nI_ge (b := 4096) (by omega) (by omega)), if_pos (nI_le h (by omega))]
theorem c75_step {i0 : Nat → Int32} {u0 : Nat → Nat} {K : (Nat → Nat → Int32) → Int32 → Int32 → Int32 → Int32 → Option ((Nat → Nat → Int32))} (hu0 : u0 0 = 4096) (hu1 : u0 1 = 4096) {n k i p q : Nat} {S : TS} {ds : Nat → Nat} {r : Nat → Nat → Int32} (hn : n ≤ 12) (hk : k ≤ 12) (hp : p < n) (h : BI n k S ds i) (hi : i < S.2.2) (hR : RC n S r) : ∃ r', f_X10_measure_75 i0 u0 K (q + 1) r (nI n) (nI k) (nI S.2.2) (nI i) (nI (S.2.1 i)) (nI p) = f_X10_measure_75 i0 u0 K q r' (nI n) (nI k) (nI (stT k (S.2.1 i) p S).2.2) (nI i) (nI (S.2.1 i)) (nI (p + 1)) ∧ RC n (stT k (S.2.1 i) p S) r' ∧ r' 2 = r 2 := by
  have h2n := p12 hn
  have hu := (h.1 i hi).1
  have hF := (h.1 i hi).2.1
  have ht := xlt hu hp
  have hsm := fun v d => h.small hn (v := v) (d := d)
  have hc := cnt_le (S.2.1 i ^^^ 2 ^ p) 12
  have it : inb (nI (S.2.1 i ^^^ 2 ^ p)) 4096 = true := inb_nI (by omega) (by omega)
  have iu : inb (nI (S.2.1 i)) 4096 = true := inb_nI (by omega) (by omega)
  rw [f_X10_measure_75, if_neg (nI_ge hp (by omega)), xI (by omega), hu0, ck_t it, nI_clamp (n := S.2.1 i ^^^ 2 ^ p) (by omega), hR.1 _ ht]
  by_cases hN : S.1 (S.2.1 i ^^^ 2 ^ p) = none
  · have he := h.room ht hN
    have ie : inb (nI S.2.2) 4096 = true := inb_nI (by omega) (by omega)
    rw [if_pos ((fI_n1 (fun d q => (hsm _ d q).1)).mpr hN), if_neg (show ¬ (4096 : Int32) ≤ nI S.2.2 from nI_ge (b := 4096) (by omega) (by omega)), f_X10_measure_114, if_neg n10, mayC (by omega) (by omega), bd_some]
    by_cases hm : may (S.2.1 i) p = true
    · rw [if_pos hm, if_neg n10, (c12 (show S.2.1 i ^^^ 2 ^ p < 4096 by omega)).1, bd_some]
      by_cases hb : cnt (S.2.1 i ^^^ 2 ^ p) 12 ≤ k
      · rw [if_neg (nI_nlt hb (by omega)), hu0, hu1, ck_t iu, ck_t it, ck_t ie, nI_clamp (n := S.2.1 i) (by omega), nI_clamp (n := S.2.1 i ^^^ 2 ^ p) (by omega), nI_clamp (n := S.2.2) (by omega), hR.1 _ hu, hF, f_X10_measure_165, f_X10_measure_168, nI_1, nI_1]
        unfold stT
        rw [if_pos (show may (S.2.1 i) p = true ∧ S.1 (S.2.1 i ^^^ 2 ^ p) = none ∧ cnt (S.2.1 i ^^^ 2 ^ p) 12 ≤ k from ⟨hm, hN, hb⟩)]
        refine ⟨_, rfl, ⟨fun v hv => ?_, fun j hj => ?_⟩, ?_⟩
        · simp only []
          rw [up_n (by omega), up_s]
          by_cases e : v = S.2.1 i ^^^ 2 ^ p
          · subst e
            rw [pk_us, if_pos rfl, hF]
            show nI (ds i) + 1 = nI (ds i + 1)
            rw [nI_1]
          · rw [pk_un e, if_neg e]
            exact hR.1 v hv
        · simp only [] at hj ⊢
          rw [up_s]
          by_cases e : j = S.2.2
          · rw [e, pk_us, if_pos rfl]
          · rw [pk_un e, if_neg e]
            exact hR.2 j (by omega)
        · rw [up_n (by omega), up_n (by omega)]
      · rw [if_pos (nI_lt (by omega) (by omega)), stT_no (fun z => hb z.2.2), f_X10_measure_168, nI_1]
        exact ⟨r, rfl, hR, rfl⟩
    · rw [if_neg hm, if_pos rfl, stT_no (fun z => hm z.1), f_X10_measure_168, nI_1]
      exact ⟨r, rfl, hR, rfl⟩
  · rw [if_neg (fun z => hN ((fI_n1 (fun d q => (hsm _ d q).1)).mp z)), stT_no (fun z => hN z.2.1), f_X10_measure_113, f_X10_measure_114, if_pos rfl, f_X10_measure_168, nI_1]
    exact ⟨r, rfl, hR, rfl⟩
theorem m85_step {mi : Nat → Int32} {ml : Nat → Nat → Int64} {K : (Nat → Int32) → (Nat → Nat → Int32) → Int32 → Int32 → Int32 → Int32 → Option (Int32 × (Nat → Int32) × (Nat → Nat → Int32))} {n k i p q : Nat} {S : TS} {ds : Nat → Nat} {r : Nat → Nat → Int32} (hn : n ≤ 12) (hk : k ≤ 12) (hp : p < n) (h : BI n k S ds i) (hi : i < S.2.2) (hR : RM n S r) : ∃ r', f_X13_trail_85 ml K (q + 1) mi r (nI n) (nI k) (nI S.2.2) (nI i) (nI (p + 1)) = f_X13_trail_85 ml K q mi r' (nI n) (nI k) (nI (stT k (S.2.1 i) p S).2.2) (nI i) (nI (p + 1 + 1)) ∧ RM n (stT k (S.2.1 i) p S) r' ∧ r' 74 = r 74 := by
  have h2n := p12 hn
  have hle := h.le (by omega)
  have hu := (h.1 i hi).1
  have hF := (h.1 i hi).2.1
  have ht := xlt hu hp
  have hsm := fun v d => h.small hn (v := v) (d := d)
  have hc := cnt_le (S.2.1 i ^^^ 2 ^ p) 12
  have it : inb (nI (S.2.1 i ^^^ 2 ^ p)) 4096 = true := inb_nI (by omega) (by omega)
  have iu : inb (nI (S.2.1 i)) 4096 = true := inb_nI (by omega) (by omega)
  have ii : inb (nI i) 4096 = true := inb_nI (by omega) (by omega)
  rw [f_X13_trail_85, if_neg (show ¬ nI n < nI (p + 1) from nI_nlt (by omega) (by omega)), ck_t ii, nI_clamp (n := i) (by omega), hR.2 i hi, moveTo_ok (by omega) (by omega) hk, bd_some]
  unfold stT
  by_cases hm : may (S.2.1 i) p = true ∧ cnt (S.2.1 i ^^^ 2 ^ p) 12 ≤ k
  · rw [if_pos hm, if_neg (nm1 (by omega)), ck_t it, nI_clamp (n := S.2.1 i ^^^ 2 ^ p) (by omega), hR.1 _ ht]
    by_cases hN : S.1 (S.2.1 i ^^^ 2 ^ p) = none
    · have he := h.room ht hN
      have ie : inb (nI S.2.2) 4096 = true := inb_nI (by omega) (by omega)
      rw [if_pos ((fI_n1 (fun d q => (hsm _ d q).1)).mpr hN), ck_t ii, ck_t iu, ck_t it, ck_t ie, nI_clamp (n := S.2.1 i) (by omega), nI_clamp (n := S.2.2) (by omega), hR.1 _ hu, hF, f_X13_trail_156, f_X13_trail_159, nI_1, nI_1, if_pos ⟨hm.1, hN, hm.2⟩]
      refine ⟨_, rfl, ⟨fun v hv => ?_, fun j hj => ?_⟩, ?_⟩
      · simp only []
        rw [up_n (by omega), up_s]
        by_cases e : v = S.2.1 i ^^^ 2 ^ p
        · subst e
          rw [pk_us, if_pos rfl]
          show nI (ds i) + 1 = nI (ds i + 1)
          rw [nI_1]
        · rw [pk_un e, if_neg e]
          exact hR.1 v hv
      · simp only [] at hj ⊢
        rw [up_s]
        by_cases e : j = S.2.2
        · rw [e, pk_us, if_pos rfl]
        · rw [pk_un e, if_neg e]
          exact hR.2 j (by omega)
      · rw [up_n (by omega), up_n (by omega)]
    · rw [if_neg (fun z => hN ((fI_n1 (fun d q => (hsm _ d q).1)).mp z)), if_neg (fun z => hN z.2.1), f_X13_trail_159, nI_1]
      exact ⟨r, rfl, hR, rfl⟩
  · rw [if_neg hm, if_pos rfl, if_neg (fun z => hm ⟨z.1, z.2.2⟩), f_X13_trail_159, nI_1]
    exact ⟨r, rfl, hR, rfl⟩
theorem c75_go {i0 : Nat → Int32} {u0 : Nat → Nat} {K : (Nat → Nat → Int32) → Int32 → Int32 → Int32 → Int32 → Option ((Nat → Nat → Int32))} (hu0 : u0 0 = 4096) (hu1 : u0 1 = 4096) {n k i : Nat} (hn : n ≤ 12) (hk : k ≤ 12) : ∀ (d p q : Nat) (S : TS) (ds : Nat → Nat) (r : Nat → Nat → Int32), p + d = n → d < q → BI n k S ds i → i < S.2.2 → RC n S r → ∃ r', f_X10_measure_75 i0 u0 K q r (nI n) (nI k) (nI S.2.2) (nI i) (nI (S.2.1 i)) (nI p) = K r' (nI n) (nI k) (nI (inT k (S.2.1 i) d p S).2.2) (nI (i + 1)) ∧ RC n (inT k (S.2.1 i) d p S) r' ∧ r' 2 = r 2 := by
  intro d
  induction d with
  | zero =>
    intro p q S ds r hpd hq h hi hR
    obtain ⟨q, rfl⟩ : ∃ q', q = q' + 1 := ⟨q - 1, by omega⟩
    have e : p = n := by omega
    subst e
    refine ⟨r, ?_, hR, rfl⟩
    rw [f_X10_measure_75, if_pos (nI_le (by omega) (by omega)), nI_1]
    rfl
  | succ d ih =>
    intro p q S ds r hpd hq h hi hR
    obtain ⟨q, rfl⟩ : ∃ q', q = q' + 1 := ⟨q - 1, by omega⟩
    obtain ⟨r1, a1, a2, a3⟩ := c75_step (i0 := i0) (K := K) (q := q) hu0 hu1 hn hk (show p < n by omega) h hi hR
    obtain ⟨ds1, b1, b2⟩ := h.step hi (p := p) (by omega)
    obtain ⟨k1, k2, _, _⟩ := stT_keep k (S.2.1 i) p S
    obtain ⟨r2, c1, c2, c3⟩ := ih (p + 1) q (stT k (S.2.1 i) p S) ds1 r1 (by omega) (by omega) b1 (by omega) a2
    rw [k2 i hi] at c1 c2
    exact ⟨r2, a1.trans c1, c2, c3.trans a3⟩
theorem m85_go {mi : Nat → Int32} {ml : Nat → Nat → Int64} {K : (Nat → Int32) → (Nat → Nat → Int32) → Int32 → Int32 → Int32 → Int32 → Option (Int32 × (Nat → Int32) × (Nat → Nat → Int32))} {n k i : Nat} (hn : n ≤ 12) (hk : k ≤ 12) : ∀ (d p q : Nat) (S : TS) (ds : Nat → Nat) (r : Nat → Nat → Int32), p + d = n → d < q → BI n k S ds i → i < S.2.2 → RM n S r → ∃ r', f_X13_trail_85 ml K q mi r (nI n) (nI k) (nI S.2.2) (nI i) (nI (p + 1)) = K mi r' (nI n) (nI k) (nI (inT k (S.2.1 i) d p S).2.2) (nI (i + 1)) ∧ RM n (inT k (S.2.1 i) d p S) r' ∧ r' 74 = r 74 := by
  intro d
  induction d with
  | zero =>
    intro p q S ds r hpd hq h hi hR
    obtain ⟨q, rfl⟩ : ∃ q', q = q' + 1 := ⟨q - 1, by omega⟩
    have e : p = n := by omega
    subst e
    refine ⟨r, ?_, hR, rfl⟩
    rw [f_X13_trail_85, if_pos (nI_lt (by omega) (by omega)), nI_1]
    rfl
  | succ d ih =>
    intro p q S ds r hpd hq h hi hR
    obtain ⟨q, rfl⟩ : ∃ q', q = q' + 1 := ⟨q - 1, by omega⟩
    obtain ⟨r1, a1, a2, a3⟩ := m85_step (mi := mi) (ml := ml) (K := K) (q := q) hn hk (show p < n by omega) h hi hR
    obtain ⟨ds1, b1, b2⟩ := h.step hi (p := p) (by omega)
    obtain ⟨k1, k2, _, _⟩ := stT_keep k (S.2.1 i) p S
    obtain ⟨r2, c1, c2, c3⟩ := ih (p + 1) q (stT k (S.2.1 i) p S) ds1 r1 (by omega) (by omega) b1 (by omega) a2
    rw [k2 i hi] at c1 c2
    exact ⟨r2, a1.trans c1, c2, c3.trans a3⟩
/-- till the class's search ends -/
theorem both_go {i0 mi : Nat → Int32} {u0 : Nat → Nat} {ml : Nat → Nat → Int64} (hu0 : u0 0 = 4096) (hu1 : u0 1 = 4096) {n k : Nat} (hn : n ≤ 12) (hk : k ≤ 12) : ∀ (m i qC qR : Nat) (S : TS) (ds : Nat → Nat) (r mr : Nat → Nat → Int32), 4096 - i ≤ m → m < qC → m < qR → i ≤ S.2.2 → 0 < S.2.2 → BI n k S ds i → RC n S r → RM n S mr → ∃ S' ds' i' qR' r' mr', f_X10_measure_38 i0 u0 qC r (nI n) (nI k) (nI S.2.2) (nI i) = some r' ∧ f_X13_trail_75 ml qR mi mr (nI n) (nI k) (nI S.2.2) (nI i) = f_X13_trail_75 ml qR' mi mr' (nI n) (nI k) (nI S'.2.2) (nI i') ∧ 4096 - i' < qR' ∧ i' ≤ S'.2.2 ∧ 0 < S'.2.2 ∧ BI n k S' ds' i' ∧ (S'.1 0 = none → i' = S'.2.2) ∧ RC n S' r' ∧ RM n S' mr' ∧ r' 2 = r 2 ∧ mr' 74 = mr 74 := by
  intro m
  have h2n := p12 hn
  have hp0 : 0 < 2 ^ n := Nat.pow_pos (by omega)
  have i0' : inb (0 : Int32) 4096 = true := inb_nI (n := 0) (by omega) (by omega)
  have z0 : (0 : Int32).toNatClampNeg = 0 := nI_clamp (n := 0) (by omega)
  induction m with
  | zero =>
    intro i qC qR S ds r mr hm hqC hqR hie h0 h hC hM
    obtain ⟨qC, rfl⟩ : ∃ q', qC = q' + 1 := ⟨qC - 1, by omega⟩
    have hle := h.le h0
    have e : i = S.2.2 := by omega
    refine ⟨S, ds, i, qR, r, mr, ?_, rfl, by omega, hie, h0, h, fun _ => e, hC, hM, rfl, rfl⟩
    exact m38_end (by omega) (by omega)
  | succ m ih =>
    intro i qC qR S ds r mr hm hqC hqR hie h0 h hC hM
    obtain ⟨qC, rfl⟩ : ∃ q', qC = q' + 1 := ⟨qC - 1, by omega⟩
    have hle := h.le h0
    by_cases e : i = S.2.2
    · refine ⟨S, ds, i, qR, r, mr, ?_, rfl, by omega, hie, h0, h, fun _ => e, hC, hM, rfl, rfl⟩
      exact m38_end (by omega) (by omega)
    · have hi : i < S.2.2 := by omega
      by_cases hz : S.1 0 = none
      · obtain ⟨qR, rfl⟩ : ∃ q', qR = q' + 1 := ⟨qR - 1, by omega⟩
        obtain ⟨r1, a1, a2, a3⟩ := c75_go (i0 := i0) (K := f_X10_measure_38 i0 u0 qC) hu0 hu1 hn hk n 0 2000000 S ds r (by omega) (by omega) h hi hC
        obtain ⟨m1, b1, b2, b3⟩ := m85_go (mi := mi) (ml := ml) (K := f_X13_trail_75 ml qR) hn hk n 0 2000000 S ds mr (by omega) (by omega) h hi hM
        obtain ⟨ds1, c1, c2, c3, c4, c5, c6⟩ := BI.inner n 0 S ds (by omega) h hi
        obtain ⟨S', ds', i', qR', r', mr', d1, d2, d3, d4, d5, d6, d7, d8, d9, d10, d11⟩ := ih (i + 1) qC qR (inT k (S.2.1 i) n 0 S) ds1 r1 m1 (by omega) (by omega) (by omega) (by omega) (by omega) (c1.next (by omega)) a2 b2
        refine ⟨S', ds', i', qR', r', mr', ?_, ?_, d3, d4, d5, d6, d7, d8, d9, d10.trans a3, d11.trans b3⟩
        · rw [f_X10_measure_38, if_neg (show ¬ (4096 : Int32) ≤ nI i from nI_ge (b := 4096) (by omega) (by omega)), if_neg (nI_ge hi (by omega)), hu0, ck_t i0', z0, hC.1 0 hp0, hz, if_pos (show fI none = -1 from rfl), hu1, ck_t (inb_nI (by omega) (by omega)), nI_clamp (n := i) (by omega), hC.2 i hi]
          exact a1.trans d1
        · rw [f_X13_trail_75, if_neg (nI_ge hi (by omega))]
          exact b1.trans d2
      · refine ⟨S, ds, i, qR, r, mr, ?_, rfl, by omega, hie, h0, h, fun q => absurd q hz, hC, hM, rfl, rfl⟩
        rw [f_X10_measure_38, if_neg (show ¬ (4096 : Int32) ≤ nI i from nI_ge (b := 4096) (by omega) (by omega)), if_neg (nI_ge hi (by omega)), hu0, ck_t i0', z0, hC.1 0 hp0, if_neg (fun z => hz ((fI_n1 (fun d q => (h.small hn q).1)).mp z))]
/-- the reference's search goes on to its end -/
theorem rest_go {mi : Nat → Int32} {ml : Nat → Nat → Int64} {n k : Nat} (hn : n ≤ 12) (hk : k ≤ 12) : ∀ (m i qR : Nat) (S : TS) (ds : Nat → Nat) (mr : Nat → Nat → Int32), 4096 - i ≤ m → m < qR → i ≤ S.2.2 → 0 < S.2.2 → BI n k S ds i → RM n S mr → ∃ S' ds' i' mr', f_X13_trail_75 ml qR mi mr (nI n) (nI k) (nI S.2.2) (nI i) = (ck (inb 0 4096) (if (mr' 72 (0 : Int32).toNatClampNeg) = (-1) then (some ((-1), mi, mr')) else (ck (inb 0 4096) (f_X13_trail_199 ml 2000000 (upd mi 75 (mr' 72 (0 : Int32).toNatClampNeg)) mr' (nI k) 0 0)))) ∧ BI n k S' ds' i' ∧ RM n S' mr' ∧ (∀ v d, S.1 v = some d → S'.1 v = some d) ∧ (∀ v d, S.1 v = none → S'.1 v = some d → i < S.2.2 ∧ ds i + 1 ≤ d) ∧ mr' 74 = mr 74 := by
  intro m
  have h2n := p12 hn
  induction m with
  | zero =>
    intro i qR S ds mr hm hqR hie h0 h hM
    obtain ⟨qR, rfl⟩ : ∃ q', qR = q' + 1 := ⟨qR - 1, by omega⟩
    have hle := h.le h0
    refine ⟨S, ds, i, mr, ?_, h, hM, fun _ _ q => q, (fun v d q1 q2 => by rw [q1] at q2; cases q2), rfl⟩
    rw [f_X13_trail_75, if_pos (nI_le (by omega) (by omega))]
  | succ m ih =>
    intro i qR S ds mr hm hqR hie h0 h hM
    obtain ⟨qR, rfl⟩ : ∃ q', qR = q' + 1 := ⟨qR - 1, by omega⟩
    have hle := h.le h0
    by_cases e : i = S.2.2
    · refine ⟨S, ds, i, mr, ?_, h, hM, fun _ _ q => q, (fun v d q1 q2 => by rw [q1] at q2; cases q2), rfl⟩
      rw [f_X13_trail_75, if_pos (nI_le (by omega) (by omega))]
    · have hi : i < S.2.2 := by omega
      obtain ⟨m1, b1, b2, b3⟩ := m85_go (mi := mi) (ml := ml) (K := f_X13_trail_75 ml qR) hn hk n 0 2000000 S ds mr (by omega) (by omega) h hi hM
      obtain ⟨ds1, c1, c2, c3, c4, c5, c6⟩ := BI.inner n 0 S ds (by omega) h hi
      obtain ⟨S', ds', i', mr', d1, d2, d3, d4, d5, d6⟩ := ih (i + 1) qR (inT k (S.2.1 i) n 0 S) ds1 m1 (by omega) (by omega) (by omega) (by omega) (c1.next (by omega)) b2
      refine ⟨S', ds', i', mr', ?_, d2, d3, fun v d q => d4 v d (c5 v d q), fun v d q1 q2 => ⟨hi, ?_⟩, d6.trans b3⟩
      · rw [f_X13_trail_75, if_neg (nI_ge hi (by omega))]
        exact b1.trans d1
      · cases q3 : (inT k (S.2.1 i) n 0 S).1 v with
        | none =>
          obtain ⟨g1, g2⟩ := d5 v d q3 q2
          have g3 := c1.2.1 i (i + 1) (by omega) g1
          rw [c2 i hi] at g3
          omega
        | some x =>
          have g1 := c6 v x q1 q3
          have g2 := d4 v x q3
          rw [q2] at g2
          injection g2 with g2
          omega
