/-! X13_putFour -/
set_option maxRecDepth 100000 in
set_option maxHeartbeats 4000000 in
theorem fr_X13_putFour_3  {l0 : Nat → Nat → Int64} {q : (Nat → Int32) × (Nat → Nat → Int32)}  : ∀ (n : Nat), ∀ (i0 : Nat → Int32) (r0 : Nat → Nat → Int32) (x1 : Int32) (x2 : Int32), f_X13_putFour_3 l0 n i0 r0 x1 x2 = some q → (∀ k : Nat, ¬ (k = 2) → q.1 k = i0 k) ∧ (∀ k : Nat, ¬ (k = 1) → q.2 k = r0 k) := by
  intro n
  induction n with
  | zero =>
    intro i0 r0 x1 x2 hf
    rw [f_X13_putFour_3] at hf
    cases hf
  | succ n ih =>
    intro i0 r0 x1 x2 hf
    rw [f_X13_putFour_3] at hf
    by_cases hc : x2 < 0
    · have hf := ite_t hf hc
      obtain rfl := Option.some.inj hf
      exact ⟨fun k _ => rfl, fun k _ => rfl⟩
    · have hf := ite_f hf hc
      have hf := ck_2 hf
      have g1 := ih _ _ _ _ hf
      exact ⟨fun k hk => (by (try dsimp only); rw [g1.1 k (by omega), pk_un (by omega)]), fun k hk => (by (try dsimp only); rw [g1.2 k (by omega), va_up_ne _ _ (by omega)])⟩
set_option maxRecDepth 100000 in
set_option maxHeartbeats 4000000 in
theorem fr_X13_putFour  {i0 : Nat → Int32} {r0 : Nat → Nat → Int32} {l0 : Nat → Nat → Int64} {x1 : Int32} {q : (Nat → Int32) × (Nat → Nat → Int32)} (hf : f_X13_putFour i0 r0 l0 x1 = some q) : (∀ k : Nat, ¬ (k = 2) → q.1 k = i0 k) ∧ (∀ k : Nat, ¬ (k = 1) → q.2 k = r0 k) := by
  rw [f_X13_putFour] at hf
  have g2 := fr_X13_putFour_3  2000000 _ _ _ _ hf
  exact ⟨fun k hk => (by (try dsimp only); rw [g2.1 k (by omega)]), fun k hk => (by (try dsimp only); rw [g2.2 k (by omega)])⟩
/-! X13_feed -/
set_option maxRecDepth 100000 in
set_option maxHeartbeats 4000000 in
theorem fr_X13_feed  {i0 : Nat → Int32} {r0 : Nat → Nat → Int32} {l0 : Nat → Nat → Int64} {x1 : Int32} {x2 : Int32} {x3 : Int32} {x4 : Int32} {x5 : Int32} {q : Int32 × (Nat → Int32) × (Nat → Nat → Int32)} (hf : f_X13_feed i0 r0 l0 x1 x2 x3 x4 x5 = some q) : (∀ k : Nat, ¬ (k = 2) → q.2.1 k = i0 k) ∧ (∀ k : Nat, ¬ (k = 1) → q.2.2 k = r0 k) := by
  rw [f_X13_feed] at hf
  by_cases hc : ((i0 2) + 20) ≤ 900
  · have hf := ite_t hf hc
    obtain ⟨q11, hq11, hf⟩ := bd_s hf
    have fq11 := fr_X13_putFour hq11
    obtain ⟨q12, hq12, hf⟩ := bd_s hf
    have fq12 := fr_X13_putFour hq12
    obtain ⟨q13, hq13, hf⟩ := bd_s hf
    have fq13 := fr_X13_putFour hq13
    obtain ⟨q14, hq14, hf⟩ := bd_s hf
    have fq14 := fr_X13_putFour hq14
    obtain ⟨q15, hq15, hf⟩ := bd_s hf
    have fq15 := fr_X13_putFour hq15
    obtain rfl := Option.some.inj hf
    exact ⟨fun k hk => (by (try dsimp only); rw [fq15.1 k (by omega), fq14.1 k (by omega), fq13.1 k (by omega), fq12.1 k (by omega), fq11.1 k (by omega)]), fun k hk => (by (try dsimp only); rw [fq15.2 k (by omega), fq14.2 k (by omega), fq13.2 k (by omega), fq12.2 k (by omega), fq11.2 k (by omega)])⟩
  · have hf := ite_f hf hc
    obtain rfl := Option.some.inj hf
    exact ⟨fun k _ => rfl, fun k _ => rfl⟩
/-! X13_end -/
set_option maxRecDepth 100000 in
set_option maxHeartbeats 4000000 in
theorem fr_X13_end  {i0 : Nat → Int32} {r0 : Nat → Nat → Int32} {l0 : Nat → Nat → Int64} {x1 : Int32} {q : Int32 × (Nat → Int32)} (hf : f_X13_end i0 r0 l0 x1 = some q) : (∀ k : Nat, ¬ (k = 2) → q.2 k = i0 k) := by
  rw [f_X13_end] at hf
  obtain ⟨q3, hq3, hf⟩ := bd_s hf
  by_cases hc : q3 = 0
  · have hf := ite_t hf hc
    obtain rfl := Option.some.inj hf
    exact fun k _ => rfl
  · have hf := ite_f hf hc
    obtain rfl := Option.some.inj hf
    exact fun k hk => (by (try dsimp only); rw [pk_un (by omega)])
/-! X13_scan -/
set_option maxRecDepth 100000 in
set_option maxHeartbeats 4000000 in
theorem fr_X13_scan_39  {r0 : Nat → Nat → Int32} {l0 : Nat → Nat → Int64} {q : (Nat → Int32)} (K0 : (Nat → Int32) → Option ((Nat → Int32))) (hK0 : ∀ (i0 : Nat → Int32), K0 i0 = some q → (∀ k : Nat, ¬ (k = 4 ∨ k = 5 ∨ k = 6 ∨ k = 7) → q k = i0 k)) : ∀ (i0 : Nat → Int32), f_X13_scan_39 r0 l0 K0 i0 = some q → (∀ k : Nat, ¬ (k = 4 ∨ k = 5 ∨ k = 6 ∨ k = 7) → q k = i0 k) := by
  intro i0 hf
  rw [f_X13_scan_39] at hf
  have g19 := hK0 _ hf
  exact fun k hk => (by (try dsimp only); rw [g19 k (by omega), pk_un (by omega)])
set_option maxRecDepth 100000 in
set_option maxHeartbeats 4000000 in
theorem fr_X13_scan_95  {r0 : Nat → Nat → Int32} {l0 : Nat → Nat → Int64} {q : (Nat → Int32)}  : ∀ (n : Nat), ∀ (i0 : Nat → Int32), f_X13_scan_95 r0 l0 n i0 = some q → (∀ k : Nat, ¬ (k = 4 ∨ k = 5 ∨ k = 6 ∨ k = 7) → q k = i0 k) := by
  intro n
  induction n with
  | zero =>
    intro i0 hf
    rw [f_X13_scan_95] at hf
    cases hf
  | succ n ih =>
    intro i0 hf
    rw [f_X13_scan_95] at hf
    obtain ⟨q20, hq20, hf⟩ := bd_s hf
    obtain ⟨q21, hq21, hf⟩ := bd_s hf
    by_cases hc : q21 = 0
    · have hf := ite_t hf hc
      by_cases hc : ((i0 5) - (i0 4)) ≤ 8
      · have hf := ite_t hf hc
        obtain rfl := Option.some.inj hf
        exact fun k hk => (by (try dsimp only); rw [pk_un (by omega)])
      · have hf := ite_f hf hc
        obtain rfl := Option.some.inj hf
        exact fun k hk => (by (try dsimp only); rw [pk_un (by omega)])
    · have hf := ite_f hf hc
      have g22 := ih _ hf
      exact fun k hk => (by (try dsimp only); rw [g22 k (by omega), pk_un (by omega)])
set_option maxRecDepth 100000 in
set_option maxHeartbeats 4000000 in
theorem fr_X13_scan_210  {r0 : Nat → Nat → Int32} {l0 : Nat → Nat → Int64} {q : (Nat → Int32)} (K160 : (Nat → Int32) → Option ((Nat → Int32))) (hK160 : ∀ (i0 : Nat → Int32), K160 i0 = some q → (∀ k : Nat, ¬ (k = 4 ∨ k = 5 ∨ k = 6 ∨ k = 7) → q k = i0 k)) : ∀ (i0 : Nat → Int32), f_X13_scan_210 r0 l0 K160 i0 = some q → (∀ k : Nat, ¬ (k = 4 ∨ k = 5 ∨ k = 6 ∨ k = 7) → q k = i0 k) := by
  intro i0 hf
  rw [f_X13_scan_210] at hf
  have g23 := hK160 _ hf
  exact fun k hk => (by (try dsimp only); rw [g23 k (by omega), pk_un (by omega)])
set_option maxRecDepth 100000 in
set_option maxHeartbeats 4000000 in
theorem fr_X13_scan_160  {r0 : Nat → Nat → Int32} {l0 : Nat → Nat → Int64} {q : (Nat → Int32)}  : ∀ (n : Nat), ∀ (i0 : Nat → Int32), f_X13_scan_160 r0 l0 n i0 = some q → (∀ k : Nat, ¬ (k = 4 ∨ k = 5 ∨ k = 6 ∨ k = 7) → q k = i0 k) := by
  intro n
  induction n with
  | zero =>
    intro i0 hf
    rw [f_X13_scan_160] at hf
    cases hf
  | succ n ih =>
    intro i0 hf
    rw [f_X13_scan_160] at hf
    obtain ⟨q24, hq24, hf⟩ := bd_s hf
    obtain ⟨q25, hq25, hf⟩ := bd_s hf
    by_cases hc : q25 = 0
    · have hf := ite_t hf hc
      by_cases hc : ((i0 5) - (i0 4)) ≤ 4
      · have hf := ite_t hf hc
        obtain rfl := Option.some.inj hf
        exact fun k hk => (by (try dsimp only); rw [pk_un (by omega)])
      · have hf := ite_f hf hc
        obtain rfl := Option.some.inj hf
        exact fun k hk => (by (try dsimp only); rw [pk_un (by omega)])
    · have hf := ite_f hf hc
      by_cases hc : 4 ≤ ((i0 5) - (i0 4))
      · have hf := ite_t hf hc
        have g26 := fr_X13_scan_210 _ (ih) _ hf
        exact fun k hk => (by (try dsimp only); rw [g26 k (by omega)])
      · have hf := ite_f hf hc
        obtain ⟨q27, hq27, hf⟩ := bd_s hf
        have g28 := fr_X13_scan_210 _ (ih) _ hf
        exact fun k hk => (by (try dsimp only); rw [g28 k (by omega), pk_un (by omega)])
set_option maxRecDepth 100000 in
set_option maxHeartbeats 4000000 in
theorem fr_X13_scan_261  {r0 : Nat → Nat → Int32} {l0 : Nat → Nat → Int64} {q : (Nat → Int32)}  : ∀ (i0 : Nat → Int32) (x1 : Int32) (y0 : Int32), f_X13_scan_261 r0 l0 i0 x1 y0 = some q → (∀ k : Nat, ¬ (k = 4 ∨ k = 5 ∨ k = 6 ∨ k = 7) → q k = i0 k) := by
  intro i0 x1 y0 hf
  rw [f_X13_scan_261] at hf
  obtain rfl := Option.some.inj hf
  exact fun k hk => (by (try dsimp only); rw [pk_un (by omega), pk_un (by omega), pk_un (by omega)])
set_option maxRecDepth 100000 in
set_option maxHeartbeats 4000000 in
theorem fr_X13_scan_52  {r0 : Nat → Nat → Int32} {l0 : Nat → Nat → Int64} {q : (Nat → Int32)}  : ∀ (i0 : Nat → Int32), f_X13_scan_52 r0 l0 i0 = some q → (∀ k : Nat, ¬ (k = 4 ∨ k = 5 ∨ k = 6 ∨ k = 7) → q k = i0 k) := by
  intro i0 hf
  rw [f_X13_scan_52] at hf
  obtain ⟨q29, hq29, hf⟩ := bd_s hf
  by_cases hc : (i0 5) = (i0 3)
  · have hf := ite_t hf hc
    obtain rfl := Option.some.inj hf
    exact fun k hk => (by (try dsimp only); rw [pk_un (by omega), pk_un (by omega)])
  · have hf := ite_f hf hc
    obtain ⟨q30, hq30, hf⟩ := bd_s hf
    by_cases hc : q30 = 0
    · have hf := ite_t hf hc
      obtain ⟨q31, hq31, hf⟩ := bd_s hf
      by_cases hc : q31 = 0
      · have hf := ite_t hf hc
        obtain ⟨q32, hq32, hf⟩ := bd_s hf
        by_cases hc : q32 = 0
        · have hf := ite_t hf hc
          have g33 := fr_X13_scan_261  _ _ _ hf
          exact fun k hk => (by (try dsimp only); rw [g33 k (by omega), pk_un (by omega)])
        · have hf := ite_f hf hc
          have g34 := fr_X13_scan_261  _ _ _ hf
          exact fun k hk => (by (try dsimp only); rw [g34 k (by omega), pk_un (by omega)])
      · have hf := ite_f hf hc
        have g35 := fr_X13_scan_160  2000000 _ hf
        exact fun k hk => (by (try dsimp only); rw [g35 k (by omega), pk_un (by omega), pk_un (by omega)])
    · have hf := ite_f hf hc
      have g36 := fr_X13_scan_95  2000000 _ hf
      exact fun k hk => (by (try dsimp only); rw [g36 k (by omega), pk_un (by omega)])
set_option maxRecDepth 100000 in
set_option maxHeartbeats 4000000 in
theorem fr_X13_scan_0  {r0 : Nat → Nat → Int32} {l0 : Nat → Nat → Int64} {q : (Nat → Int32)}  : ∀ (n : Nat), ∀ (i0 : Nat → Int32), f_X13_scan_0 r0 l0 n i0 = some q → (∀ k : Nat, ¬ (k = 4 ∨ k = 5 ∨ k = 6 ∨ k = 7) → q k = i0 k) := by
  intro n
  induction n with
  | zero =>
    intro i0 hf
    rw [f_X13_scan_0] at hf
    cases hf
  | succ n ih =>
    intro i0 hf
    rw [f_X13_scan_0] at hf
    by_cases hc : (i0 3) ≤ (i0 5)
    · have hf := ite_t hf hc
      have g37 := fr_X13_scan_52  _ hf
      exact fun k hk => (by (try dsimp only); rw [g37 k (by omega)])
    · have hf := ite_f hf hc
      have hf := ck_2 hf
      by_cases hc : (r0 1 (i0 5).toNatClampNeg) = 32
      · have hf := ite_t hf hc
        have g38 := fr_X13_scan_39 _ (ih) _ hf
        exact fun k hk => (by (try dsimp only); rw [g38 k (by omega)])
      · have hf := ite_f hf hc
        have hf := ck_2 hf
        by_cases hc : (r0 1 (i0 5).toNatClampNeg) = 10
        · have hf := ite_t hf hc
          have g40 := fr_X13_scan_39 _ (ih) _ hf
          exact fun k hk => (by (try dsimp only); rw [g40 k (by omega)])
        · have hf := ite_f hf hc
          have g39 := fr_X13_scan_52  _ hf
          exact fun k hk => (by (try dsimp only); rw [g39 k (by omega)])
set_option maxRecDepth 100000 in
set_option maxHeartbeats 4000000 in
theorem fr_X13_scan  {i0 : Nat → Int32} {r0 : Nat → Nat → Int32} {l0 : Nat → Nat → Int64}  {q : (Nat → Int32)} (hf : f_X13_scan i0 r0 l0 = some q) : (∀ k : Nat, ¬ (k = 4 ∨ k = 5 ∨ k = 6 ∨ k = 7) → q k = i0 k) := by
  rw [f_X13_scan] at hf
  have g41 := fr_X13_scan_0  2000000 _ hf
  exact fun k hk => (by (try dsimp only); rw [g41 k (by omega)])
/-! X13_begin -/
set_option maxRecDepth 100000 in
set_option maxHeartbeats 4000000 in
theorem fr_X13_begin_23  {r0 : Nat → Nat → Int32} {l0 : Nat → Nat → Int64} {q : (Nat → Int32)}  : ∀ (i0 : Nat → Int32), f_X13_begin_23 r0 l0 i0 = some q → (∀ k : Nat, ¬ (k = 2 ∨ k = 3 ∨ k = 4 ∨ k = 5 ∨ k = 6 ∨ k = 7 ∨ k = 8 ∨ k = 9) → q k = i0 k) := by
  intro i0 hf
  rw [f_X13_begin_23] at hf
  obtain ⟨q3, hq3, hf⟩ := bd_s hf
  have fq3 := fr_X13_scan hq3
  obtain rfl := Option.some.inj hf
  exact fun k hk => (by (try dsimp only); rw [fq3 k (by omega), pk_un (by omega)])
set_option maxRecDepth 100000 in
set_option maxHeartbeats 4000000 in
theorem fr_X13_begin  {i0 : Nat → Int32} {r0 : Nat → Nat → Int32} {l0 : Nat → Nat → Int64}  {q : (Nat → Int32)} (hf : f_X13_begin i0 r0 l0 = some q) : (∀ k : Nat, ¬ (k = 2 ∨ k = 3 ∨ k = 4 ∨ k = 5 ∨ k = 6 ∨ k = 7 ∨ k = 8 ∨ k = 9) → q k = i0 k) := by
  rw [f_X13_begin] at hf
  have g4 := fr_X13_begin_23  _ hf
  exact fun k hk => (by (try dsimp only); rw [g4 k (by omega), pk_un (by omega), pk_un (by omega), pk_un (by omega), pk_un (by omega)])
/-! X13_wrong -/
set_option maxRecDepth 100000 in
set_option maxHeartbeats 4000000 in
theorem fr_X13_wrong  {i0 : Nat → Int32} {r0 : Nat → Nat → Int32} {l0 : Nat → Nat → Int64} {x1 : Int32} {q : (Nat → Int32)} (hf : f_X13_wrong i0 r0 l0 x1 = some q) : (∀ k : Nat, ¬ (k = 8 ∨ k = 9) → q k = i0 k) := by
  rw [f_X13_wrong] at hf
  obtain rfl := Option.some.inj hf
  exact fun k hk => (by (try dsimp only); rw [pk_un (by omega), pk_un (by omega)])
/-! X13_need -/
set_option maxRecDepth 100000 in
set_option maxHeartbeats 4000000 in
theorem fr_X13_need  {i0 : Nat → Int32} {r0 : Nat → Nat → Int32} {l0 : Nat → Nat → Int64} {x1 : Int32} {x2 : Int32} {q : ((Nat → Int32)) ⊕ ((Nat → Int32))} (hf : f_X13_need i0 r0 l0 x1 x2 = some q) : Sum.elim (fun q => (∀ k : Nat, ¬ (k = 8 ∨ k = 9) → q k = i0 k)) (fun t => (∀ k : Nat, ¬ (k = 8 ∨ k = 9) → t k = i0 k)) q := by
  rw [f_X13_need] at hf
  by_cases hc : x1 = 0
  · have hf := ite_t hf hc
    obtain ⟨q3, hq3, hf⟩ := bd_s hf
    have fq3 := fr_X13_wrong hq3
    obtain rfl := Option.some.inj hf
    exact fun k hk => (by (try dsimp only); rw [fq3 k (by omega)])
  · have hf := ite_f hf hc
    obtain rfl := Option.some.inj hf
    exact fun k _ => rfl
/-! X13_word -/
set_option maxRecDepth 100000 in
set_option maxHeartbeats 4000000 in
theorem fr_X13_word  {i0 : Nat → Int32} {r0 : Nat → Nat → Int32} {l0 : Nat → Nat → Int64}  {q : ((Nat → Int32)) ⊕ ((Nat → Int32))} {w : Nat} (hf : f_X13_word w i0 r0 l0 = some q) : Sum.elim (fun q => (∀ k : Nat, ¬ (k = 4 ∨ k = 5 ∨ k = 6 ∨ k = 7 ∨ k = 8 ∨ k = 9) → q k = i0 k)) (fun t => (∀ k : Nat, ¬ (k = 4 ∨ k = 5 ∨ k = 6 ∨ k = 7 ∨ k = 8 ∨ k = 9) → t k = i0 k)) q := by
  rw [f_X13_word] at hf
  obtain ⟨q7, hq7, hf⟩ := bd_s hf
  rcases (bt_s hf).symm with ⟨t8, hq8, hf⟩ | ⟨q8, hq8, hf⟩
  · have ft8 := fr_X13_need hq8
    obtain rfl := Option.some.inj hf
    exact fun k hk => (by (try dsimp only); rw [ft8 k (by omega)])
  have fq8 := fr_X13_need hq8
  obtain ⟨q9, hq9, hf⟩ := bd_s hf
  have fq9 := fr_X13_scan hq9
  obtain rfl := Option.some.inj hf
  exact fun k hk => (by (try dsimp only); rw [fq9 k (by omega), fq8 k (by omega)])
/-! X13_look -/
set_option maxRecDepth 100000 in
set_option maxHeartbeats 4000000 in
theorem fr_X13_look_14  {r0 : Nat → Nat → Int32} {l0 : Nat → Nat → Int64} {q : (Int32 × (Nat → Int32)) ⊕ ((Nat → Int32))}  : ∀ (i0 : Nat → Int32) (x1 : Int32) (x2 : Int32) (y0 : Int32), f_X13_look_14 r0 l0 i0 x1 x2 y0 = some q → Sum.elim (fun q => (∀ k : Nat, ¬ (k = 8 ∨ k = 9) → q.2 k = i0 k)) (fun t => (∀ k : Nat, ¬ (k = 8 ∨ k = 9) → t k = i0 k)) q := by
  intro i0 x1 x2 y0 hf
  rw [f_X13_look_14] at hf
  rcases (bt_s hf).symm with ⟨t7, hq7, hf⟩ | ⟨q7, hq7, hf⟩
  · have ft7 := fr_X13_need hq7
    obtain rfl := Option.some.inj hf
    exact fun k hk => (by (try dsimp only); rw [ft7 k (by omega)])
  have fq7 := fr_X13_need hq7
  obtain ⟨q8, hq8, hf⟩ := bd_s hf
  rcases (bt_s hf).symm with ⟨t9, hq9, hf⟩ | ⟨q9, hq9, hf⟩
  · have ft9 := fr_X13_need hq9
    obtain rfl := Option.some.inj hf
    exact fun k hk => (by (try dsimp only); rw [ft9 k (by omega), fq7 k (by omega)])
  have fq9 := fr_X13_need hq9
  obtain rfl := Option.some.inj hf
  exact fun k hk => (by (try dsimp only); rw [fq9 k (by omega), fq7 k (by omega)])
set_option maxRecDepth 100000 in
set_option maxHeartbeats 4000000 in
theorem fr_X13_look  {i0 : Nat → Int32} {r0 : Nat → Nat → Int32} {l0 : Nat → Nat → Int64} {x1 : Int32} {x2 : Int32} {q : (Int32 × (Nat → Int32)) ⊕ ((Nat → Int32))} (hf : f_X13_look i0 r0 l0 x1 x2 = some q) : Sum.elim (fun q => (∀ k : Nat, ¬ (k = 8 ∨ k = 9) → q.2 k = i0 k)) (fun t => (∀ k : Nat, ¬ (k = 8 ∨ k = 9) → t k = i0 k)) q := by
  rw [f_X13_look] at hf
  by_cases hc : (i0 6) = 2
  · have hf := ite_t hf hc
    have g11 := fr_X13_look_14  _ _ _ _ hf
    cases q with
    | inl q => exact fun k hk => (by (try dsimp only); rw [g11 k (by omega)])
    | inr t => exact fun k hk => (by (try dsimp only); rw [g11 k (by omega)])
  · have hf := ite_f hf hc
    have g10 := fr_X13_look_14  _ _ _ _ hf
    cases q with
    | inl q => exact fun k hk => (by (try dsimp only); rw [g10 k (by omega)])
    | inr t => exact fun k hk => (by (try dsimp only); rw [g10 k (by omega)])
/-! X13_number -/
set_option maxRecDepth 100000 in
set_option maxHeartbeats 4000000 in
theorem fr_X13_number  {i0 : Nat → Int32} {r0 : Nat → Nat → Int32} {l0 : Nat → Nat → Int64} {x1 : Int32} {x2 : Int32} {q : (Int32 × (Nat → Int32)) ⊕ ((Nat → Int32))} (hf : f_X13_number i0 r0 l0 x1 x2 = some q) : Sum.elim (fun q => (∀ k : Nat, ¬ (k = 4 ∨ k = 5 ∨ k = 6 ∨ k = 7 ∨ k = 8 ∨ k = 9) → q.2 k = i0 k)) (fun t => (∀ k : Nat, ¬ (k = 4 ∨ k = 5 ∨ k = 6 ∨ k = 7 ∨ k = 8 ∨ k = 9) → t k = i0 k)) q := by
  rw [f_X13_number] at hf
  rcases (bt_s hf).symm with ⟨t5, hq5, hf⟩ | ⟨q5, hq5, hf⟩
  · have ft5 := fr_X13_look hq5
    obtain rfl := Option.some.inj hf
    exact fun k hk => (by (try dsimp only); rw [ft5 k (by omega)])
  have fq5 := fr_X13_look hq5
  obtain ⟨q6, hq6, hf⟩ := bd_s hf
  have fq6 := fr_X13_scan hq6
  obtain rfl := Option.some.inj hf
  exact fun k hk => (by (try dsimp only); rw [fq6 k (by omega), fq5 k (by omega)])
/-! X13_sign -/
set_option maxRecDepth 100000 in
set_option maxHeartbeats 4000000 in
theorem fr_X13_sign  {i0 : Nat → Int32} {r0 : Nat → Nat → Int32} {l0 : Nat → Nat → Int64} {x1 : Int32} {q : ((Nat → Int32)) ⊕ ((Nat → Int32))} (hf : f_X13_sign i0 r0 l0 x1 = some q) : Sum.elim (fun q => (∀ k : Nat, ¬ (k = 4 ∨ k = 5 ∨ k = 6 ∨ k = 7 ∨ k = 8 ∨ k = 9) → q k = i0 k)) (fun t => (∀ k : Nat, ¬ (k = 4 ∨ k = 5 ∨ k = 6 ∨ k = 7 ∨ k = 8 ∨ k = 9) → t k = i0 k)) q := by
  rw [f_X13_sign] at hf
  obtain ⟨q7, hq7, hf⟩ := bd_s hf
  rcases (bt_s hf).symm with ⟨t8, hq8, hf⟩ | ⟨q8, hq8, hf⟩
  · have ft8 := fr_X13_need hq8
    obtain rfl := Option.some.inj hf
    exact fun k hk => (by (try dsimp only); rw [ft8 k (by omega)])
  have fq8 := fr_X13_need hq8
  obtain ⟨q9, hq9, hf⟩ := bd_s hf
  have fq9 := fr_X13_scan hq9
  obtain rfl := Option.some.inj hf
  exact fun k hk => (by (try dsimp only); rw [fq9 k (by omega), fq8 k (by omega)])
/-! X13_lane -/
set_option maxRecDepth 100000 in
set_option maxHeartbeats 4000000 in
theorem fr_X13_lane_29  {r0 : Nat → Nat → Int32} {l0 : Nat → Nat → Int64} {q : (Int32 × (Nat → Int32)) ⊕ ((Nat → Int32))}  : ∀ (i0 : Nat → Int32) (x2 : Int32) (y0 : Int32), f_X13_lane_29 r0 l0 i0 x2 y0 = some q → Sum.elim (fun q => (∀ k : Nat, ¬ (k = 4 ∨ k = 5 ∨ k = 6 ∨ k = 7 ∨ k = 8 ∨ k = 9) → q.2 k = i0 k)) (fun t => (∀ k : Nat, ¬ (k = 4 ∨ k = 5 ∨ k = 6 ∨ k = 7 ∨ k = 8 ∨ k = 9) → t k = i0 k)) q := by
  intro i0 x2 y0 hf
  rw [f_X13_lane_29] at hf
  rcases (bt_s hf).symm with ⟨t7, hq7, hf⟩ | ⟨q7, hq7, hf⟩
  · have ft7 := fr_X13_need hq7
    obtain rfl := Option.some.inj hf
    exact fun k hk => (by (try dsimp only); rw [ft7 k (by omega)])
  have fq7 := fr_X13_need hq7
  obtain ⟨q8, hq8, hf⟩ := bd_s hf
  have fq8 := fr_X13_scan hq8
  obtain rfl := Option.some.inj hf
  exact fun k hk => (by (try dsimp only); rw [fq8 k (by omega), fq7 k (by omega)])
set_option maxRecDepth 100000 in
set_option maxHeartbeats 4000000 in
theorem fr_X13_lane  {i0 : Nat → Int32} {r0 : Nat → Nat → Int32} {l0 : Nat → Nat → Int64} {x1 : Int32} {q : (Int32 × (Nat → Int32)) ⊕ ((Nat → Int32))} (hf : f_X13_lane i0 r0 l0 x1 = some q) : Sum.elim (fun q => (∀ k : Nat, ¬ (k = 4 ∨ k = 5 ∨ k = 6 ∨ k = 7 ∨ k = 8 ∨ k = 9) → q.2 k = i0 k)) (fun t => (∀ k : Nat, ¬ (k = 4 ∨ k = 5 ∨ k = 6 ∨ k = 7 ∨ k = 8 ∨ k = 9) → t k = i0 k)) q := by
  rw [f_X13_lane] at hf
  have hf := ck_2 hf
  rcases (bt_s hf).symm with ⟨t9, hq9, hf⟩ | ⟨q9, hq9, hf⟩
  · have ft9 := fr_X13_look hq9
    obtain rfl := Option.some.inj hf
    exact fun k hk => (by (try dsimp only); rw [ft9 k (by omega)])
  have fq9 := fr_X13_look hq9
  by_cases hc : ((x1 >>> (q9.1 &&& 31)) &&& 1) = 0
  · have hf := ite_t hf hc
    have g11 := fr_X13_lane_29  _ _ _ hf
    cases q with
    | inl q => exact fun k hk => (by (try dsimp only); rw [g11 k (by omega), fq9 k (by omega)])
    | inr t => exact fun k hk => (by (try dsimp only); rw [g11 k (by omega), fq9 k (by omega)])
  · have hf := ite_f hf hc
    have g10 := fr_X13_lane_29  _ _ _ hf
    cases q with
    | inl q => exact fun k hk => (by (try dsimp only); rw [g10 k (by omega), fq9 k (by omega)])
    | inr t => exact fun k hk => (by (try dsimp only); rw [g10 k (by omega), fq9 k (by omega)])
/-! X13_add -/
set_option maxRecDepth 100000 in
set_option maxHeartbeats 4000000 in
theorem fr_X13_add_29  {i0 : Nat → Int32} {l0 : Nat → Nat → Int64} {q : (Nat → Nat → Int32)}  : ∀ (r0 : Nat → Nat → Int32) (x3 : Int32) (x4 : Int32), f_X13_add_29 i0 l0 r0 x3 x4 = some q → (∀ k : Nat, ¬ (k = 11 ∨ k = 12 ∨ k = 13 ∨ k = 14) → q k = r0 k) := by
  intro r0 x3 x4 hf
  rw [f_X13_add_29] at hf
  have hf := ck_2 hf
  have hf := ck_2 hf
  have hf := ck_2 hf
  obtain rfl := Option.some.inj hf
  exact fun k hk => (by (try dsimp only); rw [va_up_ne _ _ (by omega), va_up_ne _ _ (by omega)])
set_option maxRecDepth 100000 in
set_option maxHeartbeats 4000000 in
theorem fr_X13_add  {i0 : Nat → Int32} {r0 : Nat → Nat → Int32} {l0 : Nat → Nat → Int64} {x1 : Int32} {x2 : Int32} {x3 : Int32} {q : (Nat → Nat → Int32)} (hf : f_X13_add i0 r0 l0 x1 x2 x3 = some q) : (∀ k : Nat, ¬ (k = 11 ∨ k = 12 ∨ k = 13 ∨ k = 14) → q k = r0 k) := by
  rw [f_X13_add] at hf
  have hf := ck_2 hf
  have hf := ck_2 hf
  have hf := ck_2 hf
  have g1 := fr_X13_add_29  _ _ _ hf
  exact fun k hk => (by (try dsimp only); rw [g1 k (by omega), va_up_ne _ _ (by omega), va_up_ne _ _ (by omega)])
/-! X13_readStep -/
set_option maxRecDepth 100000 in
set_option maxHeartbeats 4000000 in
theorem fr_X13_readStep_98  {l0 : Nat → Nat → Int64} {q : ((Nat → Int32) × (Nat → Nat → Int32)) ⊕ ((Nat → Int32) × (Nat → Nat → Int32))}  : ∀ (n : Nat), ∀ (i0 : Nat → Int32) (r0 : Nat → Nat → Int32) (x2 : Int32) (x3 : Int32) (x4 : Int32) (x5 : Int32), f_X13_readStep_98 l0 n i0 r0 x2 x3 x4 x5 = some q → Sum.elim (fun q => (∀ k : Nat, ¬ (k = 4 ∨ k = 5 ∨ k = 6 ∨ k = 7 ∨ k = 8 ∨ k = 9) → q.1 k = i0 k) ∧ (∀ k : Nat, ¬ (k = 11 ∨ k = 12 ∨ k = 13 ∨ k = 14) → q.2 k = r0 k)) (fun t => (∀ k : Nat, ¬ (k = 4 ∨ k = 5 ∨ k = 6 ∨ k = 7 ∨ k = 8 ∨ k = 9) → t.1 k = i0 k) ∧ (∀ k : Nat, ¬ (k = 11 ∨ k = 12 ∨ k = 13 ∨ k = 14) → t.2 k = r0 k)) q := by
  intro n
  induction n with
  | zero =>
    intro i0 r0 x2 x3 x4 x5 hf
    rw [f_X13_readStep_98] at hf
    cases hf
  | succ n ih =>
    intro i0 r0 x2 x3 x4 x5 hf
    rw [f_X13_readStep_98] at hf
    obtain ⟨q25, hq25, hf⟩ := bd_s hf
    by_cases hc : q25 = 0
    · have hf := ite_t hf hc
      rcases (bt_s hf).symm with ⟨t26, hq26, hf⟩ | ⟨q26, hq26, hf⟩
      · have ft26 := fr_X13_sign hq26
        obtain rfl := Option.some.inj hf
        exact ⟨fun k hk => (by (try dsimp only); rw [ft26 k (by omega)]), fun k _ => rfl⟩
      have fq26 := fr_X13_sign hq26
      obtain ⟨q27, hq27, hf⟩ := bd_s hf
      have fq27 := fr_X13_add hq27
      obtain rfl := Option.some.inj hf
      exact ⟨fun k hk => (by (try dsimp only); rw [fq26 k (by omega)]), fun k hk => (by (try dsimp only); rw [fq27 k (by omega)])⟩
    · have hf := ite_f hf hc
      obtain ⟨q28, hq28, hf⟩ := bd_s hf
      have fq28 := fr_X13_scan hq28
      rcases (bt_s hf).symm with ⟨t29, hq29, hf⟩ | ⟨q29, hq29, hf⟩
      · have ft29 := fr_X13_lane hq29
        obtain rfl := Option.some.inj hf
        exact ⟨fun k hk => (by (try dsimp only); rw [ft29 k (by omega), fq28 k (by omega)]), fun k _ => rfl⟩
      have fq29 := fr_X13_lane hq29
      have g30 := ih _ _ _ _ _ _ hf
      cases q with
      | inl q => exact ⟨fun k hk => (by (try dsimp only); rw [g30.1 k (by omega), fq29 k (by omega), fq28 k (by omega)]), fun k hk => (by (try dsimp only); rw [g30.2 k (by omega)])⟩
      | inr t => exact ⟨fun k hk => (by (try dsimp only); rw [g30.1 k (by omega), fq29 k (by omega), fq28 k (by omega)]), fun k hk => (by (try dsimp only); rw [g30.2 k (by omega)])⟩
set_option maxRecDepth 100000 in
set_option maxHeartbeats 4000000 in
theorem fr_X13_readStep_92  {l0 : Nat → Nat → Int64} {q : ((Nat → Int32) × (Nat → Nat → Int32)) ⊕ ((Nat → Int32) × (Nat → Nat → Int32))}  : ∀ (i0 : Nat → Int32) (r0 : Nat → Nat → Int32) (x2 : Int32) (x3 : Int32) (y0 : Int32) (y1 : Int32), f_X13_readStep_92 l0 i0 r0 x2 x3 y0 y1 = some q → Sum.elim (fun q => (∀ k : Nat, ¬ (k = 4 ∨ k = 5 ∨ k = 6 ∨ k = 7 ∨ k = 8 ∨ k = 9) → q.1 k = i0 k) ∧ (∀ k : Nat, ¬ (k = 11 ∨ k = 12 ∨ k = 13 ∨ k = 14) → q.2 k = r0 k)) (fun t => (∀ k : Nat, ¬ (k = 4 ∨ k = 5 ∨ k = 6 ∨ k = 7 ∨ k = 8 ∨ k = 9) → t.1 k = i0 k) ∧ (∀ k : Nat, ¬ (k = 11 ∨ k = 12 ∨ k = 13 ∨ k = 14) → t.2 k = r0 k)) q := by
  intro i0 r0 x2 x3 y0 y1 hf
  rw [f_X13_readStep_92] at hf
  have g31 := fr_X13_readStep_98  2000000 _ _ _ _ _ _ hf
  cases q with
  | inl q => exact ⟨fun k hk => (by (try dsimp only); rw [g31.1 k (by omega)]), fun k hk => (by (try dsimp only); rw [g31.2 k (by omega)])⟩
  | inr t => exact ⟨fun k hk => (by (try dsimp only); rw [g31.1 k (by omega)]), fun k hk => (by (try dsimp only); rw [g31.2 k (by omega)])⟩
set_option maxRecDepth 100000 in
set_option maxHeartbeats 4000000 in
theorem fr_X13_readStep_77  {l0 : Nat → Nat → Int64} {q : ((Nat → Int32) × (Nat → Nat → Int32)) ⊕ ((Nat → Int32) × (Nat → Nat → Int32))}  : ∀ (i0 : Nat → Int32) (r0 : Nat → Nat → Int32) (x1 : Int32) (x2 : Int32) (y0 : Int32), f_X13_readStep_77 l0 i0 r0 x1 x2 y0 = some q → Sum.elim (fun q => (∀ k : Nat, ¬ (k = 4 ∨ k = 5 ∨ k = 6 ∨ k = 7 ∨ k = 8 ∨ k = 9) → q.1 k = i0 k) ∧ (∀ k : Nat, ¬ (k = 11 ∨ k = 12 ∨ k = 13 ∨ k = 14) → q.2 k = r0 k)) (fun t => (∀ k : Nat, ¬ (k = 4 ∨ k = 5 ∨ k = 6 ∨ k = 7 ∨ k = 8 ∨ k = 9) → t.1 k = i0 k) ∧ (∀ k : Nat, ¬ (k = 11 ∨ k = 12 ∨ k = 13 ∨ k = 14) → t.2 k = r0 k)) q := by
  intro i0 r0 x1 x2 y0 hf
  rw [f_X13_readStep_77] at hf
  by_cases hc : x1 = 0
  · have hf := ite_t hf hc
    have g32 := fr_X13_readStep_92  _ _ _ _ _ _ hf
    cases q with
    | inl q => exact ⟨fun k hk => (by (try dsimp only); rw [g32.1 k (by omega)]), fun k hk => (by (try dsimp only); rw [g32.2 k (by omega)])⟩
    | inr t => exact ⟨fun k hk => (by (try dsimp only); rw [g32.1 k (by omega)]), fun k hk => (by (try dsimp only); rw [g32.2 k (by omega)])⟩
  · have hf := ite_f hf hc
    have g33 := fr_X13_readStep_92  _ _ _ _ _ _ hf
    cases q with
    | inl q => exact ⟨fun k hk => (by (try dsimp only); rw [g33.1 k (by omega)]), fun k hk => (by (try dsimp only); rw [g33.2 k (by omega)])⟩
    | inr t => exact ⟨fun k hk => (by (try dsimp only); rw [g33.1 k (by omega)]), fun k hk => (by (try dsimp only); rw [g33.2 k (by omega)])⟩
set_option maxRecDepth 100000 in
set_option maxHeartbeats 4000000 in
theorem fr_X13_readStep_48  {l0 : Nat → Nat → Int64} {q : ((Nat → Int32) × (Nat → Nat → Int32)) ⊕ ((Nat → Int32) × (Nat → Nat → Int32))}  : ∀ (i0 : Nat → Int32) (r0 : Nat → Nat → Int32) (x1 : Int32) (y0 : Int32), f_X13_readStep_48 l0 i0 r0 x1 y0 = some q → Sum.elim (fun q => (∀ k : Nat, ¬ (k = 4 ∨ k = 5 ∨ k = 6 ∨ k = 7 ∨ k = 8 ∨ k = 9) → q.1 k = i0 k) ∧ (∀ k : Nat, ¬ (k = 11 ∨ k = 12 ∨ k = 13 ∨ k = 14) → q.2 k = r0 k)) (fun t => (∀ k : Nat, ¬ (k = 4 ∨ k = 5 ∨ k = 6 ∨ k = 7 ∨ k = 8 ∨ k = 9) → t.1 k = i0 k) ∧ (∀ k : Nat, ¬ (k = 11 ∨ k = 12 ∨ k = 13 ∨ k = 14) → t.2 k = r0 k)) q := by
  intro i0 r0 x1 y0 hf
  rw [f_X13_readStep_48] at hf
  rcases (bt_s hf).symm with ⟨t34, hq34, hf⟩ | ⟨q34, hq34, hf⟩
  · have ft34 := fr_X13_need hq34
    obtain rfl := Option.some.inj hf
    exact ⟨fun k hk => (by (try dsimp only); rw [ft34 k (by omega)]), fun k _ => rfl⟩
  have fq34 := fr_X13_need hq34
  obtain ⟨q35, hq35, hf⟩ := bd_s hf
  have fq35 := fr_X13_scan hq35
  rcases (bt_s hf).symm with ⟨t36, hq36, hf⟩ | ⟨q36, hq36, hf⟩
  · have ft36 := fr_X13_lane hq36
    obtain rfl := Option.some.inj hf
    exact ⟨fun k hk => (by (try dsimp only); rw [ft36 k (by omega), fq35 k (by omega), fq34 k (by omega)]), fun k _ => rfl⟩
  have fq36 := fr_X13_lane hq36
  by_cases hc : x1 = 0
  · have hf := ite_t hf hc
    have g37 := fr_X13_readStep_77  _ _ _ _ _ hf
    cases q with
    | inl q => exact ⟨fun k hk => (by (try dsimp only); rw [g37.1 k (by omega), fq36 k (by omega), fq35 k (by omega), fq34 k (by omega)]), fun k hk => (by (try dsimp only); rw [g37.2 k (by omega)])⟩
    | inr t => exact ⟨fun k hk => (by (try dsimp only); rw [g37.1 k (by omega), fq36 k (by omega), fq35 k (by omega), fq34 k (by omega)]), fun k hk => (by (try dsimp only); rw [g37.2 k (by omega)])⟩
  · have hf := ite_f hf hc
    rcases (bt_s hf).symm with ⟨t38, hq38, hf⟩ | ⟨q38, hq38, hf⟩
    · have ft38 := fr_X13_lane hq38
      obtain rfl := Option.some.inj hf
      exact ⟨fun k hk => (by (try dsimp only); rw [ft38 k (by omega), fq36 k (by omega), fq35 k (by omega), fq34 k (by omega)]), fun k _ => rfl⟩
    have fq38 := fr_X13_lane hq38
    have g39 := fr_X13_readStep_77  _ _ _ _ _ hf
    cases q with
    | inl q => exact ⟨fun k hk => (by (try dsimp only); rw [g39.1 k (by omega), fq38 k (by omega), fq36 k (by omega), fq35 k (by omega), fq34 k (by omega)]), fun k hk => (by (try dsimp only); rw [g39.2 k (by omega)])⟩
    | inr t => exact ⟨fun k hk => (by (try dsimp only); rw [g39.1 k (by omega), fq38 k (by omega), fq36 k (by omega), fq35 k (by omega), fq34 k (by omega)]), fun k hk => (by (try dsimp only); rw [g39.2 k (by omega)])⟩
set_option maxRecDepth 100000 in
set_option maxHeartbeats 4000000 in
theorem fr_X13_readStep_26  {l0 : Nat → Nat → Int64} {q : ((Nat → Int32) × (Nat → Nat → Int32)) ⊕ ((Nat → Int32) × (Nat → Nat → Int32))}  : ∀ (i0 : Nat → Int32) (r0 : Nat → Nat → Int32) (x1 : Int32) (y0 : Int32), f_X13_readStep_26 l0 i0 r0 x1 y0 = some q → Sum.elim (fun q => (∀ k : Nat, ¬ (k = 4 ∨ k = 5 ∨ k = 6 ∨ k = 7 ∨ k = 8 ∨ k = 9) → q.1 k = i0 k) ∧ (∀ k : Nat, ¬ (k = 11 ∨ k = 12 ∨ k = 13 ∨ k = 14) → q.2 k = r0 k)) (fun t => (∀ k : Nat, ¬ (k = 4 ∨ k = 5 ∨ k = 6 ∨ k = 7 ∨ k = 8 ∨ k = 9) → t.1 k = i0 k) ∧ (∀ k : Nat, ¬ (k = 11 ∨ k = 12 ∨ k = 13 ∨ k = 14) → t.2 k = r0 k)) q := by
  intro i0 r0 x1 y0 hf
  rw [f_X13_readStep_26] at hf
  rcases (bt_s hf).symm with ⟨t40, hq40, hf⟩ | ⟨q40, hq40, hf⟩
  · have ft40 := fr_X13_need hq40
    obtain rfl := Option.some.inj hf
    exact ⟨fun k hk => (by (try dsimp only); rw [ft40 k (by omega)]), fun k _ => rfl⟩
  have fq40 := fr_X13_need hq40
  have hf := ck_2 hf
  by_cases hc : 40 ≤ (r0 11 (6 : Int32).toNatClampNeg)
  · have hf := ite_t hf hc
    have g41 := fr_X13_readStep_48  _ _ _ _ hf
    cases q with
    | inl q => exact ⟨fun k hk => (by (try dsimp only); rw [g41.1 k (by omega), fq40 k (by omega)]), fun k hk => (by (try dsimp only); rw [g41.2 k (by omega)])⟩
    | inr t => exact ⟨fun k hk => (by (try dsimp only); rw [g41.1 k (by omega), fq40 k (by omega)]), fun k hk => (by (try dsimp only); rw [g41.2 k (by omega)])⟩
  · have hf := ite_f hf hc
    have g42 := fr_X13_readStep_48  _ _ _ _ hf
    cases q with
    | inl q => exact ⟨fun k hk => (by (try dsimp only); rw [g42.1 k (by omega), fq40 k (by omega)]), fun k hk => (by (try dsimp only); rw [g42.2 k (by omega)])⟩
    | inr t => exact ⟨fun k hk => (by (try dsimp only); rw [g42.1 k (by omega), fq40 k (by omega)]), fun k hk => (by (try dsimp only); rw [g42.2 k (by omega)])⟩
set_option maxRecDepth 100000 in
set_option maxHeartbeats 4000000 in
theorem fr_X13_readStep_21  {l0 : Nat → Nat → Int64} {q : ((Nat → Int32) × (Nat → Nat → Int32)) ⊕ ((Nat → Int32) × (Nat → Nat → Int32))}  : ∀ (i0 : Nat → Int32) (r0 : Nat → Nat → Int32) (x1 : Int32), f_X13_readStep_21 l0 i0 r0 x1 = some q → Sum.elim (fun q => (∀ k : Nat, ¬ (k = 4 ∨ k = 5 ∨ k = 6 ∨ k = 7 ∨ k = 8 ∨ k = 9) → q.1 k = i0 k) ∧ (∀ k : Nat, ¬ (k = 11 ∨ k = 12 ∨ k = 13 ∨ k = 14) → q.2 k = r0 k)) (fun t => (∀ k : Nat, ¬ (k = 4 ∨ k = 5 ∨ k = 6 ∨ k = 7 ∨ k = 8 ∨ k = 9) → t.1 k = i0 k) ∧ (∀ k : Nat, ¬ (k = 11 ∨ k = 12 ∨ k = 13 ∨ k = 14) → t.2 k = r0 k)) q := by
  intro i0 r0 x1 hf
  rw [f_X13_readStep_21] at hf
  have g43 := fr_X13_readStep_26  _ _ _ _ hf
  cases q with
  | inl q => exact ⟨fun k hk => (by (try dsimp only); rw [g43.1 k (by omega)]), fun k hk => (by (try dsimp only); rw [g43.2 k (by omega)])⟩
  | inr t => exact ⟨fun k hk => (by (try dsimp only); rw [g43.1 k (by omega)]), fun k hk => (by (try dsimp only); rw [g43.2 k (by omega)])⟩
set_option maxRecDepth 100000 in
set_option maxHeartbeats 4000000 in
theorem fr_X13_readStep  {i0 : Nat → Int32} {r0 : Nat → Nat → Int32} {l0 : Nat → Nat → Int64}  {q : ((Nat → Int32) × (Nat → Nat → Int32)) ⊕ ((Nat → Int32) × (Nat → Nat → Int32))} (hf : f_X13_readStep i0 r0 l0 = some q) : Sum.elim (fun q => (∀ k : Nat, ¬ (k = 4 ∨ k = 5 ∨ k = 6 ∨ k = 7 ∨ k = 8 ∨ k = 9) → q.1 k = i0 k) ∧ (∀ k : Nat, ¬ (k = 11 ∨ k = 12 ∨ k = 13 ∨ k = 14) → q.2 k = r0 k)) (fun t => (∀ k : Nat, ¬ (k = 4 ∨ k = 5 ∨ k = 6 ∨ k = 7 ∨ k = 8 ∨ k = 9) → t.1 k = i0 k) ∧ (∀ k : Nat, ¬ (k = 11 ∨ k = 12 ∨ k = 13 ∨ k = 14) → t.2 k = r0 k)) q := by
  rw [f_X13_readStep] at hf
  obtain ⟨q44, hq44, hf⟩ := bd_s hf
  by_cases hc : q44 = 0
  · have hf := ite_t hf hc
    obtain ⟨q46, hq46, hf⟩ := bd_s hf
    by_cases hc : q46 = 0
    · have hf := ite_t hf hc
      have g47 := fr_X13_readStep_26  _ _ _ _ hf
      cases q with
      | inl q => exact ⟨fun k hk => (by (try dsimp only); rw [g47.1 k (by omega)]), fun k hk => (by (try dsimp only); rw [g47.2 k (by omega)])⟩
      | inr t => exact ⟨fun k hk => (by (try dsimp only); rw [g47.1 k (by omega)]), fun k hk => (by (try dsimp only); rw [g47.2 k (by omega)])⟩
    · have hf := ite_f hf hc
      have g48 := fr_X13_readStep_21  _ _ _ hf
      cases q with
      | inl q => exact ⟨fun k hk => (by (try dsimp only); rw [g48.1 k (by omega)]), fun k hk => (by (try dsimp only); rw [g48.2 k (by omega)])⟩
      | inr t => exact ⟨fun k hk => (by (try dsimp only); rw [g48.1 k (by omega)]), fun k hk => (by (try dsimp only); rw [g48.2 k (by omega)])⟩
  · have hf := ite_f hf hc
    have g45 := fr_X13_readStep_21  _ _ _ hf
    cases q with
    | inl q => exact ⟨fun k hk => (by (try dsimp only); rw [g45.1 k (by omega)]), fun k hk => (by (try dsimp only); rw [g45.2 k (by omega)])⟩
    | inr t => exact ⟨fun k hk => (by (try dsimp only); rw [g45.1 k (by omega)]), fun k hk => (by (try dsimp only); rw [g45.2 k (by omega)])⟩
/-! X13_readFloor -/
set_option maxRecDepth 100000 in
set_option maxHeartbeats 4000000 in
theorem fr_X13_readFloor_34  {l0 : Nat → Nat → Int64} {q : ((Nat → Int32) × (Nat → Nat → Int32)) ⊕ ((Nat → Int32) × (Nat → Nat → Int32))}  : ∀ (n : Nat), ∀ (i0 : Nat → Int32) (r0 : Nat → Nat → Int32), f_X13_readFloor_34 l0 n i0 r0 = some q → Sum.elim (fun q => (∀ k : Nat, ¬ (k = 4 ∨ k = 5 ∨ k = 6 ∨ k = 7 ∨ k = 8 ∨ k = 9) → q.1 k = i0 k) ∧ (∀ k : Nat, ¬ (k = 10 ∨ k = 11 ∨ k = 12 ∨ k = 13 ∨ k = 14) → q.2 k = r0 k)) (fun t => (∀ k : Nat, ¬ (k = 4 ∨ k = 5 ∨ k = 6 ∨ k = 7 ∨ k = 8 ∨ k = 9) → t.1 k = i0 k) ∧ (∀ k : Nat, ¬ (k = 10 ∨ k = 11 ∨ k = 12 ∨ k = 13 ∨ k = 14) → t.2 k = r0 k)) q := by
  intro n
  induction n with
  | zero =>
    intro i0 r0 hf
    rw [f_X13_readFloor_34] at hf
    cases hf
  | succ n ih =>
    intro i0 r0 hf
    rw [f_X13_readFloor_34] at hf
    by_cases hc : (i0 6) = 0
    · have hf := ite_t hf hc
      obtain rfl := Option.some.inj hf
      exact ⟨fun k _ => rfl, fun k _ => rfl⟩
    · have hf := ite_f hf hc
      rcases (bt_s hf).symm with ⟨t9, hq9, hf⟩ | ⟨q9, hq9, hf⟩
      · have ft9 := fr_X13_readStep hq9
        obtain rfl := Option.some.inj hf
        exact ⟨fun k hk => (by (try dsimp only); rw [ft9.1 k (by omega)]), fun k hk => (by (try dsimp only); rw [ft9.2 k (by omega)])⟩
      have fq9 := fr_X13_readStep hq9
      have g10 := ih _ _ hf
      cases q with
      | inl q => exact ⟨fun k hk => (by (try dsimp only); rw [g10.1 k (by omega), fq9.1 k (by omega)]), fun k hk => (by (try dsimp only); rw [g10.2 k (by omega), fq9.2 k (by omega)])⟩
      | inr t => exact ⟨fun k hk => (by (try dsimp only); rw [g10.1 k (by omega), fq9.1 k (by omega)]), fun k hk => (by (try dsimp only); rw [g10.2 k (by omega), fq9.2 k (by omega)])⟩
set_option maxRecDepth 100000 in
set_option maxHeartbeats 4000000 in
theorem fr_X13_readFloor_28  {l0 : Nat → Nat → Int64} {q : ((Nat → Int32) × (Nat → Nat → Int32)) ⊕ ((Nat → Int32) × (Nat → Nat → Int32))}  : ∀ (i0 : Nat → Int32) (r0 : Nat → Nat → Int32), f_X13_readFloor_28 l0 i0 r0 = some q → Sum.elim (fun q => (∀ k : Nat, ¬ (k = 4 ∨ k = 5 ∨ k = 6 ∨ k = 7 ∨ k = 8 ∨ k = 9) → q.1 k = i0 k) ∧ (∀ k : Nat, ¬ (k = 10 ∨ k = 11 ∨ k = 12 ∨ k = 13 ∨ k = 14) → q.2 k = r0 k)) (fun t => (∀ k : Nat, ¬ (k = 4 ∨ k = 5 ∨ k = 6 ∨ k = 7 ∨ k = 8 ∨ k = 9) → t.1 k = i0 k) ∧ (∀ k : Nat, ¬ (k = 10 ∨ k = 11 ∨ k = 12 ∨ k = 13 ∨ k = 14) → t.2 k = r0 k)) q := by
  intro i0 r0 hf
  rw [f_X13_readFloor_28] at hf
  rcases (bt_s hf).symm with ⟨t11, hq11, hf⟩ | ⟨q11, hq11, hf⟩
  · have ft11 := fr_X13_sign hq11
    obtain rfl := Option.some.inj hf
    exact ⟨fun k hk => (by (try dsimp only); rw [ft11 k (by omega)]), fun k _ => rfl⟩
  have fq11 := fr_X13_sign hq11
  have g12 := fr_X13_readFloor_34  2000000 _ _ hf
  cases q with
  | inl q => exact ⟨fun k hk => (by (try dsimp only); rw [g12.1 k (by omega), fq11 k (by omega)]), fun k hk => (by (try dsimp only); rw [g12.2 k (by omega)])⟩
  | inr t => exact ⟨fun k hk => (by (try dsimp only); rw [g12.1 k (by omega), fq11 k (by omega)]), fun k hk => (by (try dsimp only); rw [g12.2 k (by omega)])⟩
set_option maxRecDepth 100000 in
set_option maxHeartbeats 4000000 in
theorem fr_X13_readFloor  {i0 : Nat → Int32} {r0 : Nat → Nat → Int32} {l0 : Nat → Nat → Int64}  {q : ((Nat → Int32) × (Nat → Nat → Int32)) ⊕ ((Nat → Int32) × (Nat → Nat → Int32))} (hf : f_X13_readFloor i0 r0 l0 = some q) : Sum.elim (fun q => (∀ k : Nat, ¬ (k = 4 ∨ k = 5 ∨ k = 6 ∨ k = 7 ∨ k = 8 ∨ k = 9) → q.1 k = i0 k) ∧ (∀ k : Nat, ¬ (k = 10 ∨ k = 11 ∨ k = 12 ∨ k = 13 ∨ k = 14) → q.2 k = r0 k)) (fun t => (∀ k : Nat, ¬ (k = 4 ∨ k = 5 ∨ k = 6 ∨ k = 7 ∨ k = 8 ∨ k = 9) → t.1 k = i0 k) ∧ (∀ k : Nat, ¬ (k = 10 ∨ k = 11 ∨ k = 12 ∨ k = 13 ∨ k = 14) → t.2 k = r0 k)) q := by
  rw [f_X13_readFloor] at hf
  have hf := ck_2 hf
  rcases (bt_s hf).symm with ⟨t13, hq13, hf⟩ | ⟨q13, hq13, hf⟩
  · have ft13 := fr_X13_word hq13
    obtain rfl := Option.some.inj hf
    exact ⟨fun k hk => (by (try dsimp only); rw [ft13 k (by omega)]), fun k hk => (by (try dsimp only); rw [va_up_ne _ _ (by omega)])⟩
  have fq13 := fr_X13_word hq13
  rcases (bt_s hf).symm with ⟨t14, hq14, hf⟩ | ⟨q14, hq14, hf⟩
  · have ft14 := fr_X13_number hq14
    obtain rfl := Option.some.inj hf
    exact ⟨fun k hk => (by (try dsimp only); rw [ft14 k (by omega), fq13 k (by omega)]), fun k hk => (by (try dsimp only); rw [va_up_ne _ _ (by omega)])⟩
  have fq14 := fr_X13_number hq14
  have hf := ck_2 hf
  have g15 := fr_X13_readFloor_28  _ _ hf
  cases q with
  | inl q => exact ⟨fun k hk => (by (try dsimp only); rw [g15.1 k (by omega), fq14 k (by omega), fq13 k (by omega)]), fun k hk => (by (try dsimp only); rw [g15.2 k (by omega), va_up_ne _ _ (by omega), va_up_ne _ _ (by omega)])⟩
  | inr t => exact ⟨fun k hk => (by (try dsimp only); rw [g15.1 k (by omega), fq14 k (by omega), fq13 k (by omega)]), fun k hk => (by (try dsimp only); rw [g15.2 k (by omega), va_up_ne _ _ (by omega), va_up_ne _ _ (by omega)])⟩
/-! X13_copyFloor -/
set_option maxRecDepth 100000 in
set_option maxHeartbeats 4000000 in
theorem fr_X13_copyFloor_80  {i0 : Nat → Int32} {l0 : Nat → Nat → Int64} {q : (Nat → Nat → Int32)} (K26 : (Nat → Nat → Int32) → Int32 → Int32 → Int32 → Option ((Nat → Nat → Int32))) (hK26 : ∀ (r0 : Nat → Nat → Int32) (x1 : Int32) (x2 : Int32) (x3 : Int32), K26 r0 x1 x2 x3 = some q → (∀ k : Nat, ¬ (k = 10 ∨ k = 11 ∨ k = 12 ∨ k = 13 ∨ k = 14) → q k = r0 k)) : ∀ (r0 : Nat → Nat → Int32) (x1 : Int32) (x2 : Int32) (x3 : Int32), f_X13_copyFloor_80 i0 l0 K26 r0 x1 x2 x3 = some q → (∀ k : Nat, ¬ (k = 10 ∨ k = 11 ∨ k = 12 ∨ k = 13 ∨ k = 14) → q k = r0 k) := by
  intro r0 x1 x2 x3 hf
  rw [f_X13_copyFloor_80] at hf
  have hf := ck_2 hf
  have hf := ck_2 hf
  have g1 := hK26 _ _ _ _ hf
  exact fun k hk => (by (try dsimp only); rw [g1 k (by omega), va_up_ne _ _ (by omega)])
set_option maxRecDepth 100000 in
set_option maxHeartbeats 4000000 in
theorem fr_X13_copyFloor_26  {i0 : Nat → Int32} {l0 : Nat → Nat → Int64} {q : (Nat → Nat → Int32)}  : ∀ (n : Nat), ∀ (r0 : Nat → Nat → Int32) (x1 : Int32) (x2 : Int32) (x3 : Int32), f_X13_copyFloor_26 i0 l0 n r0 x1 x2 x3 = some q → (∀ k : Nat, ¬ (k = 10 ∨ k = 11 ∨ k = 12 ∨ k = 13 ∨ k = 14) → q k = r0 k) := by
  intro n
  induction n with
  | zero =>
    intro r0 x1 x2 x3 hf
    rw [f_X13_copyFloor_26] at hf
    cases hf
  | succ n ih =>
    intro r0 x1 x2 x3 hf
    rw [f_X13_copyFloor_26] at hf
    have hf := ck_2 hf
    by_cases hc : (r0 11 x1.toNatClampNeg) ≤ x3
    · have hf := ite_t hf hc
      obtain rfl := Option.some.inj hf
      exact fun k _ => rfl
    · have hf := ite_f hf hc
      have hf := ck_2 hf
      have hf := ck_2 hf
      have hf := ck_2 hf
      have hf := ck_2 hf
      have g2 := fr_X13_copyFloor_80 _ (ih) _ _ _ _ hf
      exact fun k hk => (by (try dsimp only); rw [g2 k (by omega), va_up_ne _ _ (by omega), va_up_ne _ _ (by omega)])
set_option maxRecDepth 100000 in
set_option maxHeartbeats 4000000 in
theorem fr_X13_copyFloor_24  {i0 : Nat → Int32} {l0 : Nat → Nat → Int64} {q : (Nat → Nat → Int32)}  : ∀ (r0 : Nat → Nat → Int32) (x1 : Int32) (x2 : Int32), f_X13_copyFloor_24 i0 l0 r0 x1 x2 = some q → (∀ k : Nat, ¬ (k = 10 ∨ k = 11 ∨ k = 12 ∨ k = 13 ∨ k = 14) → q k = r0 k) := by
  intro r0 x1 x2 hf
  rw [f_X13_copyFloor_24] at hf
  have g3 := fr_X13_copyFloor_26  2000000 _ _ _ _ hf
  exact fun k hk => (by (try dsimp only); rw [g3 k (by omega)])
set_option maxRecDepth 100000 in
set_option maxHeartbeats 4000000 in
theorem fr_X13_copyFloor  {i0 : Nat → Int32} {r0 : Nat → Nat → Int32} {l0 : Nat → Nat → Int64} {x1 : Int32} {x2 : Int32} {q : (Nat → Nat → Int32)} (hf : f_X13_copyFloor i0 r0 l0 x1 x2 = some q) : (∀ k : Nat, ¬ (k = 10 ∨ k = 11 ∨ k = 12 ∨ k = 13 ∨ k = 14) → q k = r0 k) := by
  rw [f_X13_copyFloor] at hf
  have hf := ck_2 hf
  have hf := ck_2 hf
  have hf := ck_2 hf
  have hf := ck_2 hf
  have g4 := fr_X13_copyFloor_24  _ _ _ hf
  exact fun k hk => (by (try dsimp only); rw [g4 k (by omega), va_up_ne _ _ (by omega), va_up_ne _ _ (by omega)])
/-! X13_floor -/
set_option maxRecDepth 100000 in
set_option maxHeartbeats 4000000 in
theorem fr_X13_floor  {i0 : Nat → Int32} {r0 : Nat → Nat → Int32} {l0 : Nat → Nat → Int64} {f1 : List Value} {x1 : Int32} {q : Int32 × (Nat → Int32) × (Nat → Nat → Int32)} (hf : f_X13_floor i0 r0 l0 f1 x1 = some q) : (∀ k : Nat, ¬ (k = 2 ∨ k = 3 ∨ k = 4 ∨ k = 5 ∨ k = 6 ∨ k = 7 ∨ k = 8 ∨ k = 9) → q.2.1 k = i0 k) ∧ (∀ k : Nat, ¬ (k = 10 ∨ k = 11 ∨ k = 12 ∨ k = 13 ∨ k = 14) → q.2.2 k = r0 k) := by
  rw [f_X13_floor] at hf
  obtain ⟨q9, hq9, hf⟩ := bd_s hf
  by_cases hc : q9 = 0
  · have hf := ite_t hf hc
    obtain rfl := Option.some.inj hf
    exact ⟨fun k hk => (by (try dsimp only); rw [pk_un (by omega)]), fun k _ => rfl⟩
  · have hf := ite_f hf hc
    obtain ⟨q10, hq10, hf⟩ := bd_s hf
    have fq10 := fr_X13_begin hq10
    rcases (bt_s hf).symm with ⟨t11, hq11, hf⟩ | ⟨q11, hq11, hf⟩
    · have ft11 := fr_X13_readFloor hq11
      obtain rfl := Option.some.inj hf
      exact ⟨fun k hk => (by (try dsimp only); rw [ft11.1 k (by omega), fq10 k (by omega)]), fun k hk => (by (try dsimp only); rw [ft11.2 k (by omega)])⟩
    have fq11 := fr_X13_readFloor hq11
    obtain ⟨q12, hq12, hf⟩ := bd_s hf
    have fq12 := fr_X13_copyFloor hq12
    have hf := ck_2 hf
    obtain rfl := Option.some.inj hf
    exact ⟨fun k hk => (by (try dsimp only); rw [fq11.1 k (by omega), fq10 k (by omega)]), fun k hk => (by (try dsimp only); rw [fq12 k (by omega), fq11.2 k (by omega)])⟩
/-! X13_findTable -/
set_option maxRecDepth 100000 in
set_option maxHeartbeats 4000000 in
theorem fr_X13_findTable_2  {i0 : Nat → Int32} {l0 : Nat → Nat → Int64} {q : (Nat → Nat → Int32)}  : ∀ (n : Nat), ∀ (r0 : Nat → Nat → Int32) (x1 : Int32) (x2 : Int32), f_X13_findTable_2 i0 l0 n r0 x1 x2 = some q → (∀ k : Nat, ¬ (k = 15) → q k = r0 k) := by
  intro n
  induction n with
  | zero =>
    intro r0 x1 x2 hf
    rw [f_X13_findTable_2] at hf
    cases hf
  | succ n ih =>
    intro r0 x1 x2 hf
    rw [f_X13_findTable_2] at hf
    have hf := ck_2 hf
    by_cases hc : ((1 : Int32) <<< ((r0 10 x1.toNatClampNeg) &&& 31)) ≤ x2
    · have hf := ite_t hf hc
      obtain rfl := Option.some.inj hf
      exact fun k _ => rfl
    · have hf := ite_f hf hc
      obtain ⟨q3, hq3, hf⟩ := bd_s hf
      have hf := ck_2 hf
      have g4 := ih _ _ _ hf
      exact fun k hk => (by (try dsimp only); rw [g4 k (by omega), va_up_ne _ _ (by omega)])
set_option maxRecDepth 100000 in
set_option maxHeartbeats 4000000 in
theorem fr_X13_findTable  {i0 : Nat → Int32} {r0 : Nat → Nat → Int32} {l0 : Nat → Nat → Int64} {x1 : Int32} {q : (Nat → Nat → Int32)} (hf : f_X13_findTable i0 r0 l0 x1 = some q) : (∀ k : Nat, ¬ (k = 15) → q k = r0 k) := by
  rw [f_X13_findTable] at hf
  have g5 := fr_X13_findTable_2  2000000 _ _ _ hf
  exact fun k hk => (by (try dsimp only); rw [g5 k (by omega)])
/-! X13_odd -/
set_option maxRecDepth 100000 in
set_option maxHeartbeats 4000000 in
theorem fr_X13_odd_96  {i0 : Nat → Int32} {l0 : Nat → Nat → Int64} {q : Int32 × (Nat → Nat → Int32)} (K46 : (Nat → Nat → Int32) → Int32 → Int32 → Int32 → Option (Int32 × (Nat → Nat → Int32))) (hK46 : ∀ (r0 : Nat → Nat → Int32) (x1 : Int32) (x2 : Int32) (x3 : Int32), K46 r0 x1 x2 x3 = some q → (∀ k : Nat, ¬ (k = 15 ∨ k = 16) → q.2 k = r0 k)) (K61 : (Nat → Nat → Int32) → Int32 → Int32 → Int32 → Int32 → Option (Int32 × (Nat → Nat → Int32))) (hK61 : ∀ (r0 : Nat → Nat → Int32) (x1 : Int32) (x2 : Int32) (x3 : Int32) (x4 : Int32), K61 r0 x1 x2 x3 x4 = some q → (∀ k : Nat, ¬ (k = 15 ∨ k = 16) → q.2 k = r0 k)) : ∀ (r0 : Nat → Nat → Int32) (x1 : Int32) (x3 : Int32) (x4 : Int32) (y0 : Int32) (y1 : Int32), f_X13_odd_96 i0 l0 K46 K61 r0 x1 x3 x4 y0 y1 = some q → (∀ k : Nat, ¬ (k = 15 ∨ k = 16) → q.2 k = r0 k) := by
  intro r0 x1 x3 x4 y0 y1 hf
  rw [f_X13_odd_96] at hf
  have hf := ck_2 hf
  have g5 := hK61 _ _ _ _ _ hf
  exact fun k hk => (by (try dsimp only); rw [g5 k (by omega)])
set_option maxRecDepth 100000 in
set_option maxHeartbeats 4000000 in
theorem fr_X13_odd_61  {i0 : Nat → Int32} {l0 : Nat → Nat → Int64} {q : Int32 × (Nat → Nat → Int32)} (K46 : (Nat → Nat → Int32) → Int32 → Int32 → Int32 → Option (Int32 × (Nat → Nat → Int32))) (hK46 : ∀ (r0 : Nat → Nat → Int32) (x1 : Int32) (x2 : Int32) (x3 : Int32), K46 r0 x1 x2 x3 = some q → (∀ k : Nat, ¬ (k = 15 ∨ k = 16) → q.2 k = r0 k)) : ∀ (n : Nat), ∀ (r0 : Nat → Nat → Int32) (x1 : Int32) (x2 : Int32) (x3 : Int32) (x4 : Int32), f_X13_odd_61 i0 l0 K46 n r0 x1 x2 x3 x4 = some q → (∀ k : Nat, ¬ (k = 15 ∨ k = 16) → q.2 k = r0 k) := by
  intro n
  induction n with
  | zero =>
    intro r0 x1 x2 x3 x4 hf
    rw [f_X13_odd_61] at hf
    cases hf
  | succ n ih =>
    intro r0 x1 x2 x3 x4 hf
    rw [f_X13_odd_61] at hf
    have hf := ck_2 hf
    by_cases hc : (r0 16 x4.toNatClampNeg) = 0
    · have hf := ite_t hf hc
      have hf := ck_2 hf
      have hf := ck_2 hf
      by_cases hc : (r0 15 x4.toNatClampNeg) = x3
      · have hf := ite_t hf hc
        have g8 := fr_X13_odd_96 _ (hK46) _ (ih) _ _ _ _ _ _ hf
        exact fun k hk => (by (try dsimp only); rw [g8 k (by omega), va_up_ne _ _ (by omega)])
      · have hf := ite_f hf hc
        have g7 := fr_X13_odd_96 _ (hK46) _ (ih) _ _ _ _ _ _ hf
        exact fun k hk => (by (try dsimp only); rw [g7 k (by omega), va_up_ne _ _ (by omega)])
    · have hf := ite_f hf hc
      have g6 := hK46 _ _ _ _ hf
      exact fun k hk => (by (try dsimp only); rw [g6 k (by omega)])
set_option maxRecDepth 100000 in
set_option maxHeartbeats 4000000 in
theorem fr_X13_odd_46  {i0 : Nat → Int32} {l0 : Nat → Nat → Int64} {q : Int32 × (Nat → Nat → Int32)}  : ∀ (n : Nat), ∀ (r0 : Nat → Nat → Int32) (x1 : Int32) (x2 : Int32) (x3 : Int32), f_X13_odd_46 i0 l0 n r0 x1 x2 x3 = some q → (∀ k : Nat, ¬ (k = 15 ∨ k = 16) → q.2 k = r0 k) := by
  intro n
  induction n with
  | zero =>
    intro r0 x1 x2 x3 hf
    rw [f_X13_odd_46] at hf
    cases hf
  | succ n ih =>
    intro r0 x1 x2 x3 hf
    rw [f_X13_odd_46] at hf
    have hf := ck_2 hf
    by_cases hc : ((1 : Int32) <<< ((r0 10 x1.toNatClampNeg) &&& 31)) ≤ x3
    · have hf := ite_t hf hc
      have hf := ck_2 hf
      obtain rfl := Option.some.inj hf
      exact fun k _ => rfl
    · have hf := ite_f hf hc
      have g9 := fr_X13_odd_61 _ (ih) 2000000 _ _ _ _ _ hf
      exact fun k hk => (by (try dsimp only); rw [g9 k (by omega)])
set_option maxRecDepth 100000 in
set_option maxHeartbeats 4000000 in
theorem fr_X13_odd_19  {i0 : Nat → Int32} {l0 : Nat → Nat → Int64} {q : Int32 × (Nat → Nat → Int32)}  : ∀ (n : Nat), ∀ (r0 : Nat → Nat → Int32) (x1 : Int32) (x2 : Int32) (x3 : Int32), f_X13_odd_19 i0 l0 n r0 x1 x2 x3 = some q → (∀ k : Nat, ¬ (k = 15 ∨ k = 16) → q.2 k = r0 k) := by
  intro n
  induction n with
  | zero =>
    intro r0 x1 x2 x3 hf
    rw [f_X13_odd_19] at hf
    cases hf
  | succ n ih =>
    intro r0 x1 x2 x3 hf
    rw [f_X13_odd_19] at hf
    have hf := ck_2 hf
    by_cases hc : ((1 : Int32) <<< ((r0 10 x1.toNatClampNeg) &&& 31)) ≤ x3
    · have hf := ite_t hf hc
      have g10 := fr_X13_odd_46  2000000 _ _ _ _ hf
      exact fun k hk => (by (try dsimp only); rw [g10 k (by omega)])
    · have hf := ite_f hf hc
      have hf := ck_2 hf
      have g11 := ih _ _ _ _ hf
      exact fun k hk => (by (try dsimp only); rw [g11 k (by omega), va_up_ne _ _ (by omega)])
set_option maxRecDepth 100000 in
set_option maxHeartbeats 4000000 in
theorem fr_X13_odd  {i0 : Nat → Int32} {r0 : Nat → Nat → Int32} {l0 : Nat → Nat → Int64} {x1 : Int32} {q : Int32 × (Nat → Nat → Int32)} (hf : f_X13_odd i0 r0 l0 x1 = some q) : (∀ k : Nat, ¬ (k = 15 ∨ k = 16) → q.2 k = r0 k) := by
  rw [f_X13_odd] at hf
  obtain ⟨q12, hq12, hf⟩ := bd_s hf
  by_cases hc : q12 = 0
  · have hf := ite_t hf hc
    obtain rfl := Option.some.inj hf
    exact fun k _ => rfl
  · have hf := ite_f hf hc
    obtain ⟨q13, hq13, hf⟩ := bd_s hf
    have fq13 := fr_X13_findTable hq13
    have g14 := fr_X13_odd_19  2000000 _ _ _ _ hf
    exact fun k hk => (by (try dsimp only); rw [g14 k (by omega), fq13 k (by omega)])
/-! X13_cycle -/
set_option maxRecDepth 100000 in
set_option maxHeartbeats 4000000 in
theorem fr_X13_cycle  {i0 : Nat → Int32} {r0 : Nat → Nat → Int32} {l0 : Nat → Nat → Int64} {x1 : Int32} {x2 : Int32} {q : Int32 × (Nat → Nat → Int32)} (hf : f_X13_cycle i0 r0 l0 x1 x2 = some q) : (∀ k : Nat, ¬ (k = 15) → q.2 k = r0 k) := by
  rw [f_X13_cycle] at hf
  obtain ⟨q9, hq9, hf⟩ := bd_s hf
  by_cases hc : q9 = 0
  · have hf := ite_t hf hc
    obtain rfl := Option.some.inj hf
    exact fun k _ => rfl
  · have hf := ite_f hf hc
    obtain ⟨q10, hq10, hf⟩ := bd_s hf
    by_cases hc : q10 = 0
    · have hf := ite_t hf hc
      obtain rfl := Option.some.inj hf
      exact fun k _ => rfl
    · have hf := ite_f hf hc
      obtain ⟨q11, hq11, hf⟩ := bd_s hf
      have fq11 := fr_X13_findTable hq11
      obtain ⟨q12, hq12, hf⟩ := bd_s hf
      obtain rfl := Option.some.inj hf
      exact fun k hk => (by (try dsimp only); rw [fq11 k (by omega)])
/-! X13_order -/
set_option maxRecDepth 100000 in
set_option maxHeartbeats 4000000 in
theorem fr_X13_order_21  {i0 : Nat → Int32} {l0 : Nat → Nat → Int64} {q : Int64 × (Nat → Nat → Int32)}  : ∀ (n : Nat), ∀ (r0 : Nat → Nat → Int32) (x1 : Int32) (x2 : Int64) (x4 : Int32), f_X13_order_21 i0 l0 n r0 x1 x2 x4 = some q → (∀ k : Nat, ¬ (k = 15) → q.2 k = r0 k) := by
  intro n
  induction n with
  | zero =>
    intro r0 x1 x2 x4 hf
    rw [f_X13_order_21] at hf
    cases hf
  | succ n ih =>
    intro r0 x1 x2 x4 hf
    rw [f_X13_order_21] at hf
    have hf := ck_2 hf
    by_cases hc : ((1 : Int32) <<< ((r0 10 x1.toNatClampNeg) &&& 31)) ≤ x4
    · have hf := ite_t hf hc
      obtain rfl := Option.some.inj hf
      exact fun k _ => rfl
    · have hf := ite_f hf hc
      obtain ⟨q9, hq9, hf⟩ := bd_s hf
      obtain ⟨q10, hq10, hf⟩ := bd_s hf
      have hf := ck_2 hf
      have g11 := ih _ _ _ _ hf
      exact fun k hk => (by (try dsimp only); rw [g11 k (by omega)])
set_option maxRecDepth 100000 in
set_option maxHeartbeats 4000000 in
theorem fr_X13_order  {i0 : Nat → Int32} {r0 : Nat → Nat → Int32} {l0 : Nat → Nat → Int64} {x1 : Int32} {q : Int64 × (Nat → Nat → Int32)} (hf : f_X13_order i0 r0 l0 x1 = some q) : (∀ k : Nat, ¬ (k = 15) → q.2 k = r0 k) := by
  rw [f_X13_order] at hf
  obtain ⟨q12, hq12, hf⟩ := bd_s hf
  by_cases hc : q12 = 0
  · have hf := ite_t hf hc
    obtain rfl := Option.some.inj hf
    exact fun k _ => rfl
  · have hf := ite_f hf hc
    obtain ⟨q13, hq13, hf⟩ := bd_s hf
    have fq13 := fr_X13_findTable hq13
    have g14 := fr_X13_order_21  2000000 _ _ _ _ hf
    exact fun k hk => (by (try dsimp only); rw [g14 k (by omega), fq13 k (by omega)])
/-! X13_gate -/
set_option maxRecDepth 100000 in
set_option maxHeartbeats 4000000 in
theorem fr_X13_gate_20  {l0 : Nat → Nat → Int64} {q : (Nat → Int32) × (Nat → Nat → Int32)}  : ∀ (i0 : Nat → Int32) (r0 : Nat → Nat → Int32) (x3 : Int32), f_X13_gate_20 l0 i0 r0 x3 = some q → (∀ k : Nat, ¬ (k = 24) → q.1 k = i0 k) ∧ (∀ k : Nat, ¬ (k = 21 ∨ k = 22 ∨ k = 23) → q.2 k = r0 k) := by
  intro i0 r0 x3 hf
  rw [f_X13_gate_20] at hf
  have hf := ck_2 hf
  obtain rfl := Option.some.inj hf
  exact ⟨fun k hk => (by (try dsimp only); rw [pk_un (by omega)]), fun k hk => (by (try dsimp only); rw [va_up_ne _ _ (by omega)])⟩
set_option maxRecDepth 100000 in
set_option maxHeartbeats 4000000 in
theorem fr_X13_gate  {i0 : Nat → Int32} {r0 : Nat → Nat → Int32} {l0 : Nat → Nat → Int64} {x1 : Int32} {x2 : Int32} {x3 : Int32} {q : (Nat → Int32) × (Nat → Nat → Int32)} (hf : f_X13_gate i0 r0 l0 x1 x2 x3 = some q) : (∀ k : Nat, ¬ (k = 24) → q.1 k = i0 k) ∧ (∀ k : Nat, ¬ (k = 21 ∨ k = 22 ∨ k = 23) → q.2 k = r0 k) := by
  rw [f_X13_gate] at hf
  have hf := ck_2 hf
  have hf := ck_2 hf
  have g1 := fr_X13_gate_20  _ _ _ hf
  exact ⟨fun k hk => (by (try dsimp only); rw [g1.1 k (by omega)]), fun k hk => (by (try dsimp only); rw [g1.2 k (by omega), va_up_ne _ _ (by omega), va_up_ne _ _ (by omega)])⟩
/-! X13_findGates -/
set_option maxRecDepth 100000 in
set_option maxHeartbeats 4000000 in
theorem fr_X13_findGates_47  {l0 : Nat → Nat → Int64} {q : (Nat → Int32) × (Nat → Nat → Int32)} (K7 : (Nat → Int32) → (Nat → Nat → Int32) → Int32 → Int32 → Option ((Nat → Int32) × (Nat → Nat → Int32))) (hK7 : ∀ (i0 : Nat → Int32) (r0 : Nat → Nat → Int32) (x1 : Int32) (x2 : Int32), K7 i0 r0 x1 x2 = some q → (∀ k : Nat, ¬ (k = 24) → q.1 k = i0 k) ∧ (∀ k : Nat, ¬ (k = 21 ∨ k = 22 ∨ k = 23) → q.2 k = r0 k)) (K14 : (Nat → Int32) → (Nat → Nat → Int32) → Int32 → Int32 → Int32 → Option ((Nat → Int32) × (Nat → Nat → Int32))) (hK14 : ∀ (i0 : Nat → Int32) (r0 : Nat → Nat → Int32) (x1 : Int32) (x2 : Int32) (x3 : Int32), K14 i0 r0 x1 x2 x3 = some q → (∀ k : Nat, ¬ (k = 24) → q.1 k = i0 k) ∧ (∀ k : Nat, ¬ (k = 21 ∨ k = 22 ∨ k = 23) → q.2 k = r0 k)) : ∀ (i0 : Nat → Int32) (r0 : Nat → Nat → Int32) (x1 : Int32) (x2 : Int32) (x3 : Int32), f_X13_findGates_47 l0 K7 K14 i0 r0 x1 x2 x3 = some q → (∀ k : Nat, ¬ (k = 24) → q.1 k = i0 k) ∧ (∀ k : Nat, ¬ (k = 21 ∨ k = 22 ∨ k = 23) → q.2 k = r0 k) := by
  intro i0 r0 x1 x2 x3 hf
  rw [f_X13_findGates_47] at hf
  have g9 := hK14 _ _ _ _ _ hf
  exact ⟨fun k hk => (by (try dsimp only); rw [g9.1 k (by omega)]), fun k hk => (by (try dsimp only); rw [g9.2 k (by omega)])⟩
set_option maxRecDepth 100000 in
set_option maxHeartbeats 4000000 in
theorem fr_X13_findGates_14  {l0 : Nat → Nat → Int64} {q : (Nat → Int32) × (Nat → Nat → Int32)} (K7 : (Nat → Int32) → (Nat → Nat → Int32) → Int32 → Int32 → Option ((Nat → Int32) × (Nat → Nat → Int32))) (hK7 : ∀ (i0 : Nat → Int32) (r0 : Nat → Nat → Int32) (x1 : Int32) (x2 : Int32), K7 i0 r0 x1 x2 = some q → (∀ k : Nat, ¬ (k = 24) → q.1 k = i0 k) ∧ (∀ k : Nat, ¬ (k = 21 ∨ k = 22 ∨ k = 23) → q.2 k = r0 k)) : ∀ (n : Nat), ∀ (i0 : Nat → Int32) (r0 : Nat → Nat → Int32) (x1 : Int32) (x2 : Int32) (x3 : Int32), f_X13_findGates_14 l0 K7 n i0 r0 x1 x2 x3 = some q → (∀ k : Nat, ¬ (k = 24) → q.1 k = i0 k) ∧ (∀ k : Nat, ¬ (k = 21 ∨ k = 22 ∨ k = 23) → q.2 k = r0 k) := by
  intro n
  induction n with
  | zero =>
    intro i0 r0 x1 x2 x3 hf
    rw [f_X13_findGates_14] at hf
    cases hf
  | succ n ih =>
    intro i0 r0 x1 x2 x3 hf
    rw [f_X13_findGates_14] at hf
    by_cases hc : 8 ≤ x3
    · have hf := ite_t hf hc
      have g10 := hK7 _ _ _ _ hf
      exact ⟨fun k hk => (by (try dsimp only); rw [g10.1 k (by omega)]), fun k hk => (by (try dsimp only); rw [g10.2 k (by omega)])⟩
    · have hf := ite_f hf hc
      by_cases hc : ((x3 >>> (x2 &&& 31)) &&& 1) = 0
      · have hf := ite_t hf hc
        obtain ⟨q12, hq12, hf⟩ := bd_s hf
        by_cases hc : ((x1 >>> (q12 &&& 31)) &&& 1) = 1
        · have hf := ite_t hf hc
          obtain ⟨q14, hq14, hf⟩ := bd_s hf
          have fq14 := fr_X13_gate hq14
          have g15 := fr_X13_findGates_47 _ (hK7) _ (ih) _ _ _ _ _ hf
          exact ⟨fun k hk => (by (try dsimp only); rw [g15.1 k (by omega), fq14.1 k (by omega)]), fun k hk => (by (try dsimp only); rw [g15.2 k (by omega), fq14.2 k (by omega)])⟩
        · have hf := ite_f hf hc
          have g13 := fr_X13_findGates_47 _ (hK7) _ (ih) _ _ _ _ _ hf
          exact ⟨fun k hk => (by (try dsimp only); rw [g13.1 k (by omega)]), fun k hk => (by (try dsimp only); rw [g13.2 k (by omega)])⟩
      · have hf := ite_f hf hc
        have g11 := fr_X13_findGates_47 _ (hK7) _ (ih) _ _ _ _ _ hf
        exact ⟨fun k hk => (by (try dsimp only); rw [g11.1 k (by omega)]), fun k hk => (by (try dsimp only); rw [g11.2 k (by omega)])⟩
set_option maxRecDepth 100000 in
set_option maxHeartbeats 4000000 in
theorem fr_X13_findGates_126  {l0 : Nat → Nat → Int64} {q : (Nat → Int32) × (Nat → Nat → Int32)} (K61 : (Nat → Int32) → (Nat → Nat → Int32) → Int32 → Int32 → Option ((Nat → Int32) × (Nat → Nat → Int32))) (hK61 : ∀ (i0 : Nat → Int32) (r0 : Nat → Nat → Int32) (x1 : Int32) (x2 : Int32), K61 i0 r0 x1 x2 = some q → (∀ k : Nat, ¬ (k = 24) → q.1 k = i0 k) ∧ (∀ k : Nat, ¬ (k = 21 ∨ k = 22 ∨ k = 23) → q.2 k = r0 k)) (K70 : (Nat → Int32) → (Nat → Nat → Int32) → Int32 → Int32 → Int32 → Option ((Nat → Int32) × (Nat → Nat → Int32))) (hK70 : ∀ (i0 : Nat → Int32) (r0 : Nat → Nat → Int32) (x1 : Int32) (x2 : Int32) (x3 : Int32), K70 i0 r0 x1 x2 x3 = some q → (∀ k : Nat, ¬ (k = 24) → q.1 k = i0 k) ∧ (∀ k : Nat, ¬ (k = 21 ∨ k = 22 ∨ k = 23) → q.2 k = r0 k)) (K78 : (Nat → Int32) → (Nat → Nat → Int32) → Int32 → Int32 → Int32 → Int32 → Option ((Nat → Int32) × (Nat → Nat → Int32))) (hK78 : ∀ (i0 : Nat → Int32) (r0 : Nat → Nat → Int32) (x1 : Int32) (x2 : Int32) (x3 : Int32) (x4 : Int32), K78 i0 r0 x1 x2 x3 x4 = some q → (∀ k : Nat, ¬ (k = 24) → q.1 k = i0 k) ∧ (∀ k : Nat, ¬ (k = 21 ∨ k = 22 ∨ k = 23) → q.2 k = r0 k)) : ∀ (i0 : Nat → Int32) (r0 : Nat → Nat → Int32) (x1 : Int32) (x2 : Int32) (x3 : Int32) (x4 : Int32), f_X13_findGates_126 l0 K61 K70 K78 i0 r0 x1 x2 x3 x4 = some q → (∀ k : Nat, ¬ (k = 24) → q.1 k = i0 k) ∧ (∀ k : Nat, ¬ (k = 21 ∨ k = 22 ∨ k = 23) → q.2 k = r0 k) := by
  intro i0 r0 x1 x2 x3 x4 hf
  rw [f_X13_findGates_126] at hf
  have g16 := hK78 _ _ _ _ _ _ hf
  exact ⟨fun k hk => (by (try dsimp only); rw [g16.1 k (by omega)]), fun k hk => (by (try dsimp only); rw [g16.2 k (by omega)])⟩
set_option maxRecDepth 100000 in
set_option maxHeartbeats 4000000 in
theorem fr_X13_findGates_78  {l0 : Nat → Nat → Int64} {q : (Nat → Int32) × (Nat → Nat → Int32)} (K61 : (Nat → Int32) → (Nat → Nat → Int32) → Int32 → Int32 → Option ((Nat → Int32) × (Nat → Nat → Int32))) (hK61 : ∀ (i0 : Nat → Int32) (r0 : Nat → Nat → Int32) (x1 : Int32) (x2 : Int32), K61 i0 r0 x1 x2 = some q → (∀ k : Nat, ¬ (k = 24) → q.1 k = i0 k) ∧ (∀ k : Nat, ¬ (k = 21 ∨ k = 22 ∨ k = 23) → q.2 k = r0 k)) (K70 : (Nat → Int32) → (Nat → Nat → Int32) → Int32 → Int32 → Int32 → Option ((Nat → Int32) × (Nat → Nat → Int32))) (hK70 : ∀ (i0 : Nat → Int32) (r0 : Nat → Nat → Int32) (x1 : Int32) (x2 : Int32) (x3 : Int32), K70 i0 r0 x1 x2 x3 = some q → (∀ k : Nat, ¬ (k = 24) → q.1 k = i0 k) ∧ (∀ k : Nat, ¬ (k = 21 ∨ k = 22 ∨ k = 23) → q.2 k = r0 k)) : ∀ (n : Nat), ∀ (i0 : Nat → Int32) (r0 : Nat → Nat → Int32) (x1 : Int32) (x2 : Int32) (x3 : Int32) (x4 : Int32), f_X13_findGates_78 l0 K61 K70 n i0 r0 x1 x2 x3 x4 = some q → (∀ k : Nat, ¬ (k = 24) → q.1 k = i0 k) ∧ (∀ k : Nat, ¬ (k = 21 ∨ k = 22 ∨ k = 23) → q.2 k = r0 k) := by
  intro n
  induction n with
  | zero =>
    intro i0 r0 x1 x2 x3 x4 hf
    rw [f_X13_findGates_78] at hf
    cases hf
  | succ n ih =>
    intro i0 r0 x1 x2 x3 x4 hf
    rw [f_X13_findGates_78] at hf
    by_cases hc : 8 ≤ x4
    · have hf := ite_t hf hc
      have g17 := hK70 _ _ _ _ _ hf
      exact ⟨fun k hk => (by (try dsimp only); rw [g17.1 k (by omega)]), fun k hk => (by (try dsimp only); rw [g17.2 k (by omega)])⟩
    · have hf := ite_f hf hc
      by_cases hc : ((x4 >>> (x2 &&& 31)) &&& 1) = 0
      · have hf := ite_t hf hc
        by_cases hc : ((x4 >>> (x3 &&& 31)) &&& 1) = 0
        · have hf := ite_t hf hc
          obtain ⟨q20, hq20, hf⟩ := bd_s hf
          by_cases hc : ((x1 >>> ((3 + q20) &&& 31)) &&& 1) = 1
          · have hf := ite_t hf hc
            obtain ⟨q22, hq22, hf⟩ := bd_s hf
            have fq22 := fr_X13_gate hq22
            have g23 := fr_X13_findGates_126 _ (hK61) _ (hK70) _ (ih) _ _ _ _ _ _ hf
            exact ⟨fun k hk => (by (try dsimp only); rw [g23.1 k (by omega), fq22.1 k (by omega)]), fun k hk => (by (try dsimp only); rw [g23.2 k (by omega), fq22.2 k (by omega)])⟩
          · have hf := ite_f hf hc
            have g21 := fr_X13_findGates_126 _ (hK61) _ (hK70) _ (ih) _ _ _ _ _ _ hf
            exact ⟨fun k hk => (by (try dsimp only); rw [g21.1 k (by omega)]), fun k hk => (by (try dsimp only); rw [g21.2 k (by omega)])⟩
        · have hf := ite_f hf hc
          have g19 := fr_X13_findGates_126 _ (hK61) _ (hK70) _ (ih) _ _ _ _ _ _ hf
          exact ⟨fun k hk => (by (try dsimp only); rw [g19.1 k (by omega)]), fun k hk => (by (try dsimp only); rw [g19.2 k (by omega)])⟩
      · have hf := ite_f hf hc
        have g18 := fr_X13_findGates_126 _ (hK61) _ (hK70) _ (ih) _ _ _ _ _ _ hf
        exact ⟨fun k hk => (by (try dsimp only); rw [g18.1 k (by omega)]), fun k hk => (by (try dsimp only); rw [g18.2 k (by omega)])⟩
set_option maxRecDepth 100000 in
set_option maxHeartbeats 4000000 in
theorem fr_X13_findGates_70  {l0 : Nat → Nat → Int64} {q : (Nat → Int32) × (Nat → Nat → Int32)} (K61 : (Nat → Int32) → (Nat → Nat → Int32) → Int32 → Int32 → Option ((Nat → Int32) × (Nat → Nat → Int32))) (hK61 : ∀ (i0 : Nat → Int32) (r0 : Nat → Nat → Int32) (x1 : Int32) (x2 : Int32), K61 i0 r0 x1 x2 = some q → (∀ k : Nat, ¬ (k = 24) → q.1 k = i0 k) ∧ (∀ k : Nat, ¬ (k = 21 ∨ k = 22 ∨ k = 23) → q.2 k = r0 k)) : ∀ (n : Nat), ∀ (i0 : Nat → Int32) (r0 : Nat → Nat → Int32) (x1 : Int32) (x2 : Int32) (x3 : Int32), f_X13_findGates_70 l0 K61 n i0 r0 x1 x2 x3 = some q → (∀ k : Nat, ¬ (k = 24) → q.1 k = i0 k) ∧ (∀ k : Nat, ¬ (k = 21 ∨ k = 22 ∨ k = 23) → q.2 k = r0 k) := by
  intro n
  induction n with
  | zero =>
    intro i0 r0 x1 x2 x3 hf
    rw [f_X13_findGates_70] at hf
    cases hf
  | succ n ih =>
    intro i0 r0 x1 x2 x3 hf
    rw [f_X13_findGates_70] at hf
    by_cases hc : 3 ≤ x3
    · have hf := ite_t hf hc
      have g24 := hK61 _ _ _ _ hf
      exact ⟨fun k hk => (by (try dsimp only); rw [g24.1 k (by omega)]), fun k hk => (by (try dsimp only); rw [g24.2 k (by omega)])⟩
    · have hf := ite_f hf hc
      have g25 := fr_X13_findGates_78 _ (hK61) _ (ih) 2000000 _ _ _ _ _ _ hf
      exact ⟨fun k hk => (by (try dsimp only); rw [g25.1 k (by omega)]), fun k hk => (by (try dsimp only); rw [g25.2 k (by omega)])⟩
set_option maxRecDepth 100000 in
set_option maxHeartbeats 4000000 in
theorem fr_X13_findGates_61  {l0 : Nat → Nat → Int64} {q : (Nat → Int32) × (Nat → Nat → Int32)}  : ∀ (n : Nat), ∀ (i0 : Nat → Int32) (r0 : Nat → Nat → Int32) (x1 : Int32) (x2 : Int32), f_X13_findGates_61 l0 n i0 r0 x1 x2 = some q → (∀ k : Nat, ¬ (k = 24) → q.1 k = i0 k) ∧ (∀ k : Nat, ¬ (k = 21 ∨ k = 22 ∨ k = 23) → q.2 k = r0 k) := by
  intro n
  induction n with
  | zero =>
    intro i0 r0 x1 x2 hf
    rw [f_X13_findGates_61] at hf
    cases hf
  | succ n ih =>
    intro i0 r0 x1 x2 hf
    rw [f_X13_findGates_61] at hf
    by_cases hc : 3 ≤ x2
    · have hf := ite_t hf hc
      obtain rfl := Option.some.inj hf
      exact ⟨fun k _ => rfl, fun k _ => rfl⟩
    · have hf := ite_f hf hc
      have g26 := fr_X13_findGates_70 _ (ih) 2000000 _ _ _ _ _ hf
      exact ⟨fun k hk => (by (try dsimp only); rw [g26.1 k (by omega)]), fun k hk => (by (try dsimp only); rw [g26.2 k (by omega)])⟩
set_option maxRecDepth 100000 in
set_option maxHeartbeats 4000000 in
theorem fr_X13_findGates_7  {l0 : Nat → Nat → Int64} {q : (Nat → Int32) × (Nat → Nat → Int32)}  : ∀ (n : Nat), ∀ (i0 : Nat → Int32) (r0 : Nat → Nat → Int32) (x1 : Int32) (x2 : Int32), f_X13_findGates_7 l0 n i0 r0 x1 x2 = some q → (∀ k : Nat, ¬ (k = 24) → q.1 k = i0 k) ∧ (∀ k : Nat, ¬ (k = 21 ∨ k = 22 ∨ k = 23) → q.2 k = r0 k) := by
  intro n
  induction n with
  | zero =>
    intro i0 r0 x1 x2 hf
    rw [f_X13_findGates_7] at hf
    cases hf
  | succ n ih =>
    intro i0 r0 x1 x2 hf
    rw [f_X13_findGates_7] at hf
    by_cases hc : 3 ≤ x2
    · have hf := ite_t hf hc
      have g27 := fr_X13_findGates_61  2000000 _ _ _ _ hf
      exact ⟨fun k hk => (by (try dsimp only); rw [g27.1 k (by omega)]), fun k hk => (by (try dsimp only); rw [g27.2 k (by omega)])⟩
    · have hf := ite_f hf hc
      have g28 := fr_X13_findGates_14 _ (ih) 2000000 _ _ _ _ _ hf
      exact ⟨fun k hk => (by (try dsimp only); rw [g28.1 k (by omega)]), fun k hk => (by (try dsimp only); rw [g28.2 k (by omega)])⟩
set_option maxRecDepth 100000 in
set_option maxHeartbeats 4000000 in
theorem fr_X13_findGates  {i0 : Nat → Int32} {r0 : Nat → Nat → Int32} {l0 : Nat → Nat → Int64} {x1 : Int32} {q : (Nat → Int32) × (Nat → Nat → Int32)} (hf : f_X13_findGates i0 r0 l0 x1 = some q) : (∀ k : Nat, ¬ (k = 24) → q.1 k = i0 k) ∧ (∀ k : Nat, ¬ (k = 21 ∨ k = 22 ∨ k = 23) → q.2 k = r0 k) := by
  rw [f_X13_findGates] at hf
  have g29 := fr_X13_findGates_7  2000000 _ _ _ _ hf
  exact ⟨fun k hk => (by (try dsimp only); rw [g29.1 k (by omega), pk_un (by omega)]), fun k hk => (by (try dsimp only); rw [g29.2 k (by omega)])⟩
/-! X13_unrank -/
set_option maxRecDepth 100000 in
set_option maxHeartbeats 4000000 in
theorem fr_X13_unrank_93  {i0 : Nat → Int32} {l0 : Nat → Nat → Int64} {q : (Nat → Nat → Int32)} (K45 : (Nat → Nat → Int32) → Int32 → Int32 → Option ((Nat → Nat → Int32))) (hK45 : ∀ (r0 : Nat → Nat → Int32) (x4 : Int32) (x5 : Int32), K45 r0 x4 x5 = some q → (∀ k : Nat, ¬ (k = 19 ∨ k = 26) → q k = r0 k)) (K64 : (Nat → Nat → Int32) → Int32 → Int32 → Int32 → Int32 → Option ((Nat → Nat → Int32))) (hK64 : ∀ (r0 : Nat → Nat → Int32) (x4 : Int32) (x5 : Int32) (x6 : Int32) (x7 : Int32), K64 r0 x4 x5 x6 x7 = some q → (∀ k : Nat, ¬ (k = 19 ∨ k = 26) → q k = r0 k)) : ∀ (r0 : Nat → Nat → Int32) (x4 : Int32) (x5 : Int32) (x6 : Int32) (x7 : Int32), f_X13_unrank_93 i0 l0 K45 K64 r0 x4 x5 x6 x7 = some q → (∀ k : Nat, ¬ (k = 19 ∨ k = 26) → q k = r0 k) := by
  intro r0 x4 x5 x6 x7 hf
  rw [f_X13_unrank_93] at hf
  have g1 := hK64 _ _ _ _ _ hf
  exact fun k hk => (by (try dsimp only); rw [g1 k (by omega)])
set_option maxRecDepth 100000 in
set_option maxHeartbeats 4000000 in
theorem fr_X13_unrank_80  {i0 : Nat → Int32} {l0 : Nat → Nat → Int64} {q : (Nat → Nat → Int32)} (K45 : (Nat → Nat → Int32) → Int32 → Int32 → Option ((Nat → Nat → Int32))) (hK45 : ∀ (r0 : Nat → Nat → Int32) (x4 : Int32) (x5 : Int32), K45 r0 x4 x5 = some q → (∀ k : Nat, ¬ (k = 19 ∨ k = 26) → q k = r0 k)) (K64 : (Nat → Nat → Int32) → Int32 → Int32 → Int32 → Int32 → Option ((Nat → Nat → Int32))) (hK64 : ∀ (r0 : Nat → Nat → Int32) (x4 : Int32) (x5 : Int32) (x6 : Int32) (x7 : Int32), K64 r0 x4 x5 x6 x7 = some q → (∀ k : Nat, ¬ (k = 19 ∨ k = 26) → q k = r0 k)) : ∀ (r0 : Nat → Nat → Int32) (x4 : Int32) (x5 : Int32) (x6 : Int32) (x7 : Int32), f_X13_unrank_80 i0 l0 K45 K64 r0 x4 x5 x6 x7 = some q → (∀ k : Nat, ¬ (k = 19 ∨ k = 26) → q k = r0 k) := by
  intro r0 x4 x5 x6 x7 hf
  rw [f_X13_unrank_80] at hf
  by_cases hc : ((x4 >>> (x7 &&& 31)) &&& 1) = 0
  · have hf := ite_t hf hc
    have g3 := fr_X13_unrank_93 _ (hK45) _ (hK64) _ _ _ _ _ hf
    exact fun k hk => (by (try dsimp only); rw [g3 k (by omega)])
  · have hf := ite_f hf hc
    have g2 := fr_X13_unrank_93 _ (hK45) _ (hK64) _ _ _ _ _ hf
    exact fun k hk => (by (try dsimp only); rw [g2 k (by omega)])
set_option maxRecDepth 100000 in
set_option maxHeartbeats 4000000 in
theorem fr_X13_unrank_64  {i0 : Nat → Int32} {l0 : Nat → Nat → Int64} {q : (Nat → Nat → Int32)} (K45 : (Nat → Nat → Int32) → Int32 → Int32 → Option ((Nat → Nat → Int32))) (hK45 : ∀ (r0 : Nat → Nat → Int32) (x4 : Int32) (x5 : Int32), K45 r0 x4 x5 = some q → (∀ k : Nat, ¬ (k = 19 ∨ k = 26) → q k = r0 k)) : ∀ (n : Nat), ∀ (r0 : Nat → Nat → Int32) (x4 : Int32) (x5 : Int32) (x6 : Int32) (x7 : Int32), f_X13_unrank_64 i0 l0 K45 n r0 x4 x5 x6 x7 = some q → (∀ k : Nat, ¬ (k = 19 ∨ k = 26) → q k = r0 k) := by
  intro n
  induction n with
  | zero =>
    intro r0 x4 x5 x6 x7 hf
    rw [f_X13_unrank_64] at hf
    cases hf
  | succ n ih =>
    intro r0 x4 x5 x6 x7 hf
    rw [f_X13_unrank_64] at hf
    by_cases hc : ((x4 >>> (x7 &&& 31)) &&& 1) = 1
    · have hf := ite_t hf hc
      have g4 := fr_X13_unrank_80 _ (hK45) _ (ih) _ _ _ _ _ hf
      exact fun k hk => (by (try dsimp only); rw [g4 k (by omega)])
    · have hf := ite_f hf hc
      by_cases hc : x6 ≤ 0
      · have hf := ite_t hf hc
        have hf := ck_2 hf
        have g5 := hK45 _ _ _ hf
        exact fun k hk => (by (try dsimp only); rw [g5 k (by omega), va_up_ne _ _ (by omega)])
      · have hf := ite_f hf hc
        have g6 := fr_X13_unrank_80 _ (hK45) _ (ih) _ _ _ _ _ hf
        exact fun k hk => (by (try dsimp only); rw [g6 k (by omega)])
set_option maxRecDepth 100000 in
set_option maxHeartbeats 4000000 in
theorem fr_X13_unrank_45  {i0 : Nat → Int32} {l0 : Nat → Nat → Int64} {q : (Nat → Nat → Int32)}  : ∀ (n : Nat), ∀ (r0 : Nat → Nat → Int32) (x4 : Int32) (x5 : Int32), f_X13_unrank_45 i0 l0 n r0 x4 x5 = some q → (∀ k : Nat, ¬ (k = 19 ∨ k = 26) → q k = r0 k) := by
  intro n
  induction n with
  | zero =>
    intro r0 x4 x5 hf
    rw [f_X13_unrank_45] at hf
    cases hf
  | succ n ih =>
    intro r0 x4 x5 hf
    rw [f_X13_unrank_45] at hf
    by_cases hc : 8 ≤ x5
    · have hf := ite_t hf hc
      obtain rfl := Option.some.inj hf
      exact fun k _ => rfl
    · have hf := ite_f hf hc
      have hf := ck_2 hf
      have g7 := fr_X13_unrank_64 _ (ih) 2000000 _ _ _ _ _ hf
      exact fun k hk => (by (try dsimp only); rw [g7 k (by omega)])
set_option maxRecDepth 100000 in
set_option maxHeartbeats 4000000 in
theorem fr_X13_unrank_6  {i0 : Nat → Int32} {l0 : Nat → Nat → Int64} {q : (Nat → Nat → Int32)}  : ∀ (n : Nat), ∀ (r0 : Nat → Nat → Int32) (x3 : Int32) (x4 : Int32), f_X13_unrank_6 i0 l0 n r0 x3 x4 = some q → (∀ k : Nat, ¬ (k = 19 ∨ k = 26) → q k = r0 k) := by
  intro n
  induction n with
  | zero =>
    intro r0 x3 x4 hf
    rw [f_X13_unrank_6] at hf
    cases hf
  | succ n ih =>
    intro r0 x3 x4 hf
    rw [f_X13_unrank_6] at hf
    by_cases hc : x4 < 0
    · have hf := ite_t hf hc
      have g8 := fr_X13_unrank_45  2000000 _ _ _ hf
      exact fun k hk => (by (try dsimp only); rw [g8 k (by omega)])
    · have hf := ite_f hf hc
      have hf := ck_2 hf
      have hf := ck_2 hf
      have hf := ck_2 hf
      have g9 := ih _ _ _ hf
      exact fun k hk => (by (try dsimp only); rw [g9 k (by omega), va_up_ne _ _ (by omega)])
set_option maxRecDepth 100000 in
set_option maxHeartbeats 4000000 in
theorem fr_X13_unrank  {i0 : Nat → Int32} {r0 : Nat → Nat → Int32} {l0 : Nat → Nat → Int64} {x1 : Int32} {q : (Nat → Nat → Int32)} (hf : f_X13_unrank i0 r0 l0 x1 = some q) : (∀ k : Nat, ¬ (k = 19 ∨ k = 26) → q k = r0 k) := by
  rw [f_X13_unrank] at hf
  have g10 := fr_X13_unrank_6  2000000 _ _ _ hf
  exact fun k hk => (by (try dsimp only); rw [g10 k (by omega)])
/-! X13_without -/
set_option maxRecDepth 100000 in
set_option maxHeartbeats 4000000 in
theorem fr_X13_without_2  {i0 : Nat → Int32} {l0 : Nat → Nat → Int64} {q : Int32 × (Nat → Nat → Int32)}  : ∀ (n : Nat), ∀ (r0 : Nat → Nat → Int32) (x2 : Int32) (x3 : Int32), f_X13_without_2 i0 l0 n r0 x2 x3 = some q → (∀ k : Nat, ¬ (k = 20) → q.2 k = r0 k) := by
  intro n
  induction n with
  | zero =>
    intro r0 x2 x3 hf
    rw [f_X13_without_2] at hf
    cases hf
  | succ n ih =>
    intro r0 x2 x3 hf
    rw [f_X13_without_2] at hf
    by_cases hc : 8 ≤ x3
    · have hf := ite_t hf hc
      obtain ⟨q5, hq5, hf⟩ := bd_s hf
      obtain rfl := Option.some.inj hf
      exact fun k _ => rfl
    · have hf := ite_f hf hc
      have hf := ck_2 hf
      have hf := ck_2 hf
      have hf := ck_2 hf
      obtain ⟨q6, hq6, hf⟩ := bd_s hf
      have hf := ck_2 hf
      have hf := ck_2 hf
      have g7 := ih _ _ _ hf
      exact fun k hk => (by (try dsimp only); rw [g7 k (by omega), va_up_ne _ _ (by omega)])
set_option maxRecDepth 100000 in
set_option maxHeartbeats 4000000 in
theorem fr_X13_without  {i0 : Nat → Int32} {r0 : Nat → Nat → Int32} {l0 : Nat → Nat → Int64} {x2 : Int32} {q : Int32 × (Nat → Nat → Int32)} (hf : f_X13_without i0 r0 l0 x2 = some q) : (∀ k : Nat, ¬ (k = 20) → q.2 k = r0 k) := by
  rw [f_X13_without] at hf
  have g8 := fr_X13_without_2  2000000 _ _ _ hf
  exact fun k hk => (by (try dsimp only); rw [g8 k (by omega)])
/-! X13_findNeeds -/
set_option maxRecDepth 100000 in
set_option maxHeartbeats 4000000 in
theorem fr_X13_findNeeds_147  {l0 : Nat → Nat → Int64} {q : (Nat → Int32) × (Nat → Nat → Int32)} (K58 : (Nat → Int32) → (Nat → Nat → Int32) → Int32 → Int32 → Option ((Nat → Int32) × (Nat → Nat → Int32))) (hK58 : ∀ (i0 : Nat → Int32) (r0 : Nat → Nat → Int32) (x2 : Int32) (x3 : Int32), K58 i0 r0 x2 x3 = some q → (∀ k : Nat, ¬ (k = 24 ∨ k = 25) → q.1 k = i0 k) ∧ (∀ k : Nat, ¬ (k = 17 ∨ k = 18 ∨ k = 19 ∨ k = 20 ∨ k = 21 ∨ k = 22 ∨ k = 23 ∨ k = 26) → q.2 k = r0 k)) (K84 : (Nat → Int32) → (Nat → Nat → Int32) → Int32 → Int32 → Int32 → Int32 → Option ((Nat → Int32) × (Nat → Nat → Int32))) (hK84 : ∀ (i0 : Nat → Int32) (r0 : Nat → Nat → Int32) (x2 : Int32) (x3 : Int32) (x4 : Int32) (x5 : Int32), K84 i0 r0 x2 x3 x4 x5 = some q → (∀ k : Nat, ¬ (k = 24 ∨ k = 25) → q.1 k = i0 k) ∧ (∀ k : Nat, ¬ (k = 17 ∨ k = 18 ∨ k = 19 ∨ k = 20 ∨ k = 21 ∨ k = 22 ∨ k = 23 ∨ k = 26) → q.2 k = r0 k)) : ∀ (i0 : Nat → Int32) (r0 : Nat → Nat → Int32) (x2 : Int32) (x3 : Int32) (x4 : Int32) (x5 : Int32), f_X13_findNeeds_147 l0 K58 K84 i0 r0 x2 x3 x4 x5 = some q → (∀ k : Nat, ¬ (k = 24 ∨ k = 25) → q.1 k = i0 k) ∧ (∀ k : Nat, ¬ (k = 17 ∨ k = 18 ∨ k = 19 ∨ k = 20 ∨ k = 21 ∨ k = 22 ∨ k = 23 ∨ k = 26) → q.2 k = r0 k) := by
  intro i0 r0 x2 x3 x4 x5 hf
  rw [f_X13_findNeeds_147] at hf
  have g7 := hK84 _ _ _ _ _ _ hf
  exact ⟨fun k hk => (by (try dsimp only); rw [g7.1 k (by omega)]), fun k hk => (by (try dsimp only); rw [g7.2 k (by omega)])⟩
set_option maxRecDepth 100000 in
set_option maxHeartbeats 4000000 in
theorem fr_X13_findNeeds_144  {l0 : Nat → Nat → Int64} {q : (Nat → Int32) × (Nat → Nat → Int32)} (K58 : (Nat → Int32) → (Nat → Nat → Int32) → Int32 → Int32 → Option ((Nat → Int32) × (Nat → Nat → Int32))) (hK58 : ∀ (i0 : Nat → Int32) (r0 : Nat → Nat → Int32) (x2 : Int32) (x3 : Int32), K58 i0 r0 x2 x3 = some q → (∀ k : Nat, ¬ (k = 24 ∨ k = 25) → q.1 k = i0 k) ∧ (∀ k : Nat, ¬ (k = 17 ∨ k = 18 ∨ k = 19 ∨ k = 20 ∨ k = 21 ∨ k = 22 ∨ k = 23 ∨ k = 26) → q.2 k = r0 k)) (K84 : (Nat → Int32) → (Nat → Nat → Int32) → Int32 → Int32 → Int32 → Int32 → Option ((Nat → Int32) × (Nat → Nat → Int32))) (hK84 : ∀ (i0 : Nat → Int32) (r0 : Nat → Nat → Int32) (x2 : Int32) (x3 : Int32) (x4 : Int32) (x5 : Int32), K84 i0 r0 x2 x3 x4 x5 = some q → (∀ k : Nat, ¬ (k = 24 ∨ k = 25) → q.1 k = i0 k) ∧ (∀ k : Nat, ¬ (k = 17 ∨ k = 18 ∨ k = 19 ∨ k = 20 ∨ k = 21 ∨ k = 22 ∨ k = 23 ∨ k = 26) → q.2 k = r0 k)) : ∀ (i0 : Nat → Int32) (r0 : Nat → Nat → Int32) (x2 : Int32) (x3 : Int32) (x4 : Int32) (x5 : Int32), f_X13_findNeeds_144 l0 K58 K84 i0 r0 x2 x3 x4 x5 = some q → (∀ k : Nat, ¬ (k = 24 ∨ k = 25) → q.1 k = i0 k) ∧ (∀ k : Nat, ¬ (k = 17 ∨ k = 18 ∨ k = 19 ∨ k = 20 ∨ k = 21 ∨ k = 22 ∨ k = 23 ∨ k = 26) → q.2 k = r0 k) := by
  intro i0 r0 x2 x3 x4 x5 hf
  rw [f_X13_findNeeds_144] at hf
  have g8 := fr_X13_findNeeds_147 _ (hK58) _ (hK84) _ _ _ _ _ _ hf
  exact ⟨fun k hk => (by (try dsimp only); rw [g8.1 k (by omega)]), fun k hk => (by (try dsimp only); rw [g8.2 k (by omega)])⟩
set_option maxRecDepth 100000 in
set_option maxHeartbeats 4000000 in
theorem fr_X13_findNeeds_84  {l0 : Nat → Nat → Int64} {q : (Nat → Int32) × (Nat → Nat → Int32)} (K58 : (Nat → Int32) → (Nat → Nat → Int32) → Int32 → Int32 → Option ((Nat → Int32) × (Nat → Nat → Int32))) (hK58 : ∀ (i0 : Nat → Int32) (r0 : Nat → Nat → Int32) (x2 : Int32) (x3 : Int32), K58 i0 r0 x2 x3 = some q → (∀ k : Nat, ¬ (k = 24 ∨ k = 25) → q.1 k = i0 k) ∧ (∀ k : Nat, ¬ (k = 17 ∨ k = 18 ∨ k = 19 ∨ k = 20 ∨ k = 21 ∨ k = 22 ∨ k = 23 ∨ k = 26) → q.2 k = r0 k)) : ∀ (n : Nat), ∀ (i0 : Nat → Int32) (r0 : Nat → Nat → Int32) (x2 : Int32) (x3 : Int32) (x4 : Int32) (x5 : Int32), f_X13_findNeeds_84 l0 K58 n i0 r0 x2 x3 x4 x5 = some q → (∀ k : Nat, ¬ (k = 24 ∨ k = 25) → q.1 k = i0 k) ∧ (∀ k : Nat, ¬ (k = 17 ∨ k = 18 ∨ k = 19 ∨ k = 20 ∨ k = 21 ∨ k = 22 ∨ k = 23 ∨ k = 26) → q.2 k = r0 k) := by
  intro n
  induction n with
  | zero =>
    intro i0 r0 x2 x3 x4 x5 hf
    rw [f_X13_findNeeds_84] at hf
    cases hf
  | succ n ih =>
    intro i0 r0 x2 x3 x4 x5 hf
    rw [f_X13_findNeeds_84] at hf
    by_cases hc : (i0 24) ≤ x5
    · have hf := ite_t hf hc
      have g9 := hK58 _ _ _ _ hf
      exact ⟨fun k hk => (by (try dsimp only); rw [g9.1 k (by omega)]), fun k hk => (by (try dsimp only); rw [g9.2 k (by omega)])⟩
    · have hf := ite_f hf hc
      obtain ⟨q10, hq10, hf⟩ := bd_s hf
      have fq10 := fr_X13_without hq10
      have hf := ck_2 hf
      by_cases hc : (q10.2 17 q10.1.toNatClampNeg) = (-1)
      · have hf := ite_t hf hc
        have hf := ck_2 hf
        have hf := ck_2 hf
        have hf := ck_2 hf
        have g11 := fr_X13_findNeeds_144 _ (hK58) _ (ih) _ _ _ _ _ _ hf
        exact ⟨fun k hk => (by (try dsimp only); rw [g11.1 k (by omega)]), fun k hk => (by (try dsimp only); rw [g11.2 k (by omega), va_up_ne _ _ (by omega), va_up_ne _ _ (by omega), fq10 k (by omega)])⟩
      · have hf := ite_f hf hc
        have g12 := fr_X13_findNeeds_147 _ (hK58) _ (ih) _ _ _ _ _ _ hf
        exact ⟨fun k hk => (by (try dsimp only); rw [g12.1 k (by omega)]), fun k hk => (by (try dsimp only); rw [g12.2 k (by omega), fq10 k (by omega)])⟩
set_option maxRecDepth 100000 in
set_option maxHeartbeats 4000000 in
theorem fr_X13_findNeeds_58  {l0 : Nat → Nat → Int64} {q : (Nat → Int32) × (Nat → Nat → Int32)}  : ∀ (n : Nat), ∀ (i0 : Nat → Int32) (r0 : Nat → Nat → Int32) (x2 : Int32) (x3 : Int32), f_X13_findNeeds_58 l0 n i0 r0 x2 x3 = some q → (∀ k : Nat, ¬ (k = 24 ∨ k = 25) → q.1 k = i0 k) ∧ (∀ k : Nat, ¬ (k = 17 ∨ k = 18 ∨ k = 19 ∨ k = 20 ∨ k = 21 ∨ k = 22 ∨ k = 23 ∨ k = 26) → q.2 k = r0 k) := by
  intro n
  induction n with
  | zero =>
    intro i0 r0 x2 x3 hf
    rw [f_X13_findNeeds_58] at hf
    cases hf
  | succ n ih =>
    intro i0 r0 x2 x3 hf
    rw [f_X13_findNeeds_58] at hf
    by_cases hc : x2 ≤ x3
    · have hf := ite_t hf hc
      obtain rfl := Option.some.inj hf
      exact ⟨fun k _ => rfl, fun k _ => rfl⟩
    · have hf := ite_f hf hc
      have hf := ck_2 hf
      obtain ⟨q13, hq13, hf⟩ := bd_s hf
      have fq13 := fr_X13_unrank hq13
      have g14 := fr_X13_findNeeds_84 _ (ih) 2000000 _ _ _ _ _ _ hf
      exact ⟨fun k hk => (by (try dsimp only); rw [g14.1 k (by omega)]), fun k hk => (by (try dsimp only); rw [g14.2 k (by omega), fq13 k (by omega)])⟩
set_option maxRecDepth 100000 in
set_option maxHeartbeats 4000000 in
theorem fr_X13_findNeeds_54  {l0 : Nat → Nat → Int64} {q : (Nat → Int32) × (Nat → Nat → Int32)}  : ∀ (i0 : Nat → Int32) (r0 : Nat → Nat → Int32), f_X13_findNeeds_54 l0 i0 r0 = some q → (∀ k : Nat, ¬ (k = 24 ∨ k = 25) → q.1 k = i0 k) ∧ (∀ k : Nat, ¬ (k = 17 ∨ k = 18 ∨ k = 19 ∨ k = 20 ∨ k = 21 ∨ k = 22 ∨ k = 23 ∨ k = 26) → q.2 k = r0 k) := by
  intro i0 r0 hf
  rw [f_X13_findNeeds_54] at hf
  have g15 := fr_X13_findNeeds_58  2000000 _ _ _ _ hf
  exact ⟨fun k hk => (by (try dsimp only); rw [g15.1 k (by omega)]), fun k hk => (by (try dsimp only); rw [g15.2 k (by omega)])⟩
set_option maxRecDepth 100000 in
set_option maxHeartbeats 4000000 in
theorem fr_X13_findNeeds_21  {l0 : Nat → Nat → Int64} {q : (Nat → Int32) × (Nat → Nat → Int32)}  : ∀ (n : Nat), ∀ (i0 : Nat → Int32) (r0 : Nat → Nat → Int32) (x2 : Int32), f_X13_findNeeds_21 l0 n i0 r0 x2 = some q → (∀ k : Nat, ¬ (k = 24 ∨ k = 25) → q.1 k = i0 k) ∧ (∀ k : Nat, ¬ (k = 17 ∨ k = 18 ∨ k = 19 ∨ k = 20 ∨ k = 21 ∨ k = 22 ∨ k = 23 ∨ k = 26) → q.2 k = r0 k) := by
  intro n
  induction n with
  | zero =>
    intro i0 r0 x2 hf
    rw [f_X13_findNeeds_21] at hf
    cases hf
  | succ n ih =>
    intro i0 r0 x2 hf
    rw [f_X13_findNeeds_21] at hf
    by_cases hc : 40320 ≤ x2
    · have hf := ite_t hf hc
      have hf := ck_2 hf
      have hf := ck_2 hf
      have g16 := fr_X13_findNeeds_54  _ _ hf
      exact ⟨fun k hk => (by (try dsimp only); rw [g16.1 k (by omega)]), fun k hk => (by (try dsimp only); rw [g16.2 k (by omega), va_up_ne _ _ (by omega), va_up_ne _ _ (by omega)])⟩
    · have hf := ite_f hf hc
      have hf := ck_2 hf
      have g17 := ih _ _ _ hf
      exact ⟨fun k hk => (by (try dsimp only); rw [g17.1 k (by omega)]), fun k hk => (by (try dsimp only); rw [g17.2 k (by omega), va_up_ne _ _ (by omega)])⟩
set_option maxRecDepth 100000 in
set_option maxHeartbeats 4000000 in
theorem fr_X13_findNeeds  {i0 : Nat → Int32} {r0 : Nat → Nat → Int32} {l0 : Nat → Nat → Int64} {x1 : Int32} {q : (Nat → Int32) × (Nat → Nat → Int32)} (hf : f_X13_findNeeds i0 r0 l0 x1 = some q) : (∀ k : Nat, ¬ (k = 24 ∨ k = 25) → q.1 k = i0 k) ∧ (∀ k : Nat, ¬ (k = 17 ∨ k = 18 ∨ k = 19 ∨ k = 20 ∨ k = 21 ∨ k = 22 ∨ k = 23 ∨ k = 26) → q.2 k = r0 k) := by
  rw [f_X13_findNeeds] at hf
  obtain ⟨q18, hq18, hf⟩ := bd_s hf
  have fq18 := fr_X13_findGates hq18
  by_cases hc : (q18.1 25) = x1
  · have hf := ite_t hf hc
    obtain rfl := Option.some.inj hf
    exact ⟨fun k hk => (by (try dsimp only); rw [fq18.1 k (by omega)]), fun k hk => (by (try dsimp only); rw [fq18.2 k (by omega)])⟩
  · have hf := ite_f hf hc
    have g19 := fr_X13_findNeeds_21  2000000 _ _ _ hf
    exact ⟨fun k hk => (by (try dsimp only); rw [g19.1 k (by omega), pk_un (by omega), fq18.1 k (by omega)]), fun k hk => (by (try dsimp only); rw [g19.2 k (by omega), fq18.2 k (by omega)])⟩
/-! X13_least -/
set_option maxRecDepth 100000 in
set_option maxHeartbeats 4000000 in
theorem fr_X13_least_149  {l0 : Nat → Nat → Int64} {q : Int32 × (Nat → Int32) × (Nat → Nat → Int32)} (K126 : (Nat → Int32) → (Nat → Nat → Int32) → Int32 → Int32 → Int32 → Option (Int32 × (Nat → Int32) × (Nat → Nat → Int32))) (hK126 : ∀ (i0 : Nat → Int32) (r0 : Nat → Nat → Int32) (x3 : Int32) (x4 : Int32) (x5 : Int32), K126 i0 r0 x3 x4 x5 = some q → (∀ k : Nat, ¬ (k = 24 ∨ k = 25) → q.2.1 k = i0 k) ∧ (∀ k : Nat, ¬ (k = 10 ∨ k = 11 ∨ k = 12 ∨ k = 13 ∨ k = 14 ∨ k = 17 ∨ k = 18 ∨ k = 19 ∨ k = 20 ∨ k = 21 ∨ k = 22 ∨ k = 23 ∨ k = 26) → q.2.2 k = r0 k)) : ∀ (n : Nat), ∀ (i0 : Nat → Int32) (r0 : Nat → Nat → Int32) (x3 : Int32) (x4 : Int32) (x5 : Int32) (x6 : Int32), f_X13_least_149 l0 K126 n i0 r0 x3 x4 x5 x6 = some q → (∀ k : Nat, ¬ (k = 24 ∨ k = 25) → q.2.1 k = i0 k) ∧ (∀ k : Nat, ¬ (k = 10 ∨ k = 11 ∨ k = 12 ∨ k = 13 ∨ k = 14 ∨ k = 17 ∨ k = 18 ∨ k = 19 ∨ k = 20 ∨ k = 21 ∨ k = 22 ∨ k = 23 ∨ k = 26) → q.2.2 k = r0 k) := by
  intro n
  induction n with
  | zero =>
    intro i0 r0 x3 x4 x5 x6 hf
    rw [f_X13_least_149] at hf
    cases hf
  | succ n ih =>
    intro i0 r0 x3 x4 x5 x6 hf
    rw [f_X13_least_149] at hf
    obtain ⟨q23, hq23, hf⟩ := bd_s hf
    have fq23 := fr_X13_without hq23
    have hf := ck_2 hf
    have hf := ck_2 hf
    by_cases hc : (q23.2 17 q23.1.toNatClampNeg) = ((q23.2 17 x4.toNatClampNeg) - 1)
    · have hf := ite_t hf hc
      have hf := ck_2 hf
      have hf := ck_2 hf
      have hf := ck_2 hf
      obtain ⟨q24, hq24, hf⟩ := bd_s hf
      have fq24 := fr_X13_add hq24
      obtain ⟨q25, hq25, hf⟩ := bd_s hf
      have fq25 := fr_X13_without hq25
      have g26 := hK126 _ _ _ _ _ hf
      exact ⟨fun k hk => (by (try dsimp only); rw [g26.1 k (by omega)]), fun k hk => (by (try dsimp only); rw [g26.2 k (by omega), fq25 k (by omega), fq24 k (by omega), fq23 k (by omega)])⟩
    · have hf := ite_f hf hc
      have g27 := ih _ _ _ _ _ _ hf
      exact ⟨fun k hk => (by (try dsimp only); rw [g27.1 k (by omega)]), fun k hk => (by (try dsimp only); rw [g27.2 k (by omega), fq23 k (by omega)])⟩
set_option maxRecDepth 100000 in
set_option maxHeartbeats 4000000 in
theorem fr_X13_least_126  {l0 : Nat → Nat → Int64} {q : Int32 × (Nat → Int32) × (Nat → Nat → Int32)}  : ∀ (n : Nat), ∀ (i0 : Nat → Int32) (r0 : Nat → Nat → Int32) (x3 : Int32) (x4 : Int32) (x5 : Int32), f_X13_least_126 l0 n i0 r0 x3 x4 x5 = some q → (∀ k : Nat, ¬ (k = 24 ∨ k = 25) → q.2.1 k = i0 k) ∧ (∀ k : Nat, ¬ (k = 10 ∨ k = 11 ∨ k = 12 ∨ k = 13 ∨ k = 14 ∨ k = 17 ∨ k = 18 ∨ k = 19 ∨ k = 20 ∨ k = 21 ∨ k = 22 ∨ k = 23 ∨ k = 26) → q.2.2 k = r0 k) := by
  intro n
  induction n with
  | zero =>
    intro i0 r0 x3 x4 x5 hf
    rw [f_X13_least_126] at hf
    cases hf
  | succ n ih =>
    intro i0 r0 x3 x4 x5 hf
    rw [f_X13_least_126] at hf
    have hf := ck_2 hf
    by_cases hc : (r0 17 x4.toNatClampNeg) ≤ 0
    · have hf := ite_t hf hc
      obtain ⟨q28, hq28, hf⟩ := bd_s hf
      have fq28 := fr_X13_copyFloor hq28
      obtain rfl := Option.some.inj hf
      exact ⟨fun k _ => rfl, fun k hk => (by (try dsimp only); rw [fq28 k (by omega)])⟩
    · have hf := ite_f hf hc
      obtain ⟨q29, hq29, hf⟩ := bd_s hf
      have fq29 := fr_X13_unrank hq29
      have g30 := fr_X13_least_149 _ (ih) 2000000 _ _ _ _ _ _ hf
      exact ⟨fun k hk => (by (try dsimp only); rw [g30.1 k (by omega)]), fun k hk => (by (try dsimp only); rw [g30.2 k (by omega), fq29 k (by omega)])⟩
set_option maxRecDepth 100000 in
set_option maxHeartbeats 4000000 in
theorem fr_X13_least_117  {l0 : Nat → Nat → Int64} {q : Int32 × (Nat → Int32) × (Nat → Nat → Int32)}  : ∀ (i0 : Nat → Int32) (r0 : Nat → Nat → Int32) (x3 : Int32) (x4 : Int32), f_X13_least_117 l0 i0 r0 x3 x4 = some q → (∀ k : Nat, ¬ (k = 24 ∨ k = 25) → q.2.1 k = i0 k) ∧ (∀ k : Nat, ¬ (k = 10 ∨ k = 11 ∨ k = 12 ∨ k = 13 ∨ k = 14 ∨ k = 17 ∨ k = 18 ∨ k = 19 ∨ k = 20 ∨ k = 21 ∨ k = 22 ∨ k = 23 ∨ k = 26) → q.2.2 k = r0 k) := by
  intro i0 r0 x3 x4 hf
  rw [f_X13_least_117] at hf
  have hf := ck_2 hf
  have g31 := fr_X13_least_126  2000000 _ _ _ _ _ hf
  exact ⟨fun k hk => (by (try dsimp only); rw [g31.1 k (by omega)]), fun k hk => (by (try dsimp only); rw [g31.2 k (by omega)])⟩
set_option maxRecDepth 100000 in
set_option maxHeartbeats 4000000 in
theorem fr_X13_least_50  {l0 : Nat → Nat → Int64} {q : Int32 × (Nat → Int32) × (Nat → Nat → Int32)}  : ∀ (n : Nat), ∀ (i0 : Nat → Int32) (r0 : Nat → Nat → Int32) (x1 : Int32) (x3 : Int32) (x4 : Int32), f_X13_least_50 l0 n i0 r0 x1 x3 x4 = some q → (∀ k : Nat, ¬ (k = 24 ∨ k = 25) → q.2.1 k = i0 k) ∧ (∀ k : Nat, ¬ (k = 10 ∨ k = 11 ∨ k = 12 ∨ k = 13 ∨ k = 14 ∨ k = 17 ∨ k = 18 ∨ k = 19 ∨ k = 20 ∨ k = 21 ∨ k = 22 ∨ k = 23 ∨ k = 26) → q.2.2 k = r0 k) := by
  intro n
  induction n with
  | zero =>
    intro i0 r0 x1 x3 x4 hf
    rw [f_X13_least_50] at hf
    cases hf
  | succ n ih =>
    intro i0 r0 x1 x3 x4 hf
    rw [f_X13_least_50] at hf
    by_cases hc : 8 ≤ x4
    · have hf := ite_t hf hc
      obtain ⟨q32, hq32, hf⟩ := bd_s hf
      have hf := ck_2 hf
      by_cases hc : (r0 17 q32.toNatClampNeg) = (-1)
      · have hf := ite_t hf hc
        obtain rfl := Option.some.inj hf
        exact ⟨fun k _ => rfl, fun k _ => rfl⟩
      · have hf := ite_f hf hc
        have hf := ck_2 hf
        have hf := ck_2 hf
        have g33 := fr_X13_least_117  _ _ _ _ hf
        exact ⟨fun k hk => (by (try dsimp only); rw [g33.1 k (by omega)]), fun k hk => (by (try dsimp only); rw [g33.2 k (by omega), va_up_ne _ _ (by omega), va_up_ne _ _ (by omega)])⟩
    · have hf := ite_f hf hc
      obtain ⟨q34, hq34, hf⟩ := bd_s hf
      have hf := ck_2 hf
      have g35 := ih _ _ _ _ _ hf
      exact ⟨fun k hk => (by (try dsimp only); rw [g35.1 k (by omega)]), fun k hk => (by (try dsimp only); rw [g35.2 k (by omega), va_up_ne _ _ (by omega)])⟩
set_option maxRecDepth 100000 in
set_option maxHeartbeats 4000000 in
theorem fr_X13_least  {i0 : Nat → Int32} {r0 : Nat → Nat → Int32} {l0 : Nat → Nat → Int64} {x1 : Int32} {x2 : Int32} {x3 : Int32} {q : Int32 × (Nat → Int32) × (Nat → Nat → Int32)} (hf : f_X13_least i0 r0 l0 x1 x2 x3 = some q) : (∀ k : Nat, ¬ (k = 24 ∨ k = 25) → q.2.1 k = i0 k) ∧ (∀ k : Nat, ¬ (k = 10 ∨ k = 11 ∨ k = 12 ∨ k = 13 ∨ k = 14 ∨ k = 17 ∨ k = 18 ∨ k = 19 ∨ k = 20 ∨ k = 21 ∨ k = 22 ∨ k = 23 ∨ k = 26) → q.2.2 k = r0 k) := by
  rw [f_X13_least] at hf
  obtain ⟨q36, hq36, hf⟩ := bd_s hf
  by_cases hc : q36 = 0
  · have hf := ite_t hf hc
    obtain rfl := Option.some.inj hf
    exact ⟨fun k _ => rfl, fun k _ => rfl⟩
  · have hf := ite_f hf hc
    obtain ⟨q37, hq37, hf⟩ := bd_s hf
    by_cases hc : q37 = 0
    · have hf := ite_t hf hc
      obtain rfl := Option.some.inj hf
      exact ⟨fun k _ => rfl, fun k _ => rfl⟩
    · have hf := ite_f hf hc
      obtain ⟨q38, hq38, hf⟩ := bd_s hf
      by_cases hc : q38 = 0
      · have hf := ite_t hf hc
        obtain rfl := Option.some.inj hf
        exact ⟨fun k _ => rfl, fun k _ => rfl⟩
      · have hf := ite_f hf hc
        have hf := ck_2 hf
        by_cases hc : (r0 10 x1.toNatClampNeg) = 3
        · have hf := ite_t hf hc
          obtain ⟨q39, hq39, hf⟩ := bd_s hf
          have fq39 := fr_X13_findNeeds hq39
          have g40 := fr_X13_least_50  2000000 _ _ _ _ _ hf
          exact ⟨fun k hk => (by (try dsimp only); rw [g40.1 k (by omega), fq39.1 k (by omega)]), fun k hk => (by (try dsimp only); rw [g40.2 k (by omega), fq39.2 k (by omega)])⟩
        · have hf := ite_f hf hc
          obtain rfl := Option.some.inj hf
          exact ⟨fun k _ => rfl, fun k _ => rfl⟩
/-! X13_lays -/
set_option maxRecDepth 100000 in
set_option maxHeartbeats 4000000 in
theorem fr_X13_lays_52  {l0 : Nat → Nat → Int64} {q : Int32 × (Nat → Int32) × (Nat → Nat → Int32)}  : ∀ (n : Nat), ∀ (i0 : Nat → Int32) (r0 : Nat → Nat → Int32) (x1 : Int32) (x2 : Int32) (x3 : Int32) (x4 : Int32), f_X13_lays_52 l0 n i0 r0 x1 x2 x3 x4 = some q → (∀ k : Nat, ¬ (k = 27) → q.2.1 k = i0 k) ∧ (∀ k : Nat, ¬ (k = 12 ∨ k = 14 ∨ k = 15) → q.2.2 k = r0 k) := by
  intro n
  induction n with
  | zero =>
    intro i0 r0 x1 x2 x3 x4 hf
    rw [f_X13_lays_52] at hf
    cases hf
  | succ n ih =>
    intro i0 r0 x1 x2 x3 x4 hf
    rw [f_X13_lays_52] at hf
    by_cases hc : x3 ≤ x4
    · have hf := ite_t hf hc
      obtain rfl := Option.some.inj hf
      exact ⟨fun k _ => rfl, fun k _ => rfl⟩
    · have hf := ite_f hf hc
      have hf := ck_2 hf
      obtain ⟨q3, hq3, hf⟩ := bd_s hf
      have hf := ck_2 hf
      have g4 := ih _ _ _ _ _ _ hf
      exact ⟨fun k hk => (by (try dsimp only); rw [g4.1 k (by omega)]), fun k hk => (by (try dsimp only); rw [g4.2 k (by omega), va_up_ne _ _ (by omega)])⟩
set_option maxRecDepth 100000 in
set_option maxHeartbeats 4000000 in
theorem fr_X13_lays_39  {l0 : Nat → Nat → Int64} {q : Int32 × (Nat → Int32) × (Nat → Nat → Int32)}  : ∀ (i0 : Nat → Int32) (r0 : Nat → Nat → Int32) (x1 : Int32) (x2 : Int32) (x3 : Int32), f_X13_lays_39 l0 i0 r0 x1 x2 x3 = some q → (∀ k : Nat, ¬ (k = 27) → q.2.1 k = i0 k) ∧ (∀ k : Nat, ¬ (k = 12 ∨ k = 14 ∨ k = 15) → q.2.2 k = r0 k) := by
  intro i0 r0 x1 x2 x3 hf
  rw [f_X13_lays_39] at hf
  have g5 := fr_X13_lays_52  2000000 _ _ _ _ _ _ hf
  exact ⟨fun k hk => (by (try dsimp only); rw [g5.1 k (by omega), pk_un (by omega)]), fun k hk => (by (try dsimp only); rw [g5.2 k (by omega)])⟩
set_option maxRecDepth 100000 in
set_option maxHeartbeats 4000000 in
theorem fr_X13_lays  {i0 : Nat → Int32} {r0 : Nat → Nat → Int32} {l0 : Nat → Nat → Int64} {x1 : Int32} {x2 : Int32} {x3 : Int32} {q : Int32 × (Nat → Int32) × (Nat → Nat → Int32)} (hf : f_X13_lays i0 r0 l0 x1 x2 x3 = some q) : (∀ k : Nat, ¬ (k = 27) → q.2.1 k = i0 k) ∧ (∀ k : Nat, ¬ (k = 12 ∨ k = 14 ∨ k = 15) → q.2.2 k = r0 k) := by
  rw [f_X13_lays] at hf
  by_cases hc : (i0 27) = 40
  · have hf := ite_t hf hc
    obtain rfl := Option.some.inj hf
    exact ⟨fun k _ => rfl, fun k _ => rfl⟩
  · have hf := ite_f hf hc
    have hf := ck_2 hf
    have hf := ck_2 hf
    have g6 := fr_X13_lays_39  _ _ _ _ _ hf
    exact ⟨fun k hk => (by (try dsimp only); rw [g6.1 k (by omega)]), fun k hk => (by (try dsimp only); rw [g6.2 k (by omega), va_up_ne _ _ (by omega), va_up_ne _ _ (by omega)])⟩
/-! X13_lay -/
set_option maxRecDepth 100000 in
set_option maxHeartbeats 4000000 in
theorem fr_X13_lay_105  {l0 : Nat → Nat → Int64} {q : Int32 × (Nat → Int32) × (Nat → Nat → Int32)} (K39 : (Nat → Int32) → (Nat → Nat → Int32) → Int32 → Int32 → Int32 → Int32 → Option (Int32 × (Nat → Int32) × (Nat → Nat → Int32))) (hK39 : ∀ (i0 : Nat → Int32) (r0 : Nat → Nat → Int32) (x1 : Int32) (x2 : Int32) (x3 : Int32) (x4 : Int32), K39 i0 r0 x1 x2 x3 x4 = some q → (∀ k : Nat, ¬ (k = 27) → q.2.1 k = i0 k) ∧ (∀ k : Nat, ¬ (k = 10 ∨ k = 11 ∨ k = 12 ∨ k = 13 ∨ k = 14 ∨ k = 15) → q.2.2 k = r0 k)) (K48 : (Nat → Int32) → (Nat → Nat → Int32) → Int32 → Int32 → Int32 → Int32 → Int32 → Option (Int32 × (Nat → Int32) × (Nat → Nat → Int32))) (hK48 : ∀ (i0 : Nat → Int32) (r0 : Nat → Nat → Int32) (x1 : Int32) (x2 : Int32) (x3 : Int32) (x4 : Int32) (x5 : Int32), K48 i0 r0 x1 x2 x3 x4 x5 = some q → (∀ k : Nat, ¬ (k = 27) → q.2.1 k = i0 k) ∧ (∀ k : Nat, ¬ (k = 10 ∨ k = 11 ∨ k = 12 ∨ k = 13 ∨ k = 14 ∨ k = 15) → q.2.2 k = r0 k)) : ∀ (i0 : Nat → Int32) (r0 : Nat → Nat → Int32) (x1 : Int32) (x2 : Int32) (x3 : Int32) (x4 : Int32) (x5 : Int32), f_X13_lay_105 l0 K39 K48 i0 r0 x1 x2 x3 x4 x5 = some q → (∀ k : Nat, ¬ (k = 27) → q.2.1 k = i0 k) ∧ (∀ k : Nat, ¬ (k = 10 ∨ k = 11 ∨ k = 12 ∨ k = 13 ∨ k = 14 ∨ k = 15) → q.2.2 k = r0 k) := by
  intro i0 r0 x1 x2 x3 x4 x5 hf
  rw [f_X13_lay_105] at hf
  have g19 := hK48 _ _ _ _ _ _ _ hf
  exact ⟨fun k hk => (by (try dsimp only); rw [g19.1 k (by omega)]), fun k hk => (by (try dsimp only); rw [g19.2 k (by omega)])⟩
set_option maxRecDepth 100000 in
set_option maxHeartbeats 4000000 in
theorem fr_X13_lay_178  {l0 : Nat → Nat → Int64} {q : Int32 × (Nat → Int32) × (Nat → Nat → Int32)} (K39 : (Nat → Int32) → (Nat → Nat → Int32) → Int32 → Int32 → Int32 → Int32 → Option (Int32 × (Nat → Int32) × (Nat → Nat → Int32))) (hK39 : ∀ (i0 : Nat → Int32) (r0 : Nat → Nat → Int32) (x1 : Int32) (x2 : Int32) (x3 : Int32) (x4 : Int32), K39 i0 r0 x1 x2 x3 x4 = some q → (∀ k : Nat, ¬ (k = 27) → q.2.1 k = i0 k) ∧ (∀ k : Nat, ¬ (k = 10 ∨ k = 11 ∨ k = 12 ∨ k = 13 ∨ k = 14 ∨ k = 15) → q.2.2 k = r0 k)) (K114 : (Nat → Int32) → (Nat → Nat → Int32) → Int32 → Int32 → Int32 → Int32 → Int32 → Option (Int32 × (Nat → Int32) × (Nat → Nat → Int32))) (hK114 : ∀ (i0 : Nat → Int32) (r0 : Nat → Nat → Int32) (x1 : Int32) (x2 : Int32) (x3 : Int32) (x4 : Int32) (x5 : Int32), K114 i0 r0 x1 x2 x3 x4 x5 = some q → (∀ k : Nat, ¬ (k = 27) → q.2.1 k = i0 k) ∧ (∀ k : Nat, ¬ (k = 10 ∨ k = 11 ∨ k = 12 ∨ k = 13 ∨ k = 14 ∨ k = 15) → q.2.2 k = r0 k)) : ∀ (i0 : Nat → Int32) (r0 : Nat → Nat → Int32) (x1 : Int32) (x2 : Int32) (x3 : Int32) (x4 : Int32) (x5 : Int32), f_X13_lay_178 l0 K39 K114 i0 r0 x1 x2 x3 x4 x5 = some q → (∀ k : Nat, ¬ (k = 27) → q.2.1 k = i0 k) ∧ (∀ k : Nat, ¬ (k = 10 ∨ k = 11 ∨ k = 12 ∨ k = 13 ∨ k = 14 ∨ k = 15) → q.2.2 k = r0 k) := by
  intro i0 r0 x1 x2 x3 x4 x5 hf
  rw [f_X13_lay_178] at hf
  have g20 := hK114 _ _ _ _ _ _ _ hf
  exact ⟨fun k hk => (by (try dsimp only); rw [g20.1 k (by omega)]), fun k hk => (by (try dsimp only); rw [g20.2 k (by omega)])⟩
set_option maxRecDepth 100000 in
set_option maxHeartbeats 4000000 in
theorem fr_X13_lay_114  {l0 : Nat → Nat → Int64} {q : Int32 × (Nat → Int32) × (Nat → Nat → Int32)} (K39 : (Nat → Int32) → (Nat → Nat → Int32) → Int32 → Int32 → Int32 → Int32 → Option (Int32 × (Nat → Int32) × (Nat → Nat → Int32))) (hK39 : ∀ (i0 : Nat → Int32) (r0 : Nat → Nat → Int32) (x1 : Int32) (x2 : Int32) (x3 : Int32) (x4 : Int32), K39 i0 r0 x1 x2 x3 x4 = some q → (∀ k : Nat, ¬ (k = 27) → q.2.1 k = i0 k) ∧ (∀ k : Nat, ¬ (k = 10 ∨ k = 11 ∨ k = 12 ∨ k = 13 ∨ k = 14 ∨ k = 15) → q.2.2 k = r0 k)) : ∀ (n : Nat), ∀ (i0 : Nat → Int32) (r0 : Nat → Nat → Int32) (x1 : Int32) (x2 : Int32) (x3 : Int32) (x4 : Int32) (x5 : Int32), f_X13_lay_114 l0 K39 n i0 r0 x1 x2 x3 x4 x5 = some q → (∀ k : Nat, ¬ (k = 27) → q.2.1 k = i0 k) ∧ (∀ k : Nat, ¬ (k = 10 ∨ k = 11 ∨ k = 12 ∨ k = 13 ∨ k = 14 ∨ k = 15) → q.2.2 k = r0 k) := by
  intro n
  induction n with
  | zero =>
    intro i0 r0 x1 x2 x3 x4 x5 hf
    rw [f_X13_lay_114] at hf
    cases hf
  | succ n ih =>
    intro i0 r0 x1 x2 x3 x4 x5 hf
    rw [f_X13_lay_114] at hf
    have hf := ck_2 hf
    by_cases hc : (r0 10 x1.toNatClampNeg) ≤ x5
    · have hf := ite_t hf hc
      have g21 := hK39 _ _ _ _ _ _ hf
      exact ⟨fun k hk => (by (try dsimp only); rw [g21.1 k (by omega)]), fun k hk => (by (try dsimp only); rw [g21.2 k (by omega)])⟩
    · have hf := ite_f hf hc
      obtain ⟨q22, hq22, hf⟩ := bd_s hf
      by_cases hc : q22 = 0
      · have hf := ite_t hf hc
        have hf := ck_2 hf
        obtain ⟨q24, hq24, hf⟩ := bd_s hf
        by_cases hc : q24 = 1
        · have hf := ite_t hf hc
          have hf := ck_2 hf
          obtain ⟨q26, hq26, hf⟩ := bd_s hf
          have fq26 := fr_X13_lays hq26
          by_cases hc : q26.1 = 0
          · have hf := ite_t hf hc
            obtain rfl := Option.some.inj hf
            exact ⟨fun k hk => (by (try dsimp only); rw [fq26.1 k (by omega)]), fun k hk => (by (try dsimp only); rw [fq26.2 k (by omega)])⟩
          · have hf := ite_f hf hc
            have g27 := fr_X13_lay_178 _ (hK39) _ (ih) _ _ _ _ _ _ _ hf
            exact ⟨fun k hk => (by (try dsimp only); rw [g27.1 k (by omega), fq26.1 k (by omega)]), fun k hk => (by (try dsimp only); rw [g27.2 k (by omega), fq26.2 k (by omega)])⟩
        · have hf := ite_f hf hc
          have g25 := fr_X13_lay_178 _ (hK39) _ (ih) _ _ _ _ _ _ _ hf
          exact ⟨fun k hk => (by (try dsimp only); rw [g25.1 k (by omega)]), fun k hk => (by (try dsimp only); rw [g25.2 k (by omega)])⟩
      · have hf := ite_f hf hc
        have g23 := fr_X13_lay_178 _ (hK39) _ (ih) _ _ _ _ _ _ _ hf
        exact ⟨fun k hk => (by (try dsimp only); rw [g23.1 k (by omega)]), fun k hk => (by (try dsimp only); rw [g23.2 k (by omega)])⟩
set_option maxRecDepth 100000 in
set_option maxHeartbeats 4000000 in
theorem fr_X13_lay_48  {l0 : Nat → Nat → Int64} {q : Int32 × (Nat → Int32) × (Nat → Nat → Int32)} (K39 : (Nat → Int32) → (Nat → Nat → Int32) → Int32 → Int32 → Int32 → Int32 → Option (Int32 × (Nat → Int32) × (Nat → Nat → Int32))) (hK39 : ∀ (i0 : Nat → Int32) (r0 : Nat → Nat → Int32) (x1 : Int32) (x2 : Int32) (x3 : Int32) (x4 : Int32), K39 i0 r0 x1 x2 x3 x4 = some q → (∀ k : Nat, ¬ (k = 27) → q.2.1 k = i0 k) ∧ (∀ k : Nat, ¬ (k = 10 ∨ k = 11 ∨ k = 12 ∨ k = 13 ∨ k = 14 ∨ k = 15) → q.2.2 k = r0 k)) : ∀ (n : Nat), ∀ (i0 : Nat → Int32) (r0 : Nat → Nat → Int32) (x1 : Int32) (x2 : Int32) (x3 : Int32) (x4 : Int32) (x5 : Int32), f_X13_lay_48 l0 K39 n i0 r0 x1 x2 x3 x4 x5 = some q → (∀ k : Nat, ¬ (k = 27) → q.2.1 k = i0 k) ∧ (∀ k : Nat, ¬ (k = 10 ∨ k = 11 ∨ k = 12 ∨ k = 13 ∨ k = 14 ∨ k = 15) → q.2.2 k = r0 k) := by
  intro n
  induction n with
  | zero =>
    intro i0 r0 x1 x2 x3 x4 x5 hf
    rw [f_X13_lay_48] at hf
    cases hf
  | succ n ih =>
    intro i0 r0 x1 x2 x3 x4 x5 hf
    rw [f_X13_lay_48] at hf
    have hf := ck_2 hf
    by_cases hc : (r0 10 x1.toNatClampNeg) ≤ x5
    · have hf := ite_t hf hc
      have g28 := fr_X13_lay_114 _ (hK39) 2000000 _ _ _ _ _ _ _ hf
      exact ⟨fun k hk => (by (try dsimp only); rw [g28.1 k (by omega)]), fun k hk => (by (try dsimp only); rw [g28.2 k (by omega)])⟩
    · have hf := ite_f hf hc
      obtain ⟨q29, hq29, hf⟩ := bd_s hf
      by_cases hc : q29 = 1
      · have hf := ite_t hf hc
        have hf := ck_2 hf
        obtain ⟨q31, hq31, hf⟩ := bd_s hf
        by_cases hc : q31 = 0
        · have hf := ite_t hf hc
          have hf := ck_2 hf
          obtain ⟨q33, hq33, hf⟩ := bd_s hf
          have fq33 := fr_X13_lays hq33
          by_cases hc : q33.1 = 0
          · have hf := ite_t hf hc
            obtain rfl := Option.some.inj hf
            exact ⟨fun k hk => (by (try dsimp only); rw [fq33.1 k (by omega)]), fun k hk => (by (try dsimp only); rw [fq33.2 k (by omega)])⟩
          · have hf := ite_f hf hc
            have g34 := fr_X13_lay_105 _ (hK39) _ (ih) _ _ _ _ _ _ _ hf
            exact ⟨fun k hk => (by (try dsimp only); rw [g34.1 k (by omega), fq33.1 k (by omega)]), fun k hk => (by (try dsimp only); rw [g34.2 k (by omega), fq33.2 k (by omega)])⟩
        · have hf := ite_f hf hc
          have g32 := fr_X13_lay_105 _ (hK39) _ (ih) _ _ _ _ _ _ _ hf
          exact ⟨fun k hk => (by (try dsimp only); rw [g32.1 k (by omega)]), fun k hk => (by (try dsimp only); rw [g32.2 k (by omega)])⟩
      · have hf := ite_f hf hc
        have g30 := fr_X13_lay_105 _ (hK39) _ (ih) _ _ _ _ _ _ _ hf
        exact ⟨fun k hk => (by (try dsimp only); rw [g30.1 k (by omega)]), fun k hk => (by (try dsimp only); rw [g30.2 k (by omega)])⟩
set_option maxRecDepth 100000 in
set_option maxHeartbeats 4000000 in
theorem fr_X13_lay_265  {l0 : Nat → Nat → Int64} {q : Int32 × (Nat → Int32) × (Nat → Nat → Int32)} (K215 : (Nat → Int32) → (Nat → Nat → Int32) → Int32 → Int32 → Option (Int32 × (Nat → Int32) × (Nat → Nat → Int32))) (hK215 : ∀ (i0 : Nat → Int32) (r0 : Nat → Nat → Int32) (x2 : Int32) (x4 : Int32), K215 i0 r0 x2 x4 = some q → (∀ k : Nat, ¬ (k = 27) → q.2.1 k = i0 k) ∧ (∀ k : Nat, ¬ (k = 10 ∨ k = 11 ∨ k = 12 ∨ k = 13 ∨ k = 14 ∨ k = 15) → q.2.2 k = r0 k)) : ∀ (i0 : Nat → Int32) (r0 : Nat → Nat → Int32) (x2 : Int32) (x4 : Int32), f_X13_lay_265 l0 K215 i0 r0 x2 x4 = some q → (∀ k : Nat, ¬ (k = 27) → q.2.1 k = i0 k) ∧ (∀ k : Nat, ¬ (k = 10 ∨ k = 11 ∨ k = 12 ∨ k = 13 ∨ k = 14 ∨ k = 15) → q.2.2 k = r0 k) := by
  intro i0 r0 x2 x4 hf
  rw [f_X13_lay_265] at hf
  have hf := ck_2 hf
  have hf := ck_2 hf
  have g35 := hK215 _ _ _ _ hf
  exact ⟨fun k hk => (by (try dsimp only); rw [g35.1 k (by omega)]), fun k hk => (by (try dsimp only); rw [g35.2 k (by omega), va_up_ne _ _ (by omega)])⟩
set_option maxRecDepth 100000 in
set_option maxHeartbeats 4000000 in
theorem fr_X13_lay_215  {l0 : Nat → Nat → Int64} {q : Int32 × (Nat → Int32) × (Nat → Nat → Int32)}  : ∀ (n : Nat), ∀ (i0 : Nat → Int32) (r0 : Nat → Nat → Int32) (x2 : Int32) (x4 : Int32), f_X13_lay_215 l0 n i0 r0 x2 x4 = some q → (∀ k : Nat, ¬ (k = 27) → q.2.1 k = i0 k) ∧ (∀ k : Nat, ¬ (k = 10 ∨ k = 11 ∨ k = 12 ∨ k = 13 ∨ k = 14 ∨ k = 15) → q.2.2 k = r0 k) := by
  intro n
  induction n with
  | zero =>
    intro i0 r0 x2 x4 hf
    rw [f_X13_lay_215] at hf
    cases hf
  | succ n ih =>
    intro i0 r0 x2 x4 hf
    rw [f_X13_lay_215] at hf
    by_cases hc : (i0 27) ≤ x4
    · have hf := ite_t hf hc
      obtain rfl := Option.some.inj hf
      exact ⟨fun k _ => rfl, fun k _ => rfl⟩
    · have hf := ite_f hf hc
      have hf := ck_2 hf
      have hf := ck_2 hf
      have hf := ck_2 hf
      have g36 := fr_X13_lay_265 _ (ih) _ _ _ _ hf
      exact ⟨fun k hk => (by (try dsimp only); rw [g36.1 k (by omega)]), fun k hk => (by (try dsimp only); rw [g36.2 k (by omega), va_up_ne _ _ (by omega), va_up_ne _ _ (by omega)])⟩
set_option maxRecDepth 100000 in
set_option maxHeartbeats 4000000 in
theorem fr_X13_lay_212  {l0 : Nat → Nat → Int64} {q : Int32 × (Nat → Int32) × (Nat → Nat → Int32)}  : ∀ (i0 : Nat → Int32) (r0 : Nat → Nat → Int32) (x2 : Int32), f_X13_lay_212 l0 i0 r0 x2 = some q → (∀ k : Nat, ¬ (k = 27) → q.2.1 k = i0 k) ∧ (∀ k : Nat, ¬ (k = 10 ∨ k = 11 ∨ k = 12 ∨ k = 13 ∨ k = 14 ∨ k = 15) → q.2.2 k = r0 k) := by
  intro i0 r0 x2 hf
  rw [f_X13_lay_212] at hf
  have g37 := fr_X13_lay_215  2000000 _ _ _ _ hf
  exact ⟨fun k hk => (by (try dsimp only); rw [g37.1 k (by omega)]), fun k hk => (by (try dsimp only); rw [g37.2 k (by omega)])⟩
set_option maxRecDepth 100000 in
set_option maxHeartbeats 4000000 in
theorem fr_X13_lay_39  {l0 : Nat → Nat → Int64} {q : Int32 × (Nat → Int32) × (Nat → Nat → Int32)}  : ∀ (n : Nat), ∀ (i0 : Nat → Int32) (r0 : Nat → Nat → Int32) (x1 : Int32) (x2 : Int32) (x3 : Int32) (x4 : Int32), f_X13_lay_39 l0 n i0 r0 x1 x2 x3 x4 = some q → (∀ k : Nat, ¬ (k = 27) → q.2.1 k = i0 k) ∧ (∀ k : Nat, ¬ (k = 10 ∨ k = 11 ∨ k = 12 ∨ k = 13 ∨ k = 14 ∨ k = 15) → q.2.2 k = r0 k) := by
  intro n
  induction n with
  | zero =>
    intro i0 r0 x1 x2 x3 x4 hf
    rw [f_X13_lay_39] at hf
    cases hf
  | succ n ih =>
    intro i0 r0 x1 x2 x3 x4 hf
    rw [f_X13_lay_39] at hf
    by_cases hc : x3 ≤ x4
    · have hf := ite_t hf hc
      have hf := ck_2 hf
      have hf := ck_2 hf
      have hf := ck_2 hf
      have g38 := fr_X13_lay_212  _ _ _ hf
      exact ⟨fun k hk => (by (try dsimp only); rw [g38.1 k (by omega)]), fun k hk => (by (try dsimp only); rw [g38.2 k (by omega), va_up_ne _ _ (by omega), va_up_ne _ _ (by omega)])⟩
    · have hf := ite_f hf hc
      have g39 := fr_X13_lay_48 _ (ih) 2000000 _ _ _ _ _ _ _ hf
      exact ⟨fun k hk => (by (try dsimp only); rw [g39.1 k (by omega)]), fun k hk => (by (try dsimp only); rw [g39.2 k (by omega)])⟩
set_option maxRecDepth 100000 in
set_option maxHeartbeats 4000000 in
theorem fr_X13_lay  {i0 : Nat → Int32} {r0 : Nat → Nat → Int32} {l0 : Nat → Nat → Int64} {x1 : Int32} {x2 : Int32} {q : Int32 × (Nat → Int32) × (Nat → Nat → Int32)} (hf : f_X13_lay i0 r0 l0 x1 x2 = some q) : (∀ k : Nat, ¬ (k = 27) → q.2.1 k = i0 k) ∧ (∀ k : Nat, ¬ (k = 10 ∨ k = 11 ∨ k = 12 ∨ k = 13 ∨ k = 14 ∨ k = 15) → q.2.2 k = r0 k) := by
  rw [f_X13_lay] at hf
  obtain ⟨q40, hq40, hf⟩ := bd_s hf
  by_cases hc : q40 = 0
  · have hf := ite_t hf hc
    obtain rfl := Option.some.inj hf
    exact ⟨fun k _ => rfl, fun k _ => rfl⟩
  · have hf := ite_f hf hc
    obtain ⟨q41, hq41, hf⟩ := bd_s hf
    by_cases hc : q41 = 0
    · have hf := ite_t hf hc
      obtain rfl := Option.some.inj hf
      exact ⟨fun k _ => rfl, fun k _ => rfl⟩
    · have hf := ite_f hf hc
      obtain ⟨q42, hq42, hf⟩ := bd_s hf
      have fq42 := fr_X13_findTable hq42
      have hf := ck_2 hf
      have g43 := fr_X13_lay_39  2000000 _ _ _ _ _ _ hf
      exact ⟨fun k hk => (by (try dsimp only); rw [g43.1 k (by omega), pk_un (by omega)]), fun k hk => (by (try dsimp only); rw [g43.2 k (by omega), fq42 k (by omega)])⟩
/-! X13_roll -/
set_option maxRecDepth 100000 in
set_option maxHeartbeats 4000000 in
theorem fr_X13_roll_146  {i0 : Nat → Int32} {l0 : Nat → Nat → Int64} {q : Int32 × (Nat → Nat → Int32)} (K109 : (Nat → Nat → Int32) → Int32 → Int32 → Int32 → Int32 → Int32 → Option (Int32 × (Nat → Nat → Int32))) (hK109 : ∀ (r0 : Nat → Nat → Int32) (x1 : Int32) (x2 : Int32) (x3 : Int32) (x5 : Int32) (x6 : Int32), K109 r0 x1 x2 x3 x5 x6 = some q → (∀ k : Nat, ¬ (k = 10 ∨ k = 11 ∨ k = 12 ∨ k = 13 ∨ k = 14) → q.2 k = r0 k)) : ∀ (r0 : Nat → Nat → Int32) (x1 : Int32) (x2 : Int32) (x3 : Int32) (x5 : Int32) (x6 : Int32), f_X13_roll_146 i0 l0 K109 r0 x1 x2 x3 x5 x6 = some q → (∀ k : Nat, ¬ (k = 10 ∨ k = 11 ∨ k = 12 ∨ k = 13 ∨ k = 14) → q.2 k = r0 k) := by
  intro r0 x1 x2 x3 x5 x6 hf
  rw [f_X13_roll_146] at hf
  have g19 := hK109 _ _ _ _ _ _ hf
  exact fun k hk => (by (try dsimp only); rw [g19 k (by omega)])
set_option maxRecDepth 100000 in
set_option maxHeartbeats 4000000 in
theorem fr_X13_roll_162  {i0 : Nat → Int32} {l0 : Nat → Nat → Int64} {q : Int32 × (Nat → Nat → Int32)}  : ∀ (n : Nat), ∀ (r0 : Nat → Nat → Int32) (x1 : Int32) (x3 : Int32) (x6 : Int32), f_X13_roll_162 i0 l0 n r0 x1 x3 x6 = some q → (∀ k : Nat, ¬ (k = 10 ∨ k = 11 ∨ k = 12 ∨ k = 13 ∨ k = 14) → q.2 k = r0 k) := by
  intro n
  induction n with
  | zero =>
    intro r0 x1 x3 x6 hf
    rw [f_X13_roll_162] at hf
    cases hf
  | succ n ih =>
    intro r0 x1 x3 x6 hf
    rw [f_X13_roll_162] at hf
    by_cases hc : x6 < 0
    · have hf := ite_t hf hc
      obtain ⟨q20, hq20, hf⟩ := bd_s hf
      have fq20 := fr_X13_copyFloor hq20
      have hf := ck_2 hf
      obtain rfl := Option.some.inj hf
      exact fun k hk => (by (try dsimp only); rw [fq20 k (by omega)])
    · have hf := ite_f hf hc
      have hf := ck_2 hf
      have hf := ck_2 hf
      have hf := ck_2 hf
      obtain ⟨q21, hq21, hf⟩ := bd_s hf
      have fq21 := fr_X13_add hq21
      have g22 := ih _ _ _ _ hf
      exact fun k hk => (by (try dsimp only); rw [g22 k (by omega), fq21 k (by omega)])
set_option maxRecDepth 100000 in
set_option maxHeartbeats 4000000 in
theorem fr_X13_roll_109  {i0 : Nat → Int32} {l0 : Nat → Nat → Int64} {q : Int32 × (Nat → Nat → Int32)}  : ∀ (n : Nat), ∀ (r0 : Nat → Nat → Int32) (x1 : Int32) (x2 : Int32) (x3 : Int32) (x5 : Int32) (x6 : Int32), f_X13_roll_109 i0 l0 n r0 x1 x2 x3 x5 x6 = some q → (∀ k : Nat, ¬ (k = 10 ∨ k = 11 ∨ k = 12 ∨ k = 13 ∨ k = 14) → q.2 k = r0 k) := by
  intro n
  induction n with
  | zero =>
    intro r0 x1 x2 x3 x5 x6 hf
    rw [f_X13_roll_109] at hf
    cases hf
  | succ n ih =>
    intro r0 x1 x2 x3 x5 x6 hf
    rw [f_X13_roll_109] at hf
    have hf := ck_2 hf
    by_cases hc : (r0 10 x1.toNatClampNeg) ≤ x6
    · have hf := ite_t hf hc
      have hf := ck_2 hf
      have g23 := fr_X13_roll_162  2000000 _ _ _ _ hf
      exact fun k hk => (by (try dsimp only); rw [g23 k (by omega)])
    · have hf := ite_f hf hc
      obtain ⟨q24, hq24, hf⟩ := bd_s hf
      by_cases hc : q24 = 0
      · have hf := ite_t hf hc
        have g27 := fr_X13_roll_146 _ (ih) _ _ _ _ _ _ hf
        exact fun k hk => (by (try dsimp only); rw [g27 k (by omega)])
      · have hf := ite_f hf hc
        obtain ⟨q25, hq25, hf⟩ := bd_s hf
        have fq25 := fr_X13_add hq25
        have g26 := fr_X13_roll_146 _ (ih) _ _ _ _ _ _ hf
        exact fun k hk => (by (try dsimp only); rw [g26 k (by omega), fq25 k (by omega)])
set_option maxRecDepth 100000 in
set_option maxHeartbeats 4000000 in
theorem fr_X13_roll_98  {i0 : Nat → Int32} {l0 : Nat → Nat → Int64} {q : Int32 × (Nat → Nat → Int32)}  : ∀ (r0 : Nat → Nat → Int32) (x1 : Int32) (x2 : Int32) (x3 : Int32), f_X13_roll_98 i0 l0 r0 x1 x2 x3 = some q → (∀ k : Nat, ¬ (k = 10 ∨ k = 11 ∨ k = 12 ∨ k = 13 ∨ k = 14) → q.2 k = r0 k) := by
  intro r0 x1 x2 x3 hf
  rw [f_X13_roll_98] at hf
  have hf := ck_2 hf
  have g28 := fr_X13_roll_109  2000000 _ _ _ _ _ _ hf
  exact fun k hk => (by (try dsimp only); rw [g28 k (by omega)])
set_option maxRecDepth 100000 in
set_option maxHeartbeats 4000000 in
theorem fr_X13_roll  {i0 : Nat → Int32} {r0 : Nat → Nat → Int32} {l0 : Nat → Nat → Int64} {x1 : Int32} {x2 : Int32} {x3 : Int32} {q : Int32 × (Nat → Nat → Int32)} (hf : f_X13_roll i0 r0 l0 x1 x2 x3 = some q) : (∀ k : Nat, ¬ (k = 10 ∨ k = 11 ∨ k = 12 ∨ k = 13 ∨ k = 14) → q.2 k = r0 k) := by
  rw [f_X13_roll] at hf
  obtain ⟨q29, hq29, hf⟩ := bd_s hf
  by_cases hc : q29 = 0
  · have hf := ite_t hf hc
    obtain rfl := Option.some.inj hf
    exact fun k _ => rfl
  · have hf := ite_f hf hc
    obtain ⟨q30, hq30, hf⟩ := bd_s hf
    by_cases hc : q30 = 0
    · have hf := ite_t hf hc
      obtain rfl := Option.some.inj hf
      exact fun k _ => rfl
    · have hf := ite_f hf hc
      have hf := ck_2 hf
      obtain ⟨q31, hq31, hf⟩ := bd_s hf
      by_cases hc : q31 = 0
      · have hf := ite_t hf hc
        obtain rfl := Option.some.inj hf
        exact fun k _ => rfl
      · have hf := ite_f hf hc
        obtain ⟨q32, hq32, hf⟩ := bd_s hf
        have hf := ck_2 hf
        by_cases hc : 8 < ((r0 10 x1.toNatClampNeg) + q32)
        · have hf := ite_t hf hc
          obtain rfl := Option.some.inj hf
          exact fun k _ => rfl
        · have hf := ite_f hf hc
          have hf := ck_2 hf
          by_cases hc : ((2 * (r0 11 x1.toNatClampNeg)) + q32) ≤ 40
          · have hf := ite_t hf hc
            obtain ⟨q33, hq33, hf⟩ := bd_s hf
            have fq33 := fr_X13_copyFloor hq33
            have hf := ck_2 hf
            have hf := ck_2 hf
            have g34 := fr_X13_roll_98  _ _ _ _ hf
            exact fun k hk => (by (try dsimp only); rw [g34 k (by omega), va_up_ne _ _ (by omega), fq33 k (by omega)])
          · have hf := ite_f hf hc
            obtain rfl := Option.some.inj hf
            exact fun k _ => rfl
/-! X13_chain -/
set_option maxRecDepth 100000 in
set_option maxHeartbeats 4000000 in
theorem fr_X13_chain_77  {i0 : Nat → Int32} {l0 : Nat → Nat → Int64} {q : Int32 × (Nat → Nat → Int32)}  : ∀ (n : Nat), ∀ (r0 : Nat → Nat → Int32) (x2 : Int32) (x3 : Int32) (x4 : Int32), f_X13_chain_77 i0 l0 n r0 x2 x3 x4 = some q → (∀ k : Nat, ¬ (k = 10 ∨ k = 11 ∨ k = 12 ∨ k = 13 ∨ k = 14) → q.2 k = r0 k) := by
  intro n
  induction n with
  | zero =>
    intro r0 x2 x3 x4 hf
    rw [f_X13_chain_77] at hf
    cases hf
  | succ n ih =>
    intro r0 x2 x3 x4 hf
    rw [f_X13_chain_77] at hf
    have hf := ck_2 hf
    by_cases hc : (r0 11 x2.toNatClampNeg) ≤ x4
    · have hf := ite_t hf hc
      obtain ⟨q13, hq13, hf⟩ := bd_s hf
      have fq13 := fr_X13_copyFloor hq13
      have hf := ck_2 hf
      obtain rfl := Option.some.inj hf
      exact fun k hk => (by (try dsimp only); rw [fq13 k (by omega)])
    · have hf := ite_f hf hc
      have hf := ck_2 hf
      have hf := ck_2 hf
      have hf := ck_2 hf
      obtain ⟨q14, hq14, hf⟩ := bd_s hf
      have fq14 := fr_X13_add hq14
      have g15 := ih _ _ _ _ hf
      exact fun k hk => (by (try dsimp only); rw [g15 k (by omega), fq14 k (by omega)])
set_option maxRecDepth 100000 in
set_option maxHeartbeats 4000000 in
theorem fr_X13_chain  {i0 : Nat → Int32} {r0 : Nat → Nat → Int32} {l0 : Nat → Nat → Int64} {x1 : Int32} {x2 : Int32} {x3 : Int32} {q : Int32 × (Nat → Nat → Int32)} (hf : f_X13_chain i0 r0 l0 x1 x2 x3 = some q) : (∀ k : Nat, ¬ (k = 10 ∨ k = 11 ∨ k = 12 ∨ k = 13 ∨ k = 14) → q.2 k = r0 k) := by
  rw [f_X13_chain] at hf
  obtain ⟨q16, hq16, hf⟩ := bd_s hf
  by_cases hc : q16 = 0
  · have hf := ite_t hf hc
    obtain rfl := Option.some.inj hf
    exact fun k _ => rfl
  · have hf := ite_f hf hc
    obtain ⟨q17, hq17, hf⟩ := bd_s hf
    by_cases hc : q17 = 0
    · have hf := ite_t hf hc
      obtain rfl := Option.some.inj hf
      exact fun k _ => rfl
    · have hf := ite_f hf hc
      obtain ⟨q18, hq18, hf⟩ := bd_s hf
      by_cases hc : q18 = 0
      · have hf := ite_t hf hc
        obtain rfl := Option.some.inj hf
        exact fun k _ => rfl
      · have hf := ite_f hf hc
        have hf := ck_2 hf
        have hf := ck_2 hf
        by_cases hc : ((r0 11 x1.toNatClampNeg) + (r0 11 x2.toNatClampNeg)) ≤ 40
        · have hf := ite_t hf hc
          obtain ⟨q19, hq19, hf⟩ := bd_s hf
          have fq19 := fr_X13_copyFloor hq19
          have hf := ck_2 hf
          have hf := ck_2 hf
          have hf := ck_2 hf
          have g20 := fr_X13_chain_77  2000000 _ _ _ _ hf
          exact fun k hk => (by (try dsimp only); rw [g20 k (by omega), va_up_ne _ _ (by omega), fq19 k (by omega)])
        · have hf := ite_f hf hc
          obtain rfl := Option.some.inj hf
          exact fun k _ => rfl
/-! X13_nameAtHand -/
set_option maxRecDepth 100000 in
set_option maxHeartbeats 4000000 in
theorem fr_X13_nameAtHand_55  {r0 : Nat → Nat → Int32} {l0 : Nat → Nat → Int64} {q : (Int64 × (Nat → Int32)) ⊕ ((Nat → Int32))}  : ∀ (n : Nat), ∀ (i0 : Nat → Int32) (x1 : Int64) (x3 : Int32), f_X13_nameAtHand_55 r0 l0 n i0 x1 x3 = some q → Sum.elim (fun q => (∀ k : Nat, ¬ (k = 8 ∨ k = 9) → q.2 k = i0 k)) (fun t => (∀ k : Nat, ¬ (k = 8 ∨ k = 9) → t k = i0 k)) q := by
  intro n
  induction n with
  | zero =>
    intro i0 x1 x3 hf
    rw [f_X13_nameAtHand_55] at hf
    cases hf
  | succ n ih =>
    intro i0 x1 x3 hf
    rw [f_X13_nameAtHand_55] at hf
    by_cases hc : (i0 5) ≤ x3
    · have hf := ite_t hf hc
      obtain rfl := Option.some.inj hf
      exact fun k _ => rfl
    · have hf := ite_f hf hc
      have hf := ck_2 hf
      have g7 := ih _ _ _ hf
      cases q with
      | inl q => exact fun k hk => (by (try dsimp only); rw [g7 k (by omega)])
      | inr t => exact fun k hk => (by (try dsimp only); rw [g7 k (by omega)])
set_option maxRecDepth 100000 in
set_option maxHeartbeats 4000000 in
theorem fr_X13_nameAtHand_44  {r0 : Nat → Nat → Int32} {l0 : Nat → Nat → Int64} {q : (Int64 × (Nat → Int32)) ⊕ ((Nat → Int32))}  : ∀ (i0 : Nat → Int32) (y0 : Int32), f_X13_nameAtHand_44 r0 l0 i0 y0 = some q → Sum.elim (fun q => (∀ k : Nat, ¬ (k = 8 ∨ k = 9) → q.2 k = i0 k)) (fun t => (∀ k : Nat, ¬ (k = 8 ∨ k = 9) → t k = i0 k)) q := by
  intro i0 y0 hf
  rw [f_X13_nameAtHand_44] at hf
  rcases (bt_s hf).symm with ⟨t8, hq8, hf⟩ | ⟨q8, hq8, hf⟩
  · have ft8 := fr_X13_need hq8
    obtain rfl := Option.some.inj hf
    exact fun k hk => (by (try dsimp only); rw [ft8 k (by omega)])
  have fq8 := fr_X13_need hq8
  have g9 := fr_X13_nameAtHand_55  2000000 _ _ _ hf
  cases q with
  | inl q => exact fun k hk => (by (try dsimp only); rw [g9 k (by omega), fq8 k (by omega)])
  | inr t => exact fun k hk => (by (try dsimp only); rw [g9 k (by omega), fq8 k (by omega)])
set_option maxRecDepth 100000 in
set_option maxHeartbeats 4000000 in
theorem fr_X13_nameAtHand_27  {r0 : Nat → Nat → Int32} {l0 : Nat → Nat → Int64} {q : (Int64 × (Nat → Int32)) ⊕ ((Nat → Int32))}  : ∀ (i0 : Nat → Int32) (y0 : Int32), f_X13_nameAtHand_27 r0 l0 i0 y0 = some q → Sum.elim (fun q => (∀ k : Nat, ¬ (k = 8 ∨ k = 9) → q.2 k = i0 k)) (fun t => (∀ k : Nat, ¬ (k = 8 ∨ k = 9) → t k = i0 k)) q := by
  intro i0 y0 hf
  rw [f_X13_nameAtHand_27] at hf
  rcases (bt_s hf).symm with ⟨t10, hq10, hf⟩ | ⟨q10, hq10, hf⟩
  · have ft10 := fr_X13_need hq10
    obtain rfl := Option.some.inj hf
    exact fun k hk => (by (try dsimp only); rw [ft10 k (by omega)])
  have fq10 := fr_X13_need hq10
  obtain ⟨q11, hq11, hf⟩ := bd_s hf
  by_cases hc : q11 = 0
  · have hf := ite_t hf hc
    have g13 := fr_X13_nameAtHand_44  _ _ hf
    cases q with
    | inl q => exact fun k hk => (by (try dsimp only); rw [g13 k (by omega), fq10 k (by omega)])
    | inr t => exact fun k hk => (by (try dsimp only); rw [g13 k (by omega), fq10 k (by omega)])
  · have hf := ite_f hf hc
    have g12 := fr_X13_nameAtHand_44  _ _ hf
    cases q with
    | inl q => exact fun k hk => (by (try dsimp only); rw [g12 k (by omega), fq10 k (by omega)])
    | inr t => exact fun k hk => (by (try dsimp only); rw [g12 k (by omega), fq10 k (by omega)])
set_option maxRecDepth 100000 in
set_option maxHeartbeats 4000000 in
theorem fr_X13_nameAtHand_26  {r0 : Nat → Nat → Int32} {l0 : Nat → Nat → Int64} {q : (Int64 × (Nat → Int32)) ⊕ ((Nat → Int32))}  : ∀ (i0 : Nat → Int32), f_X13_nameAtHand_26 r0 l0 i0 = some q → Sum.elim (fun q => (∀ k : Nat, ¬ (k = 8 ∨ k = 9) → q.2 k = i0 k)) (fun t => (∀ k : Nat, ¬ (k = 8 ∨ k = 9) → t k = i0 k)) q := by
  intro i0 hf
  rw [f_X13_nameAtHand_26] at hf
  have g14 := fr_X13_nameAtHand_27  _ _ hf
  cases q with
  | inl q => exact fun k hk => (by (try dsimp only); rw [g14 k (by omega)])
  | inr t => exact fun k hk => (by (try dsimp only); rw [g14 k (by omega)])
set_option maxRecDepth 100000 in
set_option maxHeartbeats 4000000 in
theorem fr_X13_nameAtHand  {i0 : Nat → Int32} {r0 : Nat → Nat → Int32} {l0 : Nat → Nat → Int64}  {q : (Int64 × (Nat → Int32)) ⊕ ((Nat → Int32))} (hf : f_X13_nameAtHand i0 r0 l0 = some q) : Sum.elim (fun q => (∀ k : Nat, ¬ (k = 8 ∨ k = 9) → q.2 k = i0 k)) (fun t => (∀ k : Nat, ¬ (k = 8 ∨ k = 9) → t k = i0 k)) q := by
  rw [f_X13_nameAtHand] at hf
  by_cases hc : (i0 6) = 1
  · have hf := ite_t hf hc
    by_cases hc : ((i0 5) - (i0 4)) ≤ 1
    · have hf := ite_t hf hc
      have g16 := fr_X13_nameAtHand_26  _ hf
      cases q with
      | inl q => exact fun k hk => (by (try dsimp only); rw [g16 k (by omega)])
      | inr t => exact fun k hk => (by (try dsimp only); rw [g16 k (by omega)])
    · have hf := ite_f hf hc
      have g17 := fr_X13_nameAtHand_27  _ _ hf
      cases q with
      | inl q => exact fun k hk => (by (try dsimp only); rw [g17 k (by omega)])
      | inr t => exact fun k hk => (by (try dsimp only); rw [g17 k (by omega)])
  · have hf := ite_f hf hc
    have g15 := fr_X13_nameAtHand_26  _ hf
    cases q with
    | inl q => exact fun k hk => (by (try dsimp only); rw [g15 k (by omega)])
    | inr t => exact fun k hk => (by (try dsimp only); rw [g15 k (by omega)])
/-! X13_mark -/
set_option maxRecDepth 100000 in
set_option maxHeartbeats 4000000 in
theorem fr_X13_mark_26  {l0 : Nat → Nat → Int64} {q : (Nat → Int32) × (Nat → Nat → Int32)}  : ∀ (i0 : Nat → Int32) (r0 : Nat → Nat → Int32) (x3 : Int32) (x4 : Int32), f_X13_mark_26 l0 i0 r0 x3 x4 = some q → (∀ k : Nat, ¬ (k = 49) → q.1 k = i0 k) ∧ (∀ k : Nat, ¬ (k = 39 ∨ k = 40 ∨ k = 41) → q.2 k = r0 k) := by
  intro i0 r0 x3 x4 hf
  rw [f_X13_mark_26] at hf
  have hf := ck_2 hf
  obtain rfl := Option.some.inj hf
  exact ⟨fun k hk => (by (try dsimp only); rw [pk_un (by omega)]), fun k hk => (by (try dsimp only); rw [va_up_ne _ _ (by omega)])⟩
set_option maxRecDepth 100000 in
set_option maxHeartbeats 4000000 in
theorem fr_X13_mark  {i0 : Nat → Int32} {r0 : Nat → Nat → Int32} {l0 : Nat → Nat → Int64} {x1 : Int32} {x2 : Int32} {x3 : Int32} {q : (Nat → Int32) × (Nat → Nat → Int32)} (hf : f_X13_mark i0 r0 l0 x1 x2 x3 = some q) : (∀ k : Nat, ¬ (k = 49) → q.1 k = i0 k) ∧ (∀ k : Nat, ¬ (k = 39 ∨ k = 40 ∨ k = 41) → q.2 k = r0 k) := by
  rw [f_X13_mark] at hf
  have hf := ck_2 hf
  have hf := ck_2 hf
  have g1 := fr_X13_mark_26  _ _ _ _ hf
  exact ⟨fun k hk => (by (try dsimp only); rw [g1.1 k (by omega)]), fun k hk => (by (try dsimp only); rw [g1.2 k (by omega), va_up_ne _ _ (by omega), va_up_ne _ _ (by omega)])⟩
/-! X13_readVar -/
set_option maxRecDepth 100000 in
set_option maxHeartbeats 4000000 in
theorem fr_X13_readVar_54  {r0 : Nat → Nat → Int32} {l0 : Nat → Nat → Int64} {q : ((Nat → Int32)) ⊕ ((Nat → Int32))}  : ∀ (i0 : Nat → Int32) (y0 : Int32), f_X13_readVar_54 r0 l0 i0 y0 = some q → Sum.elim (fun q => (∀ k : Nat, ¬ (k = 4 ∨ k = 5 ∨ k = 6 ∨ k = 7 ∨ k = 8 ∨ k = 9 ∨ k = 56 ∨ k = 57) → q k = i0 k)) (fun t => (∀ k : Nat, ¬ (k = 4 ∨ k = 5 ∨ k = 6 ∨ k = 7 ∨ k = 8 ∨ k = 9 ∨ k = 56 ∨ k = 57) → t k = i0 k)) q := by
  intro i0 y0 hf
  rw [f_X13_readVar_54] at hf
  rcases (bt_s hf).symm with ⟨t31, hq31, hf⟩ | ⟨q31, hq31, hf⟩
  · have ft31 := fr_X13_need hq31
    obtain rfl := Option.some.inj hf
    exact fun k hk => (by (try dsimp only); rw [ft31 k (by omega)])
  have fq31 := fr_X13_need hq31
  obtain ⟨q32, hq32, hf⟩ := bd_s hf
  have fq32 := fr_X13_scan hq32
  obtain rfl := Option.some.inj hf
  exact fun k hk => (by (try dsimp only); rw [fq32 k (by omega), fq31 k (by omega)])
set_option maxRecDepth 100000 in
set_option maxHeartbeats 4000000 in
theorem fr_X13_readVar_166  {r0 : Nat → Nat → Int32} {l0 : Nat → Nat → Int64} {q : ((Nat → Int32)) ⊕ ((Nat → Int32))}  : ∀ (i0 : Nat → Int32), f_X13_readVar_166 r0 l0 i0 = some q → Sum.elim (fun q => (∀ k : Nat, ¬ (k = 4 ∨ k = 5 ∨ k = 6 ∨ k = 7 ∨ k = 8 ∨ k = 9 ∨ k = 56 ∨ k = 57) → q k = i0 k)) (fun t => (∀ k : Nat, ¬ (k = 4 ∨ k = 5 ∨ k = 6 ∨ k = 7 ∨ k = 8 ∨ k = 9 ∨ k = 56 ∨ k = 57) → t k = i0 k)) q := by
  intro i0 hf
  rw [f_X13_readVar_166] at hf
  rcases (bt_s hf).symm with ⟨t33, hq33, hf⟩ | ⟨q33, hq33, hf⟩
  · have ft33 := fr_X13_sign hq33
    obtain rfl := Option.some.inj hf
    exact fun k hk => (by (try dsimp only); rw [ft33 k (by omega)])
  have fq33 := fr_X13_sign hq33
  obtain rfl := Option.some.inj hf
  exact fun k hk => (by (try dsimp only); rw [fq33 k (by omega)])
set_option maxRecDepth 100000 in
set_option maxHeartbeats 4000000 in
theorem fr_X13_readVar_138  {r0 : Nat → Nat → Int32} {l0 : Nat → Nat → Int64} {q : ((Nat → Int32)) ⊕ ((Nat → Int32))}  : ∀ (i0 : Nat → Int32) (y0 : Int32), f_X13_readVar_138 r0 l0 i0 y0 = some q → Sum.elim (fun q => (∀ k : Nat, ¬ (k = 4 ∨ k = 5 ∨ k = 6 ∨ k = 7 ∨ k = 8 ∨ k = 9 ∨ k = 56 ∨ k = 57) → q k = i0 k)) (fun t => (∀ k : Nat, ¬ (k = 4 ∨ k = 5 ∨ k = 6 ∨ k = 7 ∨ k = 8 ∨ k = 9 ∨ k = 56 ∨ k = 57) → t k = i0 k)) q := by
  intro i0 y0 hf
  rw [f_X13_readVar_138] at hf
  rcases (bt_s hf).symm with ⟨t34, hq34, hf⟩ | ⟨q34, hq34, hf⟩
  · have ft34 := fr_X13_need hq34
    obtain rfl := Option.some.inj hf
    exact fun k hk => (by (try dsimp only); rw [ft34 k (by omega)])
  have fq34 := fr_X13_need hq34
  obtain ⟨q35, hq35, hf⟩ := bd_s hf
  have fq35 := fr_X13_scan hq35
  have g36 := fr_X13_readVar_166  _ hf
  cases q with
  | inl q => exact fun k hk => (by (try dsimp only); rw [g36 k (by omega), fq35 k (by omega), fq34 k (by omega)])
  | inr t => exact fun k hk => (by (try dsimp only); rw [g36 k (by omega), fq35 k (by omega), fq34 k (by omega)])
set_option maxRecDepth 100000 in
set_option maxHeartbeats 4000000 in
theorem fr_X13_readVar_78  {r0 : Nat → Nat → Int32} {l0 : Nat → Nat → Int64} {q : ((Nat → Int32)) ⊕ ((Nat → Int32))}  : ∀ (i0 : Nat → Int32) (x1 : Int32) (y0 : Int32), f_X13_readVar_78 r0 l0 i0 x1 y0 = some q → Sum.elim (fun q => (∀ k : Nat, ¬ (k = 4 ∨ k = 5 ∨ k = 6 ∨ k = 7 ∨ k = 8 ∨ k = 9 ∨ k = 56 ∨ k = 57) → q k = i0 k)) (fun t => (∀ k : Nat, ¬ (k = 4 ∨ k = 5 ∨ k = 6 ∨ k = 7 ∨ k = 8 ∨ k = 9 ∨ k = 56 ∨ k = 57) → t k = i0 k)) q := by
  intro i0 x1 y0 hf
  rw [f_X13_readVar_78] at hf
  rcases (bt_s hf).symm with ⟨t37, hq37, hf⟩ | ⟨q37, hq37, hf⟩
  · have ft37 := fr_X13_need hq37
    obtain rfl := Option.some.inj hf
    exact fun k hk => (by (try dsimp only); rw [ft37 k (by omega)])
  have fq37 := fr_X13_need hq37
  obtain ⟨q38, hq38, hf⟩ := bd_s hf
  have fq38 := fr_X13_scan hq38
  rcases (bt_s hf).symm with ⟨t39, hq39, hf⟩ | ⟨q39, hq39, hf⟩
  · have ft39 := fr_X13_sign hq39
    obtain rfl := Option.some.inj hf
    exact fun k hk => (by (try dsimp only); rw [ft39 k (by omega), fq38 k (by omega), fq37 k (by omega)])
  have fq39 := fr_X13_sign hq39
  obtain ⟨q40, hq40, hf⟩ := bd_s hf
  by_cases hc : q40 = 0
  · have hf := ite_t hf hc
    rcases (bt_s hf).symm with ⟨t41, hq41, hf⟩ | ⟨q41, hq41, hf⟩
    · have ft41 := fr_X13_number hq41
      obtain rfl := Option.some.inj hf
      exact fun k hk => (by (try dsimp only); rw [ft41 k (by omega), pk_un (by omega), fq39 k (by omega), fq38 k (by omega), fq37 k (by omega)])
    have fq41 := fr_X13_number hq41
    have g42 := fr_X13_readVar_166  _ hf
    cases q with
    | inl q => exact fun k hk => (by (try dsimp only); rw [g42 k (by omega), pk_un (by omega), fq41 k (by omega), pk_un (by omega), fq39 k (by omega), fq38 k (by omega), fq37 k (by omega)])
    | inr t => exact fun k hk => (by (try dsimp only); rw [g42 k (by omega), pk_un (by omega), fq41 k (by omega), pk_un (by omega), fq39 k (by omega), fq38 k (by omega), fq37 k (by omega)])
  · have hf := ite_f hf hc
    have hf := ck_2 hf
    obtain ⟨q43, hq43, hf⟩ := bd_s hf
    by_cases hc : ((x1 >>> (q43 &&& 31)) &&& 1) = 0
    · have hf := ite_t hf hc
      have g45 := fr_X13_readVar_138  _ _ hf
      cases q with
      | inl q => exact fun k hk => (by (try dsimp only); rw [g45 k (by omega), pk_un (by omega), pk_un (by omega), fq39 k (by omega), fq38 k (by omega), fq37 k (by omega)])
      | inr t => exact fun k hk => (by (try dsimp only); rw [g45 k (by omega), pk_un (by omega), pk_un (by omega), fq39 k (by omega), fq38 k (by omega), fq37 k (by omega)])
    · have hf := ite_f hf hc
      have g44 := fr_X13_readVar_138  _ _ hf
      cases q with
      | inl q => exact fun k hk => (by (try dsimp only); rw [g44 k (by omega), pk_un (by omega), pk_un (by omega), fq39 k (by omega), fq38 k (by omega), fq37 k (by omega)])
      | inr t => exact fun k hk => (by (try dsimp only); rw [g44 k (by omega), pk_un (by omega), pk_un (by omega), fq39 k (by omega), fq38 k (by omega), fq37 k (by omega)])
set_option maxRecDepth 100000 in
set_option maxHeartbeats 4000000 in
theorem fr_X13_readVar  {i0 : Nat → Int32} {r0 : Nat → Nat → Int32} {l0 : Nat → Nat → Int64} {x1 : Int32} {q : ((Nat → Int32)) ⊕ ((Nat → Int32))} (hf : f_X13_readVar i0 r0 l0 x1 = some q) : Sum.elim (fun q => (∀ k : Nat, ¬ (k = 4 ∨ k = 5 ∨ k = 6 ∨ k = 7 ∨ k = 8 ∨ k = 9 ∨ k = 56 ∨ k = 57) → q k = i0 k)) (fun t => (∀ k : Nat, ¬ (k = 4 ∨ k = 5 ∨ k = 6 ∨ k = 7 ∨ k = 8 ∨ k = 9 ∨ k = 56 ∨ k = 57) → t k = i0 k)) q := by
  rw [f_X13_readVar] at hf
  obtain ⟨q46, hq46, hf⟩ := bd_s hf
  rcases (bt_s hf).symm with ⟨t47, hq47, hf⟩ | ⟨q47, hq47, hf⟩
  · have ft47 := fr_X13_need hq47
    obtain rfl := Option.some.inj hf
    exact fun k hk => (by (try dsimp only); rw [ft47 k (by omega)])
  have fq47 := fr_X13_need hq47
  obtain ⟨q48, hq48, hf⟩ := bd_s hf
  by_cases hc : q48 = 0
  · have hf := ite_t hf hc
    by_cases hc : ((x1 >>> (8 &&& 31)) &&& 1) = 0
    · have hf := ite_t hf hc
      have g50 := fr_X13_readVar_78  _ _ _ hf
      cases q with
      | inl q => exact fun k hk => (by (try dsimp only); rw [g50 k (by omega), fq47 k (by omega)])
      | inr t => exact fun k hk => (by (try dsimp only); rw [g50 k (by omega), fq47 k (by omega)])
    · have hf := ite_f hf hc
      have g49 := fr_X13_readVar_78  _ _ _ hf
      cases q with
      | inl q => exact fun k hk => (by (try dsimp only); rw [g49 k (by omega), fq47 k (by omega)])
      | inr t => exact fun k hk => (by (try dsimp only); rw [g49 k (by omega), fq47 k (by omega)])
  · have hf := ite_f hf hc
    have hf := ck_2 hf
    obtain ⟨q51, hq51, hf⟩ := bd_s hf
    by_cases hc : ((x1 >>> (q51 &&& 31)) &&& 1) = 0
    · have hf := ite_t hf hc
      have g53 := fr_X13_readVar_54  _ _ hf
      cases q with
      | inl q => exact fun k hk => (by (try dsimp only); rw [g53 k (by omega), pk_un (by omega), pk_un (by omega), fq47 k (by omega)])
      | inr t => exact fun k hk => (by (try dsimp only); rw [g53 k (by omega), pk_un (by omega), pk_un (by omega), fq47 k (by omega)])
    · have hf := ite_f hf hc
      have g52 := fr_X13_readVar_54  _ _ hf
      cases q with
      | inl q => exact fun k hk => (by (try dsimp only); rw [g52 k (by omega), pk_un (by omega), pk_un (by omega), fq47 k (by omega)])
      | inr t => exact fun k hk => (by (try dsimp only); rw [g52 k (by omega), pk_un (by omega), pk_un (by omega), fq47 k (by omega)])
/-! X13_readFactor -/
set_option maxRecDepth 100000 in
set_option maxHeartbeats 4000000 in
theorem fr_X13_readFactor_24  {l0 : Nat → Nat → Int64} {q : ((Nat → Int32) × (Nat → Nat → Int32)) ⊕ ((Nat → Int32) × (Nat → Nat → Int32))} {F : (Nat → Int32) → (Nat → Nat → Int32) → (Nat → Nat → Int64) → Option (((Nat → Int32) × (Nat → Nat → Int32)) ⊕ ((Nat → Int32) × (Nat → Nat → Int32)))} (hF : ∀ {i0 : Nat → Int32} {r0 : Nat → Nat → Int32} {l0 : Nat → Nat → Int64}  {q : ((Nat → Int32) × (Nat → Nat → Int32)) ⊕ ((Nat → Int32) × (Nat → Nat → Int32))}, F i0 r0 l0 = some q → Sum.elim (fun q => (∀ k : Nat, ¬ (k = 4 ∨ k = 5 ∨ k = 6 ∨ k = 7 ∨ k = 8 ∨ k = 9 ∨ k = 49 ∨ k = 54 ∨ k = 55 ∨ k = 56 ∨ k = 57) → q.1 k = i0 k) ∧ (∀ k : Nat, ¬ (k = 39 ∨ k = 40 ∨ k = 41) → q.2 k = r0 k)) (fun t => (∀ k : Nat, ¬ (k = 4 ∨ k = 5 ∨ k = 6 ∨ k = 7 ∨ k = 8 ∨ k = 9 ∨ k = 49 ∨ k = 54 ∨ k = 55 ∨ k = 56 ∨ k = 57) → t.1 k = i0 k) ∧ (∀ k : Nat, ¬ (k = 39 ∨ k = 40 ∨ k = 41) → t.2 k = r0 k)) q)  : ∀ (i0 : Nat → Int32) (r0 : Nat → Nat → Int32) (y0 : Int32), f_X13_readFactor_24 F l0 i0 r0 y0 = some q → Sum.elim (fun q => (∀ k : Nat, ¬ (k = 4 ∨ k = 5 ∨ k = 6 ∨ k = 7 ∨ k = 8 ∨ k = 9 ∨ k = 49 ∨ k = 54 ∨ k = 55 ∨ k = 56 ∨ k = 57) → q.1 k = i0 k) ∧ (∀ k : Nat, ¬ (k = 39 ∨ k = 40 ∨ k = 41) → q.2 k = r0 k)) (fun t => (∀ k : Nat, ¬ (k = 4 ∨ k = 5 ∨ k = 6 ∨ k = 7 ∨ k = 8 ∨ k = 9 ∨ k = 49 ∨ k = 54 ∨ k = 55 ∨ k = 56 ∨ k = 57) → t.1 k = i0 k) ∧ (∀ k : Nat, ¬ (k = 39 ∨ k = 40 ∨ k = 41) → t.2 k = r0 k)) q := by
  intro i0 r0 y0 hf
  rw [f_X13_readFactor_24] at hf
  rcases (bt_s hf).symm with ⟨t33, hq33, hf⟩ | ⟨q33, hq33, hf⟩
  · have ft33 := fr_X13_need hq33
    obtain rfl := Option.some.inj hf
    exact ⟨fun k hk => (by (try dsimp only); rw [ft33 k (by omega)]), fun k _ => rfl⟩
  have fq33 := fr_X13_need hq33
  obtain ⟨q34, hq34, hf⟩ := bd_s hf
  have fq34 := fr_X13_scan hq34
  rcases (bt_s hf).symm with ⟨t35, hq35, hf⟩ | ⟨q35, hq35, hf⟩
  · have ft35 := hF hq35
    obtain rfl := Option.some.inj hf
    exact ⟨fun k hk => (by (try dsimp only); rw [ft35.1 k (by omega), fq34 k (by omega), pk_un (by omega), fq33 k (by omega)]), fun k hk => (by (try dsimp only); rw [ft35.2 k (by omega)])⟩
  have fq35 := hF hq35
  rcases (bt_s hf).symm with ⟨t36, hq36, hf⟩ | ⟨q36, hq36, hf⟩
  · have ft36 := fr_X13_sign hq36
    obtain rfl := Option.some.inj hf
    exact ⟨fun k hk => (by (try dsimp only); rw [ft36 k (by omega), fq35.1 k (by omega), fq34 k (by omega), pk_un (by omega), fq33 k (by omega)]), fun k hk => (by (try dsimp only); rw [fq35.2 k (by omega)])⟩
  have fq36 := fr_X13_sign hq36
  obtain rfl := Option.some.inj hf
  exact ⟨fun k hk => (by (try dsimp only); rw [pk_un (by omega), fq36 k (by omega), fq35.1 k (by omega), fq34 k (by omega), pk_un (by omega), fq33 k (by omega)]), fun k hk => (by (try dsimp only); rw [fq35.2 k (by omega)])⟩
set_option maxRecDepth 100000 in
set_option maxHeartbeats 4000000 in
theorem fr_X13_readFactor_111  {l0 : Nat → Nat → Int64} {q : ((Nat → Int32) × (Nat → Nat → Int32)) ⊕ ((Nat → Int32) × (Nat → Nat → Int32))} {F : (Nat → Int32) → (Nat → Nat → Int32) → (Nat → Nat → Int64) → Option (((Nat → Int32) × (Nat → Nat → Int32)) ⊕ ((Nat → Int32) × (Nat → Nat → Int32)))} (hF : ∀ {i0 : Nat → Int32} {r0 : Nat → Nat → Int32} {l0 : Nat → Nat → Int64}  {q : ((Nat → Int32) × (Nat → Nat → Int32)) ⊕ ((Nat → Int32) × (Nat → Nat → Int32))}, F i0 r0 l0 = some q → Sum.elim (fun q => (∀ k : Nat, ¬ (k = 4 ∨ k = 5 ∨ k = 6 ∨ k = 7 ∨ k = 8 ∨ k = 9 ∨ k = 49 ∨ k = 54 ∨ k = 55 ∨ k = 56 ∨ k = 57) → q.1 k = i0 k) ∧ (∀ k : Nat, ¬ (k = 39 ∨ k = 40 ∨ k = 41) → q.2 k = r0 k)) (fun t => (∀ k : Nat, ¬ (k = 4 ∨ k = 5 ∨ k = 6 ∨ k = 7 ∨ k = 8 ∨ k = 9 ∨ k = 49 ∨ k = 54 ∨ k = 55 ∨ k = 56 ∨ k = 57) → t.1 k = i0 k) ∧ (∀ k : Nat, ¬ (k = 39 ∨ k = 40 ∨ k = 41) → t.2 k = r0 k)) q)  : ∀ (i0 : Nat → Int32) (r0 : Nat → Nat → Int32) (y0 : Int32), f_X13_readFactor_111 F l0 i0 r0 y0 = some q → Sum.elim (fun q => (∀ k : Nat, ¬ (k = 4 ∨ k = 5 ∨ k = 6 ∨ k = 7 ∨ k = 8 ∨ k = 9 ∨ k = 49 ∨ k = 54 ∨ k = 55 ∨ k = 56 ∨ k = 57) → q.1 k = i0 k) ∧ (∀ k : Nat, ¬ (k = 39 ∨ k = 40 ∨ k = 41) → q.2 k = r0 k)) (fun t => (∀ k : Nat, ¬ (k = 4 ∨ k = 5 ∨ k = 6 ∨ k = 7 ∨ k = 8 ∨ k = 9 ∨ k = 49 ∨ k = 54 ∨ k = 55 ∨ k = 56 ∨ k = 57) → t.1 k = i0 k) ∧ (∀ k : Nat, ¬ (k = 39 ∨ k = 40 ∨ k = 41) → t.2 k = r0 k)) q := by
  intro i0 r0 y0 hf
  rw [f_X13_readFactor_111] at hf
  rcases (bt_s hf).symm with ⟨t37, hq37, hf⟩ | ⟨q37, hq37, hf⟩
  · have ft37 := fr_X13_need hq37
    obtain rfl := Option.some.inj hf
    exact ⟨fun k hk => (by (try dsimp only); rw [ft37 k (by omega)]), fun k _ => rfl⟩
  have fq37 := fr_X13_need hq37
  obtain ⟨q38, hq38, hf⟩ := bd_s hf
  have fq38 := fr_X13_mark hq38
  obtain ⟨q39, hq39, hf⟩ := bd_s hf
  have fq39 := fr_X13_scan hq39
  obtain rfl := Option.some.inj hf
  exact ⟨fun k hk => (by (try dsimp only); rw [fq39 k (by omega), fq38.1 k (by omega), pk_un (by omega), fq37 k (by omega)]), fun k hk => (by (try dsimp only); rw [fq38.2 k (by omega)])⟩
set_option maxRecDepth 100000 in
set_option maxHeartbeats 4000000 in
theorem fr_X13_readFactor_226  {l0 : Nat → Nat → Int64} {q : ((Nat → Int32) × (Nat → Nat → Int32)) ⊕ ((Nat → Int32) × (Nat → Nat → Int32))} {F : (Nat → Int32) → (Nat → Nat → Int32) → (Nat → Nat → Int64) → Option (((Nat → Int32) × (Nat → Nat → Int32)) ⊕ ((Nat → Int32) × (Nat → Nat → Int32)))} (hF : ∀ {i0 : Nat → Int32} {r0 : Nat → Nat → Int32} {l0 : Nat → Nat → Int64}  {q : ((Nat → Int32) × (Nat → Nat → Int32)) ⊕ ((Nat → Int32) × (Nat → Nat → Int32))}, F i0 r0 l0 = some q → Sum.elim (fun q => (∀ k : Nat, ¬ (k = 4 ∨ k = 5 ∨ k = 6 ∨ k = 7 ∨ k = 8 ∨ k = 9 ∨ k = 49 ∨ k = 54 ∨ k = 55 ∨ k = 56 ∨ k = 57) → q.1 k = i0 k) ∧ (∀ k : Nat, ¬ (k = 39 ∨ k = 40 ∨ k = 41) → q.2 k = r0 k)) (fun t => (∀ k : Nat, ¬ (k = 4 ∨ k = 5 ∨ k = 6 ∨ k = 7 ∨ k = 8 ∨ k = 9 ∨ k = 49 ∨ k = 54 ∨ k = 55 ∨ k = 56 ∨ k = 57) → t.1 k = i0 k) ∧ (∀ k : Nat, ¬ (k = 39 ∨ k = 40 ∨ k = 41) → t.2 k = r0 k)) q)  : ∀ (i0 : Nat → Int32) (r0 : Nat → Nat → Int32) (y0 : Int32), f_X13_readFactor_226 F l0 i0 r0 y0 = some q → Sum.elim (fun q => (∀ k : Nat, ¬ (k = 4 ∨ k = 5 ∨ k = 6 ∨ k = 7 ∨ k = 8 ∨ k = 9 ∨ k = 49 ∨ k = 54 ∨ k = 55 ∨ k = 56 ∨ k = 57) → q.1 k = i0 k) ∧ (∀ k : Nat, ¬ (k = 39 ∨ k = 40 ∨ k = 41) → q.2 k = r0 k)) (fun t => (∀ k : Nat, ¬ (k = 4 ∨ k = 5 ∨ k = 6 ∨ k = 7 ∨ k = 8 ∨ k = 9 ∨ k = 49 ∨ k = 54 ∨ k = 55 ∨ k = 56 ∨ k = 57) → t.1 k = i0 k) ∧ (∀ k : Nat, ¬ (k = 39 ∨ k = 40 ∨ k = 41) → t.2 k = r0 k)) q := by
  intro i0 r0 y0 hf
  rw [f_X13_readFactor_226] at hf
  rcases (bt_s hf).symm with ⟨t40, hq40, hf⟩ | ⟨q40, hq40, hf⟩
  · have ft40 := fr_X13_need hq40
    obtain rfl := Option.some.inj hf
    exact ⟨fun k hk => (by (try dsimp only); rw [ft40 k (by omega)]), fun k _ => rfl⟩
  have fq40 := fr_X13_need hq40
  rcases (bt_s hf).symm with ⟨t41, hq41, hf⟩ | ⟨q41, hq41, hf⟩
  · have ft41 := fr_X13_readVar hq41
    obtain rfl := Option.some.inj hf
    exact ⟨fun k hk => (by (try dsimp only); rw [ft41 k (by omega), pk_un (by omega), fq40 k (by omega)]), fun k _ => rfl⟩
  have fq41 := fr_X13_readVar hq41
  obtain ⟨q42, hq42, hf⟩ := bd_s hf
  have fq42 := fr_X13_mark hq42
  obtain rfl := Option.some.inj hf
  exact ⟨fun k hk => (by (try dsimp only); rw [fq42.1 k (by omega), fq41 k (by omega), pk_un (by omega), fq40 k (by omega)]), fun k hk => (by (try dsimp only); rw [fq42.2 k (by omega)])⟩
set_option maxRecDepth 100000 in
set_option maxHeartbeats 4000000 in
theorem fr_X13_readFactor_207  {l0 : Nat → Nat → Int64} {q : ((Nat → Int32) × (Nat → Nat → Int32)) ⊕ ((Nat → Int32) × (Nat → Nat → Int32))} {F : (Nat → Int32) → (Nat → Nat → Int32) → (Nat → Nat → Int64) → Option (((Nat → Int32) × (Nat → Nat → Int32)) ⊕ ((Nat → Int32) × (Nat → Nat → Int32)))} (hF : ∀ {i0 : Nat → Int32} {r0 : Nat → Nat → Int32} {l0 : Nat → Nat → Int64}  {q : ((Nat → Int32) × (Nat → Nat → Int32)) ⊕ ((Nat → Int32) × (Nat → Nat → Int32))}, F i0 r0 l0 = some q → Sum.elim (fun q => (∀ k : Nat, ¬ (k = 4 ∨ k = 5 ∨ k = 6 ∨ k = 7 ∨ k = 8 ∨ k = 9 ∨ k = 49 ∨ k = 54 ∨ k = 55 ∨ k = 56 ∨ k = 57) → q.1 k = i0 k) ∧ (∀ k : Nat, ¬ (k = 39 ∨ k = 40 ∨ k = 41) → q.2 k = r0 k)) (fun t => (∀ k : Nat, ¬ (k = 4 ∨ k = 5 ∨ k = 6 ∨ k = 7 ∨ k = 8 ∨ k = 9 ∨ k = 49 ∨ k = 54 ∨ k = 55 ∨ k = 56 ∨ k = 57) → t.1 k = i0 k) ∧ (∀ k : Nat, ¬ (k = 39 ∨ k = 40 ∨ k = 41) → t.2 k = r0 k)) q)  : ∀ (i0 : Nat → Int32) (r0 : Nat → Nat → Int32) (y0 : Int32), f_X13_readFactor_207 F l0 i0 r0 y0 = some q → Sum.elim (fun q => (∀ k : Nat, ¬ (k = 4 ∨ k = 5 ∨ k = 6 ∨ k = 7 ∨ k = 8 ∨ k = 9 ∨ k = 49 ∨ k = 54 ∨ k = 55 ∨ k = 56 ∨ k = 57) → q.1 k = i0 k) ∧ (∀ k : Nat, ¬ (k = 39 ∨ k = 40 ∨ k = 41) → q.2 k = r0 k)) (fun t => (∀ k : Nat, ¬ (k = 4 ∨ k = 5 ∨ k = 6 ∨ k = 7 ∨ k = 8 ∨ k = 9 ∨ k = 49 ∨ k = 54 ∨ k = 55 ∨ k = 56 ∨ k = 57) → t.1 k = i0 k) ∧ (∀ k : Nat, ¬ (k = 39 ∨ k = 40 ∨ k = 41) → t.2 k = r0 k)) q := by
  intro i0 r0 y0 hf
  rw [f_X13_readFactor_207] at hf
  rcases (bt_s hf).symm with ⟨t43, hq43, hf⟩ | ⟨q43, hq43, hf⟩
  · have ft43 := fr_X13_need hq43
    obtain rfl := Option.some.inj hf
    exact ⟨fun k hk => (by (try dsimp only); rw [ft43 k (by omega)]), fun k _ => rfl⟩
  have fq43 := fr_X13_need hq43
  by_cases hc : 12 ≤ (q43 54)
  · have hf := ite_t hf hc
    have g44 := fr_X13_readFactor_226 hF  _ _ _ hf
    cases q with
    | inl q => exact ⟨fun k hk => (by (try dsimp only); rw [g44.1 k (by omega), fq43 k (by omega)]), fun k hk => (by (try dsimp only); rw [g44.2 k (by omega)])⟩
    | inr t => exact ⟨fun k hk => (by (try dsimp only); rw [g44.1 k (by omega), fq43 k (by omega)]), fun k hk => (by (try dsimp only); rw [g44.2 k (by omega)])⟩
  · have hf := ite_f hf hc
    have g45 := fr_X13_readFactor_226 hF  _ _ _ hf
    cases q with
    | inl q => exact ⟨fun k hk => (by (try dsimp only); rw [g45.1 k (by omega), fq43 k (by omega)]), fun k hk => (by (try dsimp only); rw [g45.2 k (by omega)])⟩
    | inr t => exact ⟨fun k hk => (by (try dsimp only); rw [g45.1 k (by omega), fq43 k (by omega)]), fun k hk => (by (try dsimp only); rw [g45.2 k (by omega)])⟩
set_option maxRecDepth 100000 in
set_option maxHeartbeats 4000000 in
theorem fr_X13_readFactor_196  {l0 : Nat → Nat → Int64} {q : ((Nat → Int32) × (Nat → Nat → Int32)) ⊕ ((Nat → Int32) × (Nat → Nat → Int32))} {F : (Nat → Int32) → (Nat → Nat → Int32) → (Nat → Nat → Int64) → Option (((Nat → Int32) × (Nat → Nat → Int32)) ⊕ ((Nat → Int32) × (Nat → Nat → Int32)))} (hF : ∀ {i0 : Nat → Int32} {r0 : Nat → Nat → Int32} {l0 : Nat → Nat → Int64}  {q : ((Nat → Int32) × (Nat → Nat → Int32)) ⊕ ((Nat → Int32) × (Nat → Nat → Int32))}, F i0 r0 l0 = some q → Sum.elim (fun q => (∀ k : Nat, ¬ (k = 4 ∨ k = 5 ∨ k = 6 ∨ k = 7 ∨ k = 8 ∨ k = 9 ∨ k = 49 ∨ k = 54 ∨ k = 55 ∨ k = 56 ∨ k = 57) → q.1 k = i0 k) ∧ (∀ k : Nat, ¬ (k = 39 ∨ k = 40 ∨ k = 41) → q.2 k = r0 k)) (fun t => (∀ k : Nat, ¬ (k = 4 ∨ k = 5 ∨ k = 6 ∨ k = 7 ∨ k = 8 ∨ k = 9 ∨ k = 49 ∨ k = 54 ∨ k = 55 ∨ k = 56 ∨ k = 57) → t.1 k = i0 k) ∧ (∀ k : Nat, ¬ (k = 39 ∨ k = 40 ∨ k = 41) → t.2 k = r0 k)) q)  : ∀ (i0 : Nat → Int32) (r0 : Nat → Nat → Int32) (y0 : Int32), f_X13_readFactor_196 F l0 i0 r0 y0 = some q → Sum.elim (fun q => (∀ k : Nat, ¬ (k = 4 ∨ k = 5 ∨ k = 6 ∨ k = 7 ∨ k = 8 ∨ k = 9 ∨ k = 49 ∨ k = 54 ∨ k = 55 ∨ k = 56 ∨ k = 57) → q.1 k = i0 k) ∧ (∀ k : Nat, ¬ (k = 39 ∨ k = 40 ∨ k = 41) → q.2 k = r0 k)) (fun t => (∀ k : Nat, ¬ (k = 4 ∨ k = 5 ∨ k = 6 ∨ k = 7 ∨ k = 8 ∨ k = 9 ∨ k = 49 ∨ k = 54 ∨ k = 55 ∨ k = 56 ∨ k = 57) → t.1 k = i0 k) ∧ (∀ k : Nat, ¬ (k = 39 ∨ k = 40 ∨ k = 41) → t.2 k = r0 k)) q := by
  intro i0 r0 y0 hf
  rw [f_X13_readFactor_196] at hf
  by_cases hc : y0 = 0
  · have hf := ite_t hf hc
    have g47 := fr_X13_readFactor_207 hF  _ _ _ hf
    cases q with
    | inl q => exact ⟨fun k hk => (by (try dsimp only); rw [g47.1 k (by omega)]), fun k hk => (by (try dsimp only); rw [g47.2 k (by omega)])⟩
    | inr t => exact ⟨fun k hk => (by (try dsimp only); rw [g47.1 k (by omega)]), fun k hk => (by (try dsimp only); rw [g47.2 k (by omega)])⟩
  · have hf := ite_f hf hc
    have g46 := fr_X13_readFactor_207 hF  _ _ _ hf
    cases q with
    | inl q => exact ⟨fun k hk => (by (try dsimp only); rw [g46.1 k (by omega)]), fun k hk => (by (try dsimp only); rw [g46.2 k (by omega)])⟩
    | inr t => exact ⟨fun k hk => (by (try dsimp only); rw [g46.1 k (by omega)]), fun k hk => (by (try dsimp only); rw [g46.2 k (by omega)])⟩
set_option maxRecDepth 100000 in
set_option maxHeartbeats 4000000 in
theorem fr_X13_readFactor_84  {l0 : Nat → Nat → Int64} {q : ((Nat → Int32) × (Nat → Nat → Int32)) ⊕ ((Nat → Int32) × (Nat → Nat → Int32))} {F : (Nat → Int32) → (Nat → Nat → Int32) → (Nat → Nat → Int64) → Option (((Nat → Int32) × (Nat → Nat → Int32)) ⊕ ((Nat → Int32) × (Nat → Nat → Int32)))} (hF : ∀ {i0 : Nat → Int32} {r0 : Nat → Nat → Int32} {l0 : Nat → Nat → Int64}  {q : ((Nat → Int32) × (Nat → Nat → Int32)) ⊕ ((Nat → Int32) × (Nat → Nat → Int32))}, F i0 r0 l0 = some q → Sum.elim (fun q => (∀ k : Nat, ¬ (k = 4 ∨ k = 5 ∨ k = 6 ∨ k = 7 ∨ k = 8 ∨ k = 9 ∨ k = 49 ∨ k = 54 ∨ k = 55 ∨ k = 56 ∨ k = 57) → q.1 k = i0 k) ∧ (∀ k : Nat, ¬ (k = 39 ∨ k = 40 ∨ k = 41) → q.2 k = r0 k)) (fun t => (∀ k : Nat, ¬ (k = 4 ∨ k = 5 ∨ k = 6 ∨ k = 7 ∨ k = 8 ∨ k = 9 ∨ k = 49 ∨ k = 54 ∨ k = 55 ∨ k = 56 ∨ k = 57) → t.1 k = i0 k) ∧ (∀ k : Nat, ¬ (k = 39 ∨ k = 40 ∨ k = 41) → t.2 k = r0 k)) q)  : ∀ (i0 : Nat → Int32) (r0 : Nat → Nat → Int32) (y0 : Int32), f_X13_readFactor_84 F l0 i0 r0 y0 = some q → Sum.elim (fun q => (∀ k : Nat, ¬ (k = 4 ∨ k = 5 ∨ k = 6 ∨ k = 7 ∨ k = 8 ∨ k = 9 ∨ k = 49 ∨ k = 54 ∨ k = 55 ∨ k = 56 ∨ k = 57) → q.1 k = i0 k) ∧ (∀ k : Nat, ¬ (k = 39 ∨ k = 40 ∨ k = 41) → q.2 k = r0 k)) (fun t => (∀ k : Nat, ¬ (k = 4 ∨ k = 5 ∨ k = 6 ∨ k = 7 ∨ k = 8 ∨ k = 9 ∨ k = 49 ∨ k = 54 ∨ k = 55 ∨ k = 56 ∨ k = 57) → t.1 k = i0 k) ∧ (∀ k : Nat, ¬ (k = 39 ∨ k = 40 ∨ k = 41) → t.2 k = r0 k)) q := by
  intro i0 r0 y0 hf
  rw [f_X13_readFactor_84] at hf
  rcases (bt_s hf).symm with ⟨t48, hq48, hf⟩ | ⟨q48, hq48, hf⟩
  · have ft48 := fr_X13_need hq48
    obtain rfl := Option.some.inj hf
    exact ⟨fun k hk => (by (try dsimp only); rw [ft48 k (by omega)]), fun k _ => rfl⟩
  have fq48 := fr_X13_need hq48
  by_cases hc : (q48 6) = 2
  · have hf := ite_t hf hc
    by_cases hc : 12 ≤ (q48 54)
    · have hf := ite_t hf hc
      have g55 := fr_X13_readFactor_111 hF  _ _ _ hf
      cases q with
      | inl q => exact ⟨fun k hk => (by (try dsimp only); rw [g55.1 k (by omega), fq48 k (by omega)]), fun k hk => (by (try dsimp only); rw [g55.2 k (by omega)])⟩
      | inr t => exact ⟨fun k hk => (by (try dsimp only); rw [g55.1 k (by omega), fq48 k (by omega)]), fun k hk => (by (try dsimp only); rw [g55.2 k (by omega)])⟩
    · have hf := ite_f hf hc
      have g56 := fr_X13_readFactor_111 hF  _ _ _ hf
      cases q with
      | inl q => exact ⟨fun k hk => (by (try dsimp only); rw [g56.1 k (by omega), fq48 k (by omega)]), fun k hk => (by (try dsimp only); rw [g56.2 k (by omega)])⟩
      | inr t => exact ⟨fun k hk => (by (try dsimp only); rw [g56.1 k (by omega), fq48 k (by omega)]), fun k hk => (by (try dsimp only); rw [g56.2 k (by omega)])⟩
  · have hf := ite_f hf hc
    obtain ⟨q49, hq49, hf⟩ := bd_s hf
    by_cases hc : q49 = 0
    · have hf := ite_t hf hc
      by_cases hc : (((q48 53) >>> (8 &&& 31)) &&& 1) = 1
      · have hf := ite_t hf hc
        have g51 := fr_X13_readFactor_196 hF  _ _ _ hf
        cases q with
        | inl q => exact ⟨fun k hk => (by (try dsimp only); rw [g51.1 k (by omega), fq48 k (by omega)]), fun k hk => (by (try dsimp only); rw [g51.2 k (by omega)])⟩
        | inr t => exact ⟨fun k hk => (by (try dsimp only); rw [g51.1 k (by omega), fq48 k (by omega)]), fun k hk => (by (try dsimp only); rw [g51.2 k (by omega)])⟩
      · have hf := ite_f hf hc
        have g50 := fr_X13_readFactor_196 hF  _ _ _ hf
        cases q with
        | inl q => exact ⟨fun k hk => (by (try dsimp only); rw [g50.1 k (by omega), fq48 k (by omega)]), fun k hk => (by (try dsimp only); rw [g50.2 k (by omega)])⟩
        | inr t => exact ⟨fun k hk => (by (try dsimp only); rw [g50.1 k (by omega), fq48 k (by omega)]), fun k hk => (by (try dsimp only); rw [g50.2 k (by omega)])⟩
    · have hf := ite_f hf hc
      have hf := ck_2 hf
      obtain ⟨q52, hq52, hf⟩ := bd_s hf
      by_cases hc : (((q48 53) >>> (q52 &&& 31)) &&& 1) = 1
      · have hf := ite_t hf hc
        have g54 := fr_X13_readFactor_196 hF  _ _ _ hf
        cases q with
        | inl q => exact ⟨fun k hk => (by (try dsimp only); rw [g54.1 k (by omega), fq48 k (by omega)]), fun k hk => (by (try dsimp only); rw [g54.2 k (by omega)])⟩
        | inr t => exact ⟨fun k hk => (by (try dsimp only); rw [g54.1 k (by omega), fq48 k (by omega)]), fun k hk => (by (try dsimp only); rw [g54.2 k (by omega)])⟩
      · have hf := ite_f hf hc
        have g53 := fr_X13_readFactor_196 hF  _ _ _ hf
        cases q with
        | inl q => exact ⟨fun k hk => (by (try dsimp only); rw [g53.1 k (by omega), fq48 k (by omega)]), fun k hk => (by (try dsimp only); rw [g53.2 k (by omega)])⟩
        | inr t => exact ⟨fun k hk => (by (try dsimp only); rw [g53.1 k (by omega), fq48 k (by omega)]), fun k hk => (by (try dsimp only); rw [g53.2 k (by omega)])⟩
set_option maxRecDepth 100000 in
set_option maxHeartbeats 4000000 in
theorem fr_X13_readFactor_79  {l0 : Nat → Nat → Int64} {q : ((Nat → Int32) × (Nat → Nat → Int32)) ⊕ ((Nat → Int32) × (Nat → Nat → Int32))} {F : (Nat → Int32) → (Nat → Nat → Int32) → (Nat → Nat → Int64) → Option (((Nat → Int32) × (Nat → Nat → Int32)) ⊕ ((Nat → Int32) × (Nat → Nat → Int32)))} (hF : ∀ {i0 : Nat → Int32} {r0 : Nat → Nat → Int32} {l0 : Nat → Nat → Int64}  {q : ((Nat → Int32) × (Nat → Nat → Int32)) ⊕ ((Nat → Int32) × (Nat → Nat → Int32))}, F i0 r0 l0 = some q → Sum.elim (fun q => (∀ k : Nat, ¬ (k = 4 ∨ k = 5 ∨ k = 6 ∨ k = 7 ∨ k = 8 ∨ k = 9 ∨ k = 49 ∨ k = 54 ∨ k = 55 ∨ k = 56 ∨ k = 57) → q.1 k = i0 k) ∧ (∀ k : Nat, ¬ (k = 39 ∨ k = 40 ∨ k = 41) → q.2 k = r0 k)) (fun t => (∀ k : Nat, ¬ (k = 4 ∨ k = 5 ∨ k = 6 ∨ k = 7 ∨ k = 8 ∨ k = 9 ∨ k = 49 ∨ k = 54 ∨ k = 55 ∨ k = 56 ∨ k = 57) → t.1 k = i0 k) ∧ (∀ k : Nat, ¬ (k = 39 ∨ k = 40 ∨ k = 41) → t.2 k = r0 k)) q)  : ∀ (i0 : Nat → Int32) (r0 : Nat → Nat → Int32), f_X13_readFactor_79 F l0 i0 r0 = some q → Sum.elim (fun q => (∀ k : Nat, ¬ (k = 4 ∨ k = 5 ∨ k = 6 ∨ k = 7 ∨ k = 8 ∨ k = 9 ∨ k = 49 ∨ k = 54 ∨ k = 55 ∨ k = 56 ∨ k = 57) → q.1 k = i0 k) ∧ (∀ k : Nat, ¬ (k = 39 ∨ k = 40 ∨ k = 41) → q.2 k = r0 k)) (fun t => (∀ k : Nat, ¬ (k = 4 ∨ k = 5 ∨ k = 6 ∨ k = 7 ∨ k = 8 ∨ k = 9 ∨ k = 49 ∨ k = 54 ∨ k = 55 ∨ k = 56 ∨ k = 57) → t.1 k = i0 k) ∧ (∀ k : Nat, ¬ (k = 39 ∨ k = 40 ∨ k = 41) → t.2 k = r0 k)) q := by
  intro i0 r0 hf
  rw [f_X13_readFactor_79] at hf
  have g57 := fr_X13_readFactor_84 hF  _ _ _ hf
  cases q with
  | inl q => exact ⟨fun k hk => (by (try dsimp only); rw [g57.1 k (by omega)]), fun k hk => (by (try dsimp only); rw [g57.2 k (by omega)])⟩
  | inr t => exact ⟨fun k hk => (by (try dsimp only); rw [g57.1 k (by omega)]), fun k hk => (by (try dsimp only); rw [g57.2 k (by omega)])⟩
set_option maxRecDepth 100000 in
set_option maxHeartbeats 4000000 in
theorem fr_X13_readFactor  {i0 : Nat → Int32} {r0 : Nat → Nat → Int32} {l0 : Nat → Nat → Int64}  {q : ((Nat → Int32) × (Nat → Nat → Int32)) ⊕ ((Nat → Int32) × (Nat → Nat → Int32))} {F : (Nat → Int32) → (Nat → Nat → Int32) → (Nat → Nat → Int64) → Option (((Nat → Int32) × (Nat → Nat → Int32)) ⊕ ((Nat → Int32) × (Nat → Nat → Int32)))} (hF : ∀ {i0 : Nat → Int32} {r0 : Nat → Nat → Int32} {l0 : Nat → Nat → Int64}  {q : ((Nat → Int32) × (Nat → Nat → Int32)) ⊕ ((Nat → Int32) × (Nat → Nat → Int32))}, F i0 r0 l0 = some q → Sum.elim (fun q => (∀ k : Nat, ¬ (k = 4 ∨ k = 5 ∨ k = 6 ∨ k = 7 ∨ k = 8 ∨ k = 9 ∨ k = 49 ∨ k = 54 ∨ k = 55 ∨ k = 56 ∨ k = 57) → q.1 k = i0 k) ∧ (∀ k : Nat, ¬ (k = 39 ∨ k = 40 ∨ k = 41) → q.2 k = r0 k)) (fun t => (∀ k : Nat, ¬ (k = 4 ∨ k = 5 ∨ k = 6 ∨ k = 7 ∨ k = 8 ∨ k = 9 ∨ k = 49 ∨ k = 54 ∨ k = 55 ∨ k = 56 ∨ k = 57) → t.1 k = i0 k) ∧ (∀ k : Nat, ¬ (k = 39 ∨ k = 40 ∨ k = 41) → t.2 k = r0 k)) q) (hf : f_X13_readFactor F i0 r0 l0 = some q) : Sum.elim (fun q => (∀ k : Nat, ¬ (k = 4 ∨ k = 5 ∨ k = 6 ∨ k = 7 ∨ k = 8 ∨ k = 9 ∨ k = 49 ∨ k = 54 ∨ k = 55 ∨ k = 56 ∨ k = 57) → q.1 k = i0 k) ∧ (∀ k : Nat, ¬ (k = 39 ∨ k = 40 ∨ k = 41) → q.2 k = r0 k)) (fun t => (∀ k : Nat, ¬ (k = 4 ∨ k = 5 ∨ k = 6 ∨ k = 7 ∨ k = 8 ∨ k = 9 ∨ k = 49 ∨ k = 54 ∨ k = 55 ∨ k = 56 ∨ k = 57) → t.1 k = i0 k) ∧ (∀ k : Nat, ¬ (k = 39 ∨ k = 40 ∨ k = 41) → t.2 k = r0 k)) q := by
  rw [f_X13_readFactor] at hf
  obtain ⟨q58, hq58, hf⟩ := bd_s hf
  by_cases hc : q58 = 0
  · have hf := ite_t hf hc
    by_cases hc : (i0 6) = 2
    · have hf := ite_t hf hc
      have g59 := fr_X13_readFactor_79 hF  _ _ hf
      cases q with
      | inl q => exact ⟨fun k hk => (by (try dsimp only); rw [g59.1 k (by omega)]), fun k hk => (by (try dsimp only); rw [g59.2 k (by omega)])⟩
      | inr t => exact ⟨fun k hk => (by (try dsimp only); rw [g59.1 k (by omega)]), fun k hk => (by (try dsimp only); rw [g59.2 k (by omega)])⟩
    · have hf := ite_f hf hc
      obtain ⟨q60, hq60, hf⟩ := bd_s hf
      by_cases hc : q60 = 0
      · have hf := ite_t hf hc
        have g61 := fr_X13_readFactor_84 hF  _ _ _ hf
        cases q with
        | inl q => exact ⟨fun k hk => (by (try dsimp only); rw [g61.1 k (by omega)]), fun k hk => (by (try dsimp only); rw [g61.2 k (by omega)])⟩
        | inr t => exact ⟨fun k hk => (by (try dsimp only); rw [g61.1 k (by omega)]), fun k hk => (by (try dsimp only); rw [g61.2 k (by omega)])⟩
      · have hf := ite_f hf hc
        have g62 := fr_X13_readFactor_79 hF  _ _ hf
        cases q with
        | inl q => exact ⟨fun k hk => (by (try dsimp only); rw [g62.1 k (by omega)]), fun k hk => (by (try dsimp only); rw [g62.2 k (by omega)])⟩
        | inr t => exact ⟨fun k hk => (by (try dsimp only); rw [g62.1 k (by omega)]), fun k hk => (by (try dsimp only); rw [g62.2 k (by omega)])⟩
  · have hf := ite_f hf hc
    by_cases hc : 6 ≤ (i0 55)
    · have hf := ite_t hf hc
      have g63 := fr_X13_readFactor_24 hF  _ _ _ hf
      cases q with
      | inl q => exact ⟨fun k hk => (by (try dsimp only); rw [g63.1 k (by omega)]), fun k hk => (by (try dsimp only); rw [g63.2 k (by omega)])⟩
      | inr t => exact ⟨fun k hk => (by (try dsimp only); rw [g63.1 k (by omega)]), fun k hk => (by (try dsimp only); rw [g63.2 k (by omega)])⟩
    · have hf := ite_f hf hc
      have g64 := fr_X13_readFactor_24 hF  _ _ _ hf
      cases q with
      | inl q => exact ⟨fun k hk => (by (try dsimp only); rw [g64.1 k (by omega)]), fun k hk => (by (try dsimp only); rw [g64.2 k (by omega)])⟩
      | inr t => exact ⟨fun k hk => (by (try dsimp only); rw [g64.1 k (by omega)]), fun k hk => (by (try dsimp only); rw [g64.2 k (by omega)])⟩
/-! X13_readTerms -/
set_option maxRecDepth 100000 in
set_option maxHeartbeats 4000000 in
theorem fr_X13_readTerms_4  {l0 : Nat → Nat → Int64} {q : ((Nat → Int32) × (Nat → Nat → Int32)) ⊕ ((Nat → Int32) × (Nat → Nat → Int32))} {F : (Nat → Int32) → (Nat → Nat → Int32) → (Nat → Nat → Int64) → Option (((Nat → Int32) × (Nat → Nat → Int32)) ⊕ ((Nat → Int32) × (Nat → Nat → Int32)))} (hF : ∀ {i0 : Nat → Int32} {r0 : Nat → Nat → Int32} {l0 : Nat → Nat → Int64}  {q : ((Nat → Int32) × (Nat → Nat → Int32)) ⊕ ((Nat → Int32) × (Nat → Nat → Int32))}, F i0 r0 l0 = some q → Sum.elim (fun q => (∀ k : Nat, ¬ (k = 4 ∨ k = 5 ∨ k = 6 ∨ k = 7 ∨ k = 8 ∨ k = 9 ∨ k = 49 ∨ k = 54 ∨ k = 55 ∨ k = 56 ∨ k = 57) → q.1 k = i0 k) ∧ (∀ k : Nat, ¬ (k = 39 ∨ k = 40 ∨ k = 41) → q.2 k = r0 k)) (fun t => (∀ k : Nat, ¬ (k = 4 ∨ k = 5 ∨ k = 6 ∨ k = 7 ∨ k = 8 ∨ k = 9 ∨ k = 49 ∨ k = 54 ∨ k = 55 ∨ k = 56 ∨ k = 57) → t.1 k = i0 k) ∧ (∀ k : Nat, ¬ (k = 39 ∨ k = 40 ∨ k = 41) → t.2 k = r0 k)) q)  : ∀ (n : Nat), ∀ (i0 : Nat → Int32) (r0 : Nat → Nat → Int32), f_X13_readTerms_4 F l0 n i0 r0 = some q → Sum.elim (fun q => (∀ k : Nat, ¬ (k = 4 ∨ k = 5 ∨ k = 6 ∨ k = 7 ∨ k = 8 ∨ k = 9 ∨ k = 49 ∨ k = 54 ∨ k = 55 ∨ k = 56 ∨ k = 57) → q.1 k = i0 k) ∧ (∀ k : Nat, ¬ (k = 39 ∨ k = 40 ∨ k = 41) → q.2 k = r0 k)) (fun t => (∀ k : Nat, ¬ (k = 4 ∨ k = 5 ∨ k = 6 ∨ k = 7 ∨ k = 8 ∨ k = 9 ∨ k = 49 ∨ k = 54 ∨ k = 55 ∨ k = 56 ∨ k = 57) → t.1 k = i0 k) ∧ (∀ k : Nat, ¬ (k = 39 ∨ k = 40 ∨ k = 41) → t.2 k = r0 k)) q := by
  intro n
  induction n with
  | zero =>
    intro i0 r0 hf
    rw [f_X13_readTerms_4] at hf
    cases hf
  | succ n ih =>
    intro i0 r0 hf
    rw [f_X13_readTerms_4] at hf
    obtain ⟨q11, hq11, hf⟩ := bd_s hf
    by_cases hc : q11 = 0
    · have hf := ite_t hf hc
      obtain rfl := Option.some.inj hf
      exact ⟨fun k _ => rfl, fun k _ => rfl⟩
    · have hf := ite_f hf hc
      obtain ⟨q12, hq12, hf⟩ := bd_s hf
      have fq12 := fr_X13_scan hq12
      rcases (bt_s hf).symm with ⟨t13, hq13, hf⟩ | ⟨q13, hq13, hf⟩
      · have ft13 := fr_X13_readFactor hF hq13
        obtain rfl := Option.some.inj hf
        exact ⟨fun k hk => (by (try dsimp only); rw [ft13.1 k (by omega), fq12 k (by omega)]), fun k hk => (by (try dsimp only); rw [ft13.2 k (by omega)])⟩
      have fq13 := fr_X13_readFactor hF hq13
      obtain ⟨q14, hq14, hf⟩ := bd_s hf
      have fq14 := fr_X13_mark hq14
      have g15 := ih _ _ hf
      cases q with
      | inl q => exact ⟨fun k hk => (by (try dsimp only); rw [g15.1 k (by omega), fq14.1 k (by omega), fq13.1 k (by omega), fq12 k (by omega)]), fun k hk => (by (try dsimp only); rw [g15.2 k (by omega), fq14.2 k (by omega), fq13.2 k (by omega)])⟩
      | inr t => exact ⟨fun k hk => (by (try dsimp only); rw [g15.1 k (by omega), fq14.1 k (by omega), fq13.1 k (by omega), fq12 k (by omega)]), fun k hk => (by (try dsimp only); rw [g15.2 k (by omega), fq14.2 k (by omega), fq13.2 k (by omega)])⟩
set_option maxRecDepth 100000 in
set_option maxHeartbeats 4000000 in
theorem fr_X13_readTerms_e  {i0 : Nat → Int32} {r0 : Nat → Nat → Int32} {l0 : Nat → Nat → Int64}  {q : ((Nat → Int32) × (Nat → Nat → Int32)) ⊕ ((Nat → Int32) × (Nat → Nat → Int32))} {F : (Nat → Int32) → (Nat → Nat → Int32) → (Nat → Nat → Int64) → Option (((Nat → Int32) × (Nat → Nat → Int32)) ⊕ ((Nat → Int32) × (Nat → Nat → Int32)))} (hF : ∀ {i0 : Nat → Int32} {r0 : Nat → Nat → Int32} {l0 : Nat → Nat → Int64}  {q : ((Nat → Int32) × (Nat → Nat → Int32)) ⊕ ((Nat → Int32) × (Nat → Nat → Int32))}, F i0 r0 l0 = some q → Sum.elim (fun q => (∀ k : Nat, ¬ (k = 4 ∨ k = 5 ∨ k = 6 ∨ k = 7 ∨ k = 8 ∨ k = 9 ∨ k = 49 ∨ k = 54 ∨ k = 55 ∨ k = 56 ∨ k = 57) → q.1 k = i0 k) ∧ (∀ k : Nat, ¬ (k = 39 ∨ k = 40 ∨ k = 41) → q.2 k = r0 k)) (fun t => (∀ k : Nat, ¬ (k = 4 ∨ k = 5 ∨ k = 6 ∨ k = 7 ∨ k = 8 ∨ k = 9 ∨ k = 49 ∨ k = 54 ∨ k = 55 ∨ k = 56 ∨ k = 57) → t.1 k = i0 k) ∧ (∀ k : Nat, ¬ (k = 39 ∨ k = 40 ∨ k = 41) → t.2 k = r0 k)) q) (hf : f_X13_readTerms_e F i0 r0 l0 = some q) : Sum.elim (fun q => (∀ k : Nat, ¬ (k = 4 ∨ k = 5 ∨ k = 6 ∨ k = 7 ∨ k = 8 ∨ k = 9 ∨ k = 49 ∨ k = 54 ∨ k = 55 ∨ k = 56 ∨ k = 57) → q.1 k = i0 k) ∧ (∀ k : Nat, ¬ (k = 39 ∨ k = 40 ∨ k = 41) → q.2 k = r0 k)) (fun t => (∀ k : Nat, ¬ (k = 4 ∨ k = 5 ∨ k = 6 ∨ k = 7 ∨ k = 8 ∨ k = 9 ∨ k = 49 ∨ k = 54 ∨ k = 55 ∨ k = 56 ∨ k = 57) → t.1 k = i0 k) ∧ (∀ k : Nat, ¬ (k = 39 ∨ k = 40 ∨ k = 41) → t.2 k = r0 k)) q := by
  rw [f_X13_readTerms_e] at hf
  rcases (bt_s hf).symm with ⟨t16, hq16, hf⟩ | ⟨q16, hq16, hf⟩
  · have ft16 := fr_X13_readFactor hF hq16
    obtain rfl := Option.some.inj hf
    exact ⟨fun k hk => (by (try dsimp only); rw [ft16.1 k (by omega)]), fun k hk => (by (try dsimp only); rw [ft16.2 k (by omega)])⟩
  have fq16 := fr_X13_readFactor hF hq16
  have g17 := fr_X13_readTerms_4 hF  2000000 _ _ hf
  cases q with
  | inl q => exact ⟨fun k hk => (by (try dsimp only); rw [g17.1 k (by omega), fq16.1 k (by omega)]), fun k hk => (by (try dsimp only); rw [g17.2 k (by omega), fq16.2 k (by omega)])⟩
  | inr t => exact ⟨fun k hk => (by (try dsimp only); rw [g17.1 k (by omega), fq16.1 k (by omega)]), fun k hk => (by (try dsimp only); rw [g17.2 k (by omega), fq16.2 k (by omega)])⟩
theorem fr_X13_readTerms : ∀ (d : Nat) {i0 : Nat → Int32} {r0 : Nat → Nat → Int32} {l0 : Nat → Nat → Int64}  {q : ((Nat → Int32) × (Nat → Nat → Int32)) ⊕ ((Nat → Int32) × (Nat → Nat → Int32))}, f_X13_readTerms d i0 r0 l0 = some q → Sum.elim (fun q => (∀ k : Nat, ¬ (k = 4 ∨ k = 5 ∨ k = 6 ∨ k = 7 ∨ k = 8 ∨ k = 9 ∨ k = 49 ∨ k = 54 ∨ k = 55 ∨ k = 56 ∨ k = 57) → q.1 k = i0 k) ∧ (∀ k : Nat, ¬ (k = 39 ∨ k = 40 ∨ k = 41) → q.2 k = r0 k)) (fun t => (∀ k : Nat, ¬ (k = 4 ∨ k = 5 ∨ k = 6 ∨ k = 7 ∨ k = 8 ∨ k = 9 ∨ k = 49 ∨ k = 54 ∨ k = 55 ∨ k = 56 ∨ k = 57) → t.1 k = i0 k) ∧ (∀ k : Nat, ¬ (k = 39 ∨ k = 40 ∨ k = 41) → t.2 k = r0 k)) q
  | 0, _, _, _, _, hf => (by rw [f_X13_readTerms] at hf; cases hf)
  | d + 1, _, _, _, _, hf => (by rw [f_X13_readTerms] at hf; exact fr_X13_readTerms_e (fr_X13_readTerms d) hf)
