/-! X13_readSum -/
set_option maxRecDepth 100000 in
set_option maxHeartbeats 4000000 in
theorem fr_X13_readSum_29  {l0 : Nat → Nat → Int64} {q : ((Nat → Int32) × (Nat → Nat → Int32)) ⊕ ((Nat → Int32) × (Nat → Nat → Int32))}  : ∀ (i0 : Nat → Int32) (r0 : Nat → Nat → Int32) (x1 : Int32), f_X13_readSum_29 l0 i0 r0 x1 = some q → Sum.elim (fun q => (∀ k : Nat, ¬ (k = 4 ∨ k = 5 ∨ k = 6 ∨ k = 7 ∨ k = 8 ∨ k = 9 ∨ k = 49 ∨ k = 53 ∨ k = 54 ∨ k = 55 ∨ k = 56 ∨ k = 57) → q.1 k = i0 k) ∧ (∀ k : Nat, ¬ (k = 34 ∨ k = 35 ∨ k = 39 ∨ k = 40 ∨ k = 41) → q.2 k = r0 k)) (fun t => (∀ k : Nat, ¬ (k = 4 ∨ k = 5 ∨ k = 6 ∨ k = 7 ∨ k = 8 ∨ k = 9 ∨ k = 49 ∨ k = 53 ∨ k = 54 ∨ k = 55 ∨ k = 56 ∨ k = 57) → t.1 k = i0 k) ∧ (∀ k : Nat, ¬ (k = 34 ∨ k = 35 ∨ k = 39 ∨ k = 40 ∨ k = 41) → t.2 k = r0 k)) q := by
  intro i0 r0 x1 hf
  rw [f_X13_readSum_29] at hf
  rcases (bt_s hf).symm with ⟨t3, hq3, hf⟩ | ⟨q3, hq3, hf⟩
  · have ft3 := fr_X13_readTerms 12 hq3
    obtain rfl := Option.some.inj hf
    exact ⟨fun k hk => (by (try dsimp only); rw [ft3.1 k (by omega)]), fun k hk => (by (try dsimp only); rw [ft3.2 k (by omega)])⟩
  have fq3 := fr_X13_readTerms 12 hq3
  have hf := ck_2 hf
  obtain rfl := Option.some.inj hf
  exact ⟨fun k hk => (by (try dsimp only); rw [fq3.1 k (by omega)]), fun k hk => (by (try dsimp only); rw [va_up_ne _ _ (by omega), fq3.2 k (by omega)])⟩
set_option maxRecDepth 100000 in
set_option maxHeartbeats 4000000 in
theorem fr_X13_readSum  {i0 : Nat → Int32} {r0 : Nat → Nat → Int32} {l0 : Nat → Nat → Int64} {x1 : Int32} {x2 : Int32} {q : ((Nat → Int32) × (Nat → Nat → Int32)) ⊕ ((Nat → Int32) × (Nat → Nat → Int32))} (hf : f_X13_readSum i0 r0 l0 x1 x2 = some q) : Sum.elim (fun q => (∀ k : Nat, ¬ (k = 4 ∨ k = 5 ∨ k = 6 ∨ k = 7 ∨ k = 8 ∨ k = 9 ∨ k = 49 ∨ k = 53 ∨ k = 54 ∨ k = 55 ∨ k = 56 ∨ k = 57) → q.1 k = i0 k) ∧ (∀ k : Nat, ¬ (k = 34 ∨ k = 35 ∨ k = 39 ∨ k = 40 ∨ k = 41) → q.2 k = r0 k)) (fun t => (∀ k : Nat, ¬ (k = 4 ∨ k = 5 ∨ k = 6 ∨ k = 7 ∨ k = 8 ∨ k = 9 ∨ k = 49 ∨ k = 53 ∨ k = 54 ∨ k = 55 ∨ k = 56 ∨ k = 57) → t.1 k = i0 k) ∧ (∀ k : Nat, ¬ (k = 34 ∨ k = 35 ∨ k = 39 ∨ k = 40 ∨ k = 41) → t.2 k = r0 k)) q := by
  rw [f_X13_readSum] at hf
  have hf := ck_2 hf
  have g4 := fr_X13_readSum_29  _ _ _ hf
  cases q with
  | inl q => exact ⟨fun k hk => (by (try dsimp only); rw [g4.1 k (by omega), pk_un (by omega), pk_un (by omega), pk_un (by omega)]), fun k hk => (by (try dsimp only); rw [g4.2 k (by omega), va_up_ne _ _ (by omega)])⟩
  | inr t => exact ⟨fun k hk => (by (try dsimp only); rw [g4.1 k (by omega), pk_un (by omega), pk_un (by omega), pk_un (by omega)]), fun k hk => (by (try dsimp only); rw [g4.2 k (by omega), va_up_ne _ _ (by omega)])⟩
/-! X13_readTest -/
set_option maxRecDepth 100000 in
set_option maxHeartbeats 4000000 in
theorem fr_X13_readTest_56  {l0 : Nat → Nat → Int64} {q : ((Nat → Int32) × (Nat → Nat → Int32)) ⊕ ((Nat → Int32) × (Nat → Nat → Int32))}  : ∀ (i0 : Nat → Int32) (r0 : Nat → Nat → Int32) (x1 : Int32) (x2 : Int32) (x3 : Int32) (y0 : Int32), f_X13_readTest_56 l0 i0 r0 x1 x2 x3 y0 = some q → Sum.elim (fun q => (∀ k : Nat, ¬ (k = 4 ∨ k = 5 ∨ k = 6 ∨ k = 7 ∨ k = 8 ∨ k = 9 ∨ k = 49 ∨ k = 53 ∨ k = 54 ∨ k = 55 ∨ k = 56 ∨ k = 57) → q.1 k = i0 k) ∧ (∀ k : Nat, ¬ (k = 34 ∨ k = 35 ∨ k = 36 ∨ k = 39 ∨ k = 40 ∨ k = 41) → q.2 k = r0 k)) (fun t => (∀ k : Nat, ¬ (k = 4 ∨ k = 5 ∨ k = 6 ∨ k = 7 ∨ k = 8 ∨ k = 9 ∨ k = 49 ∨ k = 53 ∨ k = 54 ∨ k = 55 ∨ k = 56 ∨ k = 57) → t.1 k = i0 k) ∧ (∀ k : Nat, ¬ (k = 34 ∨ k = 35 ∨ k = 36 ∨ k = 39 ∨ k = 40 ∨ k = 41) → t.2 k = r0 k)) q := by
  intro i0 r0 x1 x2 x3 y0 hf
  rw [f_X13_readTest_56] at hf
  rcases (bt_s hf).symm with ⟨t17, hq17, hf⟩ | ⟨q17, hq17, hf⟩
  · have ft17 := fr_X13_need hq17
    obtain rfl := Option.some.inj hf
    exact ⟨fun k hk => (by (try dsimp only); rw [ft17 k (by omega)]), fun k _ => rfl⟩
  have fq17 := fr_X13_need hq17
  have hf := ck_2 hf
  obtain ⟨q18, hq18, hf⟩ := bd_s hf
  have fq18 := fr_X13_scan hq18
  rcases (bt_s hf).symm with ⟨t19, hq19, hf⟩ | ⟨q19, hq19, hf⟩
  · have ft19 := fr_X13_readSum hq19
    obtain rfl := Option.some.inj hf
    exact ⟨fun k hk => (by (try dsimp only); rw [ft19.1 k (by omega), fq18 k (by omega), fq17 k (by omega)]), fun k hk => (by (try dsimp only); rw [ft19.2 k (by omega), va_up_ne _ _ (by omega)])⟩
  have fq19 := fr_X13_readSum hq19
  obtain rfl := Option.some.inj hf
  exact ⟨fun k hk => (by (try dsimp only); rw [fq19.1 k (by omega), fq18 k (by omega), fq17 k (by omega)]), fun k hk => (by (try dsimp only); rw [fq19.2 k (by omega), va_up_ne _ _ (by omega)])⟩
set_option maxRecDepth 100000 in
set_option maxHeartbeats 4000000 in
theorem fr_X13_readTest_51  {l0 : Nat → Nat → Int64} {q : ((Nat → Int32) × (Nat → Nat → Int32)) ⊕ ((Nat → Int32) × (Nat → Nat → Int32))}  : ∀ (i0 : Nat → Int32) (r0 : Nat → Nat → Int32) (x1 : Int32) (x2 : Int32) (x3 : Int32), f_X13_readTest_51 l0 i0 r0 x1 x2 x3 = some q → Sum.elim (fun q => (∀ k : Nat, ¬ (k = 4 ∨ k = 5 ∨ k = 6 ∨ k = 7 ∨ k = 8 ∨ k = 9 ∨ k = 49 ∨ k = 53 ∨ k = 54 ∨ k = 55 ∨ k = 56 ∨ k = 57) → q.1 k = i0 k) ∧ (∀ k : Nat, ¬ (k = 34 ∨ k = 35 ∨ k = 36 ∨ k = 39 ∨ k = 40 ∨ k = 41) → q.2 k = r0 k)) (fun t => (∀ k : Nat, ¬ (k = 4 ∨ k = 5 ∨ k = 6 ∨ k = 7 ∨ k = 8 ∨ k = 9 ∨ k = 49 ∨ k = 53 ∨ k = 54 ∨ k = 55 ∨ k = 56 ∨ k = 57) → t.1 k = i0 k) ∧ (∀ k : Nat, ¬ (k = 34 ∨ k = 35 ∨ k = 36 ∨ k = 39 ∨ k = 40 ∨ k = 41) → t.2 k = r0 k)) q := by
  intro i0 r0 x1 x2 x3 hf
  rw [f_X13_readTest_51] at hf
  have g20 := fr_X13_readTest_56  _ _ _ _ _ _ hf
  cases q with
  | inl q => exact ⟨fun k hk => (by (try dsimp only); rw [g20.1 k (by omega)]), fun k hk => (by (try dsimp only); rw [g20.2 k (by omega)])⟩
  | inr t => exact ⟨fun k hk => (by (try dsimp only); rw [g20.1 k (by omega)]), fun k hk => (by (try dsimp only); rw [g20.2 k (by omega)])⟩
set_option maxRecDepth 100000 in
set_option maxHeartbeats 4000000 in
theorem fr_X13_readTest  {i0 : Nat → Int32} {r0 : Nat → Nat → Int32} {l0 : Nat → Nat → Int64} {x1 : Int32} {x2 : Int32} {q : ((Nat → Int32) × (Nat → Nat → Int32)) ⊕ ((Nat → Int32) × (Nat → Nat → Int32))} (hf : f_X13_readTest i0 r0 l0 x1 x2 = some q) : Sum.elim (fun q => (∀ k : Nat, ¬ (k = 4 ∨ k = 5 ∨ k = 6 ∨ k = 7 ∨ k = 8 ∨ k = 9 ∨ k = 49 ∨ k = 53 ∨ k = 54 ∨ k = 55 ∨ k = 56 ∨ k = 57) → q.1 k = i0 k) ∧ (∀ k : Nat, ¬ (k = 34 ∨ k = 35 ∨ k = 36 ∨ k = 39 ∨ k = 40 ∨ k = 41) → q.2 k = r0 k)) (fun t => (∀ k : Nat, ¬ (k = 4 ∨ k = 5 ∨ k = 6 ∨ k = 7 ∨ k = 8 ∨ k = 9 ∨ k = 49 ∨ k = 53 ∨ k = 54 ∨ k = 55 ∨ k = 56 ∨ k = 57) → t.1 k = i0 k) ∧ (∀ k : Nat, ¬ (k = 34 ∨ k = 35 ∨ k = 36 ∨ k = 39 ∨ k = 40 ∨ k = 41) → t.2 k = r0 k)) q := by
  rw [f_X13_readTest] at hf
  rcases (bt_s hf).symm with ⟨t21, hq21, hf⟩ | ⟨q21, hq21, hf⟩
  · have ft21 := fr_X13_readSum hq21
    obtain rfl := Option.some.inj hf
    exact ⟨fun k hk => (by (try dsimp only); rw [ft21.1 k (by omega)]), fun k hk => (by (try dsimp only); rw [ft21.2 k (by omega)])⟩
  have fq21 := fr_X13_readSum hq21
  obtain ⟨q22, hq22, hf⟩ := bd_s hf
  by_cases hc : q22 = 0
  · have hf := ite_t hf hc
    obtain ⟨q24, hq24, hf⟩ := bd_s hf
    by_cases hc : q24 = 0
    · have hf := ite_t hf hc
      obtain ⟨q26, hq26, hf⟩ := bd_s hf
      by_cases hc : q26 = 0
      · have hf := ite_t hf hc
        obtain ⟨q28, hq28, hf⟩ := bd_s hf
        by_cases hc : q28 = 0
        · have hf := ite_t hf hc
          have g29 := fr_X13_readTest_56  _ _ _ _ _ _ hf
          cases q with
          | inl q => exact ⟨fun k hk => (by (try dsimp only); rw [g29.1 k (by omega), fq21.1 k (by omega)]), fun k hk => (by (try dsimp only); rw [g29.2 k (by omega), fq21.2 k (by omega)])⟩
          | inr t => exact ⟨fun k hk => (by (try dsimp only); rw [g29.1 k (by omega), fq21.1 k (by omega)]), fun k hk => (by (try dsimp only); rw [g29.2 k (by omega), fq21.2 k (by omega)])⟩
        · have hf := ite_f hf hc
          have g30 := fr_X13_readTest_51  _ _ _ _ _ hf
          cases q with
          | inl q => exact ⟨fun k hk => (by (try dsimp only); rw [g30.1 k (by omega), fq21.1 k (by omega)]), fun k hk => (by (try dsimp only); rw [g30.2 k (by omega), fq21.2 k (by omega)])⟩
          | inr t => exact ⟨fun k hk => (by (try dsimp only); rw [g30.1 k (by omega), fq21.1 k (by omega)]), fun k hk => (by (try dsimp only); rw [g30.2 k (by omega), fq21.2 k (by omega)])⟩
      · have hf := ite_f hf hc
        have g27 := fr_X13_readTest_51  _ _ _ _ _ hf
        cases q with
        | inl q => exact ⟨fun k hk => (by (try dsimp only); rw [g27.1 k (by omega), fq21.1 k (by omega)]), fun k hk => (by (try dsimp only); rw [g27.2 k (by omega), fq21.2 k (by omega)])⟩
        | inr t => exact ⟨fun k hk => (by (try dsimp only); rw [g27.1 k (by omega), fq21.1 k (by omega)]), fun k hk => (by (try dsimp only); rw [g27.2 k (by omega), fq21.2 k (by omega)])⟩
    · have hf := ite_f hf hc
      have g25 := fr_X13_readTest_51  _ _ _ _ _ hf
      cases q with
      | inl q => exact ⟨fun k hk => (by (try dsimp only); rw [g25.1 k (by omega), fq21.1 k (by omega)]), fun k hk => (by (try dsimp only); rw [g25.2 k (by omega), fq21.2 k (by omega)])⟩
      | inr t => exact ⟨fun k hk => (by (try dsimp only); rw [g25.1 k (by omega), fq21.1 k (by omega)]), fun k hk => (by (try dsimp only); rw [g25.2 k (by omega), fq21.2 k (by omega)])⟩
  · have hf := ite_f hf hc
    have g23 := fr_X13_readTest_51  _ _ _ _ _ hf
    cases q with
    | inl q => exact ⟨fun k hk => (by (try dsimp only); rw [g23.1 k (by omega), fq21.1 k (by omega)]), fun k hk => (by (try dsimp only); rw [g23.2 k (by omega), fq21.2 k (by omega)])⟩
    | inr t => exact ⟨fun k hk => (by (try dsimp only); rw [g23.1 k (by omega), fq21.1 k (by omega)]), fun k hk => (by (try dsimp only); rw [g23.2 k (by omega), fq21.2 k (by omega)])⟩
/-! X13_keepBody -/
set_option maxRecDepth 100000 in
set_option maxHeartbeats 4000000 in
theorem fr_X13_keepBody  {i0 : Nat → Int32} {r0 : Nat → Nat → Int32} {l0 : Nat → Nat → Int64} {x1 : Int32} {x2 : Int32} {q : (Nat → Nat → Int32)} (hf : f_X13_keepBody i0 r0 l0 x1 x2 = some q) : (∀ k : Nat, ¬ (k = 37 ∨ k = 38) → q k = r0 k) := by
  rw [f_X13_keepBody] at hf
  have hf := ck_2 hf
  have hf := ck_2 hf
  obtain rfl := Option.some.inj hf
  exact fun k hk => (by (try dsimp only); rw [va_up_ne _ _ (by omega), va_up_ne _ _ (by omega)])
/-! X13_readOther -/
set_option maxRecDepth 100000 in
set_option maxHeartbeats 4000000 in
theorem fr_X13_readOther_47  {l0 : Nat → Nat → Int64} {q : ((Nat → Int32) × (Nat → Nat → Int32)) ⊕ ((Nat → Int32) × (Nat → Nat → Int32))}  : ∀ (i0 : Nat → Int32) (r0 : Nat → Nat → Int32) (x1 : Int32) (y0 : Int32), f_X13_readOther_47 l0 i0 r0 x1 y0 = some q → Sum.elim (fun q => (∀ k : Nat, ¬ (k = 4 ∨ k = 5 ∨ k = 6 ∨ k = 7 ∨ k = 8 ∨ k = 9 ∨ k = 56 ∨ k = 57) → q.1 k = i0 k) ∧ (∀ k : Nat, ¬ (k = 32 ∨ k = 33) → q.2 k = r0 k)) (fun t => (∀ k : Nat, ¬ (k = 4 ∨ k = 5 ∨ k = 6 ∨ k = 7 ∨ k = 8 ∨ k = 9 ∨ k = 56 ∨ k = 57) → t.1 k = i0 k) ∧ (∀ k : Nat, ¬ (k = 32 ∨ k = 33) → t.2 k = r0 k)) q := by
  intro i0 r0 x1 y0 hf
  rw [f_X13_readOther_47] at hf
  rcases (bt_s hf).symm with ⟨t3, hq3, hf⟩ | ⟨q3, hq3, hf⟩
  · have ft3 := fr_X13_readVar hq3
    obtain rfl := Option.some.inj hf
    exact ⟨fun k hk => (by (try dsimp only); rw [ft3 k (by omega)]), fun k _ => rfl⟩
  have fq3 := fr_X13_readVar hq3
  have hf := ck_2 hf
  have hf := ck_2 hf
  obtain rfl := Option.some.inj hf
  exact ⟨fun k hk => (by (try dsimp only); rw [fq3 k (by omega)]), fun k hk => (by (try dsimp only); rw [va_up_ne _ _ (by omega), va_up_ne _ _ (by omega)])⟩
set_option maxRecDepth 100000 in
set_option maxHeartbeats 4000000 in
theorem fr_X13_readOther_46  {l0 : Nat → Nat → Int64} {q : ((Nat → Int32) × (Nat → Nat → Int32)) ⊕ ((Nat → Int32) × (Nat → Nat → Int32))}  : ∀ (i0 : Nat → Int32) (r0 : Nat → Nat → Int32) (x1 : Int32) (y0 : Int32) (y1 : Int32), f_X13_readOther_46 l0 i0 r0 x1 y0 y1 = some q → Sum.elim (fun q => (∀ k : Nat, ¬ (k = 4 ∨ k = 5 ∨ k = 6 ∨ k = 7 ∨ k = 8 ∨ k = 9 ∨ k = 56 ∨ k = 57) → q.1 k = i0 k) ∧ (∀ k : Nat, ¬ (k = 32 ∨ k = 33) → q.2 k = r0 k)) (fun t => (∀ k : Nat, ¬ (k = 4 ∨ k = 5 ∨ k = 6 ∨ k = 7 ∨ k = 8 ∨ k = 9 ∨ k = 56 ∨ k = 57) → t.1 k = i0 k) ∧ (∀ k : Nat, ¬ (k = 32 ∨ k = 33) → t.2 k = r0 k)) q := by
  intro i0 r0 x1 y0 y1 hf
  rw [f_X13_readOther_46] at hf
  have g4 := fr_X13_readOther_47  _ _ _ _ hf
  cases q with
  | inl q => exact ⟨fun k hk => (by (try dsimp only); rw [g4.1 k (by omega)]), fun k hk => (by (try dsimp only); rw [g4.2 k (by omega)])⟩
  | inr t => exact ⟨fun k hk => (by (try dsimp only); rw [g4.1 k (by omega)]), fun k hk => (by (try dsimp only); rw [g4.2 k (by omega)])⟩
set_option maxRecDepth 100000 in
set_option maxHeartbeats 4000000 in
theorem fr_X13_readOther  {i0 : Nat → Int32} {r0 : Nat → Nat → Int32} {l0 : Nat → Nat → Int64} {x1 : Int32} {q : ((Nat → Int32) × (Nat → Nat → Int32)) ⊕ ((Nat → Int32) × (Nat → Nat → Int32))} (hf : f_X13_readOther i0 r0 l0 x1 = some q) : Sum.elim (fun q => (∀ k : Nat, ¬ (k = 4 ∨ k = 5 ∨ k = 6 ∨ k = 7 ∨ k = 8 ∨ k = 9 ∨ k = 56 ∨ k = 57) → q.1 k = i0 k) ∧ (∀ k : Nat, ¬ (k = 32 ∨ k = 33) → q.2 k = r0 k)) (fun t => (∀ k : Nat, ¬ (k = 4 ∨ k = 5 ∨ k = 6 ∨ k = 7 ∨ k = 8 ∨ k = 9 ∨ k = 56 ∨ k = 57) → t.1 k = i0 k) ∧ (∀ k : Nat, ¬ (k = 32 ∨ k = 33) → t.2 k = r0 k)) q := by
  rw [f_X13_readOther] at hf
  have hf := ck_2 hf
  have hf := ck_2 hf
  by_cases hc : 8 ≤ (r0 32 (2 * x1).toNatClampNeg)
  · have hf := ite_t hf hc
    by_cases hc : (r0 32 (2 * x1).toNatClampNeg) = 9
    · have hf := ite_t hf hc
      have g6 := fr_X13_readOther_46  _ _ _ _ _ hf
      cases q with
      | inl q => exact ⟨fun k hk => (by (try dsimp only); rw [g6.1 k (by omega)]), fun k hk => (by (try dsimp only); rw [g6.2 k (by omega)])⟩
      | inr t => exact ⟨fun k hk => (by (try dsimp only); rw [g6.1 k (by omega)]), fun k hk => (by (try dsimp only); rw [g6.2 k (by omega)])⟩
    · have hf := ite_f hf hc
      have g5 := fr_X13_readOther_46  _ _ _ _ _ hf
      cases q with
      | inl q => exact ⟨fun k hk => (by (try dsimp only); rw [g5.1 k (by omega)]), fun k hk => (by (try dsimp only); rw [g5.2 k (by omega)])⟩
      | inr t => exact ⟨fun k hk => (by (try dsimp only); rw [g5.1 k (by omega)]), fun k hk => (by (try dsimp only); rw [g5.2 k (by omega)])⟩
  · have hf := ite_f hf hc
    have g7 := fr_X13_readOther_47  _ _ _ _ hf
    cases q with
    | inl q => exact ⟨fun k hk => (by (try dsimp only); rw [g7.1 k (by omega)]), fun k hk => (by (try dsimp only); rw [g7.2 k (by omega)])⟩
    | inr t => exact ⟨fun k hk => (by (try dsimp only); rw [g7.1 k (by omega)]), fun k hk => (by (try dsimp only); rw [g7.2 k (by omega)])⟩
/-! X13_readOne -/
set_option maxRecDepth 100000 in
set_option maxHeartbeats 4000000 in
theorem fr_X13_readOne_172   {q : (Int32 × (Nat → Int32) × (Nat → Nat → Int64) × (Nat → Nat → Int32)) ⊕ ((Nat → Int32) × (Nat → Nat → Int64) × (Nat → Nat → Int32))} {F : (Nat → Int32) → (Nat → Nat → Int32) → (Nat → Nat → Int64) → Option (((Nat → Int32) × (Nat → Nat → Int64) × (Nat → Nat → Int32)) ⊕ ((Nat → Int32) × (Nat → Nat → Int64) × (Nat → Nat → Int32)))} (hF : ∀ {i0 : Nat → Int32} {r0 : Nat → Nat → Int32} {l0 : Nat → Nat → Int64}  {q : ((Nat → Int32) × (Nat → Nat → Int64) × (Nat → Nat → Int32)) ⊕ ((Nat → Int32) × (Nat → Nat → Int64) × (Nat → Nat → Int32))}, F i0 r0 l0 = some q → Sum.elim (fun q => (∀ k : Nat, ¬ (k = 4 ∨ k = 5 ∨ k = 6 ∨ k = 7 ∨ k = 8 ∨ k = 9 ∨ k = 48 ∨ k = 49 ∨ k = 50 ∨ k = 51 ∨ k = 52 ∨ k = 53 ∨ k = 54 ∨ k = 55 ∨ k = 56 ∨ k = 57) → q.1 k = i0 k) ∧ (∀ k : Nat, ¬ (k = 45) → q.2.1 k = l0 k) ∧ (∀ k : Nat, ¬ (k = 28 ∨ k = 29 ∨ k = 30 ∨ k = 32 ∨ k = 33 ∨ k = 34 ∨ k = 35 ∨ k = 36 ∨ k = 37 ∨ k = 38 ∨ k = 39 ∨ k = 40 ∨ k = 41) → q.2.2 k = r0 k)) (fun t => (∀ k : Nat, ¬ (k = 4 ∨ k = 5 ∨ k = 6 ∨ k = 7 ∨ k = 8 ∨ k = 9 ∨ k = 48 ∨ k = 49 ∨ k = 50 ∨ k = 51 ∨ k = 52 ∨ k = 53 ∨ k = 54 ∨ k = 55 ∨ k = 56 ∨ k = 57) → t.1 k = i0 k) ∧ (∀ k : Nat, ¬ (k = 45) → t.2.1 k = l0 k) ∧ (∀ k : Nat, ¬ (k = 28 ∨ k = 29 ∨ k = 30 ∨ k = 32 ∨ k = 33 ∨ k = 34 ∨ k = 35 ∨ k = 36 ∨ k = 37 ∨ k = 38 ∨ k = 39 ∨ k = 40 ∨ k = 41) → t.2.2 k = r0 k)) q)  : ∀ (i0 : Nat → Int32) (l0 : Nat → Nat → Int64) (r0 : Nat → Nat → Int32) (x2 : Int32), f_X13_readOne_172 F i0 l0 r0 x2 = some q → Sum.elim (fun q => (∀ k : Nat, ¬ (k = 4 ∨ k = 5 ∨ k = 6 ∨ k = 7 ∨ k = 8 ∨ k = 9 ∨ k = 48 ∨ k = 49 ∨ k = 50 ∨ k = 51 ∨ k = 52 ∨ k = 53 ∨ k = 54 ∨ k = 55 ∨ k = 56 ∨ k = 57) → q.2.1 k = i0 k) ∧ (∀ k : Nat, ¬ (k = 45) → q.2.2.1 k = l0 k) ∧ (∀ k : Nat, ¬ (k = 28 ∨ k = 29 ∨ k = 30 ∨ k = 32 ∨ k = 33 ∨ k = 34 ∨ k = 35 ∨ k = 36 ∨ k = 37 ∨ k = 38 ∨ k = 39 ∨ k = 40 ∨ k = 41) → q.2.2.2 k = r0 k)) (fun t => (∀ k : Nat, ¬ (k = 4 ∨ k = 5 ∨ k = 6 ∨ k = 7 ∨ k = 8 ∨ k = 9 ∨ k = 48 ∨ k = 49 ∨ k = 50 ∨ k = 51 ∨ k = 52 ∨ k = 53 ∨ k = 54 ∨ k = 55 ∨ k = 56 ∨ k = 57) → t.1 k = i0 k) ∧ (∀ k : Nat, ¬ (k = 45) → t.2.1 k = l0 k) ∧ (∀ k : Nat, ¬ (k = 28 ∨ k = 29 ∨ k = 30 ∨ k = 32 ∨ k = 33 ∨ k = 34 ∨ k = 35 ∨ k = 36 ∨ k = 37 ∨ k = 38 ∨ k = 39 ∨ k = 40 ∨ k = 41) → t.2.2 k = r0 k)) q := by
  intro i0 l0 r0 x2 hf
  rw [f_X13_readOne_172] at hf
  rcases (bt_s hf).symm with ⟨t38, hq38, hf⟩ | ⟨q38, hq38, hf⟩
  · have ft38 := fr_X13_readTest hq38
    obtain rfl := Option.some.inj hf
    exact ⟨fun k hk => (by (try dsimp only); rw [ft38.1 k (by omega)]), fun k _ => rfl, fun k hk => (by (try dsimp only); rw [ft38.2 k (by omega)])⟩
  have fq38 := fr_X13_readTest hq38
  obtain rfl := Option.some.inj hf
  exact ⟨fun k hk => (by (try dsimp only); rw [pk_un (by omega), fq38.1 k (by omega)]), fun k _ => rfl, fun k hk => (by (try dsimp only); rw [fq38.2 k (by omega)])⟩
set_option maxRecDepth 100000 in
set_option maxHeartbeats 4000000 in
theorem fr_X13_readOne_144   {q : (Int32 × (Nat → Int32) × (Nat → Nat → Int64) × (Nat → Nat → Int32)) ⊕ ((Nat → Int32) × (Nat → Nat → Int64) × (Nat → Nat → Int32))} {F : (Nat → Int32) → (Nat → Nat → Int32) → (Nat → Nat → Int64) → Option (((Nat → Int32) × (Nat → Nat → Int64) × (Nat → Nat → Int32)) ⊕ ((Nat → Int32) × (Nat → Nat → Int64) × (Nat → Nat → Int32)))} (hF : ∀ {i0 : Nat → Int32} {r0 : Nat → Nat → Int32} {l0 : Nat → Nat → Int64}  {q : ((Nat → Int32) × (Nat → Nat → Int64) × (Nat → Nat → Int32)) ⊕ ((Nat → Int32) × (Nat → Nat → Int64) × (Nat → Nat → Int32))}, F i0 r0 l0 = some q → Sum.elim (fun q => (∀ k : Nat, ¬ (k = 4 ∨ k = 5 ∨ k = 6 ∨ k = 7 ∨ k = 8 ∨ k = 9 ∨ k = 48 ∨ k = 49 ∨ k = 50 ∨ k = 51 ∨ k = 52 ∨ k = 53 ∨ k = 54 ∨ k = 55 ∨ k = 56 ∨ k = 57) → q.1 k = i0 k) ∧ (∀ k : Nat, ¬ (k = 45) → q.2.1 k = l0 k) ∧ (∀ k : Nat, ¬ (k = 28 ∨ k = 29 ∨ k = 30 ∨ k = 32 ∨ k = 33 ∨ k = 34 ∨ k = 35 ∨ k = 36 ∨ k = 37 ∨ k = 38 ∨ k = 39 ∨ k = 40 ∨ k = 41) → q.2.2 k = r0 k)) (fun t => (∀ k : Nat, ¬ (k = 4 ∨ k = 5 ∨ k = 6 ∨ k = 7 ∨ k = 8 ∨ k = 9 ∨ k = 48 ∨ k = 49 ∨ k = 50 ∨ k = 51 ∨ k = 52 ∨ k = 53 ∨ k = 54 ∨ k = 55 ∨ k = 56 ∨ k = 57) → t.1 k = i0 k) ∧ (∀ k : Nat, ¬ (k = 45) → t.2.1 k = l0 k) ∧ (∀ k : Nat, ¬ (k = 28 ∨ k = 29 ∨ k = 30 ∨ k = 32 ∨ k = 33 ∨ k = 34 ∨ k = 35 ∨ k = 36 ∨ k = 37 ∨ k = 38 ∨ k = 39 ∨ k = 40 ∨ k = 41) → t.2.2 k = r0 k)) q)  : ∀ (i0 : Nat → Int32) (l0 : Nat → Nat → Int64) (r0 : Nat → Nat → Int32) (x1 : Int32) (x2 : Int32), f_X13_readOne_144 F i0 l0 r0 x1 x2 = some q → Sum.elim (fun q => (∀ k : Nat, ¬ (k = 4 ∨ k = 5 ∨ k = 6 ∨ k = 7 ∨ k = 8 ∨ k = 9 ∨ k = 48 ∨ k = 49 ∨ k = 50 ∨ k = 51 ∨ k = 52 ∨ k = 53 ∨ k = 54 ∨ k = 55 ∨ k = 56 ∨ k = 57) → q.2.1 k = i0 k) ∧ (∀ k : Nat, ¬ (k = 45) → q.2.2.1 k = l0 k) ∧ (∀ k : Nat, ¬ (k = 28 ∨ k = 29 ∨ k = 30 ∨ k = 32 ∨ k = 33 ∨ k = 34 ∨ k = 35 ∨ k = 36 ∨ k = 37 ∨ k = 38 ∨ k = 39 ∨ k = 40 ∨ k = 41) → q.2.2.2 k = r0 k)) (fun t => (∀ k : Nat, ¬ (k = 4 ∨ k = 5 ∨ k = 6 ∨ k = 7 ∨ k = 8 ∨ k = 9 ∨ k = 48 ∨ k = 49 ∨ k = 50 ∨ k = 51 ∨ k = 52 ∨ k = 53 ∨ k = 54 ∨ k = 55 ∨ k = 56 ∨ k = 57) → t.1 k = i0 k) ∧ (∀ k : Nat, ¬ (k = 45) → t.2.1 k = l0 k) ∧ (∀ k : Nat, ¬ (k = 28 ∨ k = 29 ∨ k = 30 ∨ k = 32 ∨ k = 33 ∨ k = 34 ∨ k = 35 ∨ k = 36 ∨ k = 37 ∨ k = 38 ∨ k = 39 ∨ k = 40 ∨ k = 41) → t.2.2 k = r0 k)) q := by
  intro i0 l0 r0 x1 x2 hf
  rw [f_X13_readOne_144] at hf
  rcases (bt_s hf).symm with ⟨t39, hq39, hf⟩ | ⟨q39, hq39, hf⟩
  · have ft39 := hF hq39
    obtain rfl := Option.some.inj hf
    exact ⟨fun k hk => (by (try dsimp only); rw [ft39.1 k (by omega)]), fun k hk => (by (try dsimp only); rw [ft39.2.1 k (by omega)]), fun k hk => (by (try dsimp only); rw [ft39.2.2 k (by omega)])⟩
  have fq39 := hF hq39
  obtain ⟨q40, hq40, hf⟩ := bd_s hf
  have fq40 := fr_X13_keepBody hq40
  by_cases hc : x1 = 4
  · have hf := ite_t hf hc
    rcases (bt_s hf).symm with ⟨t43, hq43, hf⟩ | ⟨q43, hq43, hf⟩
    · have ft43 := fr_X13_word hq43
      obtain rfl := Option.some.inj hf
      exact ⟨fun k hk => (by (try dsimp only); rw [ft43 k (by omega), fq39.1 k (by omega)]), fun k hk => (by (try dsimp only); rw [fq39.2.1 k (by omega)]), fun k hk => (by (try dsimp only); rw [fq40 k (by omega), fq39.2.2 k (by omega)])⟩
    have fq43 := fr_X13_word hq43
    have g44 := fr_X13_readOne_172 hF  _ _ _ _ hf
    cases q with
    | inl q => exact ⟨fun k hk => (by (try dsimp only); rw [g44.1 k (by omega), fq43 k (by omega), fq39.1 k (by omega)]), fun k hk => (by (try dsimp only); rw [g44.2.1 k (by omega), fq39.2.1 k (by omega)]), fun k hk => (by (try dsimp only); rw [g44.2.2 k (by omega), fq40 k (by omega), fq39.2.2 k (by omega)])⟩
    | inr t => exact ⟨fun k hk => (by (try dsimp only); rw [g44.1 k (by omega), fq43 k (by omega), fq39.1 k (by omega)]), fun k hk => (by (try dsimp only); rw [g44.2.1 k (by omega), fq39.2.1 k (by omega)]), fun k hk => (by (try dsimp only); rw [g44.2.2 k (by omega), fq40 k (by omega), fq39.2.2 k (by omega)])⟩
  · have hf := ite_f hf hc
    rcases (bt_s hf).symm with ⟨t41, hq41, hf⟩ | ⟨q41, hq41, hf⟩
    · have ft41 := fr_X13_word hq41
      obtain rfl := Option.some.inj hf
      exact ⟨fun k hk => (by (try dsimp only); rw [ft41 k (by omega), fq39.1 k (by omega)]), fun k hk => (by (try dsimp only); rw [fq39.2.1 k (by omega)]), fun k hk => (by (try dsimp only); rw [fq40 k (by omega), fq39.2.2 k (by omega)])⟩
    have fq41 := fr_X13_word hq41
    have g42 := fr_X13_readOne_172 hF  _ _ _ _ hf
    cases q with
    | inl q => exact ⟨fun k hk => (by (try dsimp only); rw [g42.1 k (by omega), fq41 k (by omega), fq39.1 k (by omega)]), fun k hk => (by (try dsimp only); rw [g42.2.1 k (by omega), fq39.2.1 k (by omega)]), fun k hk => (by (try dsimp only); rw [g42.2.2 k (by omega), fq40 k (by omega), fq39.2.2 k (by omega)])⟩
    | inr t => exact ⟨fun k hk => (by (try dsimp only); rw [g42.1 k (by omega), fq41 k (by omega), fq39.1 k (by omega)]), fun k hk => (by (try dsimp only); rw [g42.2.1 k (by omega), fq39.2.1 k (by omega)]), fun k hk => (by (try dsimp only); rw [g42.2.2 k (by omega), fq40 k (by omega), fq39.2.2 k (by omega)])⟩
set_option maxRecDepth 100000 in
set_option maxHeartbeats 4000000 in
theorem fr_X13_readOne_116   {q : (Int32 × (Nat → Int32) × (Nat → Nat → Int64) × (Nat → Nat → Int32)) ⊕ ((Nat → Int32) × (Nat → Nat → Int64) × (Nat → Nat → Int32))} {F : (Nat → Int32) → (Nat → Nat → Int32) → (Nat → Nat → Int64) → Option (((Nat → Int32) × (Nat → Nat → Int64) × (Nat → Nat → Int32)) ⊕ ((Nat → Int32) × (Nat → Nat → Int64) × (Nat → Nat → Int32)))} (hF : ∀ {i0 : Nat → Int32} {r0 : Nat → Nat → Int32} {l0 : Nat → Nat → Int64}  {q : ((Nat → Int32) × (Nat → Nat → Int64) × (Nat → Nat → Int32)) ⊕ ((Nat → Int32) × (Nat → Nat → Int64) × (Nat → Nat → Int32))}, F i0 r0 l0 = some q → Sum.elim (fun q => (∀ k : Nat, ¬ (k = 4 ∨ k = 5 ∨ k = 6 ∨ k = 7 ∨ k = 8 ∨ k = 9 ∨ k = 48 ∨ k = 49 ∨ k = 50 ∨ k = 51 ∨ k = 52 ∨ k = 53 ∨ k = 54 ∨ k = 55 ∨ k = 56 ∨ k = 57) → q.1 k = i0 k) ∧ (∀ k : Nat, ¬ (k = 45) → q.2.1 k = l0 k) ∧ (∀ k : Nat, ¬ (k = 28 ∨ k = 29 ∨ k = 30 ∨ k = 32 ∨ k = 33 ∨ k = 34 ∨ k = 35 ∨ k = 36 ∨ k = 37 ∨ k = 38 ∨ k = 39 ∨ k = 40 ∨ k = 41) → q.2.2 k = r0 k)) (fun t => (∀ k : Nat, ¬ (k = 4 ∨ k = 5 ∨ k = 6 ∨ k = 7 ∨ k = 8 ∨ k = 9 ∨ k = 48 ∨ k = 49 ∨ k = 50 ∨ k = 51 ∨ k = 52 ∨ k = 53 ∨ k = 54 ∨ k = 55 ∨ k = 56 ∨ k = 57) → t.1 k = i0 k) ∧ (∀ k : Nat, ¬ (k = 45) → t.2.1 k = l0 k) ∧ (∀ k : Nat, ¬ (k = 28 ∨ k = 29 ∨ k = 30 ∨ k = 32 ∨ k = 33 ∨ k = 34 ∨ k = 35 ∨ k = 36 ∨ k = 37 ∨ k = 38 ∨ k = 39 ∨ k = 40 ∨ k = 41) → t.2.2 k = r0 k)) q)  : ∀ (i0 : Nat → Int32) (l0 : Nat → Nat → Int64) (r0 : Nat → Nat → Int32) (x1 : Int32) (x2 : Int32), f_X13_readOne_116 F i0 l0 r0 x1 x2 = some q → Sum.elim (fun q => (∀ k : Nat, ¬ (k = 4 ∨ k = 5 ∨ k = 6 ∨ k = 7 ∨ k = 8 ∨ k = 9 ∨ k = 48 ∨ k = 49 ∨ k = 50 ∨ k = 51 ∨ k = 52 ∨ k = 53 ∨ k = 54 ∨ k = 55 ∨ k = 56 ∨ k = 57) → q.2.1 k = i0 k) ∧ (∀ k : Nat, ¬ (k = 45) → q.2.2.1 k = l0 k) ∧ (∀ k : Nat, ¬ (k = 28 ∨ k = 29 ∨ k = 30 ∨ k = 32 ∨ k = 33 ∨ k = 34 ∨ k = 35 ∨ k = 36 ∨ k = 37 ∨ k = 38 ∨ k = 39 ∨ k = 40 ∨ k = 41) → q.2.2.2 k = r0 k)) (fun t => (∀ k : Nat, ¬ (k = 4 ∨ k = 5 ∨ k = 6 ∨ k = 7 ∨ k = 8 ∨ k = 9 ∨ k = 48 ∨ k = 49 ∨ k = 50 ∨ k = 51 ∨ k = 52 ∨ k = 53 ∨ k = 54 ∨ k = 55 ∨ k = 56 ∨ k = 57) → t.1 k = i0 k) ∧ (∀ k : Nat, ¬ (k = 45) → t.2.1 k = l0 k) ∧ (∀ k : Nat, ¬ (k = 28 ∨ k = 29 ∨ k = 30 ∨ k = 32 ∨ k = 33 ∨ k = 34 ∨ k = 35 ∨ k = 36 ∨ k = 37 ∨ k = 38 ∨ k = 39 ∨ k = 40 ∨ k = 41) → t.2.2 k = r0 k)) q := by
  intro i0 l0 r0 x1 x2 hf
  rw [f_X13_readOne_116] at hf
  rcases (bt_s hf).symm with ⟨t45, hq45, hf⟩ | ⟨q45, hq45, hf⟩
  · have ft45 := hF hq45
    obtain rfl := Option.some.inj hf
    exact ⟨fun k hk => (by (try dsimp only); rw [ft45.1 k (by omega)]), fun k hk => (by (try dsimp only); rw [ft45.2.1 k (by omega)]), fun k hk => (by (try dsimp only); rw [ft45.2.2 k (by omega)])⟩
  have fq45 := hF hq45
  obtain ⟨q46, hq46, hf⟩ := bd_s hf
  have fq46 := fr_X13_keepBody hq46
  by_cases hc : x1 = 4
  · have hf := ite_t hf hc
    rcases (bt_s hf).symm with ⟨t49, hq49, hf⟩ | ⟨q49, hq49, hf⟩
    · have ft49 := fr_X13_word hq49
      obtain rfl := Option.some.inj hf
      exact ⟨fun k hk => (by (try dsimp only); rw [ft49 k (by omega), fq45.1 k (by omega)]), fun k hk => (by (try dsimp only); rw [fq45.2.1 k (by omega)]), fun k hk => (by (try dsimp only); rw [fq46 k (by omega), fq45.2.2 k (by omega)])⟩
    have fq49 := fr_X13_word hq49
    have g50 := fr_X13_readOne_144 hF  _ _ _ _ _ hf
    cases q with
    | inl q => exact ⟨fun k hk => (by (try dsimp only); rw [g50.1 k (by omega), fq49 k (by omega), fq45.1 k (by omega)]), fun k hk => (by (try dsimp only); rw [g50.2.1 k (by omega), fq45.2.1 k (by omega)]), fun k hk => (by (try dsimp only); rw [g50.2.2 k (by omega), fq46 k (by omega), fq45.2.2 k (by omega)])⟩
    | inr t => exact ⟨fun k hk => (by (try dsimp only); rw [g50.1 k (by omega), fq49 k (by omega), fq45.1 k (by omega)]), fun k hk => (by (try dsimp only); rw [g50.2.1 k (by omega), fq45.2.1 k (by omega)]), fun k hk => (by (try dsimp only); rw [g50.2.2 k (by omega), fq46 k (by omega), fq45.2.2 k (by omega)])⟩
  · have hf := ite_f hf hc
    rcases (bt_s hf).symm with ⟨t47, hq47, hf⟩ | ⟨q47, hq47, hf⟩
    · have ft47 := fr_X13_word hq47
      obtain rfl := Option.some.inj hf
      exact ⟨fun k hk => (by (try dsimp only); rw [ft47 k (by omega), fq45.1 k (by omega)]), fun k hk => (by (try dsimp only); rw [fq45.2.1 k (by omega)]), fun k hk => (by (try dsimp only); rw [fq46 k (by omega), fq45.2.2 k (by omega)])⟩
    have fq47 := fr_X13_word hq47
    have g48 := fr_X13_readOne_144 hF  _ _ _ _ _ hf
    cases q with
    | inl q => exact ⟨fun k hk => (by (try dsimp only); rw [g48.1 k (by omega), fq47 k (by omega), fq45.1 k (by omega)]), fun k hk => (by (try dsimp only); rw [g48.2.1 k (by omega), fq45.2.1 k (by omega)]), fun k hk => (by (try dsimp only); rw [g48.2.2 k (by omega), fq46 k (by omega), fq45.2.2 k (by omega)])⟩
    | inr t => exact ⟨fun k hk => (by (try dsimp only); rw [g48.1 k (by omega), fq47 k (by omega), fq45.1 k (by omega)]), fun k hk => (by (try dsimp only); rw [g48.2.1 k (by omega), fq45.2.1 k (by omega)]), fun k hk => (by (try dsimp only); rw [g48.2.2 k (by omega), fq46 k (by omega), fq45.2.2 k (by omega)])⟩
set_option maxRecDepth 100000 in
set_option maxHeartbeats 4000000 in
theorem fr_X13_readOne_82   {q : (Int32 × (Nat → Int32) × (Nat → Nat → Int64) × (Nat → Nat → Int32)) ⊕ ((Nat → Int32) × (Nat → Nat → Int64) × (Nat → Nat → Int32))} {F : (Nat → Int32) → (Nat → Nat → Int32) → (Nat → Nat → Int64) → Option (((Nat → Int32) × (Nat → Nat → Int64) × (Nat → Nat → Int32)) ⊕ ((Nat → Int32) × (Nat → Nat → Int64) × (Nat → Nat → Int32)))} (hF : ∀ {i0 : Nat → Int32} {r0 : Nat → Nat → Int32} {l0 : Nat → Nat → Int64}  {q : ((Nat → Int32) × (Nat → Nat → Int64) × (Nat → Nat → Int32)) ⊕ ((Nat → Int32) × (Nat → Nat → Int64) × (Nat → Nat → Int32))}, F i0 r0 l0 = some q → Sum.elim (fun q => (∀ k : Nat, ¬ (k = 4 ∨ k = 5 ∨ k = 6 ∨ k = 7 ∨ k = 8 ∨ k = 9 ∨ k = 48 ∨ k = 49 ∨ k = 50 ∨ k = 51 ∨ k = 52 ∨ k = 53 ∨ k = 54 ∨ k = 55 ∨ k = 56 ∨ k = 57) → q.1 k = i0 k) ∧ (∀ k : Nat, ¬ (k = 45) → q.2.1 k = l0 k) ∧ (∀ k : Nat, ¬ (k = 28 ∨ k = 29 ∨ k = 30 ∨ k = 32 ∨ k = 33 ∨ k = 34 ∨ k = 35 ∨ k = 36 ∨ k = 37 ∨ k = 38 ∨ k = 39 ∨ k = 40 ∨ k = 41) → q.2.2 k = r0 k)) (fun t => (∀ k : Nat, ¬ (k = 4 ∨ k = 5 ∨ k = 6 ∨ k = 7 ∨ k = 8 ∨ k = 9 ∨ k = 48 ∨ k = 49 ∨ k = 50 ∨ k = 51 ∨ k = 52 ∨ k = 53 ∨ k = 54 ∨ k = 55 ∨ k = 56 ∨ k = 57) → t.1 k = i0 k) ∧ (∀ k : Nat, ¬ (k = 45) → t.2.1 k = l0 k) ∧ (∀ k : Nat, ¬ (k = 28 ∨ k = 29 ∨ k = 30 ∨ k = 32 ∨ k = 33 ∨ k = 34 ∨ k = 35 ∨ k = 36 ∨ k = 37 ∨ k = 38 ∨ k = 39 ∨ k = 40 ∨ k = 41) → t.2.2 k = r0 k)) q)  : ∀ (i0 : Nat → Int32) (l0 : Nat → Nat → Int64) (r0 : Nat → Nat → Int32) (x1 : Int32) (x2 : Int32), f_X13_readOne_82 F i0 l0 r0 x1 x2 = some q → Sum.elim (fun q => (∀ k : Nat, ¬ (k = 4 ∨ k = 5 ∨ k = 6 ∨ k = 7 ∨ k = 8 ∨ k = 9 ∨ k = 48 ∨ k = 49 ∨ k = 50 ∨ k = 51 ∨ k = 52 ∨ k = 53 ∨ k = 54 ∨ k = 55 ∨ k = 56 ∨ k = 57) → q.2.1 k = i0 k) ∧ (∀ k : Nat, ¬ (k = 45) → q.2.2.1 k = l0 k) ∧ (∀ k : Nat, ¬ (k = 28 ∨ k = 29 ∨ k = 30 ∨ k = 32 ∨ k = 33 ∨ k = 34 ∨ k = 35 ∨ k = 36 ∨ k = 37 ∨ k = 38 ∨ k = 39 ∨ k = 40 ∨ k = 41) → q.2.2.2 k = r0 k)) (fun t => (∀ k : Nat, ¬ (k = 4 ∨ k = 5 ∨ k = 6 ∨ k = 7 ∨ k = 8 ∨ k = 9 ∨ k = 48 ∨ k = 49 ∨ k = 50 ∨ k = 51 ∨ k = 52 ∨ k = 53 ∨ k = 54 ∨ k = 55 ∨ k = 56 ∨ k = 57) → t.1 k = i0 k) ∧ (∀ k : Nat, ¬ (k = 45) → t.2.1 k = l0 k) ∧ (∀ k : Nat, ¬ (k = 28 ∨ k = 29 ∨ k = 30 ∨ k = 32 ∨ k = 33 ∨ k = 34 ∨ k = 35 ∨ k = 36 ∨ k = 37 ∨ k = 38 ∨ k = 39 ∨ k = 40 ∨ k = 41) → t.2.2 k = r0 k)) q := by
  intro i0 l0 r0 x1 x2 hf
  rw [f_X13_readOne_82] at hf
  rcases (bt_s hf).symm with ⟨t51, hq51, hf⟩ | ⟨q51, hq51, hf⟩
  · have ft51 := fr_X13_readTest hq51
    obtain rfl := Option.some.inj hf
    exact ⟨fun k hk => (by (try dsimp only); rw [ft51.1 k (by omega), pk_un (by omega)]), fun k _ => rfl, fun k hk => (by (try dsimp only); rw [ft51.2 k (by omega)])⟩
  have fq51 := fr_X13_readTest hq51
  by_cases hc : x1 = 4
  · have hf := ite_t hf hc
    rcases (bt_s hf).symm with ⟨t54, hq54, hf⟩ | ⟨q54, hq54, hf⟩
    · have ft54 := fr_X13_word hq54
      obtain rfl := Option.some.inj hf
      exact ⟨fun k hk => (by (try dsimp only); rw [ft54 k (by omega), fq51.1 k (by omega), pk_un (by omega)]), fun k _ => rfl, fun k hk => (by (try dsimp only); rw [fq51.2 k (by omega)])⟩
    have fq54 := fr_X13_word hq54
    have g55 := fr_X13_readOne_116 hF  _ _ _ _ _ hf
    cases q with
    | inl q => exact ⟨fun k hk => (by (try dsimp only); rw [g55.1 k (by omega), fq54 k (by omega), fq51.1 k (by omega), pk_un (by omega)]), fun k hk => (by (try dsimp only); rw [g55.2.1 k (by omega)]), fun k hk => (by (try dsimp only); rw [g55.2.2 k (by omega), fq51.2 k (by omega)])⟩
    | inr t => exact ⟨fun k hk => (by (try dsimp only); rw [g55.1 k (by omega), fq54 k (by omega), fq51.1 k (by omega), pk_un (by omega)]), fun k hk => (by (try dsimp only); rw [g55.2.1 k (by omega)]), fun k hk => (by (try dsimp only); rw [g55.2.2 k (by omega), fq51.2 k (by omega)])⟩
  · have hf := ite_f hf hc
    rcases (bt_s hf).symm with ⟨t52, hq52, hf⟩ | ⟨q52, hq52, hf⟩
    · have ft52 := fr_X13_word hq52
      obtain rfl := Option.some.inj hf
      exact ⟨fun k hk => (by (try dsimp only); rw [ft52 k (by omega), fq51.1 k (by omega), pk_un (by omega)]), fun k _ => rfl, fun k hk => (by (try dsimp only); rw [fq51.2 k (by omega)])⟩
    have fq52 := fr_X13_word hq52
    have g53 := fr_X13_readOne_116 hF  _ _ _ _ _ hf
    cases q with
    | inl q => exact ⟨fun k hk => (by (try dsimp only); rw [g53.1 k (by omega), fq52 k (by omega), fq51.1 k (by omega), pk_un (by omega)]), fun k hk => (by (try dsimp only); rw [g53.2.1 k (by omega)]), fun k hk => (by (try dsimp only); rw [g53.2.2 k (by omega), fq51.2 k (by omega)])⟩
    | inr t => exact ⟨fun k hk => (by (try dsimp only); rw [g53.1 k (by omega), fq52 k (by omega), fq51.1 k (by omega), pk_un (by omega)]), fun k hk => (by (try dsimp only); rw [g53.2.1 k (by omega)]), fun k hk => (by (try dsimp only); rw [g53.2.2 k (by omega), fq51.2 k (by omega)])⟩
set_option maxRecDepth 100000 in
set_option maxHeartbeats 4000000 in
theorem fr_X13_readOne_203   {q : (Int32 × (Nat → Int32) × (Nat → Nat → Int64) × (Nat → Nat → Int32)) ⊕ ((Nat → Int32) × (Nat → Nat → Int64) × (Nat → Nat → Int32))} {F : (Nat → Int32) → (Nat → Nat → Int32) → (Nat → Nat → Int64) → Option (((Nat → Int32) × (Nat → Nat → Int64) × (Nat → Nat → Int32)) ⊕ ((Nat → Int32) × (Nat → Nat → Int64) × (Nat → Nat → Int32)))} (hF : ∀ {i0 : Nat → Int32} {r0 : Nat → Nat → Int32} {l0 : Nat → Nat → Int64}  {q : ((Nat → Int32) × (Nat → Nat → Int64) × (Nat → Nat → Int32)) ⊕ ((Nat → Int32) × (Nat → Nat → Int64) × (Nat → Nat → Int32))}, F i0 r0 l0 = some q → Sum.elim (fun q => (∀ k : Nat, ¬ (k = 4 ∨ k = 5 ∨ k = 6 ∨ k = 7 ∨ k = 8 ∨ k = 9 ∨ k = 48 ∨ k = 49 ∨ k = 50 ∨ k = 51 ∨ k = 52 ∨ k = 53 ∨ k = 54 ∨ k = 55 ∨ k = 56 ∨ k = 57) → q.1 k = i0 k) ∧ (∀ k : Nat, ¬ (k = 45) → q.2.1 k = l0 k) ∧ (∀ k : Nat, ¬ (k = 28 ∨ k = 29 ∨ k = 30 ∨ k = 32 ∨ k = 33 ∨ k = 34 ∨ k = 35 ∨ k = 36 ∨ k = 37 ∨ k = 38 ∨ k = 39 ∨ k = 40 ∨ k = 41) → q.2.2 k = r0 k)) (fun t => (∀ k : Nat, ¬ (k = 4 ∨ k = 5 ∨ k = 6 ∨ k = 7 ∨ k = 8 ∨ k = 9 ∨ k = 48 ∨ k = 49 ∨ k = 50 ∨ k = 51 ∨ k = 52 ∨ k = 53 ∨ k = 54 ∨ k = 55 ∨ k = 56 ∨ k = 57) → t.1 k = i0 k) ∧ (∀ k : Nat, ¬ (k = 45) → t.2.1 k = l0 k) ∧ (∀ k : Nat, ¬ (k = 28 ∨ k = 29 ∨ k = 30 ∨ k = 32 ∨ k = 33 ∨ k = 34 ∨ k = 35 ∨ k = 36 ∨ k = 37 ∨ k = 38 ∨ k = 39 ∨ k = 40 ∨ k = 41) → t.2.2 k = r0 k)) q)  : ∀ (i0 : Nat → Int32) (l0 : Nat → Nat → Int64) (r0 : Nat → Nat → Int32) (x2 : Int32), f_X13_readOne_203 F i0 l0 r0 x2 = some q → Sum.elim (fun q => (∀ k : Nat, ¬ (k = 4 ∨ k = 5 ∨ k = 6 ∨ k = 7 ∨ k = 8 ∨ k = 9 ∨ k = 48 ∨ k = 49 ∨ k = 50 ∨ k = 51 ∨ k = 52 ∨ k = 53 ∨ k = 54 ∨ k = 55 ∨ k = 56 ∨ k = 57) → q.2.1 k = i0 k) ∧ (∀ k : Nat, ¬ (k = 45) → q.2.2.1 k = l0 k) ∧ (∀ k : Nat, ¬ (k = 28 ∨ k = 29 ∨ k = 30 ∨ k = 32 ∨ k = 33 ∨ k = 34 ∨ k = 35 ∨ k = 36 ∨ k = 37 ∨ k = 38 ∨ k = 39 ∨ k = 40 ∨ k = 41) → q.2.2.2 k = r0 k)) (fun t => (∀ k : Nat, ¬ (k = 4 ∨ k = 5 ∨ k = 6 ∨ k = 7 ∨ k = 8 ∨ k = 9 ∨ k = 48 ∨ k = 49 ∨ k = 50 ∨ k = 51 ∨ k = 52 ∨ k = 53 ∨ k = 54 ∨ k = 55 ∨ k = 56 ∨ k = 57) → t.1 k = i0 k) ∧ (∀ k : Nat, ¬ (k = 45) → t.2.1 k = l0 k) ∧ (∀ k : Nat, ¬ (k = 28 ∨ k = 29 ∨ k = 30 ∨ k = 32 ∨ k = 33 ∨ k = 34 ∨ k = 35 ∨ k = 36 ∨ k = 37 ∨ k = 38 ∨ k = 39 ∨ k = 40 ∨ k = 41) → t.2.2 k = r0 k)) q := by
  intro i0 l0 r0 x2 hf
  rw [f_X13_readOne_203] at hf
  rcases (bt_s hf).symm with ⟨t56, hq56, hf⟩ | ⟨q56, hq56, hf⟩
  · have ft56 := fr_X13_nameAtHand hq56
    obtain rfl := Option.some.inj hf
    exact ⟨fun k hk => (by (try dsimp only); rw [ft56 k (by omega)]), fun k _ => rfl, fun k _ => rfl⟩
  have fq56 := fr_X13_nameAtHand hq56
  have hf := ck_2 hf
  obtain ⟨q57, hq57, hf⟩ := bd_s hf
  have fq57 := fr_X13_scan hq57
  obtain rfl := Option.some.inj hf
  exact ⟨fun k hk => (by (try dsimp only); rw [fq57 k (by omega), fq56 k (by omega)]), fun k hk => (by (try dsimp only); rw [va_up_ne _ _ (by omega)]), fun k _ => rfl⟩
set_option maxRecDepth 100000 in
set_option maxHeartbeats 4000000 in
theorem fr_X13_readOne_240   {q : (Int32 × (Nat → Int32) × (Nat → Nat → Int64) × (Nat → Nat → Int32)) ⊕ ((Nat → Int32) × (Nat → Nat → Int64) × (Nat → Nat → Int32))} {F : (Nat → Int32) → (Nat → Nat → Int32) → (Nat → Nat → Int64) → Option (((Nat → Int32) × (Nat → Nat → Int64) × (Nat → Nat → Int32)) ⊕ ((Nat → Int32) × (Nat → Nat → Int64) × (Nat → Nat → Int32)))} (hF : ∀ {i0 : Nat → Int32} {r0 : Nat → Nat → Int32} {l0 : Nat → Nat → Int64}  {q : ((Nat → Int32) × (Nat → Nat → Int64) × (Nat → Nat → Int32)) ⊕ ((Nat → Int32) × (Nat → Nat → Int64) × (Nat → Nat → Int32))}, F i0 r0 l0 = some q → Sum.elim (fun q => (∀ k : Nat, ¬ (k = 4 ∨ k = 5 ∨ k = 6 ∨ k = 7 ∨ k = 8 ∨ k = 9 ∨ k = 48 ∨ k = 49 ∨ k = 50 ∨ k = 51 ∨ k = 52 ∨ k = 53 ∨ k = 54 ∨ k = 55 ∨ k = 56 ∨ k = 57) → q.1 k = i0 k) ∧ (∀ k : Nat, ¬ (k = 45) → q.2.1 k = l0 k) ∧ (∀ k : Nat, ¬ (k = 28 ∨ k = 29 ∨ k = 30 ∨ k = 32 ∨ k = 33 ∨ k = 34 ∨ k = 35 ∨ k = 36 ∨ k = 37 ∨ k = 38 ∨ k = 39 ∨ k = 40 ∨ k = 41) → q.2.2 k = r0 k)) (fun t => (∀ k : Nat, ¬ (k = 4 ∨ k = 5 ∨ k = 6 ∨ k = 7 ∨ k = 8 ∨ k = 9 ∨ k = 48 ∨ k = 49 ∨ k = 50 ∨ k = 51 ∨ k = 52 ∨ k = 53 ∨ k = 54 ∨ k = 55 ∨ k = 56 ∨ k = 57) → t.1 k = i0 k) ∧ (∀ k : Nat, ¬ (k = 45) → t.2.1 k = l0 k) ∧ (∀ k : Nat, ¬ (k = 28 ∨ k = 29 ∨ k = 30 ∨ k = 32 ∨ k = 33 ∨ k = 34 ∨ k = 35 ∨ k = 36 ∨ k = 37 ∨ k = 38 ∨ k = 39 ∨ k = 40 ∨ k = 41) → t.2.2 k = r0 k)) q)  : ∀ (i0 : Nat → Int32) (l0 : Nat → Nat → Int64) (r0 : Nat → Nat → Int32) (x1 : Int32) (x2 : Int32), f_X13_readOne_240 F i0 l0 r0 x1 x2 = some q → Sum.elim (fun q => (∀ k : Nat, ¬ (k = 4 ∨ k = 5 ∨ k = 6 ∨ k = 7 ∨ k = 8 ∨ k = 9 ∨ k = 48 ∨ k = 49 ∨ k = 50 ∨ k = 51 ∨ k = 52 ∨ k = 53 ∨ k = 54 ∨ k = 55 ∨ k = 56 ∨ k = 57) → q.2.1 k = i0 k) ∧ (∀ k : Nat, ¬ (k = 45) → q.2.2.1 k = l0 k) ∧ (∀ k : Nat, ¬ (k = 28 ∨ k = 29 ∨ k = 30 ∨ k = 32 ∨ k = 33 ∨ k = 34 ∨ k = 35 ∨ k = 36 ∨ k = 37 ∨ k = 38 ∨ k = 39 ∨ k = 40 ∨ k = 41) → q.2.2.2 k = r0 k)) (fun t => (∀ k : Nat, ¬ (k = 4 ∨ k = 5 ∨ k = 6 ∨ k = 7 ∨ k = 8 ∨ k = 9 ∨ k = 48 ∨ k = 49 ∨ k = 50 ∨ k = 51 ∨ k = 52 ∨ k = 53 ∨ k = 54 ∨ k = 55 ∨ k = 56 ∨ k = 57) → t.1 k = i0 k) ∧ (∀ k : Nat, ¬ (k = 45) → t.2.1 k = l0 k) ∧ (∀ k : Nat, ¬ (k = 28 ∨ k = 29 ∨ k = 30 ∨ k = 32 ∨ k = 33 ∨ k = 34 ∨ k = 35 ∨ k = 36 ∨ k = 37 ∨ k = 38 ∨ k = 39 ∨ k = 40 ∨ k = 41) → t.2.2 k = r0 k)) q := by
  intro i0 l0 r0 x1 x2 hf
  rw [f_X13_readOne_240] at hf
  have hf := ck_2 hf
  by_cases hc : x1 = 3
  · have hf := ite_t hf hc
    rcases (bt_s hf).symm with ⟨t59, hq59, hf⟩ | ⟨q59, hq59, hf⟩
    · have ft59 := fr_X13_readOther hq59
      obtain rfl := Option.some.inj hf
      exact ⟨fun k hk => (by (try dsimp only); rw [ft59.1 k (by omega)]), fun k _ => rfl, fun k hk => (by (try dsimp only); rw [ft59.2 k (by omega), va_up_ne _ _ (by omega)])⟩
    have fq59 := fr_X13_readOther hq59
    obtain rfl := Option.some.inj hf
    exact ⟨fun k hk => (by (try dsimp only); rw [fq59.1 k (by omega)]), fun k _ => rfl, fun k hk => (by (try dsimp only); rw [fq59.2 k (by omega), va_up_ne _ _ (by omega)])⟩
  · have hf := ite_f hf hc
    rcases (bt_s hf).symm with ⟨t58, hq58, hf⟩ | ⟨q58, hq58, hf⟩
    · have ft58 := fr_X13_readSum hq58
      obtain rfl := Option.some.inj hf
      exact ⟨fun k hk => (by (try dsimp only); rw [ft58.1 k (by omega)]), fun k _ => rfl, fun k hk => (by (try dsimp only); rw [ft58.2 k (by omega), va_up_ne _ _ (by omega)])⟩
    have fq58 := fr_X13_readSum hq58
    obtain rfl := Option.some.inj hf
    exact ⟨fun k hk => (by (try dsimp only); rw [fq58.1 k (by omega)]), fun k _ => rfl, fun k hk => (by (try dsimp only); rw [fq58.2 k (by omega), va_up_ne _ _ (by omega)])⟩
set_option maxRecDepth 100000 in
set_option maxHeartbeats 4000000 in
theorem fr_X13_readOne_39   {q : (Int32 × (Nat → Int32) × (Nat → Nat → Int64) × (Nat → Nat → Int32)) ⊕ ((Nat → Int32) × (Nat → Nat → Int64) × (Nat → Nat → Int32))} {F : (Nat → Int32) → (Nat → Nat → Int32) → (Nat → Nat → Int64) → Option (((Nat → Int32) × (Nat → Nat → Int64) × (Nat → Nat → Int32)) ⊕ ((Nat → Int32) × (Nat → Nat → Int64) × (Nat → Nat → Int32)))} (hF : ∀ {i0 : Nat → Int32} {r0 : Nat → Nat → Int32} {l0 : Nat → Nat → Int64}  {q : ((Nat → Int32) × (Nat → Nat → Int64) × (Nat → Nat → Int32)) ⊕ ((Nat → Int32) × (Nat → Nat → Int64) × (Nat → Nat → Int32))}, F i0 r0 l0 = some q → Sum.elim (fun q => (∀ k : Nat, ¬ (k = 4 ∨ k = 5 ∨ k = 6 ∨ k = 7 ∨ k = 8 ∨ k = 9 ∨ k = 48 ∨ k = 49 ∨ k = 50 ∨ k = 51 ∨ k = 52 ∨ k = 53 ∨ k = 54 ∨ k = 55 ∨ k = 56 ∨ k = 57) → q.1 k = i0 k) ∧ (∀ k : Nat, ¬ (k = 45) → q.2.1 k = l0 k) ∧ (∀ k : Nat, ¬ (k = 28 ∨ k = 29 ∨ k = 30 ∨ k = 32 ∨ k = 33 ∨ k = 34 ∨ k = 35 ∨ k = 36 ∨ k = 37 ∨ k = 38 ∨ k = 39 ∨ k = 40 ∨ k = 41) → q.2.2 k = r0 k)) (fun t => (∀ k : Nat, ¬ (k = 4 ∨ k = 5 ∨ k = 6 ∨ k = 7 ∨ k = 8 ∨ k = 9 ∨ k = 48 ∨ k = 49 ∨ k = 50 ∨ k = 51 ∨ k = 52 ∨ k = 53 ∨ k = 54 ∨ k = 55 ∨ k = 56 ∨ k = 57) → t.1 k = i0 k) ∧ (∀ k : Nat, ¬ (k = 45) → t.2.1 k = l0 k) ∧ (∀ k : Nat, ¬ (k = 28 ∨ k = 29 ∨ k = 30 ∨ k = 32 ∨ k = 33 ∨ k = 34 ∨ k = 35 ∨ k = 36 ∨ k = 37 ∨ k = 38 ∨ k = 39 ∨ k = 40 ∨ k = 41) → t.2.2 k = r0 k)) q)  : ∀ (i0 : Nat → Int32) (l0 : Nat → Nat → Int64) (r0 : Nat → Nat → Int32) (x1 : Int32) (y0 : Int32), f_X13_readOne_39 F i0 l0 r0 x1 y0 = some q → Sum.elim (fun q => (∀ k : Nat, ¬ (k = 4 ∨ k = 5 ∨ k = 6 ∨ k = 7 ∨ k = 8 ∨ k = 9 ∨ k = 48 ∨ k = 49 ∨ k = 50 ∨ k = 51 ∨ k = 52 ∨ k = 53 ∨ k = 54 ∨ k = 55 ∨ k = 56 ∨ k = 57) → q.2.1 k = i0 k) ∧ (∀ k : Nat, ¬ (k = 45) → q.2.2.1 k = l0 k) ∧ (∀ k : Nat, ¬ (k = 28 ∨ k = 29 ∨ k = 30 ∨ k = 32 ∨ k = 33 ∨ k = 34 ∨ k = 35 ∨ k = 36 ∨ k = 37 ∨ k = 38 ∨ k = 39 ∨ k = 40 ∨ k = 41) → q.2.2.2 k = r0 k)) (fun t => (∀ k : Nat, ¬ (k = 4 ∨ k = 5 ∨ k = 6 ∨ k = 7 ∨ k = 8 ∨ k = 9 ∨ k = 48 ∨ k = 49 ∨ k = 50 ∨ k = 51 ∨ k = 52 ∨ k = 53 ∨ k = 54 ∨ k = 55 ∨ k = 56 ∨ k = 57) → t.1 k = i0 k) ∧ (∀ k : Nat, ¬ (k = 45) → t.2.1 k = l0 k) ∧ (∀ k : Nat, ¬ (k = 28 ∨ k = 29 ∨ k = 30 ∨ k = 32 ∨ k = 33 ∨ k = 34 ∨ k = 35 ∨ k = 36 ∨ k = 37 ∨ k = 38 ∨ k = 39 ∨ k = 40 ∨ k = 41) → t.2.2 k = r0 k)) q := by
  intro i0 l0 r0 x1 y0 hf
  rw [f_X13_readOne_39] at hf
  rcases (bt_s hf).symm with ⟨t60, hq60, hf⟩ | ⟨q60, hq60, hf⟩
  · have ft60 := fr_X13_need hq60
    obtain rfl := Option.some.inj hf
    exact ⟨fun k hk => (by (try dsimp only); rw [ft60 k (by omega)]), fun k _ => rfl, fun k _ => rfl⟩
  have fq60 := fr_X13_need hq60
  have hf := ck_2 hf
  obtain ⟨q61, hq61, hf⟩ := bd_s hf
  have fq61 := fr_X13_scan hq61
  by_cases hc : x1 = 4
  · have hf := ite_t hf hc
    have g62 := fr_X13_readOne_82 hF  _ _ _ _ _ hf
    cases q with
    | inl q => exact ⟨fun k hk => (by (try dsimp only); rw [g62.1 k (by omega), fq61 k (by omega), pk_un (by omega), fq60 k (by omega)]), fun k hk => (by (try dsimp only); rw [g62.2.1 k (by omega)]), fun k hk => (by (try dsimp only); rw [g62.2.2 k (by omega), va_up_ne _ _ (by omega)])⟩
    | inr t => exact ⟨fun k hk => (by (try dsimp only); rw [g62.1 k (by omega), fq61 k (by omega), pk_un (by omega), fq60 k (by omega)]), fun k hk => (by (try dsimp only); rw [g62.2.1 k (by omega)]), fun k hk => (by (try dsimp only); rw [g62.2.2 k (by omega), va_up_ne _ _ (by omega)])⟩
  · have hf := ite_f hf hc
    by_cases hc : x1 = 5
    · have hf := ite_t hf hc
      have g67 := fr_X13_readOne_82 hF  _ _ _ _ _ hf
      cases q with
      | inl q => exact ⟨fun k hk => (by (try dsimp only); rw [g67.1 k (by omega), fq61 k (by omega), pk_un (by omega), fq60 k (by omega)]), fun k hk => (by (try dsimp only); rw [g67.2.1 k (by omega)]), fun k hk => (by (try dsimp only); rw [g67.2.2 k (by omega), va_up_ne _ _ (by omega)])⟩
      | inr t => exact ⟨fun k hk => (by (try dsimp only); rw [g67.1 k (by omega), fq61 k (by omega), pk_un (by omega), fq60 k (by omega)]), fun k hk => (by (try dsimp only); rw [g67.2.1 k (by omega)]), fun k hk => (by (try dsimp only); rw [g67.2.2 k (by omega), va_up_ne _ _ (by omega)])⟩
    · have hf := ite_f hf hc
      by_cases hc : x1 = 6
      · have hf := ite_t hf hc
        have g63 := fr_X13_readOne_203 hF  _ _ _ _ hf
        cases q with
        | inl q => exact ⟨fun k hk => (by (try dsimp only); rw [g63.1 k (by omega), fq61 k (by omega), pk_un (by omega), fq60 k (by omega)]), fun k hk => (by (try dsimp only); rw [g63.2.1 k (by omega)]), fun k hk => (by (try dsimp only); rw [g63.2.2 k (by omega), va_up_ne _ _ (by omega)])⟩
        | inr t => exact ⟨fun k hk => (by (try dsimp only); rw [g63.1 k (by omega), fq61 k (by omega), pk_un (by omega), fq60 k (by omega)]), fun k hk => (by (try dsimp only); rw [g63.2.1 k (by omega)]), fun k hk => (by (try dsimp only); rw [g63.2.2 k (by omega), va_up_ne _ _ (by omega)])⟩
      · have hf := ite_f hf hc
        by_cases hc : x1 = 7
        · have hf := ite_t hf hc
          have g66 := fr_X13_readOne_203 hF  _ _ _ _ hf
          cases q with
          | inl q => exact ⟨fun k hk => (by (try dsimp only); rw [g66.1 k (by omega), fq61 k (by omega), pk_un (by omega), fq60 k (by omega)]), fun k hk => (by (try dsimp only); rw [g66.2.1 k (by omega)]), fun k hk => (by (try dsimp only); rw [g66.2.2 k (by omega), va_up_ne _ _ (by omega)])⟩
          | inr t => exact ⟨fun k hk => (by (try dsimp only); rw [g66.1 k (by omega), fq61 k (by omega), pk_un (by omega), fq60 k (by omega)]), fun k hk => (by (try dsimp only); rw [g66.2.1 k (by omega)]), fun k hk => (by (try dsimp only); rw [g66.2.2 k (by omega), va_up_ne _ _ (by omega)])⟩
        · have hf := ite_f hf hc
          rcases (bt_s hf).symm with ⟨t64, hq64, hf⟩ | ⟨q64, hq64, hf⟩
          · have ft64 := fr_X13_readVar hq64
            obtain rfl := Option.some.inj hf
            exact ⟨fun k hk => (by (try dsimp only); rw [ft64 k (by omega), fq61 k (by omega), pk_un (by omega), fq60 k (by omega)]), fun k _ => rfl, fun k hk => (by (try dsimp only); rw [va_up_ne _ _ (by omega)])⟩
          have fq64 := fr_X13_readVar hq64
          have hf := ck_2 hf
          have g65 := fr_X13_readOne_240 hF  _ _ _ _ _ hf
          cases q with
          | inl q => exact ⟨fun k hk => (by (try dsimp only); rw [g65.1 k (by omega), fq64 k (by omega), fq61 k (by omega), pk_un (by omega), fq60 k (by omega)]), fun k hk => (by (try dsimp only); rw [g65.2.1 k (by omega)]), fun k hk => (by (try dsimp only); rw [g65.2.2 k (by omega), va_up_ne _ _ (by omega), va_up_ne _ _ (by omega)])⟩
          | inr t => exact ⟨fun k hk => (by (try dsimp only); rw [g65.1 k (by omega), fq64 k (by omega), fq61 k (by omega), pk_un (by omega), fq60 k (by omega)]), fun k hk => (by (try dsimp only); rw [g65.2.1 k (by omega)]), fun k hk => (by (try dsimp only); rw [g65.2.2 k (by omega), va_up_ne _ _ (by omega), va_up_ne _ _ (by omega)])⟩
set_option maxRecDepth 100000 in
set_option maxHeartbeats 4000000 in
theorem fr_X13_readOne_34   {q : (Int32 × (Nat → Int32) × (Nat → Nat → Int64) × (Nat → Nat → Int32)) ⊕ ((Nat → Int32) × (Nat → Nat → Int64) × (Nat → Nat → Int32))} {F : (Nat → Int32) → (Nat → Nat → Int32) → (Nat → Nat → Int64) → Option (((Nat → Int32) × (Nat → Nat → Int64) × (Nat → Nat → Int32)) ⊕ ((Nat → Int32) × (Nat → Nat → Int64) × (Nat → Nat → Int32)))} (hF : ∀ {i0 : Nat → Int32} {r0 : Nat → Nat → Int32} {l0 : Nat → Nat → Int64}  {q : ((Nat → Int32) × (Nat → Nat → Int64) × (Nat → Nat → Int32)) ⊕ ((Nat → Int32) × (Nat → Nat → Int64) × (Nat → Nat → Int32))}, F i0 r0 l0 = some q → Sum.elim (fun q => (∀ k : Nat, ¬ (k = 4 ∨ k = 5 ∨ k = 6 ∨ k = 7 ∨ k = 8 ∨ k = 9 ∨ k = 48 ∨ k = 49 ∨ k = 50 ∨ k = 51 ∨ k = 52 ∨ k = 53 ∨ k = 54 ∨ k = 55 ∨ k = 56 ∨ k = 57) → q.1 k = i0 k) ∧ (∀ k : Nat, ¬ (k = 45) → q.2.1 k = l0 k) ∧ (∀ k : Nat, ¬ (k = 28 ∨ k = 29 ∨ k = 30 ∨ k = 32 ∨ k = 33 ∨ k = 34 ∨ k = 35 ∨ k = 36 ∨ k = 37 ∨ k = 38 ∨ k = 39 ∨ k = 40 ∨ k = 41) → q.2.2 k = r0 k)) (fun t => (∀ k : Nat, ¬ (k = 4 ∨ k = 5 ∨ k = 6 ∨ k = 7 ∨ k = 8 ∨ k = 9 ∨ k = 48 ∨ k = 49 ∨ k = 50 ∨ k = 51 ∨ k = 52 ∨ k = 53 ∨ k = 54 ∨ k = 55 ∨ k = 56 ∨ k = 57) → t.1 k = i0 k) ∧ (∀ k : Nat, ¬ (k = 45) → t.2.1 k = l0 k) ∧ (∀ k : Nat, ¬ (k = 28 ∨ k = 29 ∨ k = 30 ∨ k = 32 ∨ k = 33 ∨ k = 34 ∨ k = 35 ∨ k = 36 ∨ k = 37 ∨ k = 38 ∨ k = 39 ∨ k = 40 ∨ k = 41) → t.2.2 k = r0 k)) q)  : ∀ (i0 : Nat → Int32) (l0 : Nat → Nat → Int64) (r0 : Nat → Nat → Int32) (x1 : Int32), f_X13_readOne_34 F i0 l0 r0 x1 = some q → Sum.elim (fun q => (∀ k : Nat, ¬ (k = 4 ∨ k = 5 ∨ k = 6 ∨ k = 7 ∨ k = 8 ∨ k = 9 ∨ k = 48 ∨ k = 49 ∨ k = 50 ∨ k = 51 ∨ k = 52 ∨ k = 53 ∨ k = 54 ∨ k = 55 ∨ k = 56 ∨ k = 57) → q.2.1 k = i0 k) ∧ (∀ k : Nat, ¬ (k = 45) → q.2.2.1 k = l0 k) ∧ (∀ k : Nat, ¬ (k = 28 ∨ k = 29 ∨ k = 30 ∨ k = 32 ∨ k = 33 ∨ k = 34 ∨ k = 35 ∨ k = 36 ∨ k = 37 ∨ k = 38 ∨ k = 39 ∨ k = 40 ∨ k = 41) → q.2.2.2 k = r0 k)) (fun t => (∀ k : Nat, ¬ (k = 4 ∨ k = 5 ∨ k = 6 ∨ k = 7 ∨ k = 8 ∨ k = 9 ∨ k = 48 ∨ k = 49 ∨ k = 50 ∨ k = 51 ∨ k = 52 ∨ k = 53 ∨ k = 54 ∨ k = 55 ∨ k = 56 ∨ k = 57) → t.1 k = i0 k) ∧ (∀ k : Nat, ¬ (k = 45) → t.2.1 k = l0 k) ∧ (∀ k : Nat, ¬ (k = 28 ∨ k = 29 ∨ k = 30 ∨ k = 32 ∨ k = 33 ∨ k = 34 ∨ k = 35 ∨ k = 36 ∨ k = 37 ∨ k = 38 ∨ k = 39 ∨ k = 40 ∨ k = 41) → t.2.2 k = r0 k)) q := by
  intro i0 l0 r0 x1 hf
  rw [f_X13_readOne_34] at hf
  have g68 := fr_X13_readOne_39 hF  _ _ _ _ _ hf
  cases q with
  | inl q => exact ⟨fun k hk => (by (try dsimp only); rw [g68.1 k (by omega)]), fun k hk => (by (try dsimp only); rw [g68.2.1 k (by omega)]), fun k hk => (by (try dsimp only); rw [g68.2.2 k (by omega)])⟩
  | inr t => exact ⟨fun k hk => (by (try dsimp only); rw [g68.1 k (by omega)]), fun k hk => (by (try dsimp only); rw [g68.2.1 k (by omega)]), fun k hk => (by (try dsimp only); rw [g68.2.2 k (by omega)])⟩
set_option maxRecDepth 100000 in
set_option maxHeartbeats 4000000 in
theorem fr_X13_readOne_38   {q : (Int32 × (Nat → Int32) × (Nat → Nat → Int64) × (Nat → Nat → Int32)) ⊕ ((Nat → Int32) × (Nat → Nat → Int64) × (Nat → Nat → Int32))} {F : (Nat → Int32) → (Nat → Nat → Int32) → (Nat → Nat → Int64) → Option (((Nat → Int32) × (Nat → Nat → Int64) × (Nat → Nat → Int32)) ⊕ ((Nat → Int32) × (Nat → Nat → Int64) × (Nat → Nat → Int32)))} (hF : ∀ {i0 : Nat → Int32} {r0 : Nat → Nat → Int32} {l0 : Nat → Nat → Int64}  {q : ((Nat → Int32) × (Nat → Nat → Int64) × (Nat → Nat → Int32)) ⊕ ((Nat → Int32) × (Nat → Nat → Int64) × (Nat → Nat → Int32))}, F i0 r0 l0 = some q → Sum.elim (fun q => (∀ k : Nat, ¬ (k = 4 ∨ k = 5 ∨ k = 6 ∨ k = 7 ∨ k = 8 ∨ k = 9 ∨ k = 48 ∨ k = 49 ∨ k = 50 ∨ k = 51 ∨ k = 52 ∨ k = 53 ∨ k = 54 ∨ k = 55 ∨ k = 56 ∨ k = 57) → q.1 k = i0 k) ∧ (∀ k : Nat, ¬ (k = 45) → q.2.1 k = l0 k) ∧ (∀ k : Nat, ¬ (k = 28 ∨ k = 29 ∨ k = 30 ∨ k = 32 ∨ k = 33 ∨ k = 34 ∨ k = 35 ∨ k = 36 ∨ k = 37 ∨ k = 38 ∨ k = 39 ∨ k = 40 ∨ k = 41) → q.2.2 k = r0 k)) (fun t => (∀ k : Nat, ¬ (k = 4 ∨ k = 5 ∨ k = 6 ∨ k = 7 ∨ k = 8 ∨ k = 9 ∨ k = 48 ∨ k = 49 ∨ k = 50 ∨ k = 51 ∨ k = 52 ∨ k = 53 ∨ k = 54 ∨ k = 55 ∨ k = 56 ∨ k = 57) → t.1 k = i0 k) ∧ (∀ k : Nat, ¬ (k = 45) → t.2.1 k = l0 k) ∧ (∀ k : Nat, ¬ (k = 28 ∨ k = 29 ∨ k = 30 ∨ k = 32 ∨ k = 33 ∨ k = 34 ∨ k = 35 ∨ k = 36 ∨ k = 37 ∨ k = 38 ∨ k = 39 ∨ k = 40 ∨ k = 41) → t.2.2 k = r0 k)) q)  : ∀ (i0 : Nat → Int32) (l0 : Nat → Nat → Int64) (r0 : Nat → Nat → Int32) (x1 : Int32), f_X13_readOne_38 F i0 l0 r0 x1 = some q → Sum.elim (fun q => (∀ k : Nat, ¬ (k = 4 ∨ k = 5 ∨ k = 6 ∨ k = 7 ∨ k = 8 ∨ k = 9 ∨ k = 48 ∨ k = 49 ∨ k = 50 ∨ k = 51 ∨ k = 52 ∨ k = 53 ∨ k = 54 ∨ k = 55 ∨ k = 56 ∨ k = 57) → q.2.1 k = i0 k) ∧ (∀ k : Nat, ¬ (k = 45) → q.2.2.1 k = l0 k) ∧ (∀ k : Nat, ¬ (k = 28 ∨ k = 29 ∨ k = 30 ∨ k = 32 ∨ k = 33 ∨ k = 34 ∨ k = 35 ∨ k = 36 ∨ k = 37 ∨ k = 38 ∨ k = 39 ∨ k = 40 ∨ k = 41) → q.2.2.2 k = r0 k)) (fun t => (∀ k : Nat, ¬ (k = 4 ∨ k = 5 ∨ k = 6 ∨ k = 7 ∨ k = 8 ∨ k = 9 ∨ k = 48 ∨ k = 49 ∨ k = 50 ∨ k = 51 ∨ k = 52 ∨ k = 53 ∨ k = 54 ∨ k = 55 ∨ k = 56 ∨ k = 57) → t.1 k = i0 k) ∧ (∀ k : Nat, ¬ (k = 45) → t.2.1 k = l0 k) ∧ (∀ k : Nat, ¬ (k = 28 ∨ k = 29 ∨ k = 30 ∨ k = 32 ∨ k = 33 ∨ k = 34 ∨ k = 35 ∨ k = 36 ∨ k = 37 ∨ k = 38 ∨ k = 39 ∨ k = 40 ∨ k = 41) → t.2.2 k = r0 k)) q := by
  intro i0 l0 r0 x1 hf
  rw [f_X13_readOne_38] at hf
  have g69 := fr_X13_readOne_39 hF  _ _ _ _ _ hf
  cases q with
  | inl q => exact ⟨fun k hk => (by (try dsimp only); rw [g69.1 k (by omega)]), fun k hk => (by (try dsimp only); rw [g69.2.1 k (by omega)]), fun k hk => (by (try dsimp only); rw [g69.2.2 k (by omega)])⟩
  | inr t => exact ⟨fun k hk => (by (try dsimp only); rw [g69.1 k (by omega)]), fun k hk => (by (try dsimp only); rw [g69.2.1 k (by omega)]), fun k hk => (by (try dsimp only); rw [g69.2.2 k (by omega)])⟩
set_option maxRecDepth 100000 in
set_option maxHeartbeats 4000000 in
theorem fr_X13_readOne_25   {q : (Int32 × (Nat → Int32) × (Nat → Nat → Int64) × (Nat → Nat → Int32)) ⊕ ((Nat → Int32) × (Nat → Nat → Int64) × (Nat → Nat → Int32))} {F : (Nat → Int32) → (Nat → Nat → Int32) → (Nat → Nat → Int64) → Option (((Nat → Int32) × (Nat → Nat → Int64) × (Nat → Nat → Int32)) ⊕ ((Nat → Int32) × (Nat → Nat → Int64) × (Nat → Nat → Int32)))} (hF : ∀ {i0 : Nat → Int32} {r0 : Nat → Nat → Int32} {l0 : Nat → Nat → Int64}  {q : ((Nat → Int32) × (Nat → Nat → Int64) × (Nat → Nat → Int32)) ⊕ ((Nat → Int32) × (Nat → Nat → Int64) × (Nat → Nat → Int32))}, F i0 r0 l0 = some q → Sum.elim (fun q => (∀ k : Nat, ¬ (k = 4 ∨ k = 5 ∨ k = 6 ∨ k = 7 ∨ k = 8 ∨ k = 9 ∨ k = 48 ∨ k = 49 ∨ k = 50 ∨ k = 51 ∨ k = 52 ∨ k = 53 ∨ k = 54 ∨ k = 55 ∨ k = 56 ∨ k = 57) → q.1 k = i0 k) ∧ (∀ k : Nat, ¬ (k = 45) → q.2.1 k = l0 k) ∧ (∀ k : Nat, ¬ (k = 28 ∨ k = 29 ∨ k = 30 ∨ k = 32 ∨ k = 33 ∨ k = 34 ∨ k = 35 ∨ k = 36 ∨ k = 37 ∨ k = 38 ∨ k = 39 ∨ k = 40 ∨ k = 41) → q.2.2 k = r0 k)) (fun t => (∀ k : Nat, ¬ (k = 4 ∨ k = 5 ∨ k = 6 ∨ k = 7 ∨ k = 8 ∨ k = 9 ∨ k = 48 ∨ k = 49 ∨ k = 50 ∨ k = 51 ∨ k = 52 ∨ k = 53 ∨ k = 54 ∨ k = 55 ∨ k = 56 ∨ k = 57) → t.1 k = i0 k) ∧ (∀ k : Nat, ¬ (k = 45) → t.2.1 k = l0 k) ∧ (∀ k : Nat, ¬ (k = 28 ∨ k = 29 ∨ k = 30 ∨ k = 32 ∨ k = 33 ∨ k = 34 ∨ k = 35 ∨ k = 36 ∨ k = 37 ∨ k = 38 ∨ k = 39 ∨ k = 40 ∨ k = 41) → t.2.2 k = r0 k)) q)  : ∀ (i0 : Nat → Int32) (l0 : Nat → Nat → Int64) (r0 : Nat → Nat → Int32) (x1 : Int32), f_X13_readOne_25 F i0 l0 r0 x1 = some q → Sum.elim (fun q => (∀ k : Nat, ¬ (k = 4 ∨ k = 5 ∨ k = 6 ∨ k = 7 ∨ k = 8 ∨ k = 9 ∨ k = 48 ∨ k = 49 ∨ k = 50 ∨ k = 51 ∨ k = 52 ∨ k = 53 ∨ k = 54 ∨ k = 55 ∨ k = 56 ∨ k = 57) → q.2.1 k = i0 k) ∧ (∀ k : Nat, ¬ (k = 45) → q.2.2.1 k = l0 k) ∧ (∀ k : Nat, ¬ (k = 28 ∨ k = 29 ∨ k = 30 ∨ k = 32 ∨ k = 33 ∨ k = 34 ∨ k = 35 ∨ k = 36 ∨ k = 37 ∨ k = 38 ∨ k = 39 ∨ k = 40 ∨ k = 41) → q.2.2.2 k = r0 k)) (fun t => (∀ k : Nat, ¬ (k = 4 ∨ k = 5 ∨ k = 6 ∨ k = 7 ∨ k = 8 ∨ k = 9 ∨ k = 48 ∨ k = 49 ∨ k = 50 ∨ k = 51 ∨ k = 52 ∨ k = 53 ∨ k = 54 ∨ k = 55 ∨ k = 56 ∨ k = 57) → t.1 k = i0 k) ∧ (∀ k : Nat, ¬ (k = 45) → t.2.1 k = l0 k) ∧ (∀ k : Nat, ¬ (k = 28 ∨ k = 29 ∨ k = 30 ∨ k = 32 ∨ k = 33 ∨ k = 34 ∨ k = 35 ∨ k = 36 ∨ k = 37 ∨ k = 38 ∨ k = 39 ∨ k = 40 ∨ k = 41) → t.2.2 k = r0 k)) q := by
  intro i0 l0 r0 x1 hf
  rw [f_X13_readOne_25] at hf
  by_cases hc : 6 ≤ (i0 50)
  · have hf := ite_t hf hc
    have g70 := fr_X13_readOne_38 hF  _ _ _ _ hf
    cases q with
    | inl q => exact ⟨fun k hk => (by (try dsimp only); rw [g70.1 k (by omega)]), fun k hk => (by (try dsimp only); rw [g70.2.1 k (by omega)]), fun k hk => (by (try dsimp only); rw [g70.2.2 k (by omega)])⟩
    | inr t => exact ⟨fun k hk => (by (try dsimp only); rw [g70.1 k (by omega)]), fun k hk => (by (try dsimp only); rw [g70.2.1 k (by omega)]), fun k hk => (by (try dsimp only); rw [g70.2.2 k (by omega)])⟩
  · have hf := ite_f hf hc
    have g71 := fr_X13_readOne_34 hF  _ _ _ _ hf
    cases q with
    | inl q => exact ⟨fun k hk => (by (try dsimp only); rw [g71.1 k (by omega)]), fun k hk => (by (try dsimp only); rw [g71.2.1 k (by omega)]), fun k hk => (by (try dsimp only); rw [g71.2.2 k (by omega)])⟩
    | inr t => exact ⟨fun k hk => (by (try dsimp only); rw [g71.1 k (by omega)]), fun k hk => (by (try dsimp only); rw [g71.2.1 k (by omega)]), fun k hk => (by (try dsimp only); rw [g71.2.2 k (by omega)])⟩
set_option maxRecDepth 100000 in
set_option maxHeartbeats 4000000 in
theorem fr_X13_readOne  {i0 : Nat → Int32} {r0 : Nat → Nat → Int32} {l0 : Nat → Nat → Int64}  {q : (Int32 × (Nat → Int32) × (Nat → Nat → Int64) × (Nat → Nat → Int32)) ⊕ ((Nat → Int32) × (Nat → Nat → Int64) × (Nat → Nat → Int32))} {F : (Nat → Int32) → (Nat → Nat → Int32) → (Nat → Nat → Int64) → Option (((Nat → Int32) × (Nat → Nat → Int64) × (Nat → Nat → Int32)) ⊕ ((Nat → Int32) × (Nat → Nat → Int64) × (Nat → Nat → Int32)))} (hF : ∀ {i0 : Nat → Int32} {r0 : Nat → Nat → Int32} {l0 : Nat → Nat → Int64}  {q : ((Nat → Int32) × (Nat → Nat → Int64) × (Nat → Nat → Int32)) ⊕ ((Nat → Int32) × (Nat → Nat → Int64) × (Nat → Nat → Int32))}, F i0 r0 l0 = some q → Sum.elim (fun q => (∀ k : Nat, ¬ (k = 4 ∨ k = 5 ∨ k = 6 ∨ k = 7 ∨ k = 8 ∨ k = 9 ∨ k = 48 ∨ k = 49 ∨ k = 50 ∨ k = 51 ∨ k = 52 ∨ k = 53 ∨ k = 54 ∨ k = 55 ∨ k = 56 ∨ k = 57) → q.1 k = i0 k) ∧ (∀ k : Nat, ¬ (k = 45) → q.2.1 k = l0 k) ∧ (∀ k : Nat, ¬ (k = 28 ∨ k = 29 ∨ k = 30 ∨ k = 32 ∨ k = 33 ∨ k = 34 ∨ k = 35 ∨ k = 36 ∨ k = 37 ∨ k = 38 ∨ k = 39 ∨ k = 40 ∨ k = 41) → q.2.2 k = r0 k)) (fun t => (∀ k : Nat, ¬ (k = 4 ∨ k = 5 ∨ k = 6 ∨ k = 7 ∨ k = 8 ∨ k = 9 ∨ k = 48 ∨ k = 49 ∨ k = 50 ∨ k = 51 ∨ k = 52 ∨ k = 53 ∨ k = 54 ∨ k = 55 ∨ k = 56 ∨ k = 57) → t.1 k = i0 k) ∧ (∀ k : Nat, ¬ (k = 45) → t.2.1 k = l0 k) ∧ (∀ k : Nat, ¬ (k = 28 ∨ k = 29 ∨ k = 30 ∨ k = 32 ∨ k = 33 ∨ k = 34 ∨ k = 35 ∨ k = 36 ∨ k = 37 ∨ k = 38 ∨ k = 39 ∨ k = 40 ∨ k = 41) → t.2.2 k = r0 k)) q) (hf : f_X13_readOne F i0 r0 l0 = some q) : Sum.elim (fun q => (∀ k : Nat, ¬ (k = 4 ∨ k = 5 ∨ k = 6 ∨ k = 7 ∨ k = 8 ∨ k = 9 ∨ k = 48 ∨ k = 49 ∨ k = 50 ∨ k = 51 ∨ k = 52 ∨ k = 53 ∨ k = 54 ∨ k = 55 ∨ k = 56 ∨ k = 57) → q.2.1 k = i0 k) ∧ (∀ k : Nat, ¬ (k = 45) → q.2.2.1 k = l0 k) ∧ (∀ k : Nat, ¬ (k = 28 ∨ k = 29 ∨ k = 30 ∨ k = 32 ∨ k = 33 ∨ k = 34 ∨ k = 35 ∨ k = 36 ∨ k = 37 ∨ k = 38 ∨ k = 39 ∨ k = 40 ∨ k = 41) → q.2.2.2 k = r0 k)) (fun t => (∀ k : Nat, ¬ (k = 4 ∨ k = 5 ∨ k = 6 ∨ k = 7 ∨ k = 8 ∨ k = 9 ∨ k = 48 ∨ k = 49 ∨ k = 50 ∨ k = 51 ∨ k = 52 ∨ k = 53 ∨ k = 54 ∨ k = 55 ∨ k = 56 ∨ k = 57) → t.1 k = i0 k) ∧ (∀ k : Nat, ¬ (k = 45) → t.2.1 k = l0 k) ∧ (∀ k : Nat, ¬ (k = 28 ∨ k = 29 ∨ k = 30 ∨ k = 32 ∨ k = 33 ∨ k = 34 ∨ k = 35 ∨ k = 36 ∨ k = 37 ∨ k = 38 ∨ k = 39 ∨ k = 40 ∨ k = 41) → t.2.2 k = r0 k)) q := by
  rw [f_X13_readOne] at hf
  obtain ⟨q72, hq72, hf⟩ := bd_s hf
  by_cases hc : 60 ≤ (i0 48)
  · have hf := ite_t hf hc
    have g73 := fr_X13_readOne_38 hF  _ _ _ _ hf
    cases q with
    | inl q => exact ⟨fun k hk => (by (try dsimp only); rw [g73.1 k (by omega)]), fun k hk => (by (try dsimp only); rw [g73.2.1 k (by omega)]), fun k hk => (by (try dsimp only); rw [g73.2.2 k (by omega)])⟩
    | inr t => exact ⟨fun k hk => (by (try dsimp only); rw [g73.1 k (by omega)]), fun k hk => (by (try dsimp only); rw [g73.2.1 k (by omega)]), fun k hk => (by (try dsimp only); rw [g73.2.2 k (by omega)])⟩
  · have hf := ite_f hf hc
    by_cases hc : q72 = 4
    · have hf := ite_t hf hc
      have g74 := fr_X13_readOne_25 hF  _ _ _ _ hf
      cases q with
      | inl q => exact ⟨fun k hk => (by (try dsimp only); rw [g74.1 k (by omega)]), fun k hk => (by (try dsimp only); rw [g74.2.1 k (by omega)]), fun k hk => (by (try dsimp only); rw [g74.2.2 k (by omega)])⟩
      | inr t => exact ⟨fun k hk => (by (try dsimp only); rw [g74.1 k (by omega)]), fun k hk => (by (try dsimp only); rw [g74.2.1 k (by omega)]), fun k hk => (by (try dsimp only); rw [g74.2.2 k (by omega)])⟩
    · have hf := ite_f hf hc
      by_cases hc : q72 = 5
      · have hf := ite_t hf hc
        have g76 := fr_X13_readOne_25 hF  _ _ _ _ hf
        cases q with
        | inl q => exact ⟨fun k hk => (by (try dsimp only); rw [g76.1 k (by omega)]), fun k hk => (by (try dsimp only); rw [g76.2.1 k (by omega)]), fun k hk => (by (try dsimp only); rw [g76.2.2 k (by omega)])⟩
        | inr t => exact ⟨fun k hk => (by (try dsimp only); rw [g76.1 k (by omega)]), fun k hk => (by (try dsimp only); rw [g76.2.1 k (by omega)]), fun k hk => (by (try dsimp only); rw [g76.2.2 k (by omega)])⟩
      · have hf := ite_f hf hc
        have g75 := fr_X13_readOne_34 hF  _ _ _ _ hf
        cases q with
        | inl q => exact ⟨fun k hk => (by (try dsimp only); rw [g75.1 k (by omega)]), fun k hk => (by (try dsimp only); rw [g75.2.1 k (by omega)]), fun k hk => (by (try dsimp only); rw [g75.2.2 k (by omega)])⟩
        | inr t => exact ⟨fun k hk => (by (try dsimp only); rw [g75.1 k (by omega)]), fun k hk => (by (try dsimp only); rw [g75.2.1 k (by omega)]), fun k hk => (by (try dsimp only); rw [g75.2.2 k (by omega)])⟩
/-! X13_readBody -/
set_option maxRecDepth 100000 in
set_option maxHeartbeats 4000000 in
theorem fr_X13_readBody_48   {q : ((Nat → Int32) × (Nat → Nat → Int64) × (Nat → Nat → Int32)) ⊕ ((Nat → Int32) × (Nat → Nat → Int64) × (Nat → Nat → Int32))} {F : (Nat → Int32) → (Nat → Nat → Int32) → (Nat → Nat → Int64) → Option (((Nat → Int32) × (Nat → Nat → Int64) × (Nat → Nat → Int32)) ⊕ ((Nat → Int32) × (Nat → Nat → Int64) × (Nat → Nat → Int32)))} (hF : ∀ {i0 : Nat → Int32} {r0 : Nat → Nat → Int32} {l0 : Nat → Nat → Int64}  {q : ((Nat → Int32) × (Nat → Nat → Int64) × (Nat → Nat → Int32)) ⊕ ((Nat → Int32) × (Nat → Nat → Int64) × (Nat → Nat → Int32))}, F i0 r0 l0 = some q → Sum.elim (fun q => (∀ k : Nat, ¬ (k = 4 ∨ k = 5 ∨ k = 6 ∨ k = 7 ∨ k = 8 ∨ k = 9 ∨ k = 48 ∨ k = 49 ∨ k = 50 ∨ k = 51 ∨ k = 52 ∨ k = 53 ∨ k = 54 ∨ k = 55 ∨ k = 56 ∨ k = 57) → q.1 k = i0 k) ∧ (∀ k : Nat, ¬ (k = 45) → q.2.1 k = l0 k) ∧ (∀ k : Nat, ¬ (k = 28 ∨ k = 29 ∨ k = 30 ∨ k = 32 ∨ k = 33 ∨ k = 34 ∨ k = 35 ∨ k = 36 ∨ k = 37 ∨ k = 38 ∨ k = 39 ∨ k = 40 ∨ k = 41) → q.2.2 k = r0 k)) (fun t => (∀ k : Nat, ¬ (k = 4 ∨ k = 5 ∨ k = 6 ∨ k = 7 ∨ k = 8 ∨ k = 9 ∨ k = 48 ∨ k = 49 ∨ k = 50 ∨ k = 51 ∨ k = 52 ∨ k = 53 ∨ k = 54 ∨ k = 55 ∨ k = 56 ∨ k = 57) → t.1 k = i0 k) ∧ (∀ k : Nat, ¬ (k = 45) → t.2.1 k = l0 k) ∧ (∀ k : Nat, ¬ (k = 28 ∨ k = 29 ∨ k = 30 ∨ k = 32 ∨ k = 33 ∨ k = 34 ∨ k = 35 ∨ k = 36 ∨ k = 37 ∨ k = 38 ∨ k = 39 ∨ k = 40 ∨ k = 41) → t.2.2 k = r0 k)) q) (K4 : (Nat → Int32) → (Nat → Nat → Int64) → (Nat → Nat → Int32) → Int32 → Int32 → Option (((Nat → Int32) × (Nat → Nat → Int64) × (Nat → Nat → Int32)) ⊕ ((Nat → Int32) × (Nat → Nat → Int64) × (Nat → Nat → Int32)))) (hK4 : ∀ (i0 : Nat → Int32) (l0 : Nat → Nat → Int64) (r0 : Nat → Nat → Int32) (x1 : Int32) (x2 : Int32), K4 i0 l0 r0 x1 x2 = some q → Sum.elim (fun q => (∀ k : Nat, ¬ (k = 4 ∨ k = 5 ∨ k = 6 ∨ k = 7 ∨ k = 8 ∨ k = 9 ∨ k = 48 ∨ k = 49 ∨ k = 50 ∨ k = 51 ∨ k = 52 ∨ k = 53 ∨ k = 54 ∨ k = 55 ∨ k = 56 ∨ k = 57) → q.1 k = i0 k) ∧ (∀ k : Nat, ¬ (k = 45) → q.2.1 k = l0 k) ∧ (∀ k : Nat, ¬ (k = 28 ∨ k = 29 ∨ k = 30 ∨ k = 32 ∨ k = 33 ∨ k = 34 ∨ k = 35 ∨ k = 36 ∨ k = 37 ∨ k = 38 ∨ k = 39 ∨ k = 40 ∨ k = 41) → q.2.2 k = r0 k)) (fun t => (∀ k : Nat, ¬ (k = 4 ∨ k = 5 ∨ k = 6 ∨ k = 7 ∨ k = 8 ∨ k = 9 ∨ k = 48 ∨ k = 49 ∨ k = 50 ∨ k = 51 ∨ k = 52 ∨ k = 53 ∨ k = 54 ∨ k = 55 ∨ k = 56 ∨ k = 57) → t.1 k = i0 k) ∧ (∀ k : Nat, ¬ (k = 45) → t.2.1 k = l0 k) ∧ (∀ k : Nat, ¬ (k = 28 ∨ k = 29 ∨ k = 30 ∨ k = 32 ∨ k = 33 ∨ k = 34 ∨ k = 35 ∨ k = 36 ∨ k = 37 ∨ k = 38 ∨ k = 39 ∨ k = 40 ∨ k = 41) → t.2.2 k = r0 k)) q) : ∀ (i0 : Nat → Int32) (l0 : Nat → Nat → Int64) (r0 : Nat → Nat → Int32) (x1 : Int32) (x3 : Int32), f_X13_readBody_48 F K4 i0 l0 r0 x1 x3 = some q → Sum.elim (fun q => (∀ k : Nat, ¬ (k = 4 ∨ k = 5 ∨ k = 6 ∨ k = 7 ∨ k = 8 ∨ k = 9 ∨ k = 48 ∨ k = 49 ∨ k = 50 ∨ k = 51 ∨ k = 52 ∨ k = 53 ∨ k = 54 ∨ k = 55 ∨ k = 56 ∨ k = 57) → q.1 k = i0 k) ∧ (∀ k : Nat, ¬ (k = 45) → q.2.1 k = l0 k) ∧ (∀ k : Nat, ¬ (k = 28 ∨ k = 29 ∨ k = 30 ∨ k = 32 ∨ k = 33 ∨ k = 34 ∨ k = 35 ∨ k = 36 ∨ k = 37 ∨ k = 38 ∨ k = 39 ∨ k = 40 ∨ k = 41) → q.2.2 k = r0 k)) (fun t => (∀ k : Nat, ¬ (k = 4 ∨ k = 5 ∨ k = 6 ∨ k = 7 ∨ k = 8 ∨ k = 9 ∨ k = 48 ∨ k = 49 ∨ k = 50 ∨ k = 51 ∨ k = 52 ∨ k = 53 ∨ k = 54 ∨ k = 55 ∨ k = 56 ∨ k = 57) → t.1 k = i0 k) ∧ (∀ k : Nat, ¬ (k = 45) → t.2.1 k = l0 k) ∧ (∀ k : Nat, ¬ (k = 28 ∨ k = 29 ∨ k = 30 ∨ k = 32 ∨ k = 33 ∨ k = 34 ∨ k = 35 ∨ k = 36 ∨ k = 37 ∨ k = 38 ∨ k = 39 ∨ k = 40 ∨ k = 41) → t.2.2 k = r0 k)) q := by
  intro i0 l0 r0 x1 x3 hf
  rw [f_X13_readBody_48] at hf
  rcases (bt_s hf).symm with ⟨t7, hq7, hf⟩ | ⟨q7, hq7, hf⟩
  · have ft7 := fr_X13_sign hq7
    obtain rfl := Option.some.inj hf
    exact ⟨fun k hk => (by (try dsimp only); rw [ft7 k (by omega)]), fun k _ => rfl, fun k _ => rfl⟩
  have fq7 := fr_X13_sign hq7
  have g8 := hK4 _ _ _ _ _ hf
  cases q with
  | inl q => exact ⟨fun k hk => (by (try dsimp only); rw [g8.1 k (by omega), fq7 k (by omega)]), fun k hk => (by (try dsimp only); rw [g8.2.1 k (by omega)]), fun k hk => (by (try dsimp only); rw [g8.2.2 k (by omega)])⟩
  | inr t => exact ⟨fun k hk => (by (try dsimp only); rw [g8.1 k (by omega), fq7 k (by omega)]), fun k hk => (by (try dsimp only); rw [g8.2.1 k (by omega)]), fun k hk => (by (try dsimp only); rw [g8.2.2 k (by omega)])⟩
set_option maxRecDepth 100000 in
set_option maxHeartbeats 4000000 in
theorem fr_X13_readBody_31   {q : ((Nat → Int32) × (Nat → Nat → Int64) × (Nat → Nat → Int32)) ⊕ ((Nat → Int32) × (Nat → Nat → Int64) × (Nat → Nat → Int32))} {F : (Nat → Int32) → (Nat → Nat → Int32) → (Nat → Nat → Int64) → Option (((Nat → Int32) × (Nat → Nat → Int64) × (Nat → Nat → Int32)) ⊕ ((Nat → Int32) × (Nat → Nat → Int64) × (Nat → Nat → Int32)))} (hF : ∀ {i0 : Nat → Int32} {r0 : Nat → Nat → Int32} {l0 : Nat → Nat → Int64}  {q : ((Nat → Int32) × (Nat → Nat → Int64) × (Nat → Nat → Int32)) ⊕ ((Nat → Int32) × (Nat → Nat → Int64) × (Nat → Nat → Int32))}, F i0 r0 l0 = some q → Sum.elim (fun q => (∀ k : Nat, ¬ (k = 4 ∨ k = 5 ∨ k = 6 ∨ k = 7 ∨ k = 8 ∨ k = 9 ∨ k = 48 ∨ k = 49 ∨ k = 50 ∨ k = 51 ∨ k = 52 ∨ k = 53 ∨ k = 54 ∨ k = 55 ∨ k = 56 ∨ k = 57) → q.1 k = i0 k) ∧ (∀ k : Nat, ¬ (k = 45) → q.2.1 k = l0 k) ∧ (∀ k : Nat, ¬ (k = 28 ∨ k = 29 ∨ k = 30 ∨ k = 32 ∨ k = 33 ∨ k = 34 ∨ k = 35 ∨ k = 36 ∨ k = 37 ∨ k = 38 ∨ k = 39 ∨ k = 40 ∨ k = 41) → q.2.2 k = r0 k)) (fun t => (∀ k : Nat, ¬ (k = 4 ∨ k = 5 ∨ k = 6 ∨ k = 7 ∨ k = 8 ∨ k = 9 ∨ k = 48 ∨ k = 49 ∨ k = 50 ∨ k = 51 ∨ k = 52 ∨ k = 53 ∨ k = 54 ∨ k = 55 ∨ k = 56 ∨ k = 57) → t.1 k = i0 k) ∧ (∀ k : Nat, ¬ (k = 45) → t.2.1 k = l0 k) ∧ (∀ k : Nat, ¬ (k = 28 ∨ k = 29 ∨ k = 30 ∨ k = 32 ∨ k = 33 ∨ k = 34 ∨ k = 35 ∨ k = 36 ∨ k = 37 ∨ k = 38 ∨ k = 39 ∨ k = 40 ∨ k = 41) → t.2.2 k = r0 k)) q) (K4 : (Nat → Int32) → (Nat → Nat → Int64) → (Nat → Nat → Int32) → Int32 → Int32 → Option (((Nat → Int32) × (Nat → Nat → Int64) × (Nat → Nat → Int32)) ⊕ ((Nat → Int32) × (Nat → Nat → Int64) × (Nat → Nat → Int32)))) (hK4 : ∀ (i0 : Nat → Int32) (l0 : Nat → Nat → Int64) (r0 : Nat → Nat → Int32) (x1 : Int32) (x2 : Int32), K4 i0 l0 r0 x1 x2 = some q → Sum.elim (fun q => (∀ k : Nat, ¬ (k = 4 ∨ k = 5 ∨ k = 6 ∨ k = 7 ∨ k = 8 ∨ k = 9 ∨ k = 48 ∨ k = 49 ∨ k = 50 ∨ k = 51 ∨ k = 52 ∨ k = 53 ∨ k = 54 ∨ k = 55 ∨ k = 56 ∨ k = 57) → q.1 k = i0 k) ∧ (∀ k : Nat, ¬ (k = 45) → q.2.1 k = l0 k) ∧ (∀ k : Nat, ¬ (k = 28 ∨ k = 29 ∨ k = 30 ∨ k = 32 ∨ k = 33 ∨ k = 34 ∨ k = 35 ∨ k = 36 ∨ k = 37 ∨ k = 38 ∨ k = 39 ∨ k = 40 ∨ k = 41) → q.2.2 k = r0 k)) (fun t => (∀ k : Nat, ¬ (k = 4 ∨ k = 5 ∨ k = 6 ∨ k = 7 ∨ k = 8 ∨ k = 9 ∨ k = 48 ∨ k = 49 ∨ k = 50 ∨ k = 51 ∨ k = 52 ∨ k = 53 ∨ k = 54 ∨ k = 55 ∨ k = 56 ∨ k = 57) → t.1 k = i0 k) ∧ (∀ k : Nat, ¬ (k = 45) → t.2.1 k = l0 k) ∧ (∀ k : Nat, ¬ (k = 28 ∨ k = 29 ∨ k = 30 ∨ k = 32 ∨ k = 33 ∨ k = 34 ∨ k = 35 ∨ k = 36 ∨ k = 37 ∨ k = 38 ∨ k = 39 ∨ k = 40 ∨ k = 41) → t.2.2 k = r0 k)) q) : ∀ (i0 : Nat → Int32) (l0 : Nat → Nat → Int64) (r0 : Nat → Nat → Int32) (x1 : Int32) (x2 : Int32) (x3 : Int32), f_X13_readBody_31 F K4 i0 l0 r0 x1 x2 x3 = some q → Sum.elim (fun q => (∀ k : Nat, ¬ (k = 4 ∨ k = 5 ∨ k = 6 ∨ k = 7 ∨ k = 8 ∨ k = 9 ∨ k = 48 ∨ k = 49 ∨ k = 50 ∨ k = 51 ∨ k = 52 ∨ k = 53 ∨ k = 54 ∨ k = 55 ∨ k = 56 ∨ k = 57) → q.1 k = i0 k) ∧ (∀ k : Nat, ¬ (k = 45) → q.2.1 k = l0 k) ∧ (∀ k : Nat, ¬ (k = 28 ∨ k = 29 ∨ k = 30 ∨ k = 32 ∨ k = 33 ∨ k = 34 ∨ k = 35 ∨ k = 36 ∨ k = 37 ∨ k = 38 ∨ k = 39 ∨ k = 40 ∨ k = 41) → q.2.2 k = r0 k)) (fun t => (∀ k : Nat, ¬ (k = 4 ∨ k = 5 ∨ k = 6 ∨ k = 7 ∨ k = 8 ∨ k = 9 ∨ k = 48 ∨ k = 49 ∨ k = 50 ∨ k = 51 ∨ k = 52 ∨ k = 53 ∨ k = 54 ∨ k = 55 ∨ k = 56 ∨ k = 57) → t.1 k = i0 k) ∧ (∀ k : Nat, ¬ (k = 45) → t.2.1 k = l0 k) ∧ (∀ k : Nat, ¬ (k = 28 ∨ k = 29 ∨ k = 30 ∨ k = 32 ∨ k = 33 ∨ k = 34 ∨ k = 35 ∨ k = 36 ∨ k = 37 ∨ k = 38 ∨ k = 39 ∨ k = 40 ∨ k = 41) → t.2.2 k = r0 k)) q := by
  intro i0 l0 r0 x1 x2 x3 hf
  rw [f_X13_readBody_31] at hf
  by_cases hc : x2 = (-1)
  · have hf := ite_t hf hc
    have g10 := fr_X13_readBody_48 hF _ (hK4) _ _ _ _ _ hf
    cases q with
    | inl q => exact ⟨fun k hk => (by (try dsimp only); rw [g10.1 k (by omega)]), fun k hk => (by (try dsimp only); rw [g10.2.1 k (by omega)]), fun k hk => (by (try dsimp only); rw [g10.2.2 k (by omega)])⟩
    | inr t => exact ⟨fun k hk => (by (try dsimp only); rw [g10.1 k (by omega)]), fun k hk => (by (try dsimp only); rw [g10.2.1 k (by omega)]), fun k hk => (by (try dsimp only); rw [g10.2.2 k (by omega)])⟩
  · have hf := ite_f hf hc
    have hf := ck_2 hf
    have g9 := fr_X13_readBody_48 hF _ (hK4) _ _ _ _ _ hf
    cases q with
    | inl q => exact ⟨fun k hk => (by (try dsimp only); rw [g9.1 k (by omega)]), fun k hk => (by (try dsimp only); rw [g9.2.1 k (by omega)]), fun k hk => (by (try dsimp only); rw [g9.2.2 k (by omega), va_up_ne _ _ (by omega)])⟩
    | inr t => exact ⟨fun k hk => (by (try dsimp only); rw [g9.1 k (by omega)]), fun k hk => (by (try dsimp only); rw [g9.2.1 k (by omega)]), fun k hk => (by (try dsimp only); rw [g9.2.2 k (by omega), va_up_ne _ _ (by omega)])⟩
set_option maxRecDepth 100000 in
set_option maxHeartbeats 4000000 in
theorem fr_X13_readBody_4   {q : ((Nat → Int32) × (Nat → Nat → Int64) × (Nat → Nat → Int32)) ⊕ ((Nat → Int32) × (Nat → Nat → Int64) × (Nat → Nat → Int32))} {F : (Nat → Int32) → (Nat → Nat → Int32) → (Nat → Nat → Int64) → Option (((Nat → Int32) × (Nat → Nat → Int64) × (Nat → Nat → Int32)) ⊕ ((Nat → Int32) × (Nat → Nat → Int64) × (Nat → Nat → Int32)))} (hF : ∀ {i0 : Nat → Int32} {r0 : Nat → Nat → Int32} {l0 : Nat → Nat → Int64}  {q : ((Nat → Int32) × (Nat → Nat → Int64) × (Nat → Nat → Int32)) ⊕ ((Nat → Int32) × (Nat → Nat → Int64) × (Nat → Nat → Int32))}, F i0 r0 l0 = some q → Sum.elim (fun q => (∀ k : Nat, ¬ (k = 4 ∨ k = 5 ∨ k = 6 ∨ k = 7 ∨ k = 8 ∨ k = 9 ∨ k = 48 ∨ k = 49 ∨ k = 50 ∨ k = 51 ∨ k = 52 ∨ k = 53 ∨ k = 54 ∨ k = 55 ∨ k = 56 ∨ k = 57) → q.1 k = i0 k) ∧ (∀ k : Nat, ¬ (k = 45) → q.2.1 k = l0 k) ∧ (∀ k : Nat, ¬ (k = 28 ∨ k = 29 ∨ k = 30 ∨ k = 32 ∨ k = 33 ∨ k = 34 ∨ k = 35 ∨ k = 36 ∨ k = 37 ∨ k = 38 ∨ k = 39 ∨ k = 40 ∨ k = 41) → q.2.2 k = r0 k)) (fun t => (∀ k : Nat, ¬ (k = 4 ∨ k = 5 ∨ k = 6 ∨ k = 7 ∨ k = 8 ∨ k = 9 ∨ k = 48 ∨ k = 49 ∨ k = 50 ∨ k = 51 ∨ k = 52 ∨ k = 53 ∨ k = 54 ∨ k = 55 ∨ k = 56 ∨ k = 57) → t.1 k = i0 k) ∧ (∀ k : Nat, ¬ (k = 45) → t.2.1 k = l0 k) ∧ (∀ k : Nat, ¬ (k = 28 ∨ k = 29 ∨ k = 30 ∨ k = 32 ∨ k = 33 ∨ k = 34 ∨ k = 35 ∨ k = 36 ∨ k = 37 ∨ k = 38 ∨ k = 39 ∨ k = 40 ∨ k = 41) → t.2.2 k = r0 k)) q)  : ∀ (n : Nat), ∀ (i0 : Nat → Int32) (l0 : Nat → Nat → Int64) (r0 : Nat → Nat → Int32) (x1 : Int32) (x2 : Int32), f_X13_readBody_4 F n i0 l0 r0 x1 x2 = some q → Sum.elim (fun q => (∀ k : Nat, ¬ (k = 4 ∨ k = 5 ∨ k = 6 ∨ k = 7 ∨ k = 8 ∨ k = 9 ∨ k = 48 ∨ k = 49 ∨ k = 50 ∨ k = 51 ∨ k = 52 ∨ k = 53 ∨ k = 54 ∨ k = 55 ∨ k = 56 ∨ k = 57) → q.1 k = i0 k) ∧ (∀ k : Nat, ¬ (k = 45) → q.2.1 k = l0 k) ∧ (∀ k : Nat, ¬ (k = 28 ∨ k = 29 ∨ k = 30 ∨ k = 32 ∨ k = 33 ∨ k = 34 ∨ k = 35 ∨ k = 36 ∨ k = 37 ∨ k = 38 ∨ k = 39 ∨ k = 40 ∨ k = 41) → q.2.2 k = r0 k)) (fun t => (∀ k : Nat, ¬ (k = 4 ∨ k = 5 ∨ k = 6 ∨ k = 7 ∨ k = 8 ∨ k = 9 ∨ k = 48 ∨ k = 49 ∨ k = 50 ∨ k = 51 ∨ k = 52 ∨ k = 53 ∨ k = 54 ∨ k = 55 ∨ k = 56 ∨ k = 57) → t.1 k = i0 k) ∧ (∀ k : Nat, ¬ (k = 45) → t.2.1 k = l0 k) ∧ (∀ k : Nat, ¬ (k = 28 ∨ k = 29 ∨ k = 30 ∨ k = 32 ∨ k = 33 ∨ k = 34 ∨ k = 35 ∨ k = 36 ∨ k = 37 ∨ k = 38 ∨ k = 39 ∨ k = 40 ∨ k = 41) → t.2.2 k = r0 k)) q := by
  intro n
  induction n with
  | zero =>
    intro i0 l0 r0 x1 x2 hf
    rw [f_X13_readBody_4] at hf
    cases hf
  | succ n ih =>
    intro i0 l0 r0 x1 x2 hf
    rw [f_X13_readBody_4] at hf
    obtain ⟨q11, hq11, hf⟩ := bd_s hf
    by_cases hc : q11 = (-1)
    · have hf := ite_t hf hc
      obtain rfl := Option.some.inj hf
      exact ⟨fun k hk => (by (try dsimp only); rw [pk_un (by omega), pk_un (by omega)]), fun k _ => rfl, fun k _ => rfl⟩
    · have hf := ite_f hf hc
      rcases (bt_s hf).symm with ⟨t12, hq12, hf⟩ | ⟨q12, hq12, hf⟩
      · have ft12 := fr_X13_readOne hF hq12
        obtain rfl := Option.some.inj hf
        exact ⟨fun k hk => (by (try dsimp only); rw [ft12.1 k (by omega)]), fun k hk => (by (try dsimp only); rw [ft12.2.1 k (by omega)]), fun k hk => (by (try dsimp only); rw [ft12.2.2 k (by omega)])⟩
      have fq12 := fr_X13_readOne hF hq12
      have hf := ck_2 hf
      have hf := ck_2 hf
      have g13 := fr_X13_readBody_31 hF _ (ih) _ _ _ _ _ _ hf
      cases q with
      | inl q => exact ⟨fun k hk => (by (try dsimp only); rw [g13.1 k (by omega), fq12.1 k (by omega)]), fun k hk => (by (try dsimp only); rw [g13.2.1 k (by omega), fq12.2.1 k (by omega)]), fun k hk => (by (try dsimp only); rw [g13.2.2 k (by omega), va_up_ne _ _ (by omega), va_up_ne _ _ (by omega), fq12.2.2 k (by omega)])⟩
      | inr t => exact ⟨fun k hk => (by (try dsimp only); rw [g13.1 k (by omega), fq12.1 k (by omega)]), fun k hk => (by (try dsimp only); rw [g13.2.1 k (by omega), fq12.2.1 k (by omega)]), fun k hk => (by (try dsimp only); rw [g13.2.2 k (by omega), va_up_ne _ _ (by omega), va_up_ne _ _ (by omega), fq12.2.2 k (by omega)])⟩
set_option maxRecDepth 100000 in
set_option maxHeartbeats 4000000 in
theorem fr_X13_readBody_e  {i0 : Nat → Int32} {r0 : Nat → Nat → Int32} {l0 : Nat → Nat → Int64}  {q : ((Nat → Int32) × (Nat → Nat → Int64) × (Nat → Nat → Int32)) ⊕ ((Nat → Int32) × (Nat → Nat → Int64) × (Nat → Nat → Int32))} {F : (Nat → Int32) → (Nat → Nat → Int32) → (Nat → Nat → Int64) → Option (((Nat → Int32) × (Nat → Nat → Int64) × (Nat → Nat → Int32)) ⊕ ((Nat → Int32) × (Nat → Nat → Int64) × (Nat → Nat → Int32)))} (hF : ∀ {i0 : Nat → Int32} {r0 : Nat → Nat → Int32} {l0 : Nat → Nat → Int64}  {q : ((Nat → Int32) × (Nat → Nat → Int64) × (Nat → Nat → Int32)) ⊕ ((Nat → Int32) × (Nat → Nat → Int64) × (Nat → Nat → Int32))}, F i0 r0 l0 = some q → Sum.elim (fun q => (∀ k : Nat, ¬ (k = 4 ∨ k = 5 ∨ k = 6 ∨ k = 7 ∨ k = 8 ∨ k = 9 ∨ k = 48 ∨ k = 49 ∨ k = 50 ∨ k = 51 ∨ k = 52 ∨ k = 53 ∨ k = 54 ∨ k = 55 ∨ k = 56 ∨ k = 57) → q.1 k = i0 k) ∧ (∀ k : Nat, ¬ (k = 45) → q.2.1 k = l0 k) ∧ (∀ k : Nat, ¬ (k = 28 ∨ k = 29 ∨ k = 30 ∨ k = 32 ∨ k = 33 ∨ k = 34 ∨ k = 35 ∨ k = 36 ∨ k = 37 ∨ k = 38 ∨ k = 39 ∨ k = 40 ∨ k = 41) → q.2.2 k = r0 k)) (fun t => (∀ k : Nat, ¬ (k = 4 ∨ k = 5 ∨ k = 6 ∨ k = 7 ∨ k = 8 ∨ k = 9 ∨ k = 48 ∨ k = 49 ∨ k = 50 ∨ k = 51 ∨ k = 52 ∨ k = 53 ∨ k = 54 ∨ k = 55 ∨ k = 56 ∨ k = 57) → t.1 k = i0 k) ∧ (∀ k : Nat, ¬ (k = 45) → t.2.1 k = l0 k) ∧ (∀ k : Nat, ¬ (k = 28 ∨ k = 29 ∨ k = 30 ∨ k = 32 ∨ k = 33 ∨ k = 34 ∨ k = 35 ∨ k = 36 ∨ k = 37 ∨ k = 38 ∨ k = 39 ∨ k = 40 ∨ k = 41) → t.2.2 k = r0 k)) q) (hf : f_X13_readBody_e F i0 r0 l0 = some q) : Sum.elim (fun q => (∀ k : Nat, ¬ (k = 4 ∨ k = 5 ∨ k = 6 ∨ k = 7 ∨ k = 8 ∨ k = 9 ∨ k = 48 ∨ k = 49 ∨ k = 50 ∨ k = 51 ∨ k = 52 ∨ k = 53 ∨ k = 54 ∨ k = 55 ∨ k = 56 ∨ k = 57) → q.1 k = i0 k) ∧ (∀ k : Nat, ¬ (k = 45) → q.2.1 k = l0 k) ∧ (∀ k : Nat, ¬ (k = 28 ∨ k = 29 ∨ k = 30 ∨ k = 32 ∨ k = 33 ∨ k = 34 ∨ k = 35 ∨ k = 36 ∨ k = 37 ∨ k = 38 ∨ k = 39 ∨ k = 40 ∨ k = 41) → q.2.2 k = r0 k)) (fun t => (∀ k : Nat, ¬ (k = 4 ∨ k = 5 ∨ k = 6 ∨ k = 7 ∨ k = 8 ∨ k = 9 ∨ k = 48 ∨ k = 49 ∨ k = 50 ∨ k = 51 ∨ k = 52 ∨ k = 53 ∨ k = 54 ∨ k = 55 ∨ k = 56 ∨ k = 57) → t.1 k = i0 k) ∧ (∀ k : Nat, ¬ (k = 45) → t.2.1 k = l0 k) ∧ (∀ k : Nat, ¬ (k = 28 ∨ k = 29 ∨ k = 30 ∨ k = 32 ∨ k = 33 ∨ k = 34 ∨ k = 35 ∨ k = 36 ∨ k = 37 ∨ k = 38 ∨ k = 39 ∨ k = 40 ∨ k = 41) → t.2.2 k = r0 k)) q := by
  rw [f_X13_readBody_e] at hf
  have g14 := fr_X13_readBody_4 hF  2000000 _ _ _ _ _ hf
  cases q with
  | inl q => exact ⟨fun k hk => (by (try dsimp only); rw [g14.1 k (by omega)]), fun k hk => (by (try dsimp only); rw [g14.2.1 k (by omega)]), fun k hk => (by (try dsimp only); rw [g14.2.2 k (by omega)])⟩
  | inr t => exact ⟨fun k hk => (by (try dsimp only); rw [g14.1 k (by omega)]), fun k hk => (by (try dsimp only); rw [g14.2.1 k (by omega)]), fun k hk => (by (try dsimp only); rw [g14.2.2 k (by omega)])⟩
theorem fr_X13_readBody : ∀ (d : Nat) {i0 : Nat → Int32} {r0 : Nat → Nat → Int32} {l0 : Nat → Nat → Int64}  {q : ((Nat → Int32) × (Nat → Nat → Int64) × (Nat → Nat → Int32)) ⊕ ((Nat → Int32) × (Nat → Nat → Int64) × (Nat → Nat → Int32))}, f_X13_readBody d i0 r0 l0 = some q → Sum.elim (fun q => (∀ k : Nat, ¬ (k = 4 ∨ k = 5 ∨ k = 6 ∨ k = 7 ∨ k = 8 ∨ k = 9 ∨ k = 48 ∨ k = 49 ∨ k = 50 ∨ k = 51 ∨ k = 52 ∨ k = 53 ∨ k = 54 ∨ k = 55 ∨ k = 56 ∨ k = 57) → q.1 k = i0 k) ∧ (∀ k : Nat, ¬ (k = 45) → q.2.1 k = l0 k) ∧ (∀ k : Nat, ¬ (k = 28 ∨ k = 29 ∨ k = 30 ∨ k = 32 ∨ k = 33 ∨ k = 34 ∨ k = 35 ∨ k = 36 ∨ k = 37 ∨ k = 38 ∨ k = 39 ∨ k = 40 ∨ k = 41) → q.2.2 k = r0 k)) (fun t => (∀ k : Nat, ¬ (k = 4 ∨ k = 5 ∨ k = 6 ∨ k = 7 ∨ k = 8 ∨ k = 9 ∨ k = 48 ∨ k = 49 ∨ k = 50 ∨ k = 51 ∨ k = 52 ∨ k = 53 ∨ k = 54 ∨ k = 55 ∨ k = 56 ∨ k = 57) → t.1 k = i0 k) ∧ (∀ k : Nat, ¬ (k = 45) → t.2.1 k = l0 k) ∧ (∀ k : Nat, ¬ (k = 28 ∨ k = 29 ∨ k = 30 ∨ k = 32 ∨ k = 33 ∨ k = 34 ∨ k = 35 ∨ k = 36 ∨ k = 37 ∨ k = 38 ∨ k = 39 ∨ k = 40 ∨ k = 41) → t.2.2 k = r0 k)) q
  | 0, _, _, _, _, hf => (by rw [f_X13_readBody] at hf; cases hf)
  | d + 1, _, _, _, _, hf => (by rw [f_X13_readBody] at hf; exact fr_X13_readBody_e (fr_X13_readBody d) hf)
/-! X13_readProgram -/
set_option maxRecDepth 100000 in
set_option maxHeartbeats 4000000 in
theorem fr_X13_readProgram_151   {q : ((Nat → Int32) × (Nat → Nat → Int64) × (Nat → Nat → Int32)) ⊕ ((Nat → Int32) × (Nat → Nat → Int64) × (Nat → Nat → Int32))} (K20 : (Nat → Int32) → (Nat → Nat → Int64) → (Nat → Nat → Int32) → Option (((Nat → Int32) × (Nat → Nat → Int64) × (Nat → Nat → Int32)) ⊕ ((Nat → Int32) × (Nat → Nat → Int64) × (Nat → Nat → Int32)))) (hK20 : ∀ (i0 : Nat → Int32) (l0 : Nat → Nat → Int64) (r0 : Nat → Nat → Int32), K20 i0 l0 r0 = some q → Sum.elim (fun q => (∀ k : Nat, ¬ (k = 4 ∨ k = 5 ∨ k = 6 ∨ k = 7 ∨ k = 8 ∨ k = 9 ∨ k = 47 ∨ k = 48 ∨ k = 49 ∨ k = 50 ∨ k = 51 ∨ k = 52 ∨ k = 53 ∨ k = 54 ∨ k = 55 ∨ k = 56 ∨ k = 57) → q.1 k = i0 k) ∧ (∀ k : Nat, ¬ (k = 44 ∨ k = 45) → q.2.1 k = l0 k) ∧ (∀ k : Nat, ¬ (k = 28 ∨ k = 29 ∨ k = 30 ∨ k = 31 ∨ k = 32 ∨ k = 33 ∨ k = 34 ∨ k = 35 ∨ k = 36 ∨ k = 37 ∨ k = 38 ∨ k = 39 ∨ k = 40 ∨ k = 41 ∨ k = 42 ∨ k = 43) → q.2.2 k = r0 k)) (fun t => (∀ k : Nat, ¬ (k = 4 ∨ k = 5 ∨ k = 6 ∨ k = 7 ∨ k = 8 ∨ k = 9 ∨ k = 47 ∨ k = 48 ∨ k = 49 ∨ k = 50 ∨ k = 51 ∨ k = 52 ∨ k = 53 ∨ k = 54 ∨ k = 55 ∨ k = 56 ∨ k = 57) → t.1 k = i0 k) ∧ (∀ k : Nat, ¬ (k = 44 ∨ k = 45) → t.2.1 k = l0 k) ∧ (∀ k : Nat, ¬ (k = 28 ∨ k = 29 ∨ k = 30 ∨ k = 31 ∨ k = 32 ∨ k = 33 ∨ k = 34 ∨ k = 35 ∨ k = 36 ∨ k = 37 ∨ k = 38 ∨ k = 39 ∨ k = 40 ∨ k = 41 ∨ k = 42 ∨ k = 43) → t.2.2 k = r0 k)) q) : ∀ (i0 : Nat → Int32) (l0 : Nat → Nat → Int64) (r0 : Nat → Nat → Int32), f_X13_readProgram_151 K20 i0 l0 r0 = some q → Sum.elim (fun q => (∀ k : Nat, ¬ (k = 4 ∨ k = 5 ∨ k = 6 ∨ k = 7 ∨ k = 8 ∨ k = 9 ∨ k = 47 ∨ k = 48 ∨ k = 49 ∨ k = 50 ∨ k = 51 ∨ k = 52 ∨ k = 53 ∨ k = 54 ∨ k = 55 ∨ k = 56 ∨ k = 57) → q.1 k = i0 k) ∧ (∀ k : Nat, ¬ (k = 44 ∨ k = 45) → q.2.1 k = l0 k) ∧ (∀ k : Nat, ¬ (k = 28 ∨ k = 29 ∨ k = 30 ∨ k = 31 ∨ k = 32 ∨ k = 33 ∨ k = 34 ∨ k = 35 ∨ k = 36 ∨ k = 37 ∨ k = 38 ∨ k = 39 ∨ k = 40 ∨ k = 41 ∨ k = 42 ∨ k = 43) → q.2.2 k = r0 k)) (fun t => (∀ k : Nat, ¬ (k = 4 ∨ k = 5 ∨ k = 6 ∨ k = 7 ∨ k = 8 ∨ k = 9 ∨ k = 47 ∨ k = 48 ∨ k = 49 ∨ k = 50 ∨ k = 51 ∨ k = 52 ∨ k = 53 ∨ k = 54 ∨ k = 55 ∨ k = 56 ∨ k = 57) → t.1 k = i0 k) ∧ (∀ k : Nat, ¬ (k = 44 ∨ k = 45) → t.2.1 k = l0 k) ∧ (∀ k : Nat, ¬ (k = 28 ∨ k = 29 ∨ k = 30 ∨ k = 31 ∨ k = 32 ∨ k = 33 ∨ k = 34 ∨ k = 35 ∨ k = 36 ∨ k = 37 ∨ k = 38 ∨ k = 39 ∨ k = 40 ∨ k = 41 ∨ k = 42 ∨ k = 43) → t.2.2 k = r0 k)) q := by
  intro i0 l0 r0 hf
  rw [f_X13_readProgram_151] at hf
  rcases (bt_s hf).symm with ⟨t29, hq29, hf⟩ | ⟨q29, hq29, hf⟩
  · have ft29 := fr_X13_word hq29
    obtain rfl := Option.some.inj hf
    exact ⟨fun k hk => (by (try dsimp only); rw [ft29 k (by omega)]), fun k _ => rfl, fun k _ => rfl⟩
  have fq29 := fr_X13_word hq29
  rcases (bt_s hf).symm with ⟨t30, hq30, hf⟩ | ⟨q30, hq30, hf⟩
  · have ft30 := fr_X13_sign hq30
    obtain rfl := Option.some.inj hf
    exact ⟨fun k hk => (by (try dsimp only); rw [ft30 k (by omega), fq29 k (by omega)]), fun k _ => rfl, fun k _ => rfl⟩
  have fq30 := fr_X13_sign hq30
  have g31 := hK20 _ _ _ hf
  cases q with
  | inl q => exact ⟨fun k hk => (by (try dsimp only); rw [g31.1 k (by omega), fq30 k (by omega), fq29 k (by omega)]), fun k hk => (by (try dsimp only); rw [g31.2.1 k (by omega)]), fun k hk => (by (try dsimp only); rw [g31.2.2 k (by omega)])⟩
  | inr t => exact ⟨fun k hk => (by (try dsimp only); rw [g31.1 k (by omega), fq30 k (by omega), fq29 k (by omega)]), fun k hk => (by (try dsimp only); rw [g31.2.1 k (by omega)]), fun k hk => (by (try dsimp only); rw [g31.2.2 k (by omega)])⟩
set_option maxRecDepth 100000 in
set_option maxHeartbeats 4000000 in
theorem fr_X13_readProgram_82   {q : ((Nat → Int32) × (Nat → Nat → Int64) × (Nat → Nat → Int32)) ⊕ ((Nat → Int32) × (Nat → Nat → Int64) × (Nat → Nat → Int32))} (K20 : (Nat → Int32) → (Nat → Nat → Int64) → (Nat → Nat → Int32) → Option (((Nat → Int32) × (Nat → Nat → Int64) × (Nat → Nat → Int32)) ⊕ ((Nat → Int32) × (Nat → Nat → Int64) × (Nat → Nat → Int32)))) (hK20 : ∀ (i0 : Nat → Int32) (l0 : Nat → Nat → Int64) (r0 : Nat → Nat → Int32), K20 i0 l0 r0 = some q → Sum.elim (fun q => (∀ k : Nat, ¬ (k = 4 ∨ k = 5 ∨ k = 6 ∨ k = 7 ∨ k = 8 ∨ k = 9 ∨ k = 47 ∨ k = 48 ∨ k = 49 ∨ k = 50 ∨ k = 51 ∨ k = 52 ∨ k = 53 ∨ k = 54 ∨ k = 55 ∨ k = 56 ∨ k = 57) → q.1 k = i0 k) ∧ (∀ k : Nat, ¬ (k = 44 ∨ k = 45) → q.2.1 k = l0 k) ∧ (∀ k : Nat, ¬ (k = 28 ∨ k = 29 ∨ k = 30 ∨ k = 31 ∨ k = 32 ∨ k = 33 ∨ k = 34 ∨ k = 35 ∨ k = 36 ∨ k = 37 ∨ k = 38 ∨ k = 39 ∨ k = 40 ∨ k = 41 ∨ k = 42 ∨ k = 43) → q.2.2 k = r0 k)) (fun t => (∀ k : Nat, ¬ (k = 4 ∨ k = 5 ∨ k = 6 ∨ k = 7 ∨ k = 8 ∨ k = 9 ∨ k = 47 ∨ k = 48 ∨ k = 49 ∨ k = 50 ∨ k = 51 ∨ k = 52 ∨ k = 53 ∨ k = 54 ∨ k = 55 ∨ k = 56 ∨ k = 57) → t.1 k = i0 k) ∧ (∀ k : Nat, ¬ (k = 44 ∨ k = 45) → t.2.1 k = l0 k) ∧ (∀ k : Nat, ¬ (k = 28 ∨ k = 29 ∨ k = 30 ∨ k = 31 ∨ k = 32 ∨ k = 33 ∨ k = 34 ∨ k = 35 ∨ k = 36 ∨ k = 37 ∨ k = 38 ∨ k = 39 ∨ k = 40 ∨ k = 41 ∨ k = 42 ∨ k = 43) → t.2.2 k = r0 k)) q) : ∀ (i0 : Nat → Int32) (l0 : Nat → Nat → Int64) (r0 : Nat → Nat → Int32) (x1 : Int64) (y0 : Int32), f_X13_readProgram_82 K20 i0 l0 r0 x1 y0 = some q → Sum.elim (fun q => (∀ k : Nat, ¬ (k = 4 ∨ k = 5 ∨ k = 6 ∨ k = 7 ∨ k = 8 ∨ k = 9 ∨ k = 47 ∨ k = 48 ∨ k = 49 ∨ k = 50 ∨ k = 51 ∨ k = 52 ∨ k = 53 ∨ k = 54 ∨ k = 55 ∨ k = 56 ∨ k = 57) → q.1 k = i0 k) ∧ (∀ k : Nat, ¬ (k = 44 ∨ k = 45) → q.2.1 k = l0 k) ∧ (∀ k : Nat, ¬ (k = 28 ∨ k = 29 ∨ k = 30 ∨ k = 31 ∨ k = 32 ∨ k = 33 ∨ k = 34 ∨ k = 35 ∨ k = 36 ∨ k = 37 ∨ k = 38 ∨ k = 39 ∨ k = 40 ∨ k = 41 ∨ k = 42 ∨ k = 43) → q.2.2 k = r0 k)) (fun t => (∀ k : Nat, ¬ (k = 4 ∨ k = 5 ∨ k = 6 ∨ k = 7 ∨ k = 8 ∨ k = 9 ∨ k = 47 ∨ k = 48 ∨ k = 49 ∨ k = 50 ∨ k = 51 ∨ k = 52 ∨ k = 53 ∨ k = 54 ∨ k = 55 ∨ k = 56 ∨ k = 57) → t.1 k = i0 k) ∧ (∀ k : Nat, ¬ (k = 44 ∨ k = 45) → t.2.1 k = l0 k) ∧ (∀ k : Nat, ¬ (k = 28 ∨ k = 29 ∨ k = 30 ∨ k = 31 ∨ k = 32 ∨ k = 33 ∨ k = 34 ∨ k = 35 ∨ k = 36 ∨ k = 37 ∨ k = 38 ∨ k = 39 ∨ k = 40 ∨ k = 41 ∨ k = 42 ∨ k = 43) → t.2.2 k = r0 k)) q := by
  intro i0 l0 r0 x1 y0 hf
  rw [f_X13_readProgram_82] at hf
  rcases (bt_s hf).symm with ⟨t32, hq32, hf⟩ | ⟨q32, hq32, hf⟩
  · have ft32 := fr_X13_need hq32
    obtain rfl := Option.some.inj hf
    exact ⟨fun k hk => (by (try dsimp only); rw [ft32 k (by omega)]), fun k _ => rfl, fun k _ => rfl⟩
  have fq32 := fr_X13_need hq32
  have hf := ck_2 hf
  obtain ⟨q33, hq33, hf⟩ := bd_s hf
  have fq33 := fr_X13_scan hq33
  rcases (bt_s hf).symm with ⟨t34, hq34, hf⟩ | ⟨q34, hq34, hf⟩
  · have ft34 := fr_X13_word hq34
    obtain rfl := Option.some.inj hf
    exact ⟨fun k hk => (by (try dsimp only); rw [ft34 k (by omega), fq33 k (by omega), pk_un (by omega), fq32 k (by omega)]), fun k hk => (by (try dsimp only); rw [va_up_ne _ _ (by omega)]), fun k _ => rfl⟩
  have fq34 := fr_X13_word hq34
  rcases (bt_s hf).symm with ⟨t35, hq35, hf⟩ | ⟨q35, hq35, hf⟩
  · have ft35 := fr_X13_readBody 12 hq35
    obtain rfl := Option.some.inj hf
    exact ⟨fun k hk => (by (try dsimp only); rw [ft35.1 k (by omega), fq34 k (by omega), fq33 k (by omega), pk_un (by omega), fq32 k (by omega)]), fun k hk => (by (try dsimp only); rw [ft35.2.1 k (by omega), va_up_ne _ _ (by omega)]), fun k hk => (by (try dsimp only); rw [ft35.2.2 k (by omega)])⟩
  have fq35 := fr_X13_readBody 12 hq35
  have hf := ck_2 hf
  have hf := ck_2 hf
  have g36 := fr_X13_readProgram_151 _ (hK20) _ _ _ hf
  cases q with
  | inl q => exact ⟨fun k hk => (by (try dsimp only); rw [g36.1 k (by omega), fq35.1 k (by omega), fq34 k (by omega), fq33 k (by omega), pk_un (by omega), fq32 k (by omega)]), fun k hk => (by (try dsimp only); rw [g36.2.1 k (by omega), fq35.2.1 k (by omega), va_up_ne _ _ (by omega)]), fun k hk => (by (try dsimp only); rw [g36.2.2 k (by omega), va_up_ne _ _ (by omega), va_up_ne _ _ (by omega), fq35.2.2 k (by omega)])⟩
  | inr t => exact ⟨fun k hk => (by (try dsimp only); rw [g36.1 k (by omega), fq35.1 k (by omega), fq34 k (by omega), fq33 k (by omega), pk_un (by omega), fq32 k (by omega)]), fun k hk => (by (try dsimp only); rw [g36.2.1 k (by omega), fq35.2.1 k (by omega), va_up_ne _ _ (by omega)]), fun k hk => (by (try dsimp only); rw [g36.2.2 k (by omega), va_up_ne _ _ (by omega), va_up_ne _ _ (by omega), fq35.2.2 k (by omega)])⟩
set_option maxRecDepth 100000 in
set_option maxHeartbeats 4000000 in
theorem fr_X13_readProgram_54   {q : ((Nat → Int32) × (Nat → Nat → Int64) × (Nat → Nat → Int32)) ⊕ ((Nat → Int32) × (Nat → Nat → Int64) × (Nat → Nat → Int32))} (K20 : (Nat → Int32) → (Nat → Nat → Int64) → (Nat → Nat → Int32) → Option (((Nat → Int32) × (Nat → Nat → Int64) × (Nat → Nat → Int32)) ⊕ ((Nat → Int32) × (Nat → Nat → Int64) × (Nat → Nat → Int32)))) (hK20 : ∀ (i0 : Nat → Int32) (l0 : Nat → Nat → Int64) (r0 : Nat → Nat → Int32), K20 i0 l0 r0 = some q → Sum.elim (fun q => (∀ k : Nat, ¬ (k = 4 ∨ k = 5 ∨ k = 6 ∨ k = 7 ∨ k = 8 ∨ k = 9 ∨ k = 47 ∨ k = 48 ∨ k = 49 ∨ k = 50 ∨ k = 51 ∨ k = 52 ∨ k = 53 ∨ k = 54 ∨ k = 55 ∨ k = 56 ∨ k = 57) → q.1 k = i0 k) ∧ (∀ k : Nat, ¬ (k = 44 ∨ k = 45) → q.2.1 k = l0 k) ∧ (∀ k : Nat, ¬ (k = 28 ∨ k = 29 ∨ k = 30 ∨ k = 31 ∨ k = 32 ∨ k = 33 ∨ k = 34 ∨ k = 35 ∨ k = 36 ∨ k = 37 ∨ k = 38 ∨ k = 39 ∨ k = 40 ∨ k = 41 ∨ k = 42 ∨ k = 43) → q.2.2 k = r0 k)) (fun t => (∀ k : Nat, ¬ (k = 4 ∨ k = 5 ∨ k = 6 ∨ k = 7 ∨ k = 8 ∨ k = 9 ∨ k = 47 ∨ k = 48 ∨ k = 49 ∨ k = 50 ∨ k = 51 ∨ k = 52 ∨ k = 53 ∨ k = 54 ∨ k = 55 ∨ k = 56 ∨ k = 57) → t.1 k = i0 k) ∧ (∀ k : Nat, ¬ (k = 44 ∨ k = 45) → t.2.1 k = l0 k) ∧ (∀ k : Nat, ¬ (k = 28 ∨ k = 29 ∨ k = 30 ∨ k = 31 ∨ k = 32 ∨ k = 33 ∨ k = 34 ∨ k = 35 ∨ k = 36 ∨ k = 37 ∨ k = 38 ∨ k = 39 ∨ k = 40 ∨ k = 41 ∨ k = 42 ∨ k = 43) → t.2.2 k = r0 k)) q) : ∀ (i0 : Nat → Int32) (l0 : Nat → Nat → Int64) (r0 : Nat → Nat → Int32) (y0 : Int32), f_X13_readProgram_54 K20 i0 l0 r0 y0 = some q → Sum.elim (fun q => (∀ k : Nat, ¬ (k = 4 ∨ k = 5 ∨ k = 6 ∨ k = 7 ∨ k = 8 ∨ k = 9 ∨ k = 47 ∨ k = 48 ∨ k = 49 ∨ k = 50 ∨ k = 51 ∨ k = 52 ∨ k = 53 ∨ k = 54 ∨ k = 55 ∨ k = 56 ∨ k = 57) → q.1 k = i0 k) ∧ (∀ k : Nat, ¬ (k = 44 ∨ k = 45) → q.2.1 k = l0 k) ∧ (∀ k : Nat, ¬ (k = 28 ∨ k = 29 ∨ k = 30 ∨ k = 31 ∨ k = 32 ∨ k = 33 ∨ k = 34 ∨ k = 35 ∨ k = 36 ∨ k = 37 ∨ k = 38 ∨ k = 39 ∨ k = 40 ∨ k = 41 ∨ k = 42 ∨ k = 43) → q.2.2 k = r0 k)) (fun t => (∀ k : Nat, ¬ (k = 4 ∨ k = 5 ∨ k = 6 ∨ k = 7 ∨ k = 8 ∨ k = 9 ∨ k = 47 ∨ k = 48 ∨ k = 49 ∨ k = 50 ∨ k = 51 ∨ k = 52 ∨ k = 53 ∨ k = 54 ∨ k = 55 ∨ k = 56 ∨ k = 57) → t.1 k = i0 k) ∧ (∀ k : Nat, ¬ (k = 44 ∨ k = 45) → t.2.1 k = l0 k) ∧ (∀ k : Nat, ¬ (k = 28 ∨ k = 29 ∨ k = 30 ∨ k = 31 ∨ k = 32 ∨ k = 33 ∨ k = 34 ∨ k = 35 ∨ k = 36 ∨ k = 37 ∨ k = 38 ∨ k = 39 ∨ k = 40 ∨ k = 41 ∨ k = 42 ∨ k = 43) → t.2.2 k = r0 k)) q := by
  intro i0 l0 r0 y0 hf
  rw [f_X13_readProgram_54] at hf
  rcases (bt_s hf).symm with ⟨t37, hq37, hf⟩ | ⟨q37, hq37, hf⟩
  · have ft37 := fr_X13_need hq37
    obtain rfl := Option.some.inj hf
    exact ⟨fun k hk => (by (try dsimp only); rw [ft37 k (by omega)]), fun k _ => rfl, fun k _ => rfl⟩
  have fq37 := fr_X13_need hq37
  obtain ⟨q38, hq38, hf⟩ := bd_s hf
  have fq38 := fr_X13_scan hq38
  rcases (bt_s hf).symm with ⟨t39, hq39, hf⟩ | ⟨q39, hq39, hf⟩
  · have ft39 := fr_X13_nameAtHand hq39
    obtain rfl := Option.some.inj hf
    exact ⟨fun k hk => (by (try dsimp only); rw [ft39 k (by omega), fq38 k (by omega), fq37 k (by omega)]), fun k _ => rfl, fun k _ => rfl⟩
  have fq39 := fr_X13_nameAtHand hq39
  obtain ⟨q40, hq40, hf⟩ := bd_s hf
  by_cases hc : q40 = (-1)
  · have hf := ite_t hf hc
    have g42 := fr_X13_readProgram_82 _ (hK20) _ _ _ _ _ hf
    cases q with
    | inl q => exact ⟨fun k hk => (by (try dsimp only); rw [g42.1 k (by omega), fq39 k (by omega), fq38 k (by omega), fq37 k (by omega)]), fun k hk => (by (try dsimp only); rw [g42.2.1 k (by omega)]), fun k hk => (by (try dsimp only); rw [g42.2.2 k (by omega)])⟩
    | inr t => exact ⟨fun k hk => (by (try dsimp only); rw [g42.1 k (by omega), fq39 k (by omega), fq38 k (by omega), fq37 k (by omega)]), fun k hk => (by (try dsimp only); rw [g42.2.1 k (by omega)]), fun k hk => (by (try dsimp only); rw [g42.2.2 k (by omega)])⟩
  · have hf := ite_f hf hc
    have g41 := fr_X13_readProgram_82 _ (hK20) _ _ _ _ _ hf
    cases q with
    | inl q => exact ⟨fun k hk => (by (try dsimp only); rw [g41.1 k (by omega), fq39 k (by omega), fq38 k (by omega), fq37 k (by omega)]), fun k hk => (by (try dsimp only); rw [g41.2.1 k (by omega)]), fun k hk => (by (try dsimp only); rw [g41.2.2 k (by omega)])⟩
    | inr t => exact ⟨fun k hk => (by (try dsimp only); rw [g41.1 k (by omega), fq39 k (by omega), fq38 k (by omega), fq37 k (by omega)]), fun k hk => (by (try dsimp only); rw [g41.2.1 k (by omega)]), fun k hk => (by (try dsimp only); rw [g41.2.2 k (by omega)])⟩
set_option maxRecDepth 100000 in
set_option maxHeartbeats 4000000 in
theorem fr_X13_readProgram_232   {q : ((Nat → Int32) × (Nat → Nat → Int64) × (Nat → Nat → Int32)) ⊕ ((Nat → Int32) × (Nat → Nat → Int64) × (Nat → Nat → Int32))} (K169 : (Nat → Int32) → (Nat → Nat → Int64) → (Nat → Nat → Int32) → Int32 → Option (((Nat → Int32) × (Nat → Nat → Int64) × (Nat → Nat → Int32)) ⊕ ((Nat → Int32) × (Nat → Nat → Int64) × (Nat → Nat → Int32)))) (hK169 : ∀ (i0 : Nat → Int32) (l0 : Nat → Nat → Int64) (r0 : Nat → Nat → Int32) (x1 : Int32), K169 i0 l0 r0 x1 = some q → Sum.elim (fun q => (∀ k : Nat, ¬ (k = 4 ∨ k = 5 ∨ k = 6 ∨ k = 7 ∨ k = 8 ∨ k = 9 ∨ k = 47 ∨ k = 48 ∨ k = 49 ∨ k = 50 ∨ k = 51 ∨ k = 52 ∨ k = 53 ∨ k = 54 ∨ k = 55 ∨ k = 56 ∨ k = 57) → q.1 k = i0 k) ∧ (∀ k : Nat, ¬ (k = 44 ∨ k = 45) → q.2.1 k = l0 k) ∧ (∀ k : Nat, ¬ (k = 28 ∨ k = 29 ∨ k = 30 ∨ k = 31 ∨ k = 32 ∨ k = 33 ∨ k = 34 ∨ k = 35 ∨ k = 36 ∨ k = 37 ∨ k = 38 ∨ k = 39 ∨ k = 40 ∨ k = 41 ∨ k = 42 ∨ k = 43) → q.2.2 k = r0 k)) (fun t => (∀ k : Nat, ¬ (k = 4 ∨ k = 5 ∨ k = 6 ∨ k = 7 ∨ k = 8 ∨ k = 9 ∨ k = 47 ∨ k = 48 ∨ k = 49 ∨ k = 50 ∨ k = 51 ∨ k = 52 ∨ k = 53 ∨ k = 54 ∨ k = 55 ∨ k = 56 ∨ k = 57) → t.1 k = i0 k) ∧ (∀ k : Nat, ¬ (k = 44 ∨ k = 45) → t.2.1 k = l0 k) ∧ (∀ k : Nat, ¬ (k = 28 ∨ k = 29 ∨ k = 30 ∨ k = 31 ∨ k = 32 ∨ k = 33 ∨ k = 34 ∨ k = 35 ∨ k = 36 ∨ k = 37 ∨ k = 38 ∨ k = 39 ∨ k = 40 ∨ k = 41 ∨ k = 42 ∨ k = 43) → t.2.2 k = r0 k)) q) : ∀ (i0 : Nat → Int32) (l0 : Nat → Nat → Int64) (r0 : Nat → Nat → Int32) (x1 : Int32), f_X13_readProgram_232 K169 i0 l0 r0 x1 = some q → Sum.elim (fun q => (∀ k : Nat, ¬ (k = 4 ∨ k = 5 ∨ k = 6 ∨ k = 7 ∨ k = 8 ∨ k = 9 ∨ k = 47 ∨ k = 48 ∨ k = 49 ∨ k = 50 ∨ k = 51 ∨ k = 52 ∨ k = 53 ∨ k = 54 ∨ k = 55 ∨ k = 56 ∨ k = 57) → q.1 k = i0 k) ∧ (∀ k : Nat, ¬ (k = 44 ∨ k = 45) → q.2.1 k = l0 k) ∧ (∀ k : Nat, ¬ (k = 28 ∨ k = 29 ∨ k = 30 ∨ k = 31 ∨ k = 32 ∨ k = 33 ∨ k = 34 ∨ k = 35 ∨ k = 36 ∨ k = 37 ∨ k = 38 ∨ k = 39 ∨ k = 40 ∨ k = 41 ∨ k = 42 ∨ k = 43) → q.2.2 k = r0 k)) (fun t => (∀ k : Nat, ¬ (k = 4 ∨ k = 5 ∨ k = 6 ∨ k = 7 ∨ k = 8 ∨ k = 9 ∨ k = 47 ∨ k = 48 ∨ k = 49 ∨ k = 50 ∨ k = 51 ∨ k = 52 ∨ k = 53 ∨ k = 54 ∨ k = 55 ∨ k = 56 ∨ k = 57) → t.1 k = i0 k) ∧ (∀ k : Nat, ¬ (k = 44 ∨ k = 45) → t.2.1 k = l0 k) ∧ (∀ k : Nat, ¬ (k = 28 ∨ k = 29 ∨ k = 30 ∨ k = 31 ∨ k = 32 ∨ k = 33 ∨ k = 34 ∨ k = 35 ∨ k = 36 ∨ k = 37 ∨ k = 38 ∨ k = 39 ∨ k = 40 ∨ k = 41 ∨ k = 42 ∨ k = 43) → t.2.2 k = r0 k)) q := by
  intro i0 l0 r0 x1 hf
  rw [f_X13_readProgram_232] at hf
  have g43 := hK169 _ _ _ _ hf
  cases q with
  | inl q => exact ⟨fun k hk => (by (try dsimp only); rw [g43.1 k (by omega)]), fun k hk => (by (try dsimp only); rw [g43.2.1 k (by omega)]), fun k hk => (by (try dsimp only); rw [g43.2.2 k (by omega)])⟩
  | inr t => exact ⟨fun k hk => (by (try dsimp only); rw [g43.1 k (by omega)]), fun k hk => (by (try dsimp only); rw [g43.2.1 k (by omega)]), fun k hk => (by (try dsimp only); rw [g43.2.2 k (by omega)])⟩
set_option maxRecDepth 100000 in
set_option maxHeartbeats 4000000 in
theorem fr_X13_readProgram_228   {q : ((Nat → Int32) × (Nat → Nat → Int64) × (Nat → Nat → Int32)) ⊕ ((Nat → Int32) × (Nat → Nat → Int64) × (Nat → Nat → Int32))} (K169 : (Nat → Int32) → (Nat → Nat → Int64) → (Nat → Nat → Int32) → Int32 → Option (((Nat → Int32) × (Nat → Nat → Int64) × (Nat → Nat → Int32)) ⊕ ((Nat → Int32) × (Nat → Nat → Int64) × (Nat → Nat → Int32)))) (hK169 : ∀ (i0 : Nat → Int32) (l0 : Nat → Nat → Int64) (r0 : Nat → Nat → Int32) (x1 : Int32), K169 i0 l0 r0 x1 = some q → Sum.elim (fun q => (∀ k : Nat, ¬ (k = 4 ∨ k = 5 ∨ k = 6 ∨ k = 7 ∨ k = 8 ∨ k = 9 ∨ k = 47 ∨ k = 48 ∨ k = 49 ∨ k = 50 ∨ k = 51 ∨ k = 52 ∨ k = 53 ∨ k = 54 ∨ k = 55 ∨ k = 56 ∨ k = 57) → q.1 k = i0 k) ∧ (∀ k : Nat, ¬ (k = 44 ∨ k = 45) → q.2.1 k = l0 k) ∧ (∀ k : Nat, ¬ (k = 28 ∨ k = 29 ∨ k = 30 ∨ k = 31 ∨ k = 32 ∨ k = 33 ∨ k = 34 ∨ k = 35 ∨ k = 36 ∨ k = 37 ∨ k = 38 ∨ k = 39 ∨ k = 40 ∨ k = 41 ∨ k = 42 ∨ k = 43) → q.2.2 k = r0 k)) (fun t => (∀ k : Nat, ¬ (k = 4 ∨ k = 5 ∨ k = 6 ∨ k = 7 ∨ k = 8 ∨ k = 9 ∨ k = 47 ∨ k = 48 ∨ k = 49 ∨ k = 50 ∨ k = 51 ∨ k = 52 ∨ k = 53 ∨ k = 54 ∨ k = 55 ∨ k = 56 ∨ k = 57) → t.1 k = i0 k) ∧ (∀ k : Nat, ¬ (k = 44 ∨ k = 45) → t.2.1 k = l0 k) ∧ (∀ k : Nat, ¬ (k = 28 ∨ k = 29 ∨ k = 30 ∨ k = 31 ∨ k = 32 ∨ k = 33 ∨ k = 34 ∨ k = 35 ∨ k = 36 ∨ k = 37 ∨ k = 38 ∨ k = 39 ∨ k = 40 ∨ k = 41 ∨ k = 42 ∨ k = 43) → t.2.2 k = r0 k)) q) : ∀ (i0 : Nat → Int32) (l0 : Nat → Nat → Int64) (r0 : Nat → Nat → Int32) (x1 : Int32) (y0 : Int32), f_X13_readProgram_228 K169 i0 l0 r0 x1 y0 = some q → Sum.elim (fun q => (∀ k : Nat, ¬ (k = 4 ∨ k = 5 ∨ k = 6 ∨ k = 7 ∨ k = 8 ∨ k = 9 ∨ k = 47 ∨ k = 48 ∨ k = 49 ∨ k = 50 ∨ k = 51 ∨ k = 52 ∨ k = 53 ∨ k = 54 ∨ k = 55 ∨ k = 56 ∨ k = 57) → q.1 k = i0 k) ∧ (∀ k : Nat, ¬ (k = 44 ∨ k = 45) → q.2.1 k = l0 k) ∧ (∀ k : Nat, ¬ (k = 28 ∨ k = 29 ∨ k = 30 ∨ k = 31 ∨ k = 32 ∨ k = 33 ∨ k = 34 ∨ k = 35 ∨ k = 36 ∨ k = 37 ∨ k = 38 ∨ k = 39 ∨ k = 40 ∨ k = 41 ∨ k = 42 ∨ k = 43) → q.2.2 k = r0 k)) (fun t => (∀ k : Nat, ¬ (k = 4 ∨ k = 5 ∨ k = 6 ∨ k = 7 ∨ k = 8 ∨ k = 9 ∨ k = 47 ∨ k = 48 ∨ k = 49 ∨ k = 50 ∨ k = 51 ∨ k = 52 ∨ k = 53 ∨ k = 54 ∨ k = 55 ∨ k = 56 ∨ k = 57) → t.1 k = i0 k) ∧ (∀ k : Nat, ¬ (k = 44 ∨ k = 45) → t.2.1 k = l0 k) ∧ (∀ k : Nat, ¬ (k = 28 ∨ k = 29 ∨ k = 30 ∨ k = 31 ∨ k = 32 ∨ k = 33 ∨ k = 34 ∨ k = 35 ∨ k = 36 ∨ k = 37 ∨ k = 38 ∨ k = 39 ∨ k = 40 ∨ k = 41 ∨ k = 42 ∨ k = 43) → t.2.2 k = r0 k)) q := by
  intro i0 l0 r0 x1 y0 hf
  rw [f_X13_readProgram_228] at hf
  rcases (bt_s hf).symm with ⟨t44, hq44, hf⟩ | ⟨q44, hq44, hf⟩
  · have ft44 := fr_X13_need hq44
    obtain rfl := Option.some.inj hf
    exact ⟨fun k hk => (by (try dsimp only); rw [ft44 k (by omega)]), fun k _ => rfl, fun k _ => rfl⟩
  have fq44 := fr_X13_need hq44
  have g45 := fr_X13_readProgram_232 _ (hK169) _ _ _ _ hf
  cases q with
  | inl q => exact ⟨fun k hk => (by (try dsimp only); rw [g45.1 k (by omega), fq44 k (by omega)]), fun k hk => (by (try dsimp only); rw [g45.2.1 k (by omega)]), fun k hk => (by (try dsimp only); rw [g45.2.2 k (by omega)])⟩
  | inr t => exact ⟨fun k hk => (by (try dsimp only); rw [g45.1 k (by omega), fq44 k (by omega)]), fun k hk => (by (try dsimp only); rw [g45.2.1 k (by omega)]), fun k hk => (by (try dsimp only); rw [g45.2.2 k (by omega)])⟩
set_option maxRecDepth 100000 in
set_option maxHeartbeats 4000000 in
theorem fr_X13_readProgram_212   {q : ((Nat → Int32) × (Nat → Nat → Int64) × (Nat → Nat → Int32)) ⊕ ((Nat → Int32) × (Nat → Nat → Int64) × (Nat → Nat → Int32))} (K169 : (Nat → Int32) → (Nat → Nat → Int64) → (Nat → Nat → Int32) → Int32 → Option (((Nat → Int32) × (Nat → Nat → Int64) × (Nat → Nat → Int32)) ⊕ ((Nat → Int32) × (Nat → Nat → Int64) × (Nat → Nat → Int32)))) (hK169 : ∀ (i0 : Nat → Int32) (l0 : Nat → Nat → Int64) (r0 : Nat → Nat → Int32) (x1 : Int32), K169 i0 l0 r0 x1 = some q → Sum.elim (fun q => (∀ k : Nat, ¬ (k = 4 ∨ k = 5 ∨ k = 6 ∨ k = 7 ∨ k = 8 ∨ k = 9 ∨ k = 47 ∨ k = 48 ∨ k = 49 ∨ k = 50 ∨ k = 51 ∨ k = 52 ∨ k = 53 ∨ k = 54 ∨ k = 55 ∨ k = 56 ∨ k = 57) → q.1 k = i0 k) ∧ (∀ k : Nat, ¬ (k = 44 ∨ k = 45) → q.2.1 k = l0 k) ∧ (∀ k : Nat, ¬ (k = 28 ∨ k = 29 ∨ k = 30 ∨ k = 31 ∨ k = 32 ∨ k = 33 ∨ k = 34 ∨ k = 35 ∨ k = 36 ∨ k = 37 ∨ k = 38 ∨ k = 39 ∨ k = 40 ∨ k = 41 ∨ k = 42 ∨ k = 43) → q.2.2 k = r0 k)) (fun t => (∀ k : Nat, ¬ (k = 4 ∨ k = 5 ∨ k = 6 ∨ k = 7 ∨ k = 8 ∨ k = 9 ∨ k = 47 ∨ k = 48 ∨ k = 49 ∨ k = 50 ∨ k = 51 ∨ k = 52 ∨ k = 53 ∨ k = 54 ∨ k = 55 ∨ k = 56 ∨ k = 57) → t.1 k = i0 k) ∧ (∀ k : Nat, ¬ (k = 44 ∨ k = 45) → t.2.1 k = l0 k) ∧ (∀ k : Nat, ¬ (k = 28 ∨ k = 29 ∨ k = 30 ∨ k = 31 ∨ k = 32 ∨ k = 33 ∨ k = 34 ∨ k = 35 ∨ k = 36 ∨ k = 37 ∨ k = 38 ∨ k = 39 ∨ k = 40 ∨ k = 41 ∨ k = 42 ∨ k = 43) → t.2.2 k = r0 k)) q) : ∀ (i0 : Nat → Int32) (l0 : Nat → Nat → Int64) (r0 : Nat → Nat → Int32) (x1 : Int32) (x2 : Int32), f_X13_readProgram_212 K169 i0 l0 r0 x1 x2 = some q → Sum.elim (fun q => (∀ k : Nat, ¬ (k = 4 ∨ k = 5 ∨ k = 6 ∨ k = 7 ∨ k = 8 ∨ k = 9 ∨ k = 47 ∨ k = 48 ∨ k = 49 ∨ k = 50 ∨ k = 51 ∨ k = 52 ∨ k = 53 ∨ k = 54 ∨ k = 55 ∨ k = 56 ∨ k = 57) → q.1 k = i0 k) ∧ (∀ k : Nat, ¬ (k = 44 ∨ k = 45) → q.2.1 k = l0 k) ∧ (∀ k : Nat, ¬ (k = 28 ∨ k = 29 ∨ k = 30 ∨ k = 31 ∨ k = 32 ∨ k = 33 ∨ k = 34 ∨ k = 35 ∨ k = 36 ∨ k = 37 ∨ k = 38 ∨ k = 39 ∨ k = 40 ∨ k = 41 ∨ k = 42 ∨ k = 43) → q.2.2 k = r0 k)) (fun t => (∀ k : Nat, ¬ (k = 4 ∨ k = 5 ∨ k = 6 ∨ k = 7 ∨ k = 8 ∨ k = 9 ∨ k = 47 ∨ k = 48 ∨ k = 49 ∨ k = 50 ∨ k = 51 ∨ k = 52 ∨ k = 53 ∨ k = 54 ∨ k = 55 ∨ k = 56 ∨ k = 57) → t.1 k = i0 k) ∧ (∀ k : Nat, ¬ (k = 44 ∨ k = 45) → t.2.1 k = l0 k) ∧ (∀ k : Nat, ¬ (k = 28 ∨ k = 29 ∨ k = 30 ∨ k = 31 ∨ k = 32 ∨ k = 33 ∨ k = 34 ∨ k = 35 ∨ k = 36 ∨ k = 37 ∨ k = 38 ∨ k = 39 ∨ k = 40 ∨ k = 41 ∨ k = 42 ∨ k = 43) → t.2.2 k = r0 k)) q := by
  intro i0 l0 r0 x1 x2 hf
  rw [f_X13_readProgram_212] at hf
  have hf := ck_2 hf
  by_cases hc : (r0 31 x2.toNatClampNeg) = (-1)
  · have hf := ite_t hf hc
    have g46 := fr_X13_readProgram_228 _ (hK169) _ _ _ _ _ hf
    cases q with
    | inl q => exact ⟨fun k hk => (by (try dsimp only); rw [g46.1 k (by omega)]), fun k hk => (by (try dsimp only); rw [g46.2.1 k (by omega)]), fun k hk => (by (try dsimp only); rw [g46.2.2 k (by omega)])⟩
    | inr t => exact ⟨fun k hk => (by (try dsimp only); rw [g46.1 k (by omega)]), fun k hk => (by (try dsimp only); rw [g46.2.1 k (by omega)]), fun k hk => (by (try dsimp only); rw [g46.2.2 k (by omega)])⟩
  · have hf := ite_f hf hc
    have g47 := fr_X13_readProgram_228 _ (hK169) _ _ _ _ _ hf
    cases q with
    | inl q => exact ⟨fun k hk => (by (try dsimp only); rw [g47.1 k (by omega)]), fun k hk => (by (try dsimp only); rw [g47.2.1 k (by omega)]), fun k hk => (by (try dsimp only); rw [g47.2.2 k (by omega)])⟩
    | inr t => exact ⟨fun k hk => (by (try dsimp only); rw [g47.1 k (by omega)]), fun k hk => (by (try dsimp only); rw [g47.2.1 k (by omega)]), fun k hk => (by (try dsimp only); rw [g47.2.2 k (by omega)])⟩
set_option maxRecDepth 100000 in
set_option maxHeartbeats 4000000 in
theorem fr_X13_readProgram_169   {q : ((Nat → Int32) × (Nat → Nat → Int64) × (Nat → Nat → Int32)) ⊕ ((Nat → Int32) × (Nat → Nat → Int64) × (Nat → Nat → Int32))}  : ∀ (n : Nat), ∀ (i0 : Nat → Int32) (l0 : Nat → Nat → Int64) (r0 : Nat → Nat → Int32) (x1 : Int32), f_X13_readProgram_169 n i0 l0 r0 x1 = some q → Sum.elim (fun q => (∀ k : Nat, ¬ (k = 4 ∨ k = 5 ∨ k = 6 ∨ k = 7 ∨ k = 8 ∨ k = 9 ∨ k = 47 ∨ k = 48 ∨ k = 49 ∨ k = 50 ∨ k = 51 ∨ k = 52 ∨ k = 53 ∨ k = 54 ∨ k = 55 ∨ k = 56 ∨ k = 57) → q.1 k = i0 k) ∧ (∀ k : Nat, ¬ (k = 44 ∨ k = 45) → q.2.1 k = l0 k) ∧ (∀ k : Nat, ¬ (k = 28 ∨ k = 29 ∨ k = 30 ∨ k = 31 ∨ k = 32 ∨ k = 33 ∨ k = 34 ∨ k = 35 ∨ k = 36 ∨ k = 37 ∨ k = 38 ∨ k = 39 ∨ k = 40 ∨ k = 41 ∨ k = 42 ∨ k = 43) → q.2.2 k = r0 k)) (fun t => (∀ k : Nat, ¬ (k = 4 ∨ k = 5 ∨ k = 6 ∨ k = 7 ∨ k = 8 ∨ k = 9 ∨ k = 47 ∨ k = 48 ∨ k = 49 ∨ k = 50 ∨ k = 51 ∨ k = 52 ∨ k = 53 ∨ k = 54 ∨ k = 55 ∨ k = 56 ∨ k = 57) → t.1 k = i0 k) ∧ (∀ k : Nat, ¬ (k = 44 ∨ k = 45) → t.2.1 k = l0 k) ∧ (∀ k : Nat, ¬ (k = 28 ∨ k = 29 ∨ k = 30 ∨ k = 31 ∨ k = 32 ∨ k = 33 ∨ k = 34 ∨ k = 35 ∨ k = 36 ∨ k = 37 ∨ k = 38 ∨ k = 39 ∨ k = 40 ∨ k = 41 ∨ k = 42 ∨ k = 43) → t.2.2 k = r0 k)) q := by
  intro n
  induction n with
  | zero =>
    intro i0 l0 r0 x1 hf
    rw [f_X13_readProgram_169] at hf
    cases hf
  | succ n ih =>
    intro i0 l0 r0 x1 hf
    rw [f_X13_readProgram_169] at hf
    by_cases hc : (i0 48) ≤ x1
    · have hf := ite_t hf hc
      obtain rfl := Option.some.inj hf
      exact ⟨fun k _ => rfl, fun k _ => rfl, fun k _ => rfl⟩
    · have hf := ite_f hf hc
      have hf := ck_2 hf
      by_cases hc : 6 ≤ (r0 28 (60 + x1).toNatClampNeg)
      · have hf := ite_t hf hc
        have hf := ck_2 hf
        obtain ⟨q48, hq48, hf⟩ := bd_s hf
        have hf := ck_2 hf
        have g49 := fr_X13_readProgram_212 _ (ih) _ _ _ _ _ hf
        cases q with
        | inl q => exact ⟨fun k hk => (by (try dsimp only); rw [g49.1 k (by omega)]), fun k hk => (by (try dsimp only); rw [g49.2.1 k (by omega)]), fun k hk => (by (try dsimp only); rw [g49.2.2 k (by omega), va_up_ne _ _ (by omega)])⟩
        | inr t => exact ⟨fun k hk => (by (try dsimp only); rw [g49.1 k (by omega)]), fun k hk => (by (try dsimp only); rw [g49.2.1 k (by omega)]), fun k hk => (by (try dsimp only); rw [g49.2.2 k (by omega), va_up_ne _ _ (by omega)])⟩
      · have hf := ite_f hf hc
        have g50 := fr_X13_readProgram_232 _ (ih) _ _ _ _ hf
        cases q with
        | inl q => exact ⟨fun k hk => (by (try dsimp only); rw [g50.1 k (by omega)]), fun k hk => (by (try dsimp only); rw [g50.2.1 k (by omega)]), fun k hk => (by (try dsimp only); rw [g50.2.2 k (by omega)])⟩
        | inr t => exact ⟨fun k hk => (by (try dsimp only); rw [g50.1 k (by omega)]), fun k hk => (by (try dsimp only); rw [g50.2.1 k (by omega)]), fun k hk => (by (try dsimp only); rw [g50.2.2 k (by omega)])⟩
set_option maxRecDepth 100000 in
set_option maxHeartbeats 4000000 in
theorem fr_X13_readProgram_20   {q : ((Nat → Int32) × (Nat → Nat → Int64) × (Nat → Nat → Int32)) ⊕ ((Nat → Int32) × (Nat → Nat → Int64) × (Nat → Nat → Int32))}  : ∀ (n : Nat), ∀ (i0 : Nat → Int32) (l0 : Nat → Nat → Int64) (r0 : Nat → Nat → Int32), f_X13_readProgram_20 n i0 l0 r0 = some q → Sum.elim (fun q => (∀ k : Nat, ¬ (k = 4 ∨ k = 5 ∨ k = 6 ∨ k = 7 ∨ k = 8 ∨ k = 9 ∨ k = 47 ∨ k = 48 ∨ k = 49 ∨ k = 50 ∨ k = 51 ∨ k = 52 ∨ k = 53 ∨ k = 54 ∨ k = 55 ∨ k = 56 ∨ k = 57) → q.1 k = i0 k) ∧ (∀ k : Nat, ¬ (k = 44 ∨ k = 45) → q.2.1 k = l0 k) ∧ (∀ k : Nat, ¬ (k = 28 ∨ k = 29 ∨ k = 30 ∨ k = 31 ∨ k = 32 ∨ k = 33 ∨ k = 34 ∨ k = 35 ∨ k = 36 ∨ k = 37 ∨ k = 38 ∨ k = 39 ∨ k = 40 ∨ k = 41 ∨ k = 42 ∨ k = 43) → q.2.2 k = r0 k)) (fun t => (∀ k : Nat, ¬ (k = 4 ∨ k = 5 ∨ k = 6 ∨ k = 7 ∨ k = 8 ∨ k = 9 ∨ k = 47 ∨ k = 48 ∨ k = 49 ∨ k = 50 ∨ k = 51 ∨ k = 52 ∨ k = 53 ∨ k = 54 ∨ k = 55 ∨ k = 56 ∨ k = 57) → t.1 k = i0 k) ∧ (∀ k : Nat, ¬ (k = 44 ∨ k = 45) → t.2.1 k = l0 k) ∧ (∀ k : Nat, ¬ (k = 28 ∨ k = 29 ∨ k = 30 ∨ k = 31 ∨ k = 32 ∨ k = 33 ∨ k = 34 ∨ k = 35 ∨ k = 36 ∨ k = 37 ∨ k = 38 ∨ k = 39 ∨ k = 40 ∨ k = 41 ∨ k = 42 ∨ k = 43) → t.2.2 k = r0 k)) q := by
  intro n
  induction n with
  | zero =>
    intro i0 l0 r0 hf
    rw [f_X13_readProgram_20] at hf
    cases hf
  | succ n ih =>
    intro i0 l0 r0 hf
    rw [f_X13_readProgram_20] at hf
    by_cases hc : (i0 6) = 0
    · have hf := ite_t hf hc
      have g51 := fr_X13_readProgram_169  2000000 _ _ _ _ hf
      cases q with
      | inl q => exact ⟨fun k hk => (by (try dsimp only); rw [g51.1 k (by omega)]), fun k hk => (by (try dsimp only); rw [g51.2.1 k (by omega)]), fun k hk => (by (try dsimp only); rw [g51.2.2 k (by omega)])⟩
      | inr t => exact ⟨fun k hk => (by (try dsimp only); rw [g51.1 k (by omega)]), fun k hk => (by (try dsimp only); rw [g51.2.1 k (by omega)]), fun k hk => (by (try dsimp only); rw [g51.2.2 k (by omega)])⟩
    · have hf := ite_f hf hc
      obtain ⟨q52, hq52, hf⟩ := bd_s hf
      rcases (bt_s hf).symm with ⟨t53, hq53, hf⟩ | ⟨q53, hq53, hf⟩
      · have ft53 := fr_X13_need hq53
        obtain rfl := Option.some.inj hf
        exact ⟨fun k hk => (by (try dsimp only); rw [ft53 k (by omega)]), fun k _ => rfl, fun k _ => rfl⟩
      have fq53 := fr_X13_need hq53
      by_cases hc : 6 ≤ (q53 47)
      · have hf := ite_t hf hc
        have g54 := fr_X13_readProgram_54 _ (ih) _ _ _ _ hf
        cases q with
        | inl q => exact ⟨fun k hk => (by (try dsimp only); rw [g54.1 k (by omega), fq53 k (by omega)]), fun k hk => (by (try dsimp only); rw [g54.2.1 k (by omega)]), fun k hk => (by (try dsimp only); rw [g54.2.2 k (by omega)])⟩
        | inr t => exact ⟨fun k hk => (by (try dsimp only); rw [g54.1 k (by omega), fq53 k (by omega)]), fun k hk => (by (try dsimp only); rw [g54.2.1 k (by omega)]), fun k hk => (by (try dsimp only); rw [g54.2.2 k (by omega)])⟩
      · have hf := ite_f hf hc
        have g55 := fr_X13_readProgram_54 _ (ih) _ _ _ _ hf
        cases q with
        | inl q => exact ⟨fun k hk => (by (try dsimp only); rw [g55.1 k (by omega), fq53 k (by omega)]), fun k hk => (by (try dsimp only); rw [g55.2.1 k (by omega)]), fun k hk => (by (try dsimp only); rw [g55.2.2 k (by omega)])⟩
        | inr t => exact ⟨fun k hk => (by (try dsimp only); rw [g55.1 k (by omega), fq53 k (by omega)]), fun k hk => (by (try dsimp only); rw [g55.2.1 k (by omega)]), fun k hk => (by (try dsimp only); rw [g55.2.2 k (by omega)])⟩
set_option maxRecDepth 100000 in
set_option maxHeartbeats 4000000 in
theorem fr_X13_readProgram  {i0 : Nat → Int32} {r0 : Nat → Nat → Int32} {l0 : Nat → Nat → Int64}  {q : ((Nat → Int32) × (Nat → Nat → Int64) × (Nat → Nat → Int32)) ⊕ ((Nat → Int32) × (Nat → Nat → Int64) × (Nat → Nat → Int32))} (hf : f_X13_readProgram i0 r0 l0 = some q) : Sum.elim (fun q => (∀ k : Nat, ¬ (k = 4 ∨ k = 5 ∨ k = 6 ∨ k = 7 ∨ k = 8 ∨ k = 9 ∨ k = 47 ∨ k = 48 ∨ k = 49 ∨ k = 50 ∨ k = 51 ∨ k = 52 ∨ k = 53 ∨ k = 54 ∨ k = 55 ∨ k = 56 ∨ k = 57) → q.1 k = i0 k) ∧ (∀ k : Nat, ¬ (k = 44 ∨ k = 45) → q.2.1 k = l0 k) ∧ (∀ k : Nat, ¬ (k = 28 ∨ k = 29 ∨ k = 30 ∨ k = 31 ∨ k = 32 ∨ k = 33 ∨ k = 34 ∨ k = 35 ∨ k = 36 ∨ k = 37 ∨ k = 38 ∨ k = 39 ∨ k = 40 ∨ k = 41 ∨ k = 42 ∨ k = 43) → q.2.2 k = r0 k)) (fun t => (∀ k : Nat, ¬ (k = 4 ∨ k = 5 ∨ k = 6 ∨ k = 7 ∨ k = 8 ∨ k = 9 ∨ k = 47 ∨ k = 48 ∨ k = 49 ∨ k = 50 ∨ k = 51 ∨ k = 52 ∨ k = 53 ∨ k = 54 ∨ k = 55 ∨ k = 56 ∨ k = 57) → t.1 k = i0 k) ∧ (∀ k : Nat, ¬ (k = 44 ∨ k = 45) → t.2.1 k = l0 k) ∧ (∀ k : Nat, ¬ (k = 28 ∨ k = 29 ∨ k = 30 ∨ k = 31 ∨ k = 32 ∨ k = 33 ∨ k = 34 ∨ k = 35 ∨ k = 36 ∨ k = 37 ∨ k = 38 ∨ k = 39 ∨ k = 40 ∨ k = 41 ∨ k = 42 ∨ k = 43) → t.2.2 k = r0 k)) q := by
  rw [f_X13_readProgram] at hf
  have g56 := fr_X13_readProgram_20  2000000 _ _ _ hf
  cases q with
  | inl q => exact ⟨fun k hk => (by (try dsimp only); rw [g56.1 k (by omega), pk_un (by omega), pk_un (by omega), pk_un (by omega), pk_un (by omega)]), fun k hk => (by (try dsimp only); rw [g56.2.1 k (by omega)]), fun k hk => (by (try dsimp only); rw [g56.2.2 k (by omega)])⟩
  | inr t => exact ⟨fun k hk => (by (try dsimp only); rw [g56.1 k (by omega), pk_un (by omega), pk_un (by omega), pk_un (by omega), pk_un (by omega)]), fun k hk => (by (try dsimp only); rw [g56.2.1 k (by omega)]), fun k hk => (by (try dsimp only); rw [g56.2.2 k (by omega)])⟩
/-! X13_takeProgram -/
set_option maxRecDepth 100000 in
set_option maxHeartbeats 4000000 in
theorem fr_X13_takeProgram_54  {l0 : Nat → Nat → Int64} {q : (Nat → Int32) × (Nat → Nat → Int32)} (K10 : (Nat → Int32) → (Nat → Nat → Int32) → Int32 → Option ((Nat → Int32) × (Nat → Nat → Int32))) (hK10 : ∀ (i0 : Nat → Int32) (r0 : Nat → Nat → Int32) (x1 : Int32), K10 i0 r0 x1 = some q → (∀ k : Nat, ¬ (k = 46) → q.1 k = i0 k) ∧ (∀ k : Nat, ¬ (k = 28 ∨ k = 29 ∨ k = 30 ∨ k = 31 ∨ k = 32 ∨ k = 33 ∨ k = 34 ∨ k = 35 ∨ k = 36 ∨ k = 37 ∨ k = 38 ∨ k = 39 ∨ k = 40 ∨ k = 41 ∨ k = 42 ∨ k = 43) → q.2 k = r0 k)) : ∀ (i0 : Nat → Int32) (r0 : Nat → Nat → Int32) (x1 : Int32), f_X13_takeProgram_54 l0 K10 i0 r0 x1 = some q → (∀ k : Nat, ¬ (k = 46) → q.1 k = i0 k) ∧ (∀ k : Nat, ¬ (k = 28 ∨ k = 29 ∨ k = 30 ∨ k = 31 ∨ k = 32 ∨ k = 33 ∨ k = 34 ∨ k = 35 ∨ k = 36 ∨ k = 37 ∨ k = 38 ∨ k = 39 ∨ k = 40 ∨ k = 41 ∨ k = 42 ∨ k = 43) → q.2 k = r0 k) := by
  intro i0 r0 x1 hf
  rw [f_X13_takeProgram_54] at hf
  have g13 := hK10 _ _ _ hf
  exact ⟨fun k hk => (by (try dsimp only); rw [g13.1 k (by omega)]), fun k hk => (by (try dsimp only); rw [g13.2 k (by omega)])⟩
set_option maxRecDepth 100000 in
set_option maxHeartbeats 4000000 in
theorem fr_X13_takeProgram_289  {l0 : Nat → Nat → Int64} {q : (Nat → Int32) × (Nat → Nat → Int32)} (K62 : (Nat → Int32) → (Nat → Nat → Int32) → Int32 → Option ((Nat → Int32) × (Nat → Nat → Int32))) (hK62 : ∀ (i0 : Nat → Int32) (r0 : Nat → Nat → Int32) (x1 : Int32), K62 i0 r0 x1 = some q → (∀ k : Nat, ¬ (k = 46) → q.1 k = i0 k) ∧ (∀ k : Nat, ¬ (k = 28 ∨ k = 29 ∨ k = 30 ∨ k = 31 ∨ k = 32 ∨ k = 33 ∨ k = 34 ∨ k = 35 ∨ k = 36 ∨ k = 37 ∨ k = 38 ∨ k = 39 ∨ k = 40 ∨ k = 41 ∨ k = 42 ∨ k = 43) → q.2 k = r0 k)) (K131 : (Nat → Int32) → (Nat → Nat → Int32) → Int32 → Int32 → Int32 → Option ((Nat → Int32) × (Nat → Nat → Int32))) (hK131 : ∀ (i0 : Nat → Int32) (r0 : Nat → Nat → Int32) (x1 : Int32) (x2 : Int32) (x3 : Int32), K131 i0 r0 x1 x2 x3 = some q → (∀ k : Nat, ¬ (k = 46) → q.1 k = i0 k) ∧ (∀ k : Nat, ¬ (k = 28 ∨ k = 29 ∨ k = 30 ∨ k = 31 ∨ k = 32 ∨ k = 33 ∨ k = 34 ∨ k = 35 ∨ k = 36 ∨ k = 37 ∨ k = 38 ∨ k = 39 ∨ k = 40 ∨ k = 41 ∨ k = 42 ∨ k = 43) → q.2 k = r0 k)) : ∀ (i0 : Nat → Int32) (r0 : Nat → Nat → Int32) (x1 : Int32) (x2 : Int32) (x3 : Int32) (y0 : Int32) (y1 : Int32), f_X13_takeProgram_289 l0 K62 K131 i0 r0 x1 x2 x3 y0 y1 = some q → (∀ k : Nat, ¬ (k = 46) → q.1 k = i0 k) ∧ (∀ k : Nat, ¬ (k = 28 ∨ k = 29 ∨ k = 30 ∨ k = 31 ∨ k = 32 ∨ k = 33 ∨ k = 34 ∨ k = 35 ∨ k = 36 ∨ k = 37 ∨ k = 38 ∨ k = 39 ∨ k = 40 ∨ k = 41 ∨ k = 42 ∨ k = 43) → q.2 k = r0 k) := by
  intro i0 r0 x1 x2 x3 y0 y1 hf
  rw [f_X13_takeProgram_289] at hf
  have hf := ck_2 hf
  have g14 := hK131 _ _ _ _ _ hf
  exact ⟨fun k hk => (by (try dsimp only); rw [g14.1 k (by omega)]), fun k hk => (by (try dsimp only); rw [g14.2 k (by omega), va_up_ne _ _ (by omega)])⟩
set_option maxRecDepth 100000 in
set_option maxHeartbeats 4000000 in
theorem fr_X13_takeProgram_272  {l0 : Nat → Nat → Int64} {q : (Nat → Int32) × (Nat → Nat → Int32)} (K62 : (Nat → Int32) → (Nat → Nat → Int32) → Int32 → Option ((Nat → Int32) × (Nat → Nat → Int32))) (hK62 : ∀ (i0 : Nat → Int32) (r0 : Nat → Nat → Int32) (x1 : Int32), K62 i0 r0 x1 = some q → (∀ k : Nat, ¬ (k = 46) → q.1 k = i0 k) ∧ (∀ k : Nat, ¬ (k = 28 ∨ k = 29 ∨ k = 30 ∨ k = 31 ∨ k = 32 ∨ k = 33 ∨ k = 34 ∨ k = 35 ∨ k = 36 ∨ k = 37 ∨ k = 38 ∨ k = 39 ∨ k = 40 ∨ k = 41 ∨ k = 42 ∨ k = 43) → q.2 k = r0 k)) (K131 : (Nat → Int32) → (Nat → Nat → Int32) → Int32 → Int32 → Int32 → Option ((Nat → Int32) × (Nat → Nat → Int32))) (hK131 : ∀ (i0 : Nat → Int32) (r0 : Nat → Nat → Int32) (x1 : Int32) (x2 : Int32) (x3 : Int32), K131 i0 r0 x1 x2 x3 = some q → (∀ k : Nat, ¬ (k = 46) → q.1 k = i0 k) ∧ (∀ k : Nat, ¬ (k = 28 ∨ k = 29 ∨ k = 30 ∨ k = 31 ∨ k = 32 ∨ k = 33 ∨ k = 34 ∨ k = 35 ∨ k = 36 ∨ k = 37 ∨ k = 38 ∨ k = 39 ∨ k = 40 ∨ k = 41 ∨ k = 42 ∨ k = 43) → q.2 k = r0 k)) : ∀ (i0 : Nat → Int32) (r0 : Nat → Nat → Int32) (x1 : Int32) (x2 : Int32) (x3 : Int32) (y0 : Int32), f_X13_takeProgram_272 l0 K62 K131 i0 r0 x1 x2 x3 y0 = some q → (∀ k : Nat, ¬ (k = 46) → q.1 k = i0 k) ∧ (∀ k : Nat, ¬ (k = 28 ∨ k = 29 ∨ k = 30 ∨ k = 31 ∨ k = 32 ∨ k = 33 ∨ k = 34 ∨ k = 35 ∨ k = 36 ∨ k = 37 ∨ k = 38 ∨ k = 39 ∨ k = 40 ∨ k = 41 ∨ k = 42 ∨ k = 43) → q.2 k = r0 k) := by
  intro i0 r0 x1 x2 x3 y0 hf
  rw [f_X13_takeProgram_272] at hf
  have hf := ck_2 hf
  obtain ⟨q15, hq15, hf⟩ := bd_s hf
  have g16 := fr_X13_takeProgram_289 _ (hK62) _ (hK131) _ _ _ _ _ _ _ hf
  exact ⟨fun k hk => (by (try dsimp only); rw [g16.1 k (by omega)]), fun k hk => (by (try dsimp only); rw [g16.2 k (by omega)])⟩
set_option maxRecDepth 100000 in
set_option maxHeartbeats 4000000 in
theorem fr_X13_takeProgram_242  {l0 : Nat → Nat → Int64} {q : (Nat → Int32) × (Nat → Nat → Int32)} (K62 : (Nat → Int32) → (Nat → Nat → Int32) → Int32 → Option ((Nat → Int32) × (Nat → Nat → Int32))) (hK62 : ∀ (i0 : Nat → Int32) (r0 : Nat → Nat → Int32) (x1 : Int32), K62 i0 r0 x1 = some q → (∀ k : Nat, ¬ (k = 46) → q.1 k = i0 k) ∧ (∀ k : Nat, ¬ (k = 28 ∨ k = 29 ∨ k = 30 ∨ k = 31 ∨ k = 32 ∨ k = 33 ∨ k = 34 ∨ k = 35 ∨ k = 36 ∨ k = 37 ∨ k = 38 ∨ k = 39 ∨ k = 40 ∨ k = 41 ∨ k = 42 ∨ k = 43) → q.2 k = r0 k)) (K131 : (Nat → Int32) → (Nat → Nat → Int32) → Int32 → Int32 → Int32 → Option ((Nat → Int32) × (Nat → Nat → Int32))) (hK131 : ∀ (i0 : Nat → Int32) (r0 : Nat → Nat → Int32) (x1 : Int32) (x2 : Int32) (x3 : Int32), K131 i0 r0 x1 x2 x3 = some q → (∀ k : Nat, ¬ (k = 46) → q.1 k = i0 k) ∧ (∀ k : Nat, ¬ (k = 28 ∨ k = 29 ∨ k = 30 ∨ k = 31 ∨ k = 32 ∨ k = 33 ∨ k = 34 ∨ k = 35 ∨ k = 36 ∨ k = 37 ∨ k = 38 ∨ k = 39 ∨ k = 40 ∨ k = 41 ∨ k = 42 ∨ k = 43) → q.2 k = r0 k)) : ∀ (i0 : Nat → Int32) (r0 : Nat → Nat → Int32) (x1 : Int32) (x2 : Int32) (x3 : Int32) (y0 : Int32) (y1 : Int32), f_X13_takeProgram_242 l0 K62 K131 i0 r0 x1 x2 x3 y0 y1 = some q → (∀ k : Nat, ¬ (k = 46) → q.1 k = i0 k) ∧ (∀ k : Nat, ¬ (k = 28 ∨ k = 29 ∨ k = 30 ∨ k = 31 ∨ k = 32 ∨ k = 33 ∨ k = 34 ∨ k = 35 ∨ k = 36 ∨ k = 37 ∨ k = 38 ∨ k = 39 ∨ k = 40 ∨ k = 41 ∨ k = 42 ∨ k = 43) → q.2 k = r0 k) := by
  intro i0 r0 x1 x2 x3 y0 y1 hf
  rw [f_X13_takeProgram_242] at hf
  have hf := ck_2 hf
  have hf := ck_2 hf
  by_cases hc : (r0 28 x1.toNatClampNeg) = 4
  · have hf := ite_t hf hc
    have g17 := fr_X13_takeProgram_272 _ (hK62) _ (hK131) _ _ _ _ _ _ hf
    exact ⟨fun k hk => (by (try dsimp only); rw [g17.1 k (by omega)]), fun k hk => (by (try dsimp only); rw [g17.2 k (by omega), va_up_ne _ _ (by omega)])⟩
  · have hf := ite_f hf hc
    have hf := ck_2 hf
    by_cases hc : (r0 28 x1.toNatClampNeg) = 5
    · have hf := ite_t hf hc
      have g19 := fr_X13_takeProgram_272 _ (hK62) _ (hK131) _ _ _ _ _ _ hf
      exact ⟨fun k hk => (by (try dsimp only); rw [g19.1 k (by omega)]), fun k hk => (by (try dsimp only); rw [g19.2 k (by omega), va_up_ne _ _ (by omega)])⟩
    · have hf := ite_f hf hc
      have g18 := fr_X13_takeProgram_289 _ (hK62) _ (hK131) _ _ _ _ _ _ _ hf
      exact ⟨fun k hk => (by (try dsimp only); rw [g18.1 k (by omega)]), fun k hk => (by (try dsimp only); rw [g18.2 k (by omega), va_up_ne _ _ (by omega)])⟩
set_option maxRecDepth 100000 in
set_option maxHeartbeats 4000000 in
theorem fr_X13_takeProgram_225  {l0 : Nat → Nat → Int64} {q : (Nat → Int32) × (Nat → Nat → Int32)} (K62 : (Nat → Int32) → (Nat → Nat → Int32) → Int32 → Option ((Nat → Int32) × (Nat → Nat → Int32))) (hK62 : ∀ (i0 : Nat → Int32) (r0 : Nat → Nat → Int32) (x1 : Int32), K62 i0 r0 x1 = some q → (∀ k : Nat, ¬ (k = 46) → q.1 k = i0 k) ∧ (∀ k : Nat, ¬ (k = 28 ∨ k = 29 ∨ k = 30 ∨ k = 31 ∨ k = 32 ∨ k = 33 ∨ k = 34 ∨ k = 35 ∨ k = 36 ∨ k = 37 ∨ k = 38 ∨ k = 39 ∨ k = 40 ∨ k = 41 ∨ k = 42 ∨ k = 43) → q.2 k = r0 k)) (K131 : (Nat → Int32) → (Nat → Nat → Int32) → Int32 → Int32 → Int32 → Option ((Nat → Int32) × (Nat → Nat → Int32))) (hK131 : ∀ (i0 : Nat → Int32) (r0 : Nat → Nat → Int32) (x1 : Int32) (x2 : Int32) (x3 : Int32), K131 i0 r0 x1 x2 x3 = some q → (∀ k : Nat, ¬ (k = 46) → q.1 k = i0 k) ∧ (∀ k : Nat, ¬ (k = 28 ∨ k = 29 ∨ k = 30 ∨ k = 31 ∨ k = 32 ∨ k = 33 ∨ k = 34 ∨ k = 35 ∨ k = 36 ∨ k = 37 ∨ k = 38 ∨ k = 39 ∨ k = 40 ∨ k = 41 ∨ k = 42 ∨ k = 43) → q.2 k = r0 k)) : ∀ (i0 : Nat → Int32) (r0 : Nat → Nat → Int32) (x1 : Int32) (x2 : Int32) (x3 : Int32) (y0 : Int32), f_X13_takeProgram_225 l0 K62 K131 i0 r0 x1 x2 x3 y0 = some q → (∀ k : Nat, ¬ (k = 46) → q.1 k = i0 k) ∧ (∀ k : Nat, ¬ (k = 28 ∨ k = 29 ∨ k = 30 ∨ k = 31 ∨ k = 32 ∨ k = 33 ∨ k = 34 ∨ k = 35 ∨ k = 36 ∨ k = 37 ∨ k = 38 ∨ k = 39 ∨ k = 40 ∨ k = 41 ∨ k = 42 ∨ k = 43) → q.2 k = r0 k) := by
  intro i0 r0 x1 x2 x3 y0 hf
  rw [f_X13_takeProgram_225] at hf
  have hf := ck_2 hf
  obtain ⟨q20, hq20, hf⟩ := bd_s hf
  have g21 := fr_X13_takeProgram_242 _ (hK62) _ (hK131) _ _ _ _ _ _ _ hf
  exact ⟨fun k hk => (by (try dsimp only); rw [g21.1 k (by omega)]), fun k hk => (by (try dsimp only); rw [g21.2 k (by omega)])⟩
set_option maxRecDepth 100000 in
set_option maxHeartbeats 4000000 in
theorem fr_X13_takeProgram_176  {l0 : Nat → Nat → Int64} {q : (Nat → Int32) × (Nat → Nat → Int32)} (K62 : (Nat → Int32) → (Nat → Nat → Int32) → Int32 → Option ((Nat → Int32) × (Nat → Nat → Int32))) (hK62 : ∀ (i0 : Nat → Int32) (r0 : Nat → Nat → Int32) (x1 : Int32), K62 i0 r0 x1 = some q → (∀ k : Nat, ¬ (k = 46) → q.1 k = i0 k) ∧ (∀ k : Nat, ¬ (k = 28 ∨ k = 29 ∨ k = 30 ∨ k = 31 ∨ k = 32 ∨ k = 33 ∨ k = 34 ∨ k = 35 ∨ k = 36 ∨ k = 37 ∨ k = 38 ∨ k = 39 ∨ k = 40 ∨ k = 41 ∨ k = 42 ∨ k = 43) → q.2 k = r0 k)) (K131 : (Nat → Int32) → (Nat → Nat → Int32) → Int32 → Int32 → Int32 → Option ((Nat → Int32) × (Nat → Nat → Int32))) (hK131 : ∀ (i0 : Nat → Int32) (r0 : Nat → Nat → Int32) (x1 : Int32) (x2 : Int32) (x3 : Int32), K131 i0 r0 x1 x2 x3 = some q → (∀ k : Nat, ¬ (k = 46) → q.1 k = i0 k) ∧ (∀ k : Nat, ¬ (k = 28 ∨ k = 29 ∨ k = 30 ∨ k = 31 ∨ k = 32 ∨ k = 33 ∨ k = 34 ∨ k = 35 ∨ k = 36 ∨ k = 37 ∨ k = 38 ∨ k = 39 ∨ k = 40 ∨ k = 41 ∨ k = 42 ∨ k = 43) → q.2 k = r0 k)) : ∀ (i0 : Nat → Int32) (r0 : Nat → Nat → Int32) (x1 : Int32) (x2 : Int32) (x3 : Int32), f_X13_takeProgram_176 l0 K62 K131 i0 r0 x1 x2 x3 = some q → (∀ k : Nat, ¬ (k = 46) → q.1 k = i0 k) ∧ (∀ k : Nat, ¬ (k = 28 ∨ k = 29 ∨ k = 30 ∨ k = 31 ∨ k = 32 ∨ k = 33 ∨ k = 34 ∨ k = 35 ∨ k = 36 ∨ k = 37 ∨ k = 38 ∨ k = 39 ∨ k = 40 ∨ k = 41 ∨ k = 42 ∨ k = 43) → q.2 k = r0 k) := by
  intro i0 r0 x1 x2 x3 hf
  rw [f_X13_takeProgram_176] at hf
  have hf := ck_2 hf
  have hf := ck_2 hf
  have hf := ck_2 hf
  by_cases hc : (r0 28 x1.toNatClampNeg) = 4
  · have hf := ite_t hf hc
    have g22 := fr_X13_takeProgram_225 _ (hK62) _ (hK131) _ _ _ _ _ _ hf
    exact ⟨fun k hk => (by (try dsimp only); rw [g22.1 k (by omega)]), fun k hk => (by (try dsimp only); rw [g22.2 k (by omega), va_up_ne _ _ (by omega)])⟩
  · have hf := ite_f hf hc
    have hf := ck_2 hf
    by_cases hc : (r0 28 x1.toNatClampNeg) = 5
    · have hf := ite_t hf hc
      have g24 := fr_X13_takeProgram_225 _ (hK62) _ (hK131) _ _ _ _ _ _ hf
      exact ⟨fun k hk => (by (try dsimp only); rw [g24.1 k (by omega)]), fun k hk => (by (try dsimp only); rw [g24.2 k (by omega), va_up_ne _ _ (by omega)])⟩
    · have hf := ite_f hf hc
      have g23 := fr_X13_takeProgram_242 _ (hK62) _ (hK131) _ _ _ _ _ _ _ hf
      exact ⟨fun k hk => (by (try dsimp only); rw [g23.1 k (by omega)]), fun k hk => (by (try dsimp only); rw [g23.2 k (by omega), va_up_ne _ _ (by omega)])⟩
set_option maxRecDepth 100000 in
set_option maxHeartbeats 4000000 in
theorem fr_X13_takeProgram_351  {l0 : Nat → Nat → Int64} {q : (Nat → Int32) × (Nat → Nat → Int32)} (K62 : (Nat → Int32) → (Nat → Nat → Int32) → Int32 → Option ((Nat → Int32) × (Nat → Nat → Int32))) (hK62 : ∀ (i0 : Nat → Int32) (r0 : Nat → Nat → Int32) (x1 : Int32), K62 i0 r0 x1 = some q → (∀ k : Nat, ¬ (k = 46) → q.1 k = i0 k) ∧ (∀ k : Nat, ¬ (k = 28 ∨ k = 29 ∨ k = 30 ∨ k = 31 ∨ k = 32 ∨ k = 33 ∨ k = 34 ∨ k = 35 ∨ k = 36 ∨ k = 37 ∨ k = 38 ∨ k = 39 ∨ k = 40 ∨ k = 41 ∨ k = 42 ∨ k = 43) → q.2 k = r0 k)) (K298 : (Nat → Int32) → (Nat → Nat → Int32) → Int32 → Int32 → Int32 → Option ((Nat → Int32) × (Nat → Nat → Int32))) (hK298 : ∀ (i0 : Nat → Int32) (r0 : Nat → Nat → Int32) (x1 : Int32) (x2 : Int32) (x3 : Int32), K298 i0 r0 x1 x2 x3 = some q → (∀ k : Nat, ¬ (k = 46) → q.1 k = i0 k) ∧ (∀ k : Nat, ¬ (k = 28 ∨ k = 29 ∨ k = 30 ∨ k = 31 ∨ k = 32 ∨ k = 33 ∨ k = 34 ∨ k = 35 ∨ k = 36 ∨ k = 37 ∨ k = 38 ∨ k = 39 ∨ k = 40 ∨ k = 41 ∨ k = 42 ∨ k = 43) → q.2 k = r0 k)) : ∀ (i0 : Nat → Int32) (r0 : Nat → Nat → Int32) (x1 : Int32) (x2 : Int32) (x3 : Int32), f_X13_takeProgram_351 l0 K62 K298 i0 r0 x1 x2 x3 = some q → (∀ k : Nat, ¬ (k = 46) → q.1 k = i0 k) ∧ (∀ k : Nat, ¬ (k = 28 ∨ k = 29 ∨ k = 30 ∨ k = 31 ∨ k = 32 ∨ k = 33 ∨ k = 34 ∨ k = 35 ∨ k = 36 ∨ k = 37 ∨ k = 38 ∨ k = 39 ∨ k = 40 ∨ k = 41 ∨ k = 42 ∨ k = 43) → q.2 k = r0 k) := by
  intro i0 r0 x1 x2 x3 hf
  rw [f_X13_takeProgram_351] at hf
  have g25 := hK298 _ _ _ _ _ hf
  exact ⟨fun k hk => (by (try dsimp only); rw [g25.1 k (by omega)]), fun k hk => (by (try dsimp only); rw [g25.2 k (by omega)])⟩
set_option maxRecDepth 100000 in
set_option maxHeartbeats 4000000 in
theorem fr_X13_takeProgram_298  {l0 : Nat → Nat → Int64} {q : (Nat → Int32) × (Nat → Nat → Int32)} (K62 : (Nat → Int32) → (Nat → Nat → Int32) → Int32 → Option ((Nat → Int32) × (Nat → Nat → Int32))) (hK62 : ∀ (i0 : Nat → Int32) (r0 : Nat → Nat → Int32) (x1 : Int32), K62 i0 r0 x1 = some q → (∀ k : Nat, ¬ (k = 46) → q.1 k = i0 k) ∧ (∀ k : Nat, ¬ (k = 28 ∨ k = 29 ∨ k = 30 ∨ k = 31 ∨ k = 32 ∨ k = 33 ∨ k = 34 ∨ k = 35 ∨ k = 36 ∨ k = 37 ∨ k = 38 ∨ k = 39 ∨ k = 40 ∨ k = 41 ∨ k = 42 ∨ k = 43) → q.2 k = r0 k)) : ∀ (n : Nat), ∀ (i0 : Nat → Int32) (r0 : Nat → Nat → Int32) (x1 : Int32) (x2 : Int32) (x3 : Int32), f_X13_takeProgram_298 l0 K62 n i0 r0 x1 x2 x3 = some q → (∀ k : Nat, ¬ (k = 46) → q.1 k = i0 k) ∧ (∀ k : Nat, ¬ (k = 28 ∨ k = 29 ∨ k = 30 ∨ k = 31 ∨ k = 32 ∨ k = 33 ∨ k = 34 ∨ k = 35 ∨ k = 36 ∨ k = 37 ∨ k = 38 ∨ k = 39 ∨ k = 40 ∨ k = 41 ∨ k = 42 ∨ k = 43) → q.2 k = r0 k) := by
  intro n
  induction n with
  | zero =>
    intro i0 r0 x1 x2 x3 hf
    rw [f_X13_takeProgram_298] at hf
    cases hf
  | succ n ih =>
    intro i0 r0 x1 x2 x3 hf
    rw [f_X13_takeProgram_298] at hf
    by_cases hc : 4 ≤ x3
    · have hf := ite_t hf hc
      have g26 := hK62 _ _ _ hf
      exact ⟨fun k hk => (by (try dsimp only); rw [g26.1 k (by omega)]), fun k hk => (by (try dsimp only); rw [g26.2 k (by omega)])⟩
    · have hf := ite_f hf hc
      have hf := ck_2 hf
      have hf := ck_2 hf
      have hf := ck_2 hf
      have hf := ck_2 hf
      have g27 := fr_X13_takeProgram_351 _ (hK62) _ (ih) _ _ _ _ _ hf
      exact ⟨fun k hk => (by (try dsimp only); rw [g27.1 k (by omega)]), fun k hk => (by (try dsimp only); rw [g27.2 k (by omega), va_up_ne _ _ (by omega), va_up_ne _ _ (by omega)])⟩
set_option maxRecDepth 100000 in
set_option maxHeartbeats 4000000 in
theorem fr_X13_takeProgram_131  {l0 : Nat → Nat → Int64} {q : (Nat → Int32) × (Nat → Nat → Int32)} (K62 : (Nat → Int32) → (Nat → Nat → Int32) → Int32 → Option ((Nat → Int32) × (Nat → Nat → Int32))) (hK62 : ∀ (i0 : Nat → Int32) (r0 : Nat → Nat → Int32) (x1 : Int32), K62 i0 r0 x1 = some q → (∀ k : Nat, ¬ (k = 46) → q.1 k = i0 k) ∧ (∀ k : Nat, ¬ (k = 28 ∨ k = 29 ∨ k = 30 ∨ k = 31 ∨ k = 32 ∨ k = 33 ∨ k = 34 ∨ k = 35 ∨ k = 36 ∨ k = 37 ∨ k = 38 ∨ k = 39 ∨ k = 40 ∨ k = 41 ∨ k = 42 ∨ k = 43) → q.2 k = r0 k)) : ∀ (n : Nat), ∀ (i0 : Nat → Int32) (r0 : Nat → Nat → Int32) (x1 : Int32) (x2 : Int32) (x3 : Int32), f_X13_takeProgram_131 l0 K62 n i0 r0 x1 x2 x3 = some q → (∀ k : Nat, ¬ (k = 46) → q.1 k = i0 k) ∧ (∀ k : Nat, ¬ (k = 28 ∨ k = 29 ∨ k = 30 ∨ k = 31 ∨ k = 32 ∨ k = 33 ∨ k = 34 ∨ k = 35 ∨ k = 36 ∨ k = 37 ∨ k = 38 ∨ k = 39 ∨ k = 40 ∨ k = 41 ∨ k = 42 ∨ k = 43) → q.2 k = r0 k) := by
  intro n
  induction n with
  | zero =>
    intro i0 r0 x1 x2 x3 hf
    rw [f_X13_takeProgram_131] at hf
    cases hf
  | succ n ih =>
    intro i0 r0 x1 x2 x3 hf
    rw [f_X13_takeProgram_131] at hf
    by_cases hc : 2 ≤ x3
    · have hf := ite_t hf hc
      have g28 := fr_X13_takeProgram_298 _ (hK62) 2000000 _ _ _ _ _ hf
      exact ⟨fun k hk => (by (try dsimp only); rw [g28.1 k (by omega)]), fun k hk => (by (try dsimp only); rw [g28.2 k (by omega)])⟩
    · have hf := ite_f hf hc
      have hf := ck_2 hf
      have hf := ck_2 hf
      have hf := ck_2 hf
      have hf := ck_2 hf
      have g29 := fr_X13_takeProgram_176 _ (hK62) _ (ih) _ _ _ _ _ hf
      exact ⟨fun k hk => (by (try dsimp only); rw [g29.1 k (by omega)]), fun k hk => (by (try dsimp only); rw [g29.2 k (by omega), va_up_ne _ _ (by omega), va_up_ne _ _ (by omega)])⟩
set_option maxRecDepth 100000 in
set_option maxHeartbeats 4000000 in
theorem fr_X13_takeProgram_129  {l0 : Nat → Nat → Int64} {q : (Nat → Int32) × (Nat → Nat → Int32)} (K62 : (Nat → Int32) → (Nat → Nat → Int32) → Int32 → Option ((Nat → Int32) × (Nat → Nat → Int32))) (hK62 : ∀ (i0 : Nat → Int32) (r0 : Nat → Nat → Int32) (x1 : Int32), K62 i0 r0 x1 = some q → (∀ k : Nat, ¬ (k = 46) → q.1 k = i0 k) ∧ (∀ k : Nat, ¬ (k = 28 ∨ k = 29 ∨ k = 30 ∨ k = 31 ∨ k = 32 ∨ k = 33 ∨ k = 34 ∨ k = 35 ∨ k = 36 ∨ k = 37 ∨ k = 38 ∨ k = 39 ∨ k = 40 ∨ k = 41 ∨ k = 42 ∨ k = 43) → q.2 k = r0 k)) : ∀ (i0 : Nat → Int32) (r0 : Nat → Nat → Int32) (x1 : Int32) (x2 : Int32), f_X13_takeProgram_129 l0 K62 i0 r0 x1 x2 = some q → (∀ k : Nat, ¬ (k = 46) → q.1 k = i0 k) ∧ (∀ k : Nat, ¬ (k = 28 ∨ k = 29 ∨ k = 30 ∨ k = 31 ∨ k = 32 ∨ k = 33 ∨ k = 34 ∨ k = 35 ∨ k = 36 ∨ k = 37 ∨ k = 38 ∨ k = 39 ∨ k = 40 ∨ k = 41 ∨ k = 42 ∨ k = 43) → q.2 k = r0 k) := by
  intro i0 r0 x1 x2 hf
  rw [f_X13_takeProgram_129] at hf
  have g30 := fr_X13_takeProgram_131 _ (hK62) 2000000 _ _ _ _ _ hf
  exact ⟨fun k hk => (by (try dsimp only); rw [g30.1 k (by omega)]), fun k hk => (by (try dsimp only); rw [g30.2 k (by omega)])⟩
set_option maxRecDepth 100000 in
set_option maxHeartbeats 4000000 in
theorem fr_X13_takeProgram_102  {l0 : Nat → Nat → Int64} {q : (Nat → Int32) × (Nat → Nat → Int32)} (K62 : (Nat → Int32) → (Nat → Nat → Int32) → Int32 → Option ((Nat → Int32) × (Nat → Nat → Int32))) (hK62 : ∀ (i0 : Nat → Int32) (r0 : Nat → Nat → Int32) (x1 : Int32), K62 i0 r0 x1 = some q → (∀ k : Nat, ¬ (k = 46) → q.1 k = i0 k) ∧ (∀ k : Nat, ¬ (k = 28 ∨ k = 29 ∨ k = 30 ∨ k = 31 ∨ k = 32 ∨ k = 33 ∨ k = 34 ∨ k = 35 ∨ k = 36 ∨ k = 37 ∨ k = 38 ∨ k = 39 ∨ k = 40 ∨ k = 41 ∨ k = 42 ∨ k = 43) → q.2 k = r0 k)) : ∀ (i0 : Nat → Int32) (r0 : Nat → Nat → Int32) (x1 : Int32) (x2 : Int32), f_X13_takeProgram_102 l0 K62 i0 r0 x1 x2 = some q → (∀ k : Nat, ¬ (k = 46) → q.1 k = i0 k) ∧ (∀ k : Nat, ¬ (k = 28 ∨ k = 29 ∨ k = 30 ∨ k = 31 ∨ k = 32 ∨ k = 33 ∨ k = 34 ∨ k = 35 ∨ k = 36 ∨ k = 37 ∨ k = 38 ∨ k = 39 ∨ k = 40 ∨ k = 41 ∨ k = 42 ∨ k = 43) → q.2 k = r0 k) := by
  intro i0 r0 x1 x2 hf
  rw [f_X13_takeProgram_102] at hf
  have hf := ck_2 hf
  obtain ⟨q31, hq31, hf⟩ := bd_s hf
  have hf := ck_2 hf
  have hf := ck_2 hf
  have hf := ck_2 hf
  have g32 := fr_X13_takeProgram_129 _ (hK62) _ _ _ _ hf
  exact ⟨fun k hk => (by (try dsimp only); rw [g32.1 k (by omega)]), fun k hk => (by (try dsimp only); rw [g32.2 k (by omega), va_up_ne _ _ (by omega), va_up_ne _ _ (by omega)])⟩
set_option maxRecDepth 100000 in
set_option maxHeartbeats 4000000 in
theorem fr_X13_takeProgram_405  {l0 : Nat → Nat → Int64} {q : (Nat → Int32) × (Nat → Nat → Int32)} (K365 : (Nat → Int32) → (Nat → Nat → Int32) → Int32 → Option ((Nat → Int32) × (Nat → Nat → Int32))) (hK365 : ∀ (i0 : Nat → Int32) (r0 : Nat → Nat → Int32) (x1 : Int32), K365 i0 r0 x1 = some q → (∀ k : Nat, ¬ (k = 46) → q.1 k = i0 k) ∧ (∀ k : Nat, ¬ (k = 28 ∨ k = 29 ∨ k = 30 ∨ k = 31 ∨ k = 32 ∨ k = 33 ∨ k = 34 ∨ k = 35 ∨ k = 36 ∨ k = 37 ∨ k = 38 ∨ k = 39 ∨ k = 40 ∨ k = 41 ∨ k = 42 ∨ k = 43) → q.2 k = r0 k)) : ∀ (i0 : Nat → Int32) (r0 : Nat → Nat → Int32) (x1 : Int32), f_X13_takeProgram_405 l0 K365 i0 r0 x1 = some q → (∀ k : Nat, ¬ (k = 46) → q.1 k = i0 k) ∧ (∀ k : Nat, ¬ (k = 28 ∨ k = 29 ∨ k = 30 ∨ k = 31 ∨ k = 32 ∨ k = 33 ∨ k = 34 ∨ k = 35 ∨ k = 36 ∨ k = 37 ∨ k = 38 ∨ k = 39 ∨ k = 40 ∨ k = 41 ∨ k = 42 ∨ k = 43) → q.2 k = r0 k) := by
  intro i0 r0 x1 hf
  rw [f_X13_takeProgram_405] at hf
  have hf := ck_2 hf
  have hf := ck_2 hf
  have g33 := hK365 _ _ _ hf
  exact ⟨fun k hk => (by (try dsimp only); rw [g33.1 k (by omega)]), fun k hk => (by (try dsimp only); rw [g33.2 k (by omega), va_up_ne _ _ (by omega)])⟩
set_option maxRecDepth 100000 in
set_option maxHeartbeats 4000000 in
theorem fr_X13_takeProgram_365  {l0 : Nat → Nat → Int64} {q : (Nat → Int32) × (Nat → Nat → Int32)}  : ∀ (n : Nat), ∀ (i0 : Nat → Int32) (r0 : Nat → Nat → Int32) (x1 : Int32), f_X13_takeProgram_365 l0 n i0 r0 x1 = some q → (∀ k : Nat, ¬ (k = 46) → q.1 k = i0 k) ∧ (∀ k : Nat, ¬ (k = 28 ∨ k = 29 ∨ k = 30 ∨ k = 31 ∨ k = 32 ∨ k = 33 ∨ k = 34 ∨ k = 35 ∨ k = 36 ∨ k = 37 ∨ k = 38 ∨ k = 39 ∨ k = 40 ∨ k = 41 ∨ k = 42 ∨ k = 43) → q.2 k = r0 k) := by
  intro n
  induction n with
  | zero =>
    intro i0 r0 x1 hf
    rw [f_X13_takeProgram_365] at hf
    cases hf
  | succ n ih =>
    intro i0 r0 x1 hf
    rw [f_X13_takeProgram_365] at hf
    by_cases hc : (i0 49) ≤ x1
    · have hf := ite_t hf hc
      obtain rfl := Option.some.inj hf
      exact ⟨fun k _ => rfl, fun k _ => rfl⟩
    · have hf := ite_f hf hc
      have hf := ck_2 hf
      have hf := ck_2 hf
      have hf := ck_2 hf
      have hf := ck_2 hf
      have g34 := fr_X13_takeProgram_405 _ (ih) _ _ _ hf
      exact ⟨fun k hk => (by (try dsimp only); rw [g34.1 k (by omega)]), fun k hk => (by (try dsimp only); rw [g34.2 k (by omega), va_up_ne _ _ (by omega), va_up_ne _ _ (by omega)])⟩
set_option maxRecDepth 100000 in
set_option maxHeartbeats 4000000 in
theorem fr_X13_takeProgram_62  {l0 : Nat → Nat → Int64} {q : (Nat → Int32) × (Nat → Nat → Int32)}  : ∀ (n : Nat), ∀ (i0 : Nat → Int32) (r0 : Nat → Nat → Int32) (x1 : Int32), f_X13_takeProgram_62 l0 n i0 r0 x1 = some q → (∀ k : Nat, ¬ (k = 46) → q.1 k = i0 k) ∧ (∀ k : Nat, ¬ (k = 28 ∨ k = 29 ∨ k = 30 ∨ k = 31 ∨ k = 32 ∨ k = 33 ∨ k = 34 ∨ k = 35 ∨ k = 36 ∨ k = 37 ∨ k = 38 ∨ k = 39 ∨ k = 40 ∨ k = 41 ∨ k = 42 ∨ k = 43) → q.2 k = r0 k) := by
  intro n
  induction n with
  | zero =>
    intro i0 r0 x1 hf
    rw [f_X13_takeProgram_62] at hf
    cases hf
  | succ n ih =>
    intro i0 r0 x1 hf
    rw [f_X13_takeProgram_62] at hf
    by_cases hc : (i0 48) ≤ x1
    · have hf := ite_t hf hc
      have g35 := fr_X13_takeProgram_365  2000000 _ _ _ hf
      exact ⟨fun k hk => (by (try dsimp only); rw [g35.1 k (by omega)]), fun k hk => (by (try dsimp only); rw [g35.2 k (by omega)])⟩
    · have hf := ite_f hf hc
      have hf := ck_2 hf
      have hf := ck_2 hf
      have hf := ck_2 hf
      obtain ⟨q36, hq36, hf⟩ := bd_s hf
      have hf := ck_2 hf
      have g37 := fr_X13_takeProgram_102 _ (ih) _ _ _ _ hf
      exact ⟨fun k hk => (by (try dsimp only); rw [g37.1 k (by omega)]), fun k hk => (by (try dsimp only); rw [g37.2 k (by omega), va_up_ne _ _ (by omega), va_up_ne _ _ (by omega)])⟩
set_option maxRecDepth 100000 in
set_option maxHeartbeats 4000000 in
theorem fr_X13_takeProgram_10  {l0 : Nat → Nat → Int64} {q : (Nat → Int32) × (Nat → Nat → Int32)}  : ∀ (n : Nat), ∀ (i0 : Nat → Int32) (r0 : Nat → Nat → Int32) (x1 : Int32), f_X13_takeProgram_10 l0 n i0 r0 x1 = some q → (∀ k : Nat, ¬ (k = 46) → q.1 k = i0 k) ∧ (∀ k : Nat, ¬ (k = 28 ∨ k = 29 ∨ k = 30 ∨ k = 31 ∨ k = 32 ∨ k = 33 ∨ k = 34 ∨ k = 35 ∨ k = 36 ∨ k = 37 ∨ k = 38 ∨ k = 39 ∨ k = 40 ∨ k = 41 ∨ k = 42 ∨ k = 43) → q.2 k = r0 k) := by
  intro n
  induction n with
  | zero =>
    intro i0 r0 x1 hf
    rw [f_X13_takeProgram_10] at hf
    cases hf
  | succ n ih =>
    intro i0 r0 x1 hf
    rw [f_X13_takeProgram_10] at hf
    by_cases hc : (i0 46) ≤ x1
    · have hf := ite_t hf hc
      have g38 := fr_X13_takeProgram_62  2000000 _ _ _ hf
      exact ⟨fun k hk => (by (try dsimp only); rw [g38.1 k (by omega)]), fun k hk => (by (try dsimp only); rw [g38.2 k (by omega)])⟩
    · have hf := ite_f hf hc
      have hf := ck_2 hf
      obtain ⟨q39, hq39, hf⟩ := bd_s hf
      have hf := ck_2 hf
      have hf := ck_2 hf
      obtain ⟨q40, hq40, hf⟩ := bd_s hf
      have hf := ck_2 hf
      have g41 := fr_X13_takeProgram_54 _ (ih) _ _ _ hf
      exact ⟨fun k hk => (by (try dsimp only); rw [g41.1 k (by omega)]), fun k hk => (by (try dsimp only); rw [g41.2 k (by omega), va_up_ne _ _ (by omega), va_up_ne _ _ (by omega)])⟩
set_option maxRecDepth 100000 in
set_option maxHeartbeats 4000000 in
theorem fr_X13_takeProgram  {i0 : Nat → Int32} {r0 : Nat → Nat → Int32} {l0 : Nat → Nat → Int64}  {q : (Nat → Int32) × (Nat → Nat → Int32)} (hf : f_X13_takeProgram i0 r0 l0 = some q) : (∀ k : Nat, ¬ (k = 46) → q.1 k = i0 k) ∧ (∀ k : Nat, ¬ (k = 28 ∨ k = 29 ∨ k = 30 ∨ k = 31 ∨ k = 32 ∨ k = 33 ∨ k = 34 ∨ k = 35 ∨ k = 36 ∨ k = 37 ∨ k = 38 ∨ k = 39 ∨ k = 40 ∨ k = 41 ∨ k = 42 ∨ k = 43) → q.2 k = r0 k) := by
  rw [f_X13_takeProgram] at hf
  have g42 := fr_X13_takeProgram_10  2000000 _ _ _ hf
  exact ⟨fun k hk => (by (try dsimp only); rw [g42.1 k (by omega), pk_un (by omega)]), fun k hk => (by (try dsimp only); rw [g42.2 k (by omega)])⟩
/-! X13_program -/
set_option maxRecDepth 100000 in
set_option maxHeartbeats 4000000 in
theorem fr_X13_program  {i0 : Nat → Int32} {r0 : Nat → Nat → Int32} {l0 : Nat → Nat → Int64} {f1 : List Value}  {q : Int32 × (Nat → Int32) × (Nat → Nat → Int64) × (Nat → Nat → Int32)} (hf : f_X13_program i0 r0 l0 f1 = some q) : (∀ k : Nat, ¬ (k = 2 ∨ k = 3 ∨ k = 4 ∨ k = 5 ∨ k = 6 ∨ k = 7 ∨ k = 8 ∨ k = 9 ∨ k = 46 ∨ k = 47 ∨ k = 48 ∨ k = 49 ∨ k = 50 ∨ k = 51 ∨ k = 52 ∨ k = 53 ∨ k = 54 ∨ k = 55 ∨ k = 56 ∨ k = 57) → q.2.1 k = i0 k) ∧ (∀ k : Nat, ¬ (k = 44 ∨ k = 45) → q.2.2.1 k = l0 k) ∧ (∀ k : Nat, ¬ (k = 28 ∨ k = 29 ∨ k = 30 ∨ k = 31 ∨ k = 32 ∨ k = 33 ∨ k = 34 ∨ k = 35 ∨ k = 36 ∨ k = 37 ∨ k = 38 ∨ k = 39 ∨ k = 40 ∨ k = 41 ∨ k = 42 ∨ k = 43) → q.2.2.2 k = r0 k) := by
  rw [f_X13_program] at hf
  obtain ⟨q7, hq7, hf⟩ := bd_s hf
  have fq7 := fr_X13_begin hq7
  rcases (bt_s hf).symm with ⟨t8, hq8, hf⟩ | ⟨q8, hq8, hf⟩
  · have ft8 := fr_X13_readProgram hq8
    obtain rfl := Option.some.inj hf
    exact ⟨fun k hk => (by (try dsimp only); rw [ft8.1 k (by omega), fq7 k (by omega)]), fun k hk => (by (try dsimp only); rw [ft8.2.1 k (by omega)]), fun k hk => (by (try dsimp only); rw [ft8.2.2 k (by omega)])⟩
  have fq8 := fr_X13_readProgram hq8
  obtain ⟨q9, hq9, hf⟩ := bd_s hf
  have fq9 := fr_X13_takeProgram hq9
  obtain rfl := Option.some.inj hf
  exact ⟨fun k hk => (by (try dsimp only); rw [fq9.1 k (by omega), fq8.1 k (by omega), fq7 k (by omega)]), fun k hk => (by (try dsimp only); rw [fq8.2.1 k (by omega)]), fun k hk => (by (try dsimp only); rw [fq9.2 k (by omega), fq8.2.2 k (by omega)])⟩
/-! X13_let -/
set_option maxRecDepth 100000 in
set_option maxHeartbeats 4000000 in
theorem fr_X13_let  {i0 : Nat → Int32} {r0 : Nat → Nat → Int32} {l0 : Nat → Nat → Int64} {x1 : Int32} {x2 : Int32} {q : Int32 × (Nat → Nat → Int32)} (hf : f_X13_let i0 r0 l0 x1 x2 = some q) : (∀ k : Nat, ¬ (k = 58) → q.2 k = r0 k) := by
  rw [f_X13_let] at hf
  obtain ⟨q3, hq3, hf⟩ := bd_s hf
  by_cases hc : q3 = (-1)
  · have hf := ite_t hf hc
    obtain rfl := Option.some.inj hf
    exact fun k _ => rfl
  · have hf := ite_f hf hc
    have hf := ck_2 hf
    have hf := ck_2 hf
    obtain rfl := Option.some.inj hf
    exact fun k hk => (by (try dsimp only); rw [va_up_ne _ _ (by omega)])
/-! X13_counts -/
set_option maxRecDepth 100000 in
set_option maxHeartbeats 4000000 in
theorem fr_X13_counts_25  {r0 : Nat → Nat → Int32} {l0 : Nat → Nat → Int64} {q : Int32 × (Nat → Int32)}  : ∀ (i0 : Nat → Int32), f_X13_counts_25 r0 l0 i0 = some q → (∀ k : Nat, ¬ (k = 61 ∨ k = 62) → q.2 k = i0 k) := by
  intro i0 hf
  rw [f_X13_counts_25] at hf
  by_cases hc : (i0 61) = 0
  · have hf := ite_t hf hc
    obtain rfl := Option.some.inj hf
    exact fun k _ => rfl
  · have hf := ite_f hf hc
    obtain rfl := Option.some.inj hf
    exact fun k _ => rfl
set_option maxRecDepth 100000 in
set_option maxHeartbeats 4000000 in
theorem fr_X13_counts  {i0 : Nat → Int32} {r0 : Nat → Nat → Int32} {l0 : Nat → Nat → Int64}  {q : Int32 × (Nat → Int32)} (hf : f_X13_counts i0 r0 l0 = some q) : (∀ k : Nat, ¬ (k = 61 ∨ k = 62) → q.2 k = i0 k) := by
  rw [f_X13_counts] at hf
  by_cases hc : ((i0 62) + 1) ≤ 5000
  · have hf := ite_t hf hc
    have g1 := fr_X13_counts_25  _ hf
    exact fun k hk => (by (try dsimp only); rw [g1 k (by omega), pk_un (by omega)])
  · have hf := ite_f hf hc
    have g2 := fr_X13_counts_25  _ hf
    exact fun k hk => (by (try dsimp only); rw [g2 k (by omega), pk_un (by omega), pk_un (by omega)])
/-! X13_placeOf -/
set_option maxRecDepth 100000 in
set_option maxHeartbeats 4000000 in
theorem fr_X13_placeOf_24  {r0 : Nat → Nat → Int32} {l0 : Nat → Nat → Int64} {q : Int32 × (Nat → Int32)}  : ∀ (i0 : Nat → Int32) (y0 : Int32), f_X13_placeOf_24 r0 l0 i0 y0 = some q → (∀ k : Nat, ¬ (k = 61) → q.2 k = i0 k) := by
  intro i0 y0 hf
  rw [f_X13_placeOf_24] at hf
  obtain ⟨q3, hq3, hf⟩ := bd_s hf
  by_cases hc : q3 = 0
  · have hf := ite_t hf hc
    obtain rfl := Option.some.inj hf
    exact fun k hk => (by (try dsimp only); rw [pk_un (by omega)])
  · have hf := ite_f hf hc
    obtain rfl := Option.some.inj hf
    exact fun k _ => rfl
set_option maxRecDepth 100000 in
set_option maxHeartbeats 4000000 in
theorem fr_X13_placeOf  {i0 : Nat → Int32} {r0 : Nat → Nat → Int32} {l0 : Nat → Nat → Int64} {x1 : Int32} {x2 : Int32} {q : Int32 × (Nat → Int32)} (hf : f_X13_placeOf i0 r0 l0 x1 x2 = some q) : (∀ k : Nat, ¬ (k = 61) → q.2 k = i0 k) := by
  rw [f_X13_placeOf] at hf
  by_cases hc : 8 ≤ x1
  · have hf := ite_t hf hc
    by_cases hc : x1 = 8
    · have hf := ite_t hf hc
      have g5 := fr_X13_placeOf_24  _ _ hf
      exact fun k hk => (by (try dsimp only); rw [g5 k (by omega)])
    · have hf := ite_f hf hc
      have hf := ck_2 hf
      have g4 := fr_X13_placeOf_24  _ _ hf
      exact fun k hk => (by (try dsimp only); rw [g4 k (by omega)])
  · have hf := ite_f hf hc
    obtain rfl := Option.some.inj hf
    exact fun k _ => rfl
/-! X13_sumOf -/
set_option maxRecDepth 100000 in
set_option maxHeartbeats 4000000 in
theorem fr_X13_sumOf_126  {l0 : Nat → Nat → Int64} {q : Int32 × (Nat → Int32) × (Nat → Nat → Int32)} (K9 : (Nat → Int32) → (Nat → Nat → Int32) → Int32 → Int32 → Int32 → Option (Int32 × (Nat → Int32) × (Nat → Nat → Int32))) (hK9 : ∀ (i0 : Nat → Int32) (r0 : Nat → Nat → Int32) (x1 : Int32) (x2 : Int32) (x3 : Int32), K9 i0 r0 x1 x2 x3 = some q → (∀ k : Nat, ¬ (k = 61) → q.2.1 k = i0 k) ∧ (∀ k : Nat, ¬ (k = 60) → q.2.2 k = r0 k)) : ∀ (i0 : Nat → Int32) (r0 : Nat → Nat → Int32) (x1 : Int32) (x2 : Int32) (x3 : Int32), f_X13_sumOf_126 l0 K9 i0 r0 x1 x2 x3 = some q → (∀ k : Nat, ¬ (k = 61) → q.2.1 k = i0 k) ∧ (∀ k : Nat, ¬ (k = 60) → q.2.2 k = r0 k) := by
  intro i0 r0 x1 x2 x3 hf
  rw [f_X13_sumOf_126] at hf
  have g5 := hK9 _ _ _ _ _ hf
  exact ⟨fun k hk => (by (try dsimp only); rw [g5.1 k (by omega)]), fun k hk => (by (try dsimp only); rw [g5.2 k (by omega)])⟩
set_option maxRecDepth 100000 in
set_option maxHeartbeats 4000000 in
theorem fr_X13_sumOf_115  {l0 : Nat → Nat → Int64} {q : Int32 × (Nat → Int32) × (Nat → Nat → Int32)} (K9 : (Nat → Int32) → (Nat → Nat → Int32) → Int32 → Int32 → Int32 → Option (Int32 × (Nat → Int32) × (Nat → Nat → Int32))) (hK9 : ∀ (i0 : Nat → Int32) (r0 : Nat → Nat → Int32) (x1 : Int32) (x2 : Int32) (x3 : Int32), K9 i0 r0 x1 x2 x3 = some q → (∀ k : Nat, ¬ (k = 61) → q.2.1 k = i0 k) ∧ (∀ k : Nat, ¬ (k = 60) → q.2.2 k = r0 k)) : ∀ (i0 : Nat → Int32) (r0 : Nat → Nat → Int32) (x1 : Int32) (x2 : Int32) (x3 : Int32) (x4 : Int32), f_X13_sumOf_115 l0 K9 i0 r0 x1 x2 x3 x4 = some q → (∀ k : Nat, ¬ (k = 61) → q.2.1 k = i0 k) ∧ (∀ k : Nat, ¬ (k = 60) → q.2.2 k = r0 k) := by
  intro i0 r0 x1 x2 x3 x4 hf
  rw [f_X13_sumOf_115] at hf
  have hf := ck_2 hf
  have g6 := fr_X13_sumOf_126 _ (hK9) _ _ _ _ _ hf
  exact ⟨fun k hk => (by (try dsimp only); rw [g6.1 k (by omega)]), fun k hk => (by (try dsimp only); rw [g6.2 k (by omega), va_up_ne _ _ (by omega)])⟩
set_option maxRecDepth 100000 in
set_option maxHeartbeats 4000000 in
theorem fr_X13_sumOf_9  {l0 : Nat → Nat → Int64} {q : Int32 × (Nat → Int32) × (Nat → Nat → Int32)}  : ∀ (n : Nat), ∀ (i0 : Nat → Int32) (r0 : Nat → Nat → Int32) (x1 : Int32) (x2 : Int32) (x3 : Int32), f_X13_sumOf_9 l0 n i0 r0 x1 x2 x3 = some q → (∀ k : Nat, ¬ (k = 61) → q.2.1 k = i0 k) ∧ (∀ k : Nat, ¬ (k = 60) → q.2.2 k = r0 k) := by
  intro n
  induction n with
  | zero =>
    intro i0 r0 x1 x2 x3 hf
    rw [f_X13_sumOf_9] at hf
    cases hf
  | succ n ih =>
    intro i0 r0 x1 x2 x3 hf
    rw [f_X13_sumOf_9] at hf
    have hf := ck_2 hf
    by_cases hc : (r0 35 x1.toNatClampNeg) ≤ x3
    · have hf := ite_t hf hc
      have hf := ck_2 hf
      obtain rfl := Option.some.inj hf
      exact ⟨fun k _ => rfl, fun k _ => rfl⟩
    · have hf := ite_f hf hc
      have hf := ck_2 hf
      by_cases hc : (r0 39 x3.toNatClampNeg) = 2
      · have hf := ite_t hf hc
        have hf := ck_2 hf
        have hf := ck_2 hf
        have hf := ck_2 hf
        obtain ⟨q10, hq10, hf⟩ := bd_s hf
        have hf := ck_2 hf
        have g11 := fr_X13_sumOf_126 _ (ih) _ _ _ _ _ hf
        exact ⟨fun k hk => (by (try dsimp only); rw [g11.1 k (by omega)]), fun k hk => (by (try dsimp only); rw [g11.2 k (by omega), va_up_ne _ _ (by omega)])⟩
      · have hf := ite_f hf hc
        have hf := ck_2 hf
        have hf := ck_2 hf
        by_cases hc : (r0 39 x3.toNatClampNeg) = 1
        · have hf := ite_t hf hc
          have hf := ck_2 hf
          obtain ⟨q8, hq8, hf⟩ := bd_s hf
          have fq8 := fr_X13_placeOf hq8
          by_cases hc : q8.1 = (-1)
          · have hf := ite_t hf hc
            obtain rfl := Option.some.inj hf
            exact ⟨fun k hk => (by (try dsimp only); rw [fq8 k (by omega)]), fun k _ => rfl⟩
          · have hf := ite_f hf hc
            have hf := ck_2 hf
            have g9 := fr_X13_sumOf_115 _ (ih) _ _ _ _ _ _ hf
            exact ⟨fun k hk => (by (try dsimp only); rw [g9.1 k (by omega), fq8 k (by omega)]), fun k hk => (by (try dsimp only); rw [g9.2 k (by omega)])⟩
        · have hf := ite_f hf hc
          have g7 := fr_X13_sumOf_115 _ (ih) _ _ _ _ _ _ hf
          exact ⟨fun k hk => (by (try dsimp only); rw [g7.1 k (by omega)]), fun k hk => (by (try dsimp only); rw [g7.2 k (by omega)])⟩
set_option maxRecDepth 100000 in
set_option maxHeartbeats 4000000 in
theorem fr_X13_sumOf  {i0 : Nat → Int32} {r0 : Nat → Nat → Int32} {l0 : Nat → Nat → Int64} {x1 : Int32} {q : Int32 × (Nat → Int32) × (Nat → Nat → Int32)} (hf : f_X13_sumOf i0 r0 l0 x1 = some q) : (∀ k : Nat, ¬ (k = 61) → q.2.1 k = i0 k) ∧ (∀ k : Nat, ¬ (k = 60) → q.2.2 k = r0 k) := by
  rw [f_X13_sumOf] at hf
  have hf := ck_2 hf
  have g12 := fr_X13_sumOf_9  2000000 _ _ _ _ _ hf
  exact ⟨fun k hk => (by (try dsimp only); rw [g12.1 k (by omega)]), fun k hk => (by (try dsimp only); rw [g12.2 k (by omega)])⟩
/-! X13_change -/
set_option maxRecDepth 100000 in
set_option maxHeartbeats 4000000 in
theorem fr_X13_change_152  {l0 : Nat → Nat → Int64} {q : (Nat → Int32) × (Nat → Nat → Int32)}  : ∀ (i0 : Nat → Int32) (r0 : Nat → Nat → Int32) (x2 : Int32) (x3 : Int32) (x5 : Int32) (y0 : Int32), f_X13_change_152 l0 i0 r0 x2 x3 x5 y0 = some q → (∀ k : Nat, ¬ (k = 61) → q.1 k = i0 k) ∧ (∀ k : Nat, ¬ (k = 58 ∨ k = 60) → q.2 k = r0 k) := by
  intro i0 r0 x2 x3 x5 y0 hf
  rw [f_X13_change_152] at hf
  by_cases hc : y0 = x2
  · have hf := ite_t hf hc
    have hf := ck_2 hf
    have hf := ck_2 hf
    obtain rfl := Option.some.inj hf
    exact ⟨fun k _ => rfl, fun k hk => (by (try dsimp only); rw [va_up_ne _ _ (by omega)])⟩
  · have hf := ite_f hf hc
    have hf := ck_2 hf
    have hf := ck_2 hf
    obtain rfl := Option.some.inj hf
    exact ⟨fun k _ => rfl, fun k hk => (by (try dsimp only); rw [va_up_ne _ _ (by omega)])⟩
set_option maxRecDepth 100000 in
set_option maxHeartbeats 4000000 in
theorem fr_X13_change  {i0 : Nat → Int32} {r0 : Nat → Nat → Int32} {l0 : Nat → Nat → Int64} {x1 : Int32} {x2 : Int32} {q : (Nat → Int32) × (Nat → Nat → Int32)} (hf : f_X13_change i0 r0 l0 x1 x2 = some q) : (∀ k : Nat, ¬ (k = 61) → q.1 k = i0 k) ∧ (∀ k : Nat, ¬ (k = 58 ∨ k = 60) → q.2 k = r0 k) := by
  rw [f_X13_change] at hf
  have hf := ck_2 hf
  have hf := ck_2 hf
  obtain ⟨q7, hq7, hf⟩ := bd_s hf
  have fq7 := fr_X13_placeOf hq7
  by_cases hc : q7.1 = (-1)
  · have hf := ite_t hf hc
    obtain rfl := Option.some.inj hf
    exact ⟨fun k hk => (by (try dsimp only); rw [fq7 k (by omega)]), fun k _ => rfl⟩
  · have hf := ite_f hf hc
    have hf := ck_2 hf
    by_cases hc : (r0 28 x1.toNatClampNeg) = 3
    · have hf := ite_t hf hc
      have hf := ck_2 hf
      have hf := ck_2 hf
      obtain ⟨q11, hq11, hf⟩ := bd_s hf
      have fq11 := fr_X13_placeOf hq11
      by_cases hc : q11.1 = (-1)
      · have hf := ite_t hf hc
        obtain rfl := Option.some.inj hf
        exact ⟨fun k hk => (by (try dsimp only); rw [fq11 k (by omega), fq7 k (by omega)]), fun k _ => rfl⟩
      · have hf := ite_f hf hc
        have hf := ck_2 hf
        have hf := ck_2 hf
        have hf := ck_2 hf
        have hf := ck_2 hf
        obtain rfl := Option.some.inj hf
        exact ⟨fun k hk => (by (try dsimp only); rw [fq11 k (by omega), fq7 k (by omega)]), fun k hk => (by (try dsimp only); rw [va_up_ne _ _ (by omega), va_up_ne _ _ (by omega)])⟩
    · have hf := ite_f hf hc
      obtain ⟨q8, hq8, hf⟩ := bd_s hf
      have fq8 := fr_X13_sumOf hq8
      by_cases hc : (q8.2.1 61) ≤ 0
      · have hf := ite_t hf hc
        by_cases hc : (r0 28 x1.toNatClampNeg) = 2
        · have hf := ite_t hf hc
          have hf := ck_2 hf
          have hf := ck_2 hf
          obtain rfl := Option.some.inj hf
          exact ⟨fun k hk => (by (try dsimp only); rw [fq8.1 k (by omega), fq7 k (by omega)]), fun k hk => (by (try dsimp only); rw [va_up_ne _ _ (by omega), fq8.2 k (by omega)])⟩
        · have hf := ite_f hf hc
          by_cases hc : (r0 28 x1.toNatClampNeg) = 0
          · have hf := ite_t hf hc
            have g10 := fr_X13_change_152  _ _ _ _ _ _ hf
            exact ⟨fun k hk => (by (try dsimp only); rw [g10.1 k (by omega), fq8.1 k (by omega), fq7 k (by omega)]), fun k hk => (by (try dsimp only); rw [g10.2 k (by omega), fq8.2 k (by omega)])⟩
          · have hf := ite_f hf hc
            have g9 := fr_X13_change_152  _ _ _ _ _ _ hf
            exact ⟨fun k hk => (by (try dsimp only); rw [g9.1 k (by omega), fq8.1 k (by omega), fq7 k (by omega)]), fun k hk => (by (try dsimp only); rw [g9.2 k (by omega), fq8.2 k (by omega)])⟩
      · have hf := ite_f hf hc
        obtain rfl := Option.some.inj hf
        exact ⟨fun k hk => (by (try dsimp only); rw [fq8.1 k (by omega), fq7 k (by omega)]), fun k hk => (by (try dsimp only); rw [fq8.2 k (by omega)])⟩
/-! X13_goCall -/
set_option maxRecDepth 100000 in
set_option maxHeartbeats 4000000 in
theorem fr_X13_goCall  {i0 : Nat → Int32} {r0 : Nat → Nat → Int32} {l0 : Nat → Nat → Int64} {x1 : Int32} {x2 : Int32} {q : (Nat → Int32) × (Nat → Nat → Int32)} {F : (Nat → Int32) → (Nat → Nat → Int32) → (Nat → Nat → Int64) → Int32 → Int32 → Int32 → Option ((Nat → Int32) × (Nat → Nat → Int32))} (hF : ∀ {i0 : Nat → Int32} {r0 : Nat → Nat → Int32} {l0 : Nat → Nat → Int64} {x1 : Int32} {x2 : Int32} {x3 : Int32} {q : (Nat → Int32) × (Nat → Nat → Int32)}, F i0 r0 l0 x1 x2 x3 = some q → (∀ k : Nat, ¬ (k = 61 ∨ k = 62 ∨ k = 63) → q.1 k = i0 k) ∧ (∀ k : Nat, ¬ (k = 58 ∨ k = 60) → q.2 k = r0 k)) (hf : f_X13_goCall F i0 r0 l0 x1 x2 = some q) : (∀ k : Nat, ¬ (k = 61 ∨ k = 62 ∨ k = 63) → q.1 k = i0 k) ∧ (∀ k : Nat, ¬ (k = 58 ∨ k = 60) → q.2 k = r0 k) := by
  rw [f_X13_goCall] at hf
  by_cases hc : (i0 63) = 20
  · have hf := ite_t hf hc
    obtain rfl := Option.some.inj hf
    exact ⟨fun k hk => (by (try dsimp only); rw [pk_un (by omega)]), fun k _ => rfl⟩
  · have hf := ite_f hf hc
    have hf := ck_2 hf
    have hf := ck_2 hf
    have hf := ck_2 hf
    have hf := ck_2 hf
    obtain ⟨q3, hq3, hf⟩ := bd_s hf
    have fq3 := hF hq3
    obtain rfl := Option.some.inj hf
    exact ⟨fun k hk => (by (try dsimp only); rw [pk_un (by omega), fq3.1 k (by omega), pk_un (by omega)]), fun k hk => (by (try dsimp only); rw [fq3.2 k (by omega)])⟩
/-! X13_isSo -/
set_option maxRecDepth 100000 in
set_option maxHeartbeats 4000000 in
theorem fr_X13_isSo  {i0 : Nat → Int32} {r0 : Nat → Nat → Int32} {l0 : Nat → Nat → Int64} {x1 : Int32} {x2 : Int32} {q : Int32 × (Nat → Int32) × (Nat → Nat → Int32)} (hf : f_X13_isSo i0 r0 l0 x1 x2 = some q) : (∀ k : Nat, ¬ (k = 61) → q.2.1 k = i0 k) ∧ (∀ k : Nat, ¬ (k = 60) → q.2.2 k = r0 k) := by
  rw [f_X13_isSo] at hf
  obtain ⟨q5, hq5, hf⟩ := bd_s hf
  have fq5 := fr_X13_sumOf hq5
  by_cases hc : (q5.2.1 61) ≤ 0
  · have hf := ite_t hf hc
    obtain ⟨q6, hq6, hf⟩ := bd_s hf
    have fq6 := fr_X13_sumOf hq6
    have hf := ck_2 hf
    by_cases hc : (q6.2.2 36 ((2 * x1) + x2).toNatClampNeg) = 61
    · have hf := ite_t hf hc
      by_cases hc : q5.1 = q6.1
      · have hf := ite_t hf hc
        obtain rfl := Option.some.inj hf
        exact ⟨fun k hk => (by (try dsimp only); rw [fq6.1 k (by omega), fq5.1 k (by omega)]), fun k hk => (by (try dsimp only); rw [fq6.2 k (by omega), fq5.2 k (by omega)])⟩
      · have hf := ite_f hf hc
        obtain rfl := Option.some.inj hf
        exact ⟨fun k hk => (by (try dsimp only); rw [fq6.1 k (by omega), fq5.1 k (by omega)]), fun k hk => (by (try dsimp only); rw [fq6.2 k (by omega), fq5.2 k (by omega)])⟩
    · have hf := ite_f hf hc
      by_cases hc : (q6.2.2 36 ((2 * x1) + x2).toNatClampNeg) = 60
      · have hf := ite_t hf hc
        by_cases hc : q6.1 ≤ q5.1
        · have hf := ite_t hf hc
          obtain rfl := Option.some.inj hf
          exact ⟨fun k hk => (by (try dsimp only); rw [fq6.1 k (by omega), fq5.1 k (by omega)]), fun k hk => (by (try dsimp only); rw [fq6.2 k (by omega), fq5.2 k (by omega)])⟩
        · have hf := ite_f hf hc
          obtain rfl := Option.some.inj hf
          exact ⟨fun k hk => (by (try dsimp only); rw [fq6.1 k (by omega), fq5.1 k (by omega)]), fun k hk => (by (try dsimp only); rw [fq6.2 k (by omega), fq5.2 k (by omega)])⟩
      · have hf := ite_f hf hc
        by_cases hc : (q6.2.2 36 ((2 * x1) + x2).toNatClampNeg) = 62
        · have hf := ite_t hf hc
          by_cases hc : q5.1 ≤ q6.1
          · have hf := ite_t hf hc
            obtain rfl := Option.some.inj hf
            exact ⟨fun k hk => (by (try dsimp only); rw [fq6.1 k (by omega), fq5.1 k (by omega)]), fun k hk => (by (try dsimp only); rw [fq6.2 k (by omega), fq5.2 k (by omega)])⟩
          · have hf := ite_f hf hc
            obtain rfl := Option.some.inj hf
            exact ⟨fun k hk => (by (try dsimp only); rw [fq6.1 k (by omega), fq5.1 k (by omega)]), fun k hk => (by (try dsimp only); rw [fq6.2 k (by omega), fq5.2 k (by omega)])⟩
        · have hf := ite_f hf hc
          by_cases hc : q5.1 = q6.1
          · have hf := ite_t hf hc
            obtain rfl := Option.some.inj hf
            exact ⟨fun k hk => (by (try dsimp only); rw [fq6.1 k (by omega), fq5.1 k (by omega)]), fun k hk => (by (try dsimp only); rw [fq6.2 k (by omega), fq5.2 k (by omega)])⟩
          · have hf := ite_f hf hc
            obtain rfl := Option.some.inj hf
            exact ⟨fun k hk => (by (try dsimp only); rw [fq6.1 k (by omega), fq5.1 k (by omega)]), fun k hk => (by (try dsimp only); rw [fq6.2 k (by omega), fq5.2 k (by omega)])⟩
  · have hf := ite_f hf hc
    obtain rfl := Option.some.inj hf
    exact ⟨fun k hk => (by (try dsimp only); rw [fq5.1 k (by omega)]), fun k hk => (by (try dsimp only); rw [fq5.2 k (by omega)])⟩
/-! X13_must -/
set_option maxRecDepth 100000 in
set_option maxHeartbeats 4000000 in
theorem fr_X13_must  {i0 : Nat → Int32} {r0 : Nat → Nat → Int32} {l0 : Nat → Nat → Int64} {x1 : Int32} {q : (Nat → Int32)} (hf : f_X13_must i0 r0 l0 x1 = some q) : (∀ k : Nat, ¬ (k = 61) → q k = i0 k) := by
  rw [f_X13_must] at hf
  by_cases hc : x1 = 0
  · have hf := ite_t hf hc
    by_cases hc : (i0 61) = 0
    · have hf := ite_t hf hc
      obtain rfl := Option.some.inj hf
      exact fun k hk => (by (try dsimp only); rw [pk_un (by omega)])
    · have hf := ite_f hf hc
      obtain rfl := Option.some.inj hf
      exact fun k _ => rfl
  · have hf := ite_f hf hc
    obtain rfl := Option.some.inj hf
    exact fun k _ => rfl
/-! X13_goBodyOf -/
set_option maxRecDepth 100000 in
set_option maxHeartbeats 4000000 in
theorem fr_X13_goBodyOf  {i0 : Nat → Int32} {r0 : Nat → Nat → Int32} {l0 : Nat → Nat → Int64} {x1 : Int32} {x2 : Int32} {x3 : Int32} {q : (Nat → Int32) × (Nat → Nat → Int32)} {F : (Nat → Int32) → (Nat → Nat → Int32) → (Nat → Nat → Int64) → Int32 → Int32 → Int32 → Option ((Nat → Int32) × (Nat → Nat → Int32))} (hF : ∀ {i0 : Nat → Int32} {r0 : Nat → Nat → Int32} {l0 : Nat → Nat → Int64} {x1 : Int32} {x2 : Int32} {x3 : Int32} {q : (Nat → Int32) × (Nat → Nat → Int32)}, F i0 r0 l0 x1 x2 x3 = some q → (∀ k : Nat, ¬ (k = 61 ∨ k = 62 ∨ k = 63) → q.1 k = i0 k) ∧ (∀ k : Nat, ¬ (k = 58 ∨ k = 60) → q.2 k = r0 k)) (hf : f_X13_goBodyOf F i0 r0 l0 x1 x2 x3 = some q) : (∀ k : Nat, ¬ (k = 61 ∨ k = 62 ∨ k = 63) → q.1 k = i0 k) ∧ (∀ k : Nat, ¬ (k = 58 ∨ k = 60) → q.2 k = r0 k) := by
  rw [f_X13_goBodyOf] at hf
  have hf := ck_2 hf
  have hf := ck_2 hf
  obtain ⟨q3, hq3, hf⟩ := bd_s hf
  have fq3 := hF hq3
  obtain rfl := Option.some.inj hf
  exact ⟨fun k hk => (by (try dsimp only); rw [fq3.1 k (by omega)]), fun k hk => (by (try dsimp only); rw [fq3.2 k (by omega)])⟩
/-! X13_goFrom -/
set_option maxRecDepth 100000 in
set_option maxHeartbeats 4000000 in
theorem fr_X13_goFrom_102  {l0 : Nat → Nat → Int64} {q : (Nat → Int32) × (Nat → Nat → Int32)} {F : (Nat → Int32) → (Nat → Nat → Int32) → (Nat → Nat → Int64) → Int32 → Int32 → Int32 → Option ((Nat → Int32) × (Nat → Nat → Int32))} (hF : ∀ {i0 : Nat → Int32} {r0 : Nat → Nat → Int32} {l0 : Nat → Nat → Int64} {x1 : Int32} {x2 : Int32} {x3 : Int32} {q : (Nat → Int32) × (Nat → Nat → Int32)}, F i0 r0 l0 x1 x2 x3 = some q → (∀ k : Nat, ¬ (k = 61 ∨ k = 62 ∨ k = 63) → q.1 k = i0 k) ∧ (∀ k : Nat, ¬ (k = 58 ∨ k = 60) → q.2 k = r0 k)) (K20 : (Nat → Int32) → (Nat → Nat → Int32) → Int32 → Int32 → Int32 → Option ((Nat → Int32) × (Nat → Nat → Int32))) (hK20 : ∀ (i0 : Nat → Int32) (r0 : Nat → Nat → Int32) (x1 : Int32) (x2 : Int32) (x3 : Int32), K20 i0 r0 x1 x2 x3 = some q → (∀ k : Nat, ¬ (k = 61 ∨ k = 62 ∨ k = 63) → q.1 k = i0 k) ∧ (∀ k : Nat, ¬ (k = 58 ∨ k = 60) → q.2 k = r0 k)) : ∀ (i0 : Nat → Int32) (r0 : Nat → Nat → Int32) (x1 : Int32) (x2 : Int32) (x3 : Int32) (y0 : Int32), f_X13_goFrom_102 F l0 K20 i0 r0 x1 x2 x3 y0 = some q → (∀ k : Nat, ¬ (k = 61 ∨ k = 62 ∨ k = 63) → q.1 k = i0 k) ∧ (∀ k : Nat, ¬ (k = 58 ∨ k = 60) → q.2 k = r0 k) := by
  intro i0 r0 x1 x2 x3 y0 hf
  rw [f_X13_goFrom_102] at hf
  obtain ⟨q17, hq17, hf⟩ := bd_s hf
  have fq17 := fr_X13_must hq17
  have g18 := hK20 _ _ _ _ _ hf
  exact ⟨fun k hk => (by (try dsimp only); rw [g18.1 k (by omega), fq17 k (by omega)]), fun k hk => (by (try dsimp only); rw [g18.2 k (by omega)])⟩
set_option maxRecDepth 100000 in
set_option maxHeartbeats 4000000 in
theorem fr_X13_goFrom_20  {l0 : Nat → Nat → Int64} {q : (Nat → Int32) × (Nat → Nat → Int32)} {F : (Nat → Int32) → (Nat → Nat → Int32) → (Nat → Nat → Int64) → Int32 → Int32 → Int32 → Option ((Nat → Int32) × (Nat → Nat → Int32))} (hF : ∀ {i0 : Nat → Int32} {r0 : Nat → Nat → Int32} {l0 : Nat → Nat → Int64} {x1 : Int32} {x2 : Int32} {x3 : Int32} {q : (Nat → Int32) × (Nat → Nat → Int32)}, F i0 r0 l0 x1 x2 x3 = some q → (∀ k : Nat, ¬ (k = 61 ∨ k = 62 ∨ k = 63) → q.1 k = i0 k) ∧ (∀ k : Nat, ¬ (k = 58 ∨ k = 60) → q.2 k = r0 k))  : ∀ (n : Nat), ∀ (i0 : Nat → Int32) (r0 : Nat → Nat → Int32) (x1 : Int32) (x2 : Int32) (x3 : Int32), f_X13_goFrom_20 F l0 n i0 r0 x1 x2 x3 = some q → (∀ k : Nat, ¬ (k = 61 ∨ k = 62 ∨ k = 63) → q.1 k = i0 k) ∧ (∀ k : Nat, ¬ (k = 58 ∨ k = 60) → q.2 k = r0 k) := by
  intro n
  induction n with
  | zero =>
    intro i0 r0 x1 x2 x3 hf
    rw [f_X13_goFrom_20] at hf
    cases hf
  | succ n ih =>
    intro i0 r0 x1 x2 x3 hf
    rw [f_X13_goFrom_20] at hf
    by_cases hc : (i0 61) = 0
    · have hf := ite_t hf hc
      obtain ⟨q19, hq19, hf⟩ := bd_s hf
      have fq19 := fr_X13_goBodyOf hF hq19
      by_cases hc : (q19.1 61) ≤ 0
      · have hf := ite_t hf hc
        obtain ⟨q20, hq20, hf⟩ := bd_s hf
        have fq20 := fr_X13_isSo hq20
        by_cases hc : q20.1 = 0
        · have hf := ite_t hf hc
          by_cases hc : 0 < (q20.2.1 61)
          · have hf := ite_t hf hc
            obtain rfl := Option.some.inj hf
            exact ⟨fun k hk => (by (try dsimp only); rw [fq20.1 k (by omega), fq19.1 k (by omega)]), fun k hk => (by (try dsimp only); rw [fq20.2 k (by omega), fq19.2 k (by omega)])⟩
          · have hf := ite_f hf hc
            obtain ⟨q21, hq21, hf⟩ := bd_s hf
            have fq21 := fr_X13_counts hq21
            by_cases hc : q21.1 = 0
            · have hf := ite_t hf hc
              obtain rfl := Option.some.inj hf
              exact ⟨fun k hk => (by (try dsimp only); rw [fq21 k (by omega), fq20.1 k (by omega), fq19.1 k (by omega)]), fun k hk => (by (try dsimp only); rw [fq20.2 k (by omega), fq19.2 k (by omega)])⟩
            · have hf := ite_f hf hc
              obtain ⟨q22, hq22, hf⟩ := bd_s hf
              have fq22 := fr_X13_goBodyOf hF hq22
              by_cases hc : (q22.1 61) ≤ 0
              · have hf := ite_t hf hc
                obtain ⟨q23, hq23, hf⟩ := bd_s hf
                have fq23 := fr_X13_isSo hq23
                by_cases hc : q23.1 = 0
                · have hf := ite_t hf hc
                  have g25 := fr_X13_goFrom_102 hF _ (ih) _ _ _ _ _ _ hf
                  exact ⟨fun k hk => (by (try dsimp only); rw [g25.1 k (by omega), fq23.1 k (by omega), fq22.1 k (by omega), fq21 k (by omega), fq20.1 k (by omega), fq19.1 k (by omega)]), fun k hk => (by (try dsimp only); rw [g25.2 k (by omega), fq23.2 k (by omega), fq22.2 k (by omega), fq20.2 k (by omega), fq19.2 k (by omega)])⟩
                · have hf := ite_f hf hc
                  have g24 := fr_X13_goFrom_102 hF _ (ih) _ _ _ _ _ _ hf
                  exact ⟨fun k hk => (by (try dsimp only); rw [g24.1 k (by omega), fq23.1 k (by omega), fq22.1 k (by omega), fq21 k (by omega), fq20.1 k (by omega), fq19.1 k (by omega)]), fun k hk => (by (try dsimp only); rw [g24.2 k (by omega), fq23.2 k (by omega), fq22.2 k (by omega), fq20.2 k (by omega), fq19.2 k (by omega)])⟩
              · have hf := ite_f hf hc
                obtain rfl := Option.some.inj hf
                exact ⟨fun k hk => (by (try dsimp only); rw [fq22.1 k (by omega), fq21 k (by omega), fq20.1 k (by omega), fq19.1 k (by omega)]), fun k hk => (by (try dsimp only); rw [fq22.2 k (by omega), fq20.2 k (by omega), fq19.2 k (by omega)])⟩
        · have hf := ite_f hf hc
          obtain rfl := Option.some.inj hf
          exact ⟨fun k hk => (by (try dsimp only); rw [fq20.1 k (by omega), fq19.1 k (by omega)]), fun k hk => (by (try dsimp only); rw [fq20.2 k (by omega), fq19.2 k (by omega)])⟩
      · have hf := ite_f hf hc
        obtain rfl := Option.some.inj hf
        exact ⟨fun k hk => (by (try dsimp only); rw [fq19.1 k (by omega)]), fun k hk => (by (try dsimp only); rw [fq19.2 k (by omega)])⟩
    · have hf := ite_f hf hc
      obtain rfl := Option.some.inj hf
      exact ⟨fun k _ => rfl, fun k _ => rfl⟩
set_option maxRecDepth 100000 in
set_option maxHeartbeats 4000000 in
theorem fr_X13_goFrom_9  {l0 : Nat → Nat → Int64} {q : (Nat → Int32) × (Nat → Nat → Int32)} {F : (Nat → Int32) → (Nat → Nat → Int32) → (Nat → Nat → Int64) → Int32 → Int32 → Int32 → Option ((Nat → Int32) × (Nat → Nat → Int32))} (hF : ∀ {i0 : Nat → Int32} {r0 : Nat → Nat → Int32} {l0 : Nat → Nat → Int64} {x1 : Int32} {x2 : Int32} {x3 : Int32} {q : (Nat → Int32) × (Nat → Nat → Int32)}, F i0 r0 l0 x1 x2 x3 = some q → (∀ k : Nat, ¬ (k = 61 ∨ k = 62 ∨ k = 63) → q.1 k = i0 k) ∧ (∀ k : Nat, ¬ (k = 58 ∨ k = 60) → q.2 k = r0 k))  : ∀ (i0 : Nat → Int32) (r0 : Nat → Nat → Int32) (x1 : Int32) (x2 : Int32) (y0 : Int32), f_X13_goFrom_9 F l0 i0 r0 x1 x2 y0 = some q → (∀ k : Nat, ¬ (k = 61 ∨ k = 62 ∨ k = 63) → q.1 k = i0 k) ∧ (∀ k : Nat, ¬ (k = 58 ∨ k = 60) → q.2 k = r0 k) := by
  intro i0 r0 x1 x2 y0 hf
  rw [f_X13_goFrom_9] at hf
  obtain ⟨q26, hq26, hf⟩ := bd_s hf
  have fq26 := fr_X13_isSo hq26
  obtain ⟨q27, hq27, hf⟩ := bd_s hf
  have fq27 := fr_X13_must hq27
  have g28 := fr_X13_goFrom_20 hF  2000000 _ _ _ _ _ hf
  exact ⟨fun k hk => (by (try dsimp only); rw [g28.1 k (by omega), fq27 k (by omega), fq26.1 k (by omega)]), fun k hk => (by (try dsimp only); rw [g28.2 k (by omega), fq26.2 k (by omega)])⟩
set_option maxRecDepth 100000 in
set_option maxHeartbeats 4000000 in
theorem fr_X13_goFrom  {i0 : Nat → Int32} {r0 : Nat → Nat → Int32} {l0 : Nat → Nat → Int64} {x1 : Int32} {x2 : Int32} {q : (Nat → Int32) × (Nat → Nat → Int32)} {F : (Nat → Int32) → (Nat → Nat → Int32) → (Nat → Nat → Int64) → Int32 → Int32 → Int32 → Option ((Nat → Int32) × (Nat → Nat → Int32))} (hF : ∀ {i0 : Nat → Int32} {r0 : Nat → Nat → Int32} {l0 : Nat → Nat → Int64} {x1 : Int32} {x2 : Int32} {x3 : Int32} {q : (Nat → Int32) × (Nat → Nat → Int32)}, F i0 r0 l0 x1 x2 x3 = some q → (∀ k : Nat, ¬ (k = 61 ∨ k = 62 ∨ k = 63) → q.1 k = i0 k) ∧ (∀ k : Nat, ¬ (k = 58 ∨ k = 60) → q.2 k = r0 k)) (hf : f_X13_goFrom F i0 r0 l0 x1 x2 = some q) : (∀ k : Nat, ¬ (k = 61 ∨ k = 62 ∨ k = 63) → q.1 k = i0 k) ∧ (∀ k : Nat, ¬ (k = 58 ∨ k = 60) → q.2 k = r0 k) := by
  rw [f_X13_goFrom] at hf
  by_cases hc : x2 = 0
  · have hf := ite_t hf hc
    have g29 := fr_X13_goFrom_9 hF  _ _ _ _ _ hf
    exact ⟨fun k hk => (by (try dsimp only); rw [g29.1 k (by omega)]), fun k hk => (by (try dsimp only); rw [g29.2 k (by omega)])⟩
  · have hf := ite_f hf hc
    have g30 := fr_X13_goFrom_9 hF  _ _ _ _ _ hf
    exact ⟨fun k hk => (by (try dsimp only); rw [g30.1 k (by omega)]), fun k hk => (by (try dsimp only); rw [g30.2 k (by omega)])⟩
/-! X13_goIf -/
set_option maxRecDepth 100000 in
set_option maxHeartbeats 4000000 in
theorem fr_X13_goIf_70  {l0 : Nat → Nat → Int64} {q : (Nat → Int32) × (Nat → Nat → Int32)} {F : (Nat → Int32) → (Nat → Nat → Int32) → (Nat → Nat → Int64) → Int32 → Int32 → Int32 → Option ((Nat → Int32) × (Nat → Nat → Int32))} (hF : ∀ {i0 : Nat → Int32} {r0 : Nat → Nat → Int32} {l0 : Nat → Nat → Int64} {x1 : Int32} {x2 : Int32} {x3 : Int32} {q : (Nat → Int32) × (Nat → Nat → Int32)}, F i0 r0 l0 x1 x2 x3 = some q → (∀ k : Nat, ¬ (k = 61 ∨ k = 62 ∨ k = 63) → q.1 k = i0 k) ∧ (∀ k : Nat, ¬ (k = 58 ∨ k = 60) → q.2 k = r0 k))  : ∀ (i0 : Nat → Int32) (r0 : Nat → Nat → Int32) (y0 : Int32), f_X13_goIf_70 F l0 i0 r0 y0 = some q → (∀ k : Nat, ¬ (k = 61 ∨ k = 62 ∨ k = 63) → q.1 k = i0 k) ∧ (∀ k : Nat, ¬ (k = 58 ∨ k = 60) → q.2 k = r0 k) := by
  intro i0 r0 y0 hf
  rw [f_X13_goIf_70] at hf
  obtain ⟨q9, hq9, hf⟩ := bd_s hf
  have fq9 := fr_X13_must hq9
  obtain rfl := Option.some.inj hf
  exact ⟨fun k hk => (by (try dsimp only); rw [fq9 k (by omega)]), fun k _ => rfl⟩
set_option maxRecDepth 100000 in
set_option maxHeartbeats 4000000 in
theorem fr_X13_goIf_58  {l0 : Nat → Nat → Int64} {q : (Nat → Int32) × (Nat → Nat → Int32)} {F : (Nat → Int32) → (Nat → Nat → Int32) → (Nat → Nat → Int64) → Int32 → Int32 → Int32 → Option ((Nat → Int32) × (Nat → Nat → Int32))} (hF : ∀ {i0 : Nat → Int32} {r0 : Nat → Nat → Int32} {l0 : Nat → Nat → Int64} {x1 : Int32} {x2 : Int32} {x3 : Int32} {q : (Nat → Int32) × (Nat → Nat → Int32)}, F i0 r0 l0 x1 x2 x3 = some q → (∀ k : Nat, ¬ (k = 61 ∨ k = 62 ∨ k = 63) → q.1 k = i0 k) ∧ (∀ k : Nat, ¬ (k = 58 ∨ k = 60) → q.2 k = r0 k))  : ∀ (i0 : Nat → Int32) (r0 : Nat → Nat → Int32) (x3 : Int32) (y0 : Int32) (y1 : Int32), f_X13_goIf_58 F l0 i0 r0 x3 y0 y1 = some q → (∀ k : Nat, ¬ (k = 61 ∨ k = 62 ∨ k = 63) → q.1 k = i0 k) ∧ (∀ k : Nat, ¬ (k = 58 ∨ k = 60) → q.2 k = r0 k) := by
  intro i0 r0 x3 y0 y1 hf
  rw [f_X13_goIf_58] at hf
  obtain ⟨q10, hq10, hf⟩ := bd_s hf
  have fq10 := fr_X13_isSo hq10
  by_cases hc : q10.1 = x3
  · have hf := ite_t hf hc
    have g12 := fr_X13_goIf_70 hF  _ _ _ hf
    exact ⟨fun k hk => (by (try dsimp only); rw [g12.1 k (by omega), fq10.1 k (by omega)]), fun k hk => (by (try dsimp only); rw [g12.2 k (by omega), fq10.2 k (by omega)])⟩
  · have hf := ite_f hf hc
    have g11 := fr_X13_goIf_70 hF  _ _ _ hf
    exact ⟨fun k hk => (by (try dsimp only); rw [g11.1 k (by omega), fq10.1 k (by omega)]), fun k hk => (by (try dsimp only); rw [g11.2 k (by omega), fq10.2 k (by omega)])⟩
set_option maxRecDepth 100000 in
set_option maxHeartbeats 4000000 in
theorem fr_X13_goIf_34  {l0 : Nat → Nat → Int64} {q : (Nat → Int32) × (Nat → Nat → Int32)} {F : (Nat → Int32) → (Nat → Nat → Int32) → (Nat → Nat → Int64) → Int32 → Int32 → Int32 → Option ((Nat → Int32) × (Nat → Nat → Int32))} (hF : ∀ {i0 : Nat → Int32} {r0 : Nat → Nat → Int32} {l0 : Nat → Nat → Int64} {x1 : Int32} {x2 : Int32} {x3 : Int32} {q : (Nat → Int32) × (Nat → Nat → Int32)}, F i0 r0 l0 x1 x2 x3 = some q → (∀ k : Nat, ¬ (k = 61 ∨ k = 62 ∨ k = 63) → q.1 k = i0 k) ∧ (∀ k : Nat, ¬ (k = 58 ∨ k = 60) → q.2 k = r0 k))  : ∀ (i0 : Nat → Int32) (r0 : Nat → Nat → Int32) (x1 : Int32) (x2 : Int32) (x3 : Int32) (y0 : Int32) (y1 : Int32), f_X13_goIf_34 F l0 i0 r0 x1 x2 x3 y0 y1 = some q → (∀ k : Nat, ¬ (k = 61 ∨ k = 62 ∨ k = 63) → q.1 k = i0 k) ∧ (∀ k : Nat, ¬ (k = 58 ∨ k = 60) → q.2 k = r0 k) := by
  intro i0 r0 x1 x2 x3 y0 y1 hf
  rw [f_X13_goIf_34] at hf
  obtain ⟨q13, hq13, hf⟩ := bd_s hf
  have fq13 := fr_X13_goBodyOf hF hq13
  by_cases hc : (q13.1 61) ≤ 0
  · have hf := ite_t hf hc
    by_cases hc : x2 = 0
    · have hf := ite_t hf hc
      have g14 := fr_X13_goIf_58 hF  _ _ _ _ _ hf
      exact ⟨fun k hk => (by (try dsimp only); rw [g14.1 k (by omega), fq13.1 k (by omega)]), fun k hk => (by (try dsimp only); rw [g14.2 k (by omega), fq13.2 k (by omega)])⟩
    · have hf := ite_f hf hc
      have g15 := fr_X13_goIf_58 hF  _ _ _ _ _ hf
      exact ⟨fun k hk => (by (try dsimp only); rw [g15.1 k (by omega), fq13.1 k (by omega)]), fun k hk => (by (try dsimp only); rw [g15.2 k (by omega), fq13.2 k (by omega)])⟩
  · have hf := ite_f hf hc
    obtain rfl := Option.some.inj hf
    exact ⟨fun k hk => (by (try dsimp only); rw [fq13.1 k (by omega)]), fun k hk => (by (try dsimp only); rw [fq13.2 k (by omega)])⟩
set_option maxRecDepth 100000 in
set_option maxHeartbeats 4000000 in
theorem fr_X13_goIf_11  {l0 : Nat → Nat → Int64} {q : (Nat → Int32) × (Nat → Nat → Int32)} {F : (Nat → Int32) → (Nat → Nat → Int32) → (Nat → Nat → Int64) → Int32 → Int32 → Int32 → Option ((Nat → Int32) × (Nat → Nat → Int32))} (hF : ∀ {i0 : Nat → Int32} {r0 : Nat → Nat → Int32} {l0 : Nat → Nat → Int64} {x1 : Int32} {x2 : Int32} {x3 : Int32} {q : (Nat → Int32) × (Nat → Nat → Int32)}, F i0 r0 l0 x1 x2 x3 = some q → (∀ k : Nat, ¬ (k = 61 ∨ k = 62 ∨ k = 63) → q.1 k = i0 k) ∧ (∀ k : Nat, ¬ (k = 58 ∨ k = 60) → q.2 k = r0 k))  : ∀ (i0 : Nat → Int32) (r0 : Nat → Nat → Int32) (x1 : Int32) (x2 : Int32) (y0 : Int32) (y1 : Int32), f_X13_goIf_11 F l0 i0 r0 x1 x2 y0 y1 = some q → (∀ k : Nat, ¬ (k = 61 ∨ k = 62 ∨ k = 63) → q.1 k = i0 k) ∧ (∀ k : Nat, ¬ (k = 58 ∨ k = 60) → q.2 k = r0 k) := by
  intro i0 r0 x1 x2 y0 y1 hf
  rw [f_X13_goIf_11] at hf
  obtain ⟨q16, hq16, hf⟩ := bd_s hf
  have fq16 := fr_X13_isSo hq16
  by_cases hc : (q16.2.1 61) ≤ 0
  · have hf := ite_t hf hc
    by_cases hc : q16.1 = 0
    · have hf := ite_t hf hc
      have g17 := fr_X13_goIf_34 hF  _ _ _ _ _ _ _ hf
      exact ⟨fun k hk => (by (try dsimp only); rw [g17.1 k (by omega), fq16.1 k (by omega)]), fun k hk => (by (try dsimp only); rw [g17.2 k (by omega), fq16.2 k (by omega)])⟩
    · have hf := ite_f hf hc
      have g18 := fr_X13_goIf_34 hF  _ _ _ _ _ _ _ hf
      exact ⟨fun k hk => (by (try dsimp only); rw [g18.1 k (by omega), fq16.1 k (by omega)]), fun k hk => (by (try dsimp only); rw [g18.2 k (by omega), fq16.2 k (by omega)])⟩
  · have hf := ite_f hf hc
    obtain rfl := Option.some.inj hf
    exact ⟨fun k hk => (by (try dsimp only); rw [fq16.1 k (by omega)]), fun k hk => (by (try dsimp only); rw [fq16.2 k (by omega)])⟩
set_option maxRecDepth 100000 in
set_option maxHeartbeats 4000000 in
theorem fr_X13_goIf  {i0 : Nat → Int32} {r0 : Nat → Nat → Int32} {l0 : Nat → Nat → Int64} {x1 : Int32} {x2 : Int32} {q : (Nat → Int32) × (Nat → Nat → Int32)} {F : (Nat → Int32) → (Nat → Nat → Int32) → (Nat → Nat → Int64) → Int32 → Int32 → Int32 → Option ((Nat → Int32) × (Nat → Nat → Int32))} (hF : ∀ {i0 : Nat → Int32} {r0 : Nat → Nat → Int32} {l0 : Nat → Nat → Int64} {x1 : Int32} {x2 : Int32} {x3 : Int32} {q : (Nat → Int32) × (Nat → Nat → Int32)}, F i0 r0 l0 x1 x2 x3 = some q → (∀ k : Nat, ¬ (k = 61 ∨ k = 62 ∨ k = 63) → q.1 k = i0 k) ∧ (∀ k : Nat, ¬ (k = 58 ∨ k = 60) → q.2 k = r0 k)) (hf : f_X13_goIf F i0 r0 l0 x1 x2 = some q) : (∀ k : Nat, ¬ (k = 61 ∨ k = 62 ∨ k = 63) → q.1 k = i0 k) ∧ (∀ k : Nat, ¬ (k = 58 ∨ k = 60) → q.2 k = r0 k) := by
  rw [f_X13_goIf] at hf
  by_cases hc : x2 = 0
  · have hf := ite_t hf hc
    have g19 := fr_X13_goIf_11 hF  _ _ _ _ _ _ hf
    exact ⟨fun k hk => (by (try dsimp only); rw [g19.1 k (by omega)]), fun k hk => (by (try dsimp only); rw [g19.2 k (by omega)])⟩
  · have hf := ite_f hf hc
    have g20 := fr_X13_goIf_11 hF  _ _ _ _ _ _ hf
    exact ⟨fun k hk => (by (try dsimp only); rw [g20.1 k (by omega)]), fun k hk => (by (try dsimp only); rw [g20.2 k (by omega)])⟩
/-! X13_goStep -/
set_option maxRecDepth 100000 in
set_option maxHeartbeats 4000000 in
theorem fr_X13_goStep_82  {l0 : Nat → Nat → Int64} {q : (Nat → Int32) × (Nat → Nat → Int32)} {F : (Nat → Int32) → (Nat → Nat → Int32) → (Nat → Nat → Int64) → Int32 → Int32 → Int32 → Option ((Nat → Int32) × (Nat → Nat → Int32))} (hF : ∀ {i0 : Nat → Int32} {r0 : Nat → Nat → Int32} {l0 : Nat → Nat → Int64} {x1 : Int32} {x2 : Int32} {x3 : Int32} {q : (Nat → Int32) × (Nat → Nat → Int32)}, F i0 r0 l0 x1 x2 x3 = some q → (∀ k : Nat, ¬ (k = 61 ∨ k = 62 ∨ k = 63) → q.1 k = i0 k) ∧ (∀ k : Nat, ¬ (k = 58 ∨ k = 60) → q.2 k = r0 k))  : ∀ (i0 : Nat → Int32) (r0 : Nat → Nat → Int32) (y0 : Int32) (y1 : Int32), f_X13_goStep_82 F l0 i0 r0 y0 y1 = some q → (∀ k : Nat, ¬ (k = 61 ∨ k = 62 ∨ k = 63) → q.1 k = i0 k) ∧ (∀ k : Nat, ¬ (k = 58 ∨ k = 60) → q.2 k = r0 k) := by
  intro i0 r0 y0 y1 hf
  rw [f_X13_goStep_82] at hf
  obtain ⟨q13, hq13, hf⟩ := bd_s hf
  have fq13 := fr_X13_goCall hF hq13
  obtain rfl := Option.some.inj hf
  exact ⟨fun k hk => (by (try dsimp only); rw [fq13.1 k (by omega)]), fun k hk => (by (try dsimp only); rw [fq13.2 k (by omega)])⟩
set_option maxRecDepth 100000 in
set_option maxHeartbeats 4000000 in
theorem fr_X13_goStep  {i0 : Nat → Int32} {r0 : Nat → Nat → Int32} {l0 : Nat → Nat → Int64} {x1 : Int32} {x2 : Int32} {q : (Nat → Int32) × (Nat → Nat → Int32)} {F : (Nat → Int32) → (Nat → Nat → Int32) → (Nat → Nat → Int64) → Int32 → Int32 → Int32 → Option ((Nat → Int32) × (Nat → Nat → Int32))} (hF : ∀ {i0 : Nat → Int32} {r0 : Nat → Nat → Int32} {l0 : Nat → Nat → Int64} {x1 : Int32} {x2 : Int32} {x3 : Int32} {q : (Nat → Int32) × (Nat → Nat → Int32)}, F i0 r0 l0 x1 x2 x3 = some q → (∀ k : Nat, ¬ (k = 61 ∨ k = 62 ∨ k = 63) → q.1 k = i0 k) ∧ (∀ k : Nat, ¬ (k = 58 ∨ k = 60) → q.2 k = r0 k)) (hf : f_X13_goStep F i0 r0 l0 x1 x2 = some q) : (∀ k : Nat, ¬ (k = 61 ∨ k = 62 ∨ k = 63) → q.1 k = i0 k) ∧ (∀ k : Nat, ¬ (k = 58 ∨ k = 60) → q.2 k = r0 k) := by
  rw [f_X13_goStep] at hf
  obtain ⟨q14, hq14, hf⟩ := bd_s hf
  have fq14 := fr_X13_counts hq14
  by_cases hc : q14.1 = 0
  · have hf := ite_t hf hc
    obtain rfl := Option.some.inj hf
    exact ⟨fun k hk => (by (try dsimp only); rw [fq14 k (by omega)]), fun k _ => rfl⟩
  · have hf := ite_f hf hc
    have hf := ck_2 hf
    by_cases hc4 : (r0 28 x1.toNatClampNeg) = 4
    · have hf := ite_t hf hc4
      obtain ⟨q15, hq15, hf⟩ := bd_s hf
      have fq15 := fr_X13_goIf hF hq15
      obtain rfl := Option.some.inj hf
      exact ⟨fun k hk => (by (try dsimp only); rw [fq15.1 k (by omega), fq14 k (by omega)]), fun k hk => (by (try dsimp only); rw [fq15.2 k (by omega)])⟩
    have hf := ite_f hf hc4
    by_cases hc5 : (r0 28 x1.toNatClampNeg) = 5
    · have hf := ite_t hf hc5
      obtain ⟨q16, hq16, hf⟩ := bd_s hf
      have fq16 := fr_X13_goFrom hF hq16
      obtain rfl := Option.some.inj hf
      exact ⟨fun k hk => (by (try dsimp only); rw [fq16.1 k (by omega), fq14 k (by omega)]), fun k hk => (by (try dsimp only); rw [fq16.2 k (by omega)])⟩
    have hf := ite_f hf hc5
    by_cases hc6 : (r0 28 x1.toNatClampNeg) = 6
    · have hf := ite_t hf hc6
      obtain ⟨q17, hq17, hf⟩ := bd_s hf
      have fq17 := fr_X13_goCall hF hq17
      obtain rfl := Option.some.inj hf
      exact ⟨fun k hk => (by (try dsimp only); rw [fq17.1 k (by omega), fq14 k (by omega)]), fun k hk => (by (try dsimp only); rw [fq17.2 k (by omega)])⟩
    have hf := ite_f hf hc6
    by_cases hc7 : (r0 28 x1.toNatClampNeg) = 7
    · have hf := ite_t hf hc7
      by_cases hc : x2 = 0
      · have hf := ite_t hf hc
        have g19 := fr_X13_goStep_82 hF  _ _ _ _ hf
        exact ⟨fun k hk => (by (try dsimp only); rw [g19.1 k (by omega), fq14 k (by omega)]), fun k hk => (by (try dsimp only); rw [g19.2 k (by omega)])⟩
      · have hf := ite_f hf hc
        have g18 := fr_X13_goStep_82 hF  _ _ _ _ hf
        exact ⟨fun k hk => (by (try dsimp only); rw [g18.1 k (by omega), fq14 k (by omega)]), fun k hk => (by (try dsimp only); rw [g18.2 k (by omega)])⟩
    have hf := ite_f hf hc7
    obtain ⟨q20, hq20, hf⟩ := bd_s hf
    have fq20 := fr_X13_change hq20
    obtain rfl := Option.some.inj hf
    exact ⟨fun k hk => (by (try dsimp only); rw [fq20.1 k (by omega), fq14 k (by omega)]), fun k hk => (by (try dsimp only); rw [fq20.2 k (by omega)])⟩
/-! X13_goBody -/
set_option maxRecDepth 100000 in
set_option maxHeartbeats 4000000 in
theorem fr_X13_goBody_52  {l0 : Nat → Nat → Int64} {q : (Nat → Int32) × (Nat → Nat → Int32)} {F : (Nat → Int32) → (Nat → Nat → Int32) → (Nat → Nat → Int64) → Int32 → Int32 → Int32 → Option ((Nat → Int32) × (Nat → Nat → Int32))} (hF : ∀ {i0 : Nat → Int32} {r0 : Nat → Nat → Int32} {l0 : Nat → Nat → Int64} {x1 : Int32} {x2 : Int32} {x3 : Int32} {q : (Nat → Int32) × (Nat → Nat → Int32)}, F i0 r0 l0 x1 x2 x3 = some q → (∀ k : Nat, ¬ (k = 61 ∨ k = 62 ∨ k = 63) → q.1 k = i0 k) ∧ (∀ k : Nat, ¬ (k = 58 ∨ k = 60) → q.2 k = r0 k)) (K11 : (Nat → Int32) → (Nat → Nat → Int32) → Int32 → Int32 → Option ((Nat → Int32) × (Nat → Nat → Int32))) (hK11 : ∀ (i0 : Nat → Int32) (r0 : Nat → Nat → Int32) (x3 : Int32) (x4 : Int32), K11 i0 r0 x3 x4 = some q → (∀ k : Nat, ¬ (k = 61 ∨ k = 62 ∨ k = 63) → q.1 k = i0 k) ∧ (∀ k : Nat, ¬ (k = 58 ∨ k = 60) → q.2 k = r0 k)) : ∀ (i0 : Nat → Int32) (r0 : Nat → Nat → Int32) (x3 : Int32) (y0 : Int32), f_X13_goBody_52 F l0 K11 i0 r0 x3 y0 = some q → (∀ k : Nat, ¬ (k = 61 ∨ k = 62 ∨ k = 63) → q.1 k = i0 k) ∧ (∀ k : Nat, ¬ (k = 58 ∨ k = 60) → q.2 k = r0 k) := by
  intro i0 r0 x3 y0 hf
  rw [f_X13_goBody_52] at hf
  have g3 := hK11 _ _ _ _ hf
  exact ⟨fun k hk => (by (try dsimp only); rw [g3.1 k (by omega)]), fun k hk => (by (try dsimp only); rw [g3.2 k (by omega)])⟩
set_option maxRecDepth 100000 in
set_option maxHeartbeats 4000000 in
theorem fr_X13_goBody_11  {l0 : Nat → Nat → Int64} {q : (Nat → Int32) × (Nat → Nat → Int32)} {F : (Nat → Int32) → (Nat → Nat → Int32) → (Nat → Nat → Int64) → Int32 → Int32 → Int32 → Option ((Nat → Int32) × (Nat → Nat → Int32))} (hF : ∀ {i0 : Nat → Int32} {r0 : Nat → Nat → Int32} {l0 : Nat → Nat → Int64} {x1 : Int32} {x2 : Int32} {x3 : Int32} {q : (Nat → Int32) × (Nat → Nat → Int32)}, F i0 r0 l0 x1 x2 x3 = some q → (∀ k : Nat, ¬ (k = 61 ∨ k = 62 ∨ k = 63) → q.1 k = i0 k) ∧ (∀ k : Nat, ¬ (k = 58 ∨ k = 60) → q.2 k = r0 k))  : ∀ (n : Nat), ∀ (i0 : Nat → Int32) (r0 : Nat → Nat → Int32) (x3 : Int32) (x4 : Int32), f_X13_goBody_11 F l0 n i0 r0 x3 x4 = some q → (∀ k : Nat, ¬ (k = 61 ∨ k = 62 ∨ k = 63) → q.1 k = i0 k) ∧ (∀ k : Nat, ¬ (k = 58 ∨ k = 60) → q.2 k = r0 k) := by
  intro n
  induction n with
  | zero =>
    intro i0 r0 x3 x4 hf
    rw [f_X13_goBody_11] at hf
    cases hf
  | succ n ih =>
    intro i0 r0 x3 x4 hf
    rw [f_X13_goBody_11] at hf
    by_cases hc : x4 = (-1)
    · have hf := ite_t hf hc
      obtain rfl := Option.some.inj hf
      exact ⟨fun k _ => rfl, fun k _ => rfl⟩
    · have hf := ite_f hf hc
      by_cases hc : (i0 61) = 0
      · have hf := ite_t hf hc
        obtain ⟨q4, hq4, hf⟩ := bd_s hf
        have fq4 := fr_X13_goStep hF hq4
        by_cases hc : x3 = 0
        · have hf := ite_t hf hc
          have hf := ck_2 hf
          have g5 := fr_X13_goBody_52 hF _ (ih) _ _ _ _ hf
          exact ⟨fun k hk => (by (try dsimp only); rw [g5.1 k (by omega), fq4.1 k (by omega)]), fun k hk => (by (try dsimp only); rw [g5.2 k (by omega), fq4.2 k (by omega)])⟩
        · have hf := ite_f hf hc
          have hf := ck_2 hf
          have g6 := fr_X13_goBody_52 hF _ (ih) _ _ _ _ hf
          exact ⟨fun k hk => (by (try dsimp only); rw [g6.1 k (by omega), fq4.1 k (by omega)]), fun k hk => (by (try dsimp only); rw [g6.2 k (by omega), fq4.2 k (by omega)])⟩
      · have hf := ite_f hf hc
        obtain rfl := Option.some.inj hf
        exact ⟨fun k _ => rfl, fun k _ => rfl⟩
set_option maxRecDepth 100000 in
set_option maxHeartbeats 4000000 in
theorem fr_X13_goBody_9  {l0 : Nat → Nat → Int64} {q : (Nat → Int32) × (Nat → Nat → Int32)} {F : (Nat → Int32) → (Nat → Nat → Int32) → (Nat → Nat → Int64) → Int32 → Int32 → Int32 → Option ((Nat → Int32) × (Nat → Nat → Int32))} (hF : ∀ {i0 : Nat → Int32} {r0 : Nat → Nat → Int32} {l0 : Nat → Nat → Int64} {x1 : Int32} {x2 : Int32} {x3 : Int32} {q : (Nat → Int32) × (Nat → Nat → Int32)}, F i0 r0 l0 x1 x2 x3 = some q → (∀ k : Nat, ¬ (k = 61 ∨ k = 62 ∨ k = 63) → q.1 k = i0 k) ∧ (∀ k : Nat, ¬ (k = 58 ∨ k = 60) → q.2 k = r0 k))  : ∀ (i0 : Nat → Int32) (r0 : Nat → Nat → Int32) (x3 : Int32) (y0 : Int32), f_X13_goBody_9 F l0 i0 r0 x3 y0 = some q → (∀ k : Nat, ¬ (k = 61 ∨ k = 62 ∨ k = 63) → q.1 k = i0 k) ∧ (∀ k : Nat, ¬ (k = 58 ∨ k = 60) → q.2 k = r0 k) := by
  intro i0 r0 x3 y0 hf
  rw [f_X13_goBody_9] at hf
  have g7 := fr_X13_goBody_11 hF  2000000 _ _ _ _ hf
  exact ⟨fun k hk => (by (try dsimp only); rw [g7.1 k (by omega)]), fun k hk => (by (try dsimp only); rw [g7.2 k (by omega)])⟩
set_option maxRecDepth 100000 in
set_option maxHeartbeats 4000000 in
theorem fr_X13_goBody_e  {i0 : Nat → Int32} {r0 : Nat → Nat → Int32} {l0 : Nat → Nat → Int64} {x1 : Int32} {x2 : Int32} {x3 : Int32} {q : (Nat → Int32) × (Nat → Nat → Int32)} {F : (Nat → Int32) → (Nat → Nat → Int32) → (Nat → Nat → Int64) → Int32 → Int32 → Int32 → Option ((Nat → Int32) × (Nat → Nat → Int32))} (hF : ∀ {i0 : Nat → Int32} {r0 : Nat → Nat → Int32} {l0 : Nat → Nat → Int64} {x1 : Int32} {x2 : Int32} {x3 : Int32} {q : (Nat → Int32) × (Nat → Nat → Int32)}, F i0 r0 l0 x1 x2 x3 = some q → (∀ k : Nat, ¬ (k = 61 ∨ k = 62 ∨ k = 63) → q.1 k = i0 k) ∧ (∀ k : Nat, ¬ (k = 58 ∨ k = 60) → q.2 k = r0 k)) (hf : f_X13_goBody_e F i0 r0 l0 x1 x2 x3 = some q) : (∀ k : Nat, ¬ (k = 61 ∨ k = 62 ∨ k = 63) → q.1 k = i0 k) ∧ (∀ k : Nat, ¬ (k = 58 ∨ k = 60) → q.2 k = r0 k) := by
  rw [f_X13_goBody_e] at hf
  by_cases hc : x3 = 0
  · have hf := ite_t hf hc
    have g8 := fr_X13_goBody_9 hF  _ _ _ _ hf
    exact ⟨fun k hk => (by (try dsimp only); rw [g8.1 k (by omega)]), fun k hk => (by (try dsimp only); rw [g8.2 k (by omega)])⟩
  · have hf := ite_f hf hc
    have g9 := fr_X13_goBody_9 hF  _ _ _ _ hf
    exact ⟨fun k hk => (by (try dsimp only); rw [g9.1 k (by omega)]), fun k hk => (by (try dsimp only); rw [g9.2 k (by omega)])⟩
theorem fr_X13_goBody : ∀ (d : Nat) {i0 : Nat → Int32} {r0 : Nat → Nat → Int32} {l0 : Nat → Nat → Int64} {x1 : Int32} {x2 : Int32} {x3 : Int32} {q : (Nat → Int32) × (Nat → Nat → Int32)}, f_X13_goBody d i0 r0 l0 x1 x2 x3 = some q → (∀ k : Nat, ¬ (k = 61 ∨ k = 62 ∨ k = 63) → q.1 k = i0 k) ∧ (∀ k : Nat, ¬ (k = 58 ∨ k = 60) → q.2 k = r0 k)
  | 0, _, _, _, _, _, _, _, hf => (by rw [f_X13_goBody] at hf; cases hf)
  | d + 1, _, _, _, _, _, _, _, hf => (by rw [f_X13_goBody] at hf; exact fr_X13_goBody_e (fr_X13_goBody d) hf)
/-! X13_run -/
set_option maxRecDepth 100000 in
set_option maxHeartbeats 4000000 in
theorem fr_X13_run_91  {l0 : Nat → Nat → Int64} {q : Int32 × (Nat → Int32) × (Nat → Nat → Int32)}  : ∀ (n : Nat), ∀ (i0 : Nat → Int32) (r0 : Nat → Nat → Int32) (x3 : Int32), f_X13_run_91 l0 n i0 r0 x3 = some q → (∀ k : Nat, ¬ (k = 61 ∨ k = 62 ∨ k = 63) → q.2.1 k = i0 k) ∧ (∀ k : Nat, ¬ (k = 58 ∨ k = 59 ∨ k = 60) → q.2.2 k = r0 k) := by
  intro n
  induction n with
  | zero =>
    intro i0 r0 x3 hf
    rw [f_X13_run_91] at hf
    cases hf
  | succ n ih =>
    intro i0 r0 x3 hf
    rw [f_X13_run_91] at hf
    by_cases hc : 18 ≤ x3
    · have hf := ite_t hf hc
      obtain rfl := Option.some.inj hf
      exact ⟨fun k _ => rfl, fun k _ => rfl⟩
    · have hf := ite_f hf hc
      have hf := ck_2 hf
      have hf := ck_2 hf
      have g5 := ih _ _ _ hf
      exact ⟨fun k hk => (by (try dsimp only); rw [g5.1 k (by omega)]), fun k hk => (by (try dsimp only); rw [g5.2 k (by omega), va_up_ne _ _ (by omega)])⟩
set_option maxRecDepth 100000 in
set_option maxHeartbeats 4000000 in
theorem fr_X13_run_21  {l0 : Nat → Nat → Int64} {q : Int32 × (Nat → Int32) × (Nat → Nat → Int32)}  : ∀ (n : Nat), ∀ (i0 : Nat → Int32) (r0 : Nat → Nat → Int32) (x1 : Int32) (x2 : Int32) (x3 : Int32), f_X13_run_21 l0 n i0 r0 x1 x2 x3 = some q → (∀ k : Nat, ¬ (k = 61 ∨ k = 62 ∨ k = 63) → q.2.1 k = i0 k) ∧ (∀ k : Nat, ¬ (k = 58 ∨ k = 59 ∨ k = 60) → q.2.2 k = r0 k) := by
  intro n
  induction n with
  | zero =>
    intro i0 r0 x1 x2 x3 hf
    rw [f_X13_run_21] at hf
    cases hf
  | succ n ih =>
    intro i0 r0 x1 x2 x3 hf
    rw [f_X13_run_21] at hf
    by_cases hc : 18 ≤ x3
    · have hf := ite_t hf hc
      have hf := ck_2 hf
      have hf := ck_2 hf
      obtain ⟨q6, hq6, hf⟩ := bd_s hf
      have fq6 := fr_X13_goBody 160 hq6
      by_cases hc : (q6.1 61) = 0
      · have hf := ite_t hf hc
        obtain rfl := Option.some.inj hf
        exact ⟨fun k hk => (by (try dsimp only); rw [fq6.1 k (by omega), pk_un (by omega), pk_un (by omega), pk_un (by omega)]), fun k hk => (by (try dsimp only); rw [fq6.2 k (by omega)])⟩
      · have hf := ite_f hf hc
        have g7 := fr_X13_run_91  2000000 _ _ _ hf
        exact ⟨fun k hk => (by (try dsimp only); rw [g7.1 k (by omega), fq6.1 k (by omega), pk_un (by omega), pk_un (by omega), pk_un (by omega)]), fun k hk => (by (try dsimp only); rw [g7.2 k (by omega), fq6.2 k (by omega)])⟩
    · have hf := ite_f hf hc
      have hf := ck_2 hf
      have hf := ck_2 hf
      have g8 := ih _ _ _ _ _ hf
      exact ⟨fun k hk => (by (try dsimp only); rw [g8.1 k (by omega)]), fun k hk => (by (try dsimp only); rw [g8.2 k (by omega), va_up_ne _ _ (by omega)])⟩
set_option maxRecDepth 100000 in
set_option maxHeartbeats 4000000 in
theorem fr_X13_run  {i0 : Nat → Int32} {r0 : Nat → Nat → Int32} {l0 : Nat → Nat → Int64} {x1 : Int32} {x2 : Int32} {q : Int32 × (Nat → Int32) × (Nat → Nat → Int32)} (hf : f_X13_run i0 r0 l0 x1 x2 = some q) : (∀ k : Nat, ¬ (k = 61 ∨ k = 62 ∨ k = 63) → q.2.1 k = i0 k) ∧ (∀ k : Nat, ¬ (k = 58 ∨ k = 59 ∨ k = 60) → q.2.2 k = r0 k) := by
  rw [f_X13_run] at hf
  obtain ⟨q9, hq9, hf⟩ := bd_s hf
  by_cases hc : q9 = 0
  · have hf := ite_t hf hc
    obtain rfl := Option.some.inj hf
    exact ⟨fun k _ => rfl, fun k _ => rfl⟩
  · have hf := ite_f hf hc
    have g10 := fr_X13_run_21  2000000 _ _ _ _ _ hf
    exact ⟨fun k hk => (by (try dsimp only); rw [g10.1 k (by omega)]), fun k hk => (by (try dsimp only); rw [g10.2 k (by omega)])⟩
/-! X13_table -/
set_option maxRecDepth 100000 in
set_option maxHeartbeats 4000000 in
theorem fr_X13_table_63  {l0 : Nat → Nat → Int64} {q : Int32 × (Nat → Int32) × (Nat → Nat → Int32)} (K43 : (Nat → Int32) → (Nat → Nat → Int32) → Int32 → Option (Int32 × (Nat → Int32) × (Nat → Nat → Int32))) (hK43 : ∀ (i0 : Nat → Int32) (r0 : Nat → Nat → Int32) (x3 : Int32), K43 i0 r0 x3 = some q → (∀ k : Nat, ¬ (k = 64 ∨ k = 65 ∨ k = 66 ∨ k = 67) → q.2.1 k = i0 k) ∧ (∀ k : Nat, ¬ (k = 68 ∨ k = 69) → q.2.2 k = r0 k)) : ∀ (i0 : Nat → Int32) (r0 : Nat → Nat → Int32) (x3 : Int32), f_X13_table_63 l0 K43 i0 r0 x3 = some q → (∀ k : Nat, ¬ (k = 64 ∨ k = 65 ∨ k = 66 ∨ k = 67) → q.2.1 k = i0 k) ∧ (∀ k : Nat, ¬ (k = 68 ∨ k = 69) → q.2.2 k = r0 k) := by
  intro i0 r0 x3 hf
  rw [f_X13_table_63] at hf
  have g5 := hK43 _ _ _ hf
  exact ⟨fun k hk => (by (try dsimp only); rw [g5.1 k (by omega)]), fun k hk => (by (try dsimp only); rw [g5.2 k (by omega)])⟩
set_option maxRecDepth 100000 in
set_option maxHeartbeats 4000000 in
theorem fr_X13_table_43  {l0 : Nat → Nat → Int64} {q : Int32 × (Nat → Int32) × (Nat → Nat → Int32)}  : ∀ (n : Nat), ∀ (i0 : Nat → Int32) (r0 : Nat → Nat → Int32) (x3 : Int32), f_X13_table_43 l0 n i0 r0 x3 = some q → (∀ k : Nat, ¬ (k = 64 ∨ k = 65 ∨ k = 66 ∨ k = 67) → q.2.1 k = i0 k) ∧ (∀ k : Nat, ¬ (k = 68 ∨ k = 69) → q.2.2 k = r0 k) := by
  intro n
  induction n with
  | zero =>
    intro i0 r0 x3 hf
    rw [f_X13_table_43] at hf
    cases hf
  | succ n ih =>
    intro i0 r0 x3 hf
    rw [f_X13_table_43] at hf
    by_cases hc : 100 ≤ x3
    · have hf := ite_t hf hc
      obtain rfl := Option.some.inj hf
      exact ⟨fun k hk => (by (try dsimp only); rw [pk_un (by omega), pk_un (by omega)]), fun k _ => rfl⟩
    · have hf := ite_f hf hc
      have hf := ck_2 hf
      have hf := ck_2 hf
      have g6 := fr_X13_table_63 _ (ih) _ _ _ hf
      exact ⟨fun k hk => (by (try dsimp only); rw [g6.1 k (by omega)]), fun k hk => (by (try dsimp only); rw [g6.2 k (by omega), va_up_ne _ _ (by omega), va_up_ne _ _ (by omega)])⟩
set_option maxRecDepth 100000 in
set_option maxHeartbeats 4000000 in
theorem fr_X13_table  {i0 : Nat → Int32} {r0 : Nat → Nat → Int32} {l0 : Nat → Nat → Int64} {x1 : Int32} {x2 : Int32} {q : Int32 × (Nat → Int32) × (Nat → Nat → Int32)} (hf : f_X13_table i0 r0 l0 x1 x2 = some q) : (∀ k : Nat, ¬ (k = 64 ∨ k = 65 ∨ k = 66 ∨ k = 67) → q.2.1 k = i0 k) ∧ (∀ k : Nat, ¬ (k = 68 ∨ k = 69) → q.2.2 k = r0 k) := by
  rw [f_X13_table] at hf
  obtain ⟨q7, hq7, hf⟩ := bd_s hf
  by_cases hc : q7 = 0
  · have hf := ite_t hf hc
    obtain rfl := Option.some.inj hf
    exact ⟨fun k _ => rfl, fun k _ => rfl⟩
  · have hf := ite_f hf hc
    obtain ⟨q8, hq8, hf⟩ := bd_s hf
    by_cases hc : q8 = 0
    · have hf := ite_t hf hc
      obtain rfl := Option.some.inj hf
      exact ⟨fun k _ => rfl, fun k _ => rfl⟩
    · have hf := ite_f hf hc
      have g9 := fr_X13_table_43  2000000 _ _ _ hf
      exact ⟨fun k hk => (by (try dsimp only); rw [g9.1 k (by omega), pk_un (by omega), pk_un (by omega)]), fun k hk => (by (try dsimp only); rw [g9.2 k (by omega)])⟩
/-! X13_part -/
set_option maxRecDepth 100000 in
set_option maxHeartbeats 4000000 in
theorem fr_X13_part  {i0 : Nat → Int32} {r0 : Nat → Nat → Int32} {l0 : Nat → Nat → Int64} {x1 : Int32} {x2 : Int32} {x3 : Int32} {q : Int32 × (Nat → Int32) × (Nat → Nat → Int32)} (hf : f_X13_part i0 r0 l0 x1 x2 x3 = some q) : (∀ k : Nat, ¬ (k = 67) → q.2.1 k = i0 k) ∧ (∀ k : Nat, ¬ (k = 68) → q.2.2 k = r0 k) := by
  rw [f_X13_part] at hf
  obtain ⟨q9, hq9, hf⟩ := bd_s hf
  by_cases hc : q9 = 0
  · have hf := ite_t hf hc
    obtain rfl := Option.some.inj hf
    exact ⟨fun k _ => rfl, fun k _ => rfl⟩
  · have hf := ite_f hf hc
    obtain ⟨q10, hq10, hf⟩ := bd_s hf
    by_cases hc : q10 = 0
    · have hf := ite_t hf hc
      obtain rfl := Option.some.inj hf
      exact ⟨fun k _ => rfl, fun k _ => rfl⟩
    · have hf := ite_f hf hc
      obtain ⟨q11, hq11, hf⟩ := bd_s hf
      have hf := ck_2 hf
      obtain ⟨q12, hq12, hf⟩ := bd_s hf
      have hf := ck_2 hf
      obtain rfl := Option.some.inj hf
      exact ⟨fun k hk => (by (try dsimp only); rw [pk_un (by omega)]), fun k hk => (by (try dsimp only); rw [va_up_ne _ _ (by omega)])⟩
/-! X13_ball -/
set_option maxRecDepth 100000 in
set_option maxHeartbeats 4000000 in
theorem fr_X13_ball_73  {l0 : Nat → Nat → Int64} {q : Int32 × (Nat → Int32) × (Nat → Nat → Int32)}  : ∀ (i0 : Nat → Int32) (r0 : Nat → Nat → Int32) (x1 : Int32) (x2 : Int32) (x5 : Int32), f_X13_ball_73 l0 i0 r0 x1 x2 x5 = some q → (∀ k : Nat, ¬ (k = 67) → q.2.1 k = i0 k) ∧ (∀ k : Nat, ¬ (k = 69) → q.2.2 k = r0 k) := by
  intro i0 r0 x1 x2 x5 hf
  rw [f_X13_ball_73] at hf
  obtain ⟨q11, hq11, hf⟩ := bd_s hf
  have hf := ck_2 hf
  by_cases hc : x5 = (r0 69 q11.toNatClampNeg)
  · have hf := ite_t hf hc
    obtain rfl := Option.some.inj hf
    exact ⟨fun k _ => rfl, fun k _ => rfl⟩
  · have hf := ite_f hf hc
    obtain rfl := Option.some.inj hf
    exact ⟨fun k _ => rfl, fun k _ => rfl⟩
set_option maxRecDepth 100000 in
set_option maxHeartbeats 4000000 in
theorem fr_X13_ball_67  {l0 : Nat → Nat → Int64} {q : Int32 × (Nat → Int32) × (Nat → Nat → Int32)}  : ∀ (i0 : Nat → Int32) (r0 : Nat → Nat → Int32) (x1 : Int32) (x2 : Int32) (x5 : Int32) (y0 : Int32) (y1 : Int32), f_X13_ball_67 l0 i0 r0 x1 x2 x5 y0 y1 = some q → (∀ k : Nat, ¬ (k = 67) → q.2.1 k = i0 k) ∧ (∀ k : Nat, ¬ (k = 69) → q.2.2 k = r0 k) := by
  intro i0 r0 x1 x2 x5 y0 y1 hf
  rw [f_X13_ball_67] at hf
  have hf := ck_2 hf
  have g12 := fr_X13_ball_73  _ _ _ _ _ hf
  exact ⟨fun k hk => (by (try dsimp only); rw [g12.1 k (by omega), pk_un (by omega)]), fun k hk => (by (try dsimp only); rw [g12.2 k (by omega), va_up_ne _ _ (by omega)])⟩
set_option maxRecDepth 100000 in
set_option maxHeartbeats 4000000 in
theorem fr_X13_ball  {i0 : Nat → Int32} {r0 : Nat → Nat → Int32} {l0 : Nat → Nat → Int64} {x1 : Int32} {x2 : Int32} {x3 : Int32} {x4 : Int32} {q : Int32 × (Nat → Int32) × (Nat → Nat → Int32)} (hf : f_X13_ball i0 r0 l0 x1 x2 x3 x4 = some q) : (∀ k : Nat, ¬ (k = 67) → q.2.1 k = i0 k) ∧ (∀ k : Nat, ¬ (k = 69) → q.2.2 k = r0 k) := by
  rw [f_X13_ball] at hf
  obtain ⟨q13, hq13, hf⟩ := bd_s hf
  by_cases hc : q13 = 0
  · have hf := ite_t hf hc
    obtain rfl := Option.some.inj hf
    exact ⟨fun k _ => rfl, fun k _ => rfl⟩
  · have hf := ite_f hf hc
    obtain ⟨q14, hq14, hf⟩ := bd_s hf
    by_cases hc : q14 = 0
    · have hf := ite_t hf hc
      obtain rfl := Option.some.inj hf
      exact ⟨fun k _ => rfl, fun k _ => rfl⟩
    · have hf := ite_f hf hc
      obtain ⟨q15, hq15, hf⟩ := bd_s hf
      have hf := ck_2 hf
      obtain ⟨q16, hq16, hf⟩ := bd_s hf
      by_cases hc : x4 = 0
      · have hf := ite_t hf hc
        have g17 := fr_X13_ball_67  _ _ _ _ _ _ _ hf
        exact ⟨fun k hk => (by (try dsimp only); rw [g17.1 k (by omega)]), fun k hk => (by (try dsimp only); rw [g17.2 k (by omega)])⟩
      · have hf := ite_f hf hc
        have g18 := fr_X13_ball_67  _ _ _ _ _ _ _ hf
        exact ⟨fun k hk => (by (try dsimp only); rw [g18.1 k (by omega)]), fun k hk => (by (try dsimp only); rw [g18.2 k (by omega)])⟩
/-! X13_beatOnce -/
set_option maxRecDepth 100000 in
set_option maxHeartbeats 4000000 in
theorem fr_X13_beatOnce_196  {i0 : Nat → Int32} {l0 : Nat → Nat → Int64} {q : Int32 × (Nat → Nat → Int32)} (K25 : (Nat → Nat → Int32) → Int32 → Int32 → Option (Int32 × (Nat → Nat → Int32))) (hK25 : ∀ (r0 : Nat → Nat → Int32) (x1 : Int32) (x2 : Int32), K25 r0 x1 x2 = some q → (∀ k : Nat, ¬ (k = 69 ∨ k = 70) → q.2 k = r0 k)) (K35 : (Nat → Nat → Int32) → Int32 → Int32 → Int32 → Option (Int32 × (Nat → Nat → Int32))) (hK35 : ∀ (r0 : Nat → Nat → Int32) (x1 : Int32) (x2 : Int32) (x3 : Int32), K35 r0 x1 x2 x3 = some q → (∀ k : Nat, ¬ (k = 69 ∨ k = 70) → q.2 k = r0 k)) : ∀ (r0 : Nat → Nat → Int32) (x1 : Int32) (x2 : Int32) (x3 : Int32), f_X13_beatOnce_196 i0 l0 K25 K35 r0 x1 x2 x3 = some q → (∀ k : Nat, ¬ (k = 69 ∨ k = 70) → q.2 k = r0 k) := by
  intro r0 x1 x2 x3 hf
  rw [f_X13_beatOnce_196] at hf
  have g21 := hK35 _ _ _ _ hf
  exact fun k hk => (by (try dsimp only); rw [g21 k (by omega)])
set_option maxRecDepth 100000 in
set_option maxHeartbeats 4000000 in
theorem fr_X13_beatOnce_190  {i0 : Nat → Int32} {l0 : Nat → Nat → Int64} {q : Int32 × (Nat → Nat → Int32)} (K25 : (Nat → Nat → Int32) → Int32 → Int32 → Option (Int32 × (Nat → Nat → Int32))) (hK25 : ∀ (r0 : Nat → Nat → Int32) (x1 : Int32) (x2 : Int32), K25 r0 x1 x2 = some q → (∀ k : Nat, ¬ (k = 69 ∨ k = 70) → q.2 k = r0 k)) (K35 : (Nat → Nat → Int32) → Int32 → Int32 → Int32 → Option (Int32 × (Nat → Nat → Int32))) (hK35 : ∀ (r0 : Nat → Nat → Int32) (x1 : Int32) (x2 : Int32) (x3 : Int32), K35 r0 x1 x2 x3 = some q → (∀ k : Nat, ¬ (k = 69 ∨ k = 70) → q.2 k = r0 k)) (K101 : (Nat → Nat → Int32) → Int32 → Int32 → Int32 → Int32 → Int32 → Option (Int32 × (Nat → Nat → Int32))) (hK101 : ∀ (r0 : Nat → Nat → Int32) (x1 : Int32) (x2 : Int32) (x3 : Int32) (x4 : Int32) (x5 : Int32), K101 r0 x1 x2 x3 x4 x5 = some q → (∀ k : Nat, ¬ (k = 69 ∨ k = 70) → q.2 k = r0 k)) : ∀ (r0 : Nat → Nat → Int32) (x1 : Int32) (x2 : Int32) (x3 : Int32) (x4 : Int32) (x5 : Int32), f_X13_beatOnce_190 i0 l0 K25 K35 K101 r0 x1 x2 x3 x4 x5 = some q → (∀ k : Nat, ¬ (k = 69 ∨ k = 70) → q.2 k = r0 k) := by
  intro r0 x1 x2 x3 x4 x5 hf
  rw [f_X13_beatOnce_190] at hf
  have g22 := hK101 _ _ _ _ _ _ hf
  exact fun k hk => (by (try dsimp only); rw [g22 k (by omega)])
set_option maxRecDepth 100000 in
set_option maxHeartbeats 4000000 in
theorem fr_X13_beatOnce_101  {i0 : Nat → Int32} {l0 : Nat → Nat → Int64} {q : Int32 × (Nat → Nat → Int32)} (K25 : (Nat → Nat → Int32) → Int32 → Int32 → Option (Int32 × (Nat → Nat → Int32))) (hK25 : ∀ (r0 : Nat → Nat → Int32) (x1 : Int32) (x2 : Int32), K25 r0 x1 x2 = some q → (∀ k : Nat, ¬ (k = 69 ∨ k = 70) → q.2 k = r0 k)) (K35 : (Nat → Nat → Int32) → Int32 → Int32 → Int32 → Option (Int32 × (Nat → Nat → Int32))) (hK35 : ∀ (r0 : Nat → Nat → Int32) (x1 : Int32) (x2 : Int32) (x3 : Int32), K35 r0 x1 x2 x3 = some q → (∀ k : Nat, ¬ (k = 69 ∨ k = 70) → q.2 k = r0 k)) : ∀ (n : Nat), ∀ (r0 : Nat → Nat → Int32) (x1 : Int32) (x2 : Int32) (x3 : Int32) (x4 : Int32) (x5 : Int32), f_X13_beatOnce_101 i0 l0 K25 K35 n r0 x1 x2 x3 x4 x5 = some q → (∀ k : Nat, ¬ (k = 69 ∨ k = 70) → q.2 k = r0 k) := by
  intro n
  induction n with
  | zero =>
    intro r0 x1 x2 x3 x4 x5 hf
    rw [f_X13_beatOnce_101] at hf
    cases hf
  | succ n ih =>
    intro r0 x1 x2 x3 x4 x5 hf
    rw [f_X13_beatOnce_101] at hf
    by_cases hc : 4 ≤ x5
    · have hf := ite_t hf hc
      have g23 := fr_X13_beatOnce_196 _ (hK25) _ (hK35) _ _ _ _ hf
      exact fun k hk => (by (try dsimp only); rw [g23 k (by omega)])
    · have hf := ite_f hf hc
      by_cases hc : ((x4 >>> (x5 &&& 31)) &&& 1) = 0
      · have hf := ite_t hf hc
        have g31 := fr_X13_beatOnce_190 _ (hK25) _ (hK35) _ (ih) _ _ _ _ _ _ hf
        exact fun k hk => (by (try dsimp only); rw [g31 k (by omega)])
      · have hf := ite_f hf hc
        obtain ⟨q24, hq24, hf⟩ := bd_s hf
        obtain ⟨q25, hq25, hf⟩ := bd_s hf
        obtain ⟨q26, hq26, hf⟩ := bd_s hf
        by_cases hc : q26 = 0
        · have hf := ite_t hf hc
          obtain ⟨q27, hq27, hf⟩ := bd_s hf
          have hf := ck_2 hf
          have hf := ck_2 hf
          have g28 := fr_X13_beatOnce_190 _ (hK25) _ (hK35) _ (ih) _ _ _ _ _ _ hf
          exact fun k hk => (by (try dsimp only); rw [g28 k (by omega), va_up_ne _ _ (by omega)])
        · have hf := ite_f hf hc
          obtain ⟨q29, hq29, hf⟩ := bd_s hf
          have hf := ck_2 hf
          have hf := ck_2 hf
          have g30 := fr_X13_beatOnce_190 _ (hK25) _ (hK35) _ (ih) _ _ _ _ _ _ hf
          exact fun k hk => (by (try dsimp only); rw [g30 k (by omega), va_up_ne _ _ (by omega)])
set_option maxRecDepth 100000 in
set_option maxHeartbeats 4000000 in
theorem fr_X13_beatOnce_35  {i0 : Nat → Int32} {l0 : Nat → Nat → Int64} {q : Int32 × (Nat → Nat → Int32)} (K25 : (Nat → Nat → Int32) → Int32 → Int32 → Option (Int32 × (Nat → Nat → Int32))) (hK25 : ∀ (r0 : Nat → Nat → Int32) (x1 : Int32) (x2 : Int32), K25 r0 x1 x2 = some q → (∀ k : Nat, ¬ (k = 69 ∨ k = 70) → q.2 k = r0 k)) : ∀ (n : Nat), ∀ (r0 : Nat → Nat → Int32) (x1 : Int32) (x2 : Int32) (x3 : Int32), f_X13_beatOnce_35 i0 l0 K25 n r0 x1 x2 x3 = some q → (∀ k : Nat, ¬ (k = 69 ∨ k = 70) → q.2 k = r0 k) := by
  intro n
  induction n with
  | zero =>
    intro r0 x1 x2 x3 hf
    rw [f_X13_beatOnce_35] at hf
    cases hf
  | succ n ih =>
    intro r0 x1 x2 x3 hf
    rw [f_X13_beatOnce_35] at hf
    by_cases hc : (i0 64) ≤ x3
    · have hf := ite_t hf hc
      have g32 := hK25 _ _ _ hf
      exact fun k hk => (by (try dsimp only); rw [g32 k (by omega)])
    · have hf := ite_f hf hc
      obtain ⟨q33, hq33, hf⟩ := bd_s hf
      have hf := ck_2 hf
      obtain ⟨q34, hq34, hf⟩ := bd_s hf
      have hf := ck_2 hf
      by_cases hc : (r0 68 q34.toNatClampNeg) = 3
      · have hf := ite_t hf hc
        obtain ⟨q38, hq38, hf⟩ := bd_s hf
        have g39 := fr_X13_beatOnce_196 _ (hK25) _ (ih) _ _ _ _ hf
        exact fun k hk => (by (try dsimp only); rw [g39 k (by omega)])
      · have hf := ite_f hf hc
        obtain ⟨q35, hq35, hf⟩ := bd_s hf
        have hf := ck_2 hf
        obtain ⟨q36, hq36, hf⟩ := bd_s hf
        have g37 := fr_X13_beatOnce_101 _ (hK25) _ (ih) 2000000 _ _ _ _ _ _ hf
        exact fun k hk => (by (try dsimp only); rw [g37 k (by omega)])
set_option maxRecDepth 100000 in
set_option maxHeartbeats 4000000 in
theorem fr_X13_beatOnce_210  {i0 : Nat → Int32} {l0 : Nat → Nat → Int64} {q : Int32 × (Nat → Nat → Int32)}  : ∀ (n : Nat), ∀ (r0 : Nat → Nat → Int32) (x1 : Int32) (x2 : Int32), f_X13_beatOnce_210 i0 l0 n r0 x1 x2 = some q → (∀ k : Nat, ¬ (k = 69 ∨ k = 70) → q.2 k = r0 k) := by
  intro n
  induction n with
  | zero =>
    intro r0 x1 x2 hf
    rw [f_X13_beatOnce_210] at hf
    cases hf
  | succ n ih =>
    intro r0 x1 x2 hf
    rw [f_X13_beatOnce_210] at hf
    by_cases hc : 100 ≤ x2
    · have hf := ite_t hf hc
      obtain rfl := Option.some.inj hf
      exact fun k _ => rfl
    · have hf := ite_f hf hc
      have hf := ck_2 hf
      have hf := ck_2 hf
      have g40 := ih _ _ _ hf
      exact fun k hk => (by (try dsimp only); rw [g40 k (by omega), va_up_ne _ _ (by omega)])
set_option maxRecDepth 100000 in
set_option maxHeartbeats 4000000 in
theorem fr_X13_beatOnce_25  {i0 : Nat → Int32} {l0 : Nat → Nat → Int64} {q : Int32 × (Nat → Nat → Int32)}  : ∀ (n : Nat), ∀ (r0 : Nat → Nat → Int32) (x1 : Int32) (x2 : Int32), f_X13_beatOnce_25 i0 l0 n r0 x1 x2 = some q → (∀ k : Nat, ¬ (k = 69 ∨ k = 70) → q.2 k = r0 k) := by
  intro n
  induction n with
  | zero =>
    intro r0 x1 x2 hf
    rw [f_X13_beatOnce_25] at hf
    cases hf
  | succ n ih =>
    intro r0 x1 x2 hf
    rw [f_X13_beatOnce_25] at hf
    by_cases hc : (i0 65) ≤ x2
    · have hf := ite_t hf hc
      have g41 := fr_X13_beatOnce_210  2000000 _ _ _ hf
      exact fun k hk => (by (try dsimp only); rw [g41 k (by omega)])
    · have hf := ite_f hf hc
      have g42 := fr_X13_beatOnce_35 _ (ih) 2000000 _ _ _ _ hf
      exact fun k hk => (by (try dsimp only); rw [g42 k (by omega)])
set_option maxRecDepth 100000 in
set_option maxHeartbeats 4000000 in
theorem fr_X13_beatOnce_4  {i0 : Nat → Int32} {l0 : Nat → Nat → Int64} {q : Int32 × (Nat → Nat → Int32)}  : ∀ (n : Nat), ∀ (r0 : Nat → Nat → Int32) (x1 : Int32) (x2 : Int32), f_X13_beatOnce_4 i0 l0 n r0 x1 x2 = some q → (∀ k : Nat, ¬ (k = 69 ∨ k = 70) → q.2 k = r0 k) := by
  intro n
  induction n with
  | zero =>
    intro r0 x1 x2 hf
    rw [f_X13_beatOnce_4] at hf
    cases hf
  | succ n ih =>
    intro r0 x1 x2 hf
    rw [f_X13_beatOnce_4] at hf
    by_cases hc : 100 ≤ x2
    · have hf := ite_t hf hc
      have g43 := fr_X13_beatOnce_25  2000000 _ _ _ hf
      exact fun k hk => (by (try dsimp only); rw [g43 k (by omega)])
    · have hf := ite_f hf hc
      have hf := ck_2 hf
      have g44 := ih _ _ _ hf
      exact fun k hk => (by (try dsimp only); rw [g44 k (by omega), va_up_ne _ _ (by omega)])
set_option maxRecDepth 100000 in
set_option maxHeartbeats 4000000 in
theorem fr_X13_beatOnce  {i0 : Nat → Int32} {r0 : Nat → Nat → Int32} {l0 : Nat → Nat → Int64}  {q : Int32 × (Nat → Nat → Int32)} (hf : f_X13_beatOnce i0 r0 l0 = some q) : (∀ k : Nat, ¬ (k = 69 ∨ k = 70) → q.2 k = r0 k) := by
  rw [f_X13_beatOnce] at hf
  have g45 := fr_X13_beatOnce_4  2000000 _ _ _ hf
  exact fun k hk => (by (try dsimp only); rw [g45 k (by omega)])
/-! X13_beat -/
set_option maxRecDepth 100000 in
set_option maxHeartbeats 4000000 in
theorem fr_X13_beat_58  {l0 : Nat → Nat → Int64} {q : Int32 × (Nat → Int32) × (Nat → Nat → Int32)} (K17 : (Nat → Int32) → (Nat → Nat → Int32) → Int32 → Int32 → Option (Int32 × (Nat → Int32) × (Nat → Nat → Int32))) (hK17 : ∀ (i0 : Nat → Int32) (r0 : Nat → Nat → Int32) (x1 : Int32) (x2 : Int32), K17 i0 r0 x1 x2 = some q → (∀ k : Nat, ¬ (k = 66 ∨ k = 67) → q.2.1 k = i0 k) ∧ (∀ k : Nat, ¬ (k = 69 ∨ k = 70) → q.2.2 k = r0 k)) : ∀ (i0 : Nat → Int32) (r0 : Nat → Nat → Int32) (x1 : Int32) (x2 : Int32) (y0 : Int32), f_X13_beat_58 l0 K17 i0 r0 x1 x2 y0 = some q → (∀ k : Nat, ¬ (k = 66 ∨ k = 67) → q.2.1 k = i0 k) ∧ (∀ k : Nat, ¬ (k = 69 ∨ k = 70) → q.2.2 k = r0 k) := by
  intro i0 r0 x1 x2 y0 hf
  rw [f_X13_beat_58] at hf
  have g7 := hK17 _ _ _ _ hf
  exact ⟨fun k hk => (by (try dsimp only); rw [g7.1 k (by omega), pk_un (by omega)]), fun k hk => (by (try dsimp only); rw [g7.2 k (by omega)])⟩
set_option maxRecDepth 100000 in
set_option maxHeartbeats 4000000 in
theorem fr_X13_beat_17  {l0 : Nat → Nat → Int64} {q : Int32 × (Nat → Int32) × (Nat → Nat → Int32)}  : ∀ (n : Nat), ∀ (i0 : Nat → Int32) (r0 : Nat → Nat → Int32) (x1 : Int32) (x2 : Int32), f_X13_beat_17 l0 n i0 r0 x1 x2 = some q → (∀ k : Nat, ¬ (k = 66 ∨ k = 67) → q.2.1 k = i0 k) ∧ (∀ k : Nat, ¬ (k = 69 ∨ k = 70) → q.2.2 k = r0 k) := by
  intro n
  induction n with
  | zero =>
    intro i0 r0 x1 x2 hf
    rw [f_X13_beat_17] at hf
    cases hf
  | succ n ih =>
    intro i0 r0 x1 x2 hf
    rw [f_X13_beat_17] at hf
    by_cases hc : x1 ≤ x2
    · have hf := ite_t hf hc
      obtain ⟨q8, hq8, hf⟩ := bd_s hf
      obtain rfl := Option.some.inj hf
      exact ⟨fun k _ => rfl, fun k _ => rfl⟩
    · have hf := ite_f hf hc
      obtain ⟨q9, hq9, hf⟩ := bd_s hf
      have fq9 := fr_X13_beatOnce hq9
      by_cases hc : q9.1 ≤ 0
      · have hf := ite_t hf hc
        have g10 := fr_X13_beat_58 _ (ih) _ _ _ _ _ hf
        exact ⟨fun k hk => (by (try dsimp only); rw [g10.1 k (by omega), pk_un (by omega)]), fun k hk => (by (try dsimp only); rw [g10.2 k (by omega), fq9 k (by omega)])⟩
      · have hf := ite_f hf hc
        have g11 := fr_X13_beat_58 _ (ih) _ _ _ _ _ hf
        exact ⟨fun k hk => (by (try dsimp only); rw [g11.1 k (by omega), pk_un (by omega)]), fun k hk => (by (try dsimp only); rw [g11.2 k (by omega), fq9 k (by omega)])⟩
set_option maxRecDepth 100000 in
set_option maxHeartbeats 4000000 in
theorem fr_X13_beat  {i0 : Nat → Int32} {r0 : Nat → Nat → Int32} {l0 : Nat → Nat → Int64} {x1 : Int32} {q : Int32 × (Nat → Int32) × (Nat → Nat → Int32)} (hf : f_X13_beat i0 r0 l0 x1 = some q) : (∀ k : Nat, ¬ (k = 66 ∨ k = 67) → q.2.1 k = i0 k) ∧ (∀ k : Nat, ¬ (k = 69 ∨ k = 70) → q.2.2 k = r0 k) := by
  rw [f_X13_beat] at hf
  obtain ⟨q12, hq12, hf⟩ := bd_s hf
  by_cases hc : q12 = 0
  · have hf := ite_t hf hc
    obtain rfl := Option.some.inj hf
    exact ⟨fun k _ => rfl, fun k _ => rfl⟩
  · have hf := ite_f hf hc
    have g13 := fr_X13_beat_17  2000000 _ _ _ _ hf
    exact ⟨fun k hk => (by (try dsimp only); rw [g13.1 k (by omega)]), fun k hk => (by (try dsimp only); rw [g13.2 k (by omega)])⟩
/-! X13_backOnce -/
set_option maxRecDepth 100000 in
set_option maxHeartbeats 4000000 in
theorem fr_X13_backOnce_134  {i0 : Nat → Int32} {l0 : Nat → Nat → Int64} {q : (Nat → Nat → Int32)} (K23 : (Nat → Nat → Int32) → Int32 → Option ((Nat → Nat → Int32))) (hK23 : ∀ (r0 : Nat → Nat → Int32) (x1 : Int32), K23 r0 x1 = some q → (∀ k : Nat, ¬ (k = 69 ∨ k = 70) → q k = r0 k)) (K33 : (Nat → Nat → Int32) → Int32 → Int32 → Option ((Nat → Nat → Int32))) (hK33 : ∀ (r0 : Nat → Nat → Int32) (x1 : Int32) (x2 : Int32), K33 r0 x1 x2 = some q → (∀ k : Nat, ¬ (k = 69 ∨ k = 70) → q k = r0 k)) (K43 : (Nat → Nat → Int32) → Int32 → Int32 → Int32 → Option ((Nat → Nat → Int32))) (hK43 : ∀ (r0 : Nat → Nat → Int32) (x1 : Int32) (x2 : Int32) (x3 : Int32), K43 r0 x1 x2 x3 = some q → (∀ k : Nat, ¬ (k = 69 ∨ k = 70) → q k = r0 k)) : ∀ (r0 : Nat → Nat → Int32) (x1 : Int32) (x2 : Int32) (x3 : Int32), f_X13_backOnce_134 i0 l0 K23 K33 K43 r0 x1 x2 x3 = some q → (∀ k : Nat, ¬ (k = 69 ∨ k = 70) → q k = r0 k) := by
  intro r0 x1 x2 x3 hf
  rw [f_X13_backOnce_134] at hf
  have g25 := hK43 _ _ _ _ hf
  exact fun k hk => (by (try dsimp only); rw [g25 k (by omega)])
set_option maxRecDepth 100000 in
set_option maxHeartbeats 4000000 in
theorem fr_X13_backOnce_43  {i0 : Nat → Int32} {l0 : Nat → Nat → Int64} {q : (Nat → Nat → Int32)} (K23 : (Nat → Nat → Int32) → Int32 → Option ((Nat → Nat → Int32))) (hK23 : ∀ (r0 : Nat → Nat → Int32) (x1 : Int32), K23 r0 x1 = some q → (∀ k : Nat, ¬ (k = 69 ∨ k = 70) → q k = r0 k)) (K33 : (Nat → Nat → Int32) → Int32 → Int32 → Option ((Nat → Nat → Int32))) (hK33 : ∀ (r0 : Nat → Nat → Int32) (x1 : Int32) (x2 : Int32), K33 r0 x1 x2 = some q → (∀ k : Nat, ¬ (k = 69 ∨ k = 70) → q k = r0 k)) : ∀ (n : Nat), ∀ (r0 : Nat → Nat → Int32) (x1 : Int32) (x2 : Int32) (x3 : Int32), f_X13_backOnce_43 i0 l0 K23 K33 n r0 x1 x2 x3 = some q → (∀ k : Nat, ¬ (k = 69 ∨ k = 70) → q k = r0 k) := by
  intro n
  induction n with
  | zero =>
    intro r0 x1 x2 x3 hf
    rw [f_X13_backOnce_43] at hf
    cases hf
  | succ n ih =>
    intro r0 x1 x2 x3 hf
    rw [f_X13_backOnce_43] at hf
    by_cases hc : 4 ≤ x3
    · have hf := ite_t hf hc
      have g26 := hK33 _ _ _ hf
      exact fun k hk => (by (try dsimp only); rw [g26 k (by omega)])
    · have hf := ite_f hf hc
      obtain ⟨q27, hq27, hf⟩ := bd_s hf
      have hf := ck_2 hf
      by_cases hc : (((r0 69 q27.toNatClampNeg) >>> (x3 &&& 31)) &&& 1) = 0
      · have hf := ite_t hf hc
        have g35 := fr_X13_backOnce_134 _ (hK23) _ (hK33) _ (ih) _ _ _ _ hf
        exact fun k hk => (by (try dsimp only); rw [g35 k (by omega)])
      · have hf := ite_f hf hc
        obtain ⟨q28, hq28, hf⟩ := bd_s hf
        obtain ⟨q29, hq29, hf⟩ := bd_s hf
        obtain ⟨q30, hq30, hf⟩ := bd_s hf
        by_cases hc : q30 = 0
        · have hf := ite_t hf hc
          obtain ⟨q31, hq31, hf⟩ := bd_s hf
          have hf := ck_2 hf
          have hf := ck_2 hf
          have g32 := fr_X13_backOnce_134 _ (hK23) _ (hK33) _ (ih) _ _ _ _ hf
          exact fun k hk => (by (try dsimp only); rw [g32 k (by omega), va_up_ne _ _ (by omega)])
        · have hf := ite_f hf hc
          obtain ⟨q33, hq33, hf⟩ := bd_s hf
          have hf := ck_2 hf
          have hf := ck_2 hf
          have g34 := fr_X13_backOnce_134 _ (hK23) _ (hK33) _ (ih) _ _ _ _ hf
          exact fun k hk => (by (try dsimp only); rw [g34 k (by omega), va_up_ne _ _ (by omega)])
set_option maxRecDepth 100000 in
set_option maxHeartbeats 4000000 in
theorem fr_X13_backOnce_33  {i0 : Nat → Int32} {l0 : Nat → Nat → Int64} {q : (Nat → Nat → Int32)} (K23 : (Nat → Nat → Int32) → Int32 → Option ((Nat → Nat → Int32))) (hK23 : ∀ (r0 : Nat → Nat → Int32) (x1 : Int32), K23 r0 x1 = some q → (∀ k : Nat, ¬ (k = 69 ∨ k = 70) → q k = r0 k)) : ∀ (n : Nat), ∀ (r0 : Nat → Nat → Int32) (x1 : Int32) (x2 : Int32), f_X13_backOnce_33 i0 l0 K23 n r0 x1 x2 = some q → (∀ k : Nat, ¬ (k = 69 ∨ k = 70) → q k = r0 k) := by
  intro n
  induction n with
  | zero =>
    intro r0 x1 x2 hf
    rw [f_X13_backOnce_33] at hf
    cases hf
  | succ n ih =>
    intro r0 x1 x2 hf
    rw [f_X13_backOnce_33] at hf
    by_cases hc : (i0 64) ≤ x2
    · have hf := ite_t hf hc
      have g36 := hK23 _ _ hf
      exact fun k hk => (by (try dsimp only); rw [g36 k (by omega)])
    · have hf := ite_f hf hc
      have g37 := fr_X13_backOnce_43 _ (hK23) _ (ih) 2000000 _ _ _ _ hf
      exact fun k hk => (by (try dsimp only); rw [g37 k (by omega)])
set_option maxRecDepth 100000 in
set_option maxHeartbeats 4000000 in
theorem fr_X13_backOnce_232  {i0 : Nat → Int32} {l0 : Nat → Nat → Int64} {q : (Nat → Nat → Int32)} (K154 : (Nat → Nat → Int32) → Int32 → Option ((Nat → Nat → Int32))) (hK154 : ∀ (r0 : Nat → Nat → Int32) (x1 : Int32), K154 r0 x1 = some q → (∀ k : Nat, ¬ (k = 69 ∨ k = 70) → q k = r0 k)) (K164 : (Nat → Nat → Int32) → Int32 → Int32 → Option ((Nat → Nat → Int32))) (hK164 : ∀ (r0 : Nat → Nat → Int32) (x1 : Int32) (x2 : Int32), K164 r0 x1 x2 = some q → (∀ k : Nat, ¬ (k = 69 ∨ k = 70) → q k = r0 k)) : ∀ (r0 : Nat → Nat → Int32) (x1 : Int32) (x2 : Int32) (y0 : Int32) (y1 : Int32), f_X13_backOnce_232 i0 l0 K154 K164 r0 x1 x2 y0 y1 = some q → (∀ k : Nat, ¬ (k = 69 ∨ k = 70) → q k = r0 k) := by
  intro r0 x1 x2 y0 y1 hf
  rw [f_X13_backOnce_232] at hf
  have hf := ck_2 hf
  have g38 := hK164 _ _ _ hf
  exact fun k hk => (by (try dsimp only); rw [g38 k (by omega), va_up_ne _ _ (by omega)])
set_option maxRecDepth 100000 in
set_option maxHeartbeats 4000000 in
theorem fr_X13_backOnce_164  {i0 : Nat → Int32} {l0 : Nat → Nat → Int64} {q : (Nat → Nat → Int32)} (K154 : (Nat → Nat → Int32) → Int32 → Option ((Nat → Nat → Int32))) (hK154 : ∀ (r0 : Nat → Nat → Int32) (x1 : Int32), K154 r0 x1 = some q → (∀ k : Nat, ¬ (k = 69 ∨ k = 70) → q k = r0 k)) : ∀ (n : Nat), ∀ (r0 : Nat → Nat → Int32) (x1 : Int32) (x2 : Int32), f_X13_backOnce_164 i0 l0 K154 n r0 x1 x2 = some q → (∀ k : Nat, ¬ (k = 69 ∨ k = 70) → q k = r0 k) := by
  intro n
  induction n with
  | zero =>
    intro r0 x1 x2 hf
    rw [f_X13_backOnce_164] at hf
    cases hf
  | succ n ih =>
    intro r0 x1 x2 hf
    rw [f_X13_backOnce_164] at hf
    by_cases hc : (i0 64) ≤ x2
    · have hf := ite_t hf hc
      have g39 := hK154 _ _ hf
      exact fun k hk => (by (try dsimp only); rw [g39 k (by omega)])
    · have hf := ite_f hf hc
      obtain ⟨q40, hq40, hf⟩ := bd_s hf
      obtain ⟨q41, hq41, hf⟩ := bd_s hf
      have hf := ck_2 hf
      by_cases hc : (r0 68 q41.toNatClampNeg) = 3
      · have hf := ite_t hf hc
        obtain ⟨q46, hq46, hf⟩ := bd_s hf
        have hf := ck_2 hf
        have g47 := fr_X13_backOnce_232 _ (hK154) _ (ih) _ _ _ _ _ hf
        exact fun k hk => (by (try dsimp only); rw [g47 k (by omega)])
      · have hf := ite_f hf hc
        obtain ⟨q42, hq42, hf⟩ := bd_s hf
        have hf := ck_2 hf
        obtain ⟨q43, hq43, hf⟩ := bd_s hf
        have hf := ck_2 hf
        obtain ⟨q44, hq44, hf⟩ := bd_s hf
        have g45 := fr_X13_backOnce_232 _ (hK154) _ (ih) _ _ _ _ _ hf
        exact fun k hk => (by (try dsimp only); rw [g45 k (by omega)])
set_option maxRecDepth 100000 in
set_option maxHeartbeats 4000000 in
theorem fr_X13_backOnce_154  {i0 : Nat → Int32} {l0 : Nat → Nat → Int64} {q : (Nat → Nat → Int32)}  : ∀ (n : Nat), ∀ (r0 : Nat → Nat → Int32) (x1 : Int32), f_X13_backOnce_154 i0 l0 n r0 x1 = some q → (∀ k : Nat, ¬ (k = 69 ∨ k = 70) → q k = r0 k) := by
  intro n
  induction n with
  | zero =>
    intro r0 x1 hf
    rw [f_X13_backOnce_154] at hf
    cases hf
  | succ n ih =>
    intro r0 x1 hf
    rw [f_X13_backOnce_154] at hf
    by_cases hc : (i0 65) ≤ x1
    · have hf := ite_t hf hc
      obtain rfl := Option.some.inj hf
      exact fun k _ => rfl
    · have hf := ite_f hf hc
      have g48 := fr_X13_backOnce_164 _ (ih) 2000000 _ _ _ hf
      exact fun k hk => (by (try dsimp only); rw [g48 k (by omega)])
set_option maxRecDepth 100000 in
set_option maxHeartbeats 4000000 in
theorem fr_X13_backOnce_23  {i0 : Nat → Int32} {l0 : Nat → Nat → Int64} {q : (Nat → Nat → Int32)}  : ∀ (n : Nat), ∀ (r0 : Nat → Nat → Int32) (x1 : Int32), f_X13_backOnce_23 i0 l0 n r0 x1 = some q → (∀ k : Nat, ¬ (k = 69 ∨ k = 70) → q k = r0 k) := by
  intro n
  induction n with
  | zero =>
    intro r0 x1 hf
    rw [f_X13_backOnce_23] at hf
    cases hf
  | succ n ih =>
    intro r0 x1 hf
    rw [f_X13_backOnce_23] at hf
    by_cases hc : (i0 65) ≤ x1
    · have hf := ite_t hf hc
      have g49 := fr_X13_backOnce_154  2000000 _ _ hf
      exact fun k hk => (by (try dsimp only); rw [g49 k (by omega)])
    · have hf := ite_f hf hc
      have g50 := fr_X13_backOnce_33 _ (ih) 2000000 _ _ _ hf
      exact fun k hk => (by (try dsimp only); rw [g50 k (by omega)])
set_option maxRecDepth 100000 in
set_option maxHeartbeats 4000000 in
theorem fr_X13_backOnce_2  {i0 : Nat → Int32} {l0 : Nat → Nat → Int64} {q : (Nat → Nat → Int32)}  : ∀ (n : Nat), ∀ (r0 : Nat → Nat → Int32) (x1 : Int32), f_X13_backOnce_2 i0 l0 n r0 x1 = some q → (∀ k : Nat, ¬ (k = 69 ∨ k = 70) → q k = r0 k) := by
  intro n
  induction n with
  | zero =>
    intro r0 x1 hf
    rw [f_X13_backOnce_2] at hf
    cases hf
  | succ n ih =>
    intro r0 x1 hf
    rw [f_X13_backOnce_2] at hf
    by_cases hc : 100 ≤ x1
    · have hf := ite_t hf hc
      have g51 := fr_X13_backOnce_23  2000000 _ _ hf
      exact fun k hk => (by (try dsimp only); rw [g51 k (by omega)])
    · have hf := ite_f hf hc
      have hf := ck_2 hf
      have g52 := ih _ _ hf
      exact fun k hk => (by (try dsimp only); rw [g52 k (by omega), va_up_ne _ _ (by omega)])
set_option maxRecDepth 100000 in
set_option maxHeartbeats 4000000 in
theorem fr_X13_backOnce  {i0 : Nat → Int32} {r0 : Nat → Nat → Int32} {l0 : Nat → Nat → Int64}  {q : (Nat → Nat → Int32)} (hf : f_X13_backOnce i0 r0 l0 = some q) : (∀ k : Nat, ¬ (k = 69 ∨ k = 70) → q k = r0 k) := by
  rw [f_X13_backOnce] at hf
  have g53 := fr_X13_backOnce_2  2000000 _ _ hf
  exact fun k hk => (by (try dsimp only); rw [g53 k (by omega)])
/-! X13_back -/
set_option maxRecDepth 100000 in
set_option maxHeartbeats 4000000 in
theorem fr_X13_back_28  {l0 : Nat → Nat → Int64} {q : Int32 × (Nat → Int32) × (Nat → Nat → Int32)}  : ∀ (n : Nat), ∀ (i0 : Nat → Int32) (r0 : Nat → Nat → Int32) (x1 : Int32) (x2 : Int32), f_X13_back_28 l0 n i0 r0 x1 x2 = some q → (∀ k : Nat, ¬ (k = 67) → q.2.1 k = i0 k) ∧ (∀ k : Nat, ¬ (k = 69 ∨ k = 70) → q.2.2 k = r0 k) := by
  intro n
  induction n with
  | zero =>
    intro i0 r0 x1 x2 hf
    rw [f_X13_back_28] at hf
    cases hf
  | succ n ih =>
    intro i0 r0 x1 x2 hf
    rw [f_X13_back_28] at hf
    by_cases hc : x1 ≤ x2
    · have hf := ite_t hf hc
      obtain ⟨q7, hq7, hf⟩ := bd_s hf
      obtain rfl := Option.some.inj hf
      exact ⟨fun k hk => (by (try dsimp only); rw [pk_un (by omega)]), fun k _ => rfl⟩
    · have hf := ite_f hf hc
      obtain ⟨q8, hq8, hf⟩ := bd_s hf
      have fq8 := fr_X13_backOnce hq8
      have g9 := ih _ _ _ _ hf
      exact ⟨fun k hk => (by (try dsimp only); rw [g9.1 k (by omega)]), fun k hk => (by (try dsimp only); rw [g9.2 k (by omega), fq8 k (by omega)])⟩
set_option maxRecDepth 100000 in
set_option maxHeartbeats 4000000 in
theorem fr_X13_back  {i0 : Nat → Int32} {r0 : Nat → Nat → Int32} {l0 : Nat → Nat → Int64} {x1 : Int32} {q : Int32 × (Nat → Int32) × (Nat → Nat → Int32)} (hf : f_X13_back i0 r0 l0 x1 = some q) : (∀ k : Nat, ¬ (k = 67) → q.2.1 k = i0 k) ∧ (∀ k : Nat, ¬ (k = 69 ∨ k = 70) → q.2.2 k = r0 k) := by
  rw [f_X13_back] at hf
  obtain ⟨q10, hq10, hf⟩ := bd_s hf
  by_cases hc : q10 = 0
  · have hf := ite_t hf hc
    obtain rfl := Option.some.inj hf
    exact ⟨fun k _ => rfl, fun k _ => rfl⟩
  · have hf := ite_f hf hc
    by_cases hc : x1 ≤ (i0 67)
    · have hf := ite_t hf hc
      have g11 := fr_X13_back_28  2000000 _ _ _ _ hf
      exact ⟨fun k hk => (by (try dsimp only); rw [g11.1 k (by omega)]), fun k hk => (by (try dsimp only); rw [g11.2 k (by omega)])⟩
    · have hf := ite_f hf hc
      obtain rfl := Option.some.inj hf
      exact ⟨fun k _ => rfl, fun k _ => rfl⟩
/-! X13_round -/
set_option maxRecDepth 100000 in
set_option maxHeartbeats 4000000 in
theorem fr_X13_round_96  {i0 : Nat → Int32} {l0 : Nat → Nat → Int64} {q : Int32 × (Nat → Nat → Int32)} (K32 : (Nat → Nat → Int32) → Int32 → Int32 → Int32 → Option (Int32 × (Nat → Nat → Int32))) (hK32 : ∀ (r0 : Nat → Nat → Int32) (x1 : Int32) (x2 : Int32) (x3 : Int32), K32 r0 x1 x2 x3 = some q → (∀ k : Nat, ¬ (k = 69 ∨ k = 70 ∨ k = 71) → q.2 k = r0 k)) (K62 : (Nat → Nat → Int32) → Int32 → Int32 → Int32 → Int32 → Int32 → Option (Int32 × (Nat → Nat → Int32))) (hK62 : ∀ (r0 : Nat → Nat → Int32) (x1 : Int32) (x2 : Int32) (x3 : Int32) (x4 : Int32) (x5 : Int32), K62 r0 x1 x2 x3 x4 x5 = some q → (∀ k : Nat, ¬ (k = 69 ∨ k = 70 ∨ k = 71) → q.2 k = r0 k)) : ∀ (r0 : Nat → Nat → Int32) (x1 : Int32) (x2 : Int32) (x3 : Int32) (x5 : Int32) (y0 : Int32), f_X13_round_96 i0 l0 K32 K62 r0 x1 x2 x3 x5 y0 = some q → (∀ k : Nat, ¬ (k = 69 ∨ k = 70 ∨ k = 71) → q.2 k = r0 k) := by
  intro r0 x1 x2 x3 x5 y0 hf
  rw [f_X13_round_96] at hf
  have g3 := hK62 _ _ _ _ _ _ hf
  exact fun k hk => (by (try dsimp only); rw [g3 k (by omega)])
set_option maxRecDepth 100000 in
set_option maxHeartbeats 4000000 in
theorem fr_X13_round_116  {i0 : Nat → Int32} {l0 : Nat → Nat → Int64} {q : Int32 × (Nat → Nat → Int32)} (K32 : (Nat → Nat → Int32) → Int32 → Int32 → Int32 → Option (Int32 × (Nat → Nat → Int32))) (hK32 : ∀ (r0 : Nat → Nat → Int32) (x1 : Int32) (x2 : Int32) (x3 : Int32), K32 r0 x1 x2 x3 = some q → (∀ k : Nat, ¬ (k = 69 ∨ k = 70 ∨ k = 71) → q.2 k = r0 k)) : ∀ (r0 : Nat → Nat → Int32) (x1 : Int32) (x2 : Int32) (x3 : Int32), f_X13_round_116 i0 l0 K32 r0 x1 x2 x3 = some q → (∀ k : Nat, ¬ (k = 69 ∨ k = 70 ∨ k = 71) → q.2 k = r0 k) := by
  intro r0 x1 x2 x3 hf
  rw [f_X13_round_116] at hf
  have g4 := hK32 _ _ _ _ hf
  exact fun k hk => (by (try dsimp only); rw [g4 k (by omega)])
set_option maxRecDepth 100000 in
set_option maxHeartbeats 4000000 in
theorem fr_X13_round_104  {i0 : Nat → Int32} {l0 : Nat → Nat → Int64} {q : Int32 × (Nat → Nat → Int32)} (K32 : (Nat → Nat → Int32) → Int32 → Int32 → Int32 → Option (Int32 × (Nat → Nat → Int32))) (hK32 : ∀ (r0 : Nat → Nat → Int32) (x1 : Int32) (x2 : Int32) (x3 : Int32), K32 r0 x1 x2 x3 = some q → (∀ k : Nat, ¬ (k = 69 ∨ k = 70 ∨ k = 71) → q.2 k = r0 k)) : ∀ (r0 : Nat → Nat → Int32) (x1 : Int32) (x2 : Int32) (x3 : Int32) (x4 : Int32), f_X13_round_104 i0 l0 K32 r0 x1 x2 x3 x4 = some q → (∀ k : Nat, ¬ (k = 69 ∨ k = 70 ∨ k = 71) → q.2 k = r0 k) := by
  intro r0 x1 x2 x3 x4 hf
  rw [f_X13_round_104] at hf
  by_cases hc : x4 = 0
  · have hf := ite_t hf hc
    have g6 := fr_X13_round_116 _ (hK32) _ _ _ _ hf
    exact fun k hk => (by (try dsimp only); rw [g6 k (by omega)])
  · have hf := ite_f hf hc
    have g5 := fr_X13_round_116 _ (hK32) _ _ _ _ hf
    exact fun k hk => (by (try dsimp only); rw [g5 k (by omega)])
set_option maxRecDepth 100000 in
set_option maxHeartbeats 4000000 in
theorem fr_X13_round_62  {i0 : Nat → Int32} {l0 : Nat → Nat → Int64} {q : Int32 × (Nat → Nat → Int32)} (K32 : (Nat → Nat → Int32) → Int32 → Int32 → Int32 → Option (Int32 × (Nat → Nat → Int32))) (hK32 : ∀ (r0 : Nat → Nat → Int32) (x1 : Int32) (x2 : Int32) (x3 : Int32), K32 r0 x1 x2 x3 = some q → (∀ k : Nat, ¬ (k = 69 ∨ k = 70 ∨ k = 71) → q.2 k = r0 k)) : ∀ (n : Nat), ∀ (r0 : Nat → Nat → Int32) (x1 : Int32) (x2 : Int32) (x3 : Int32) (x4 : Int32) (x5 : Int32), f_X13_round_62 i0 l0 K32 n r0 x1 x2 x3 x4 x5 = some q → (∀ k : Nat, ¬ (k = 69 ∨ k = 70 ∨ k = 71) → q.2 k = r0 k) := by
  intro n
  induction n with
  | zero =>
    intro r0 x1 x2 x3 x4 x5 hf
    rw [f_X13_round_62] at hf
    cases hf
  | succ n ih =>
    intro r0 x1 x2 x3 x4 x5 hf
    rw [f_X13_round_62] at hf
    by_cases hc : 100 ≤ x5
    · have hf := ite_t hf hc
      have g7 := fr_X13_round_104 _ (hK32) _ _ _ _ _ hf
      exact fun k hk => (by (try dsimp only); rw [g7 k (by omega)])
    · have hf := ite_f hf hc
      by_cases hc : x4 = 0
      · have hf := ite_t hf hc
        have g8 := fr_X13_round_104 _ (hK32) _ _ _ _ _ hf
        exact fun k hk => (by (try dsimp only); rw [g8 k (by omega)])
      · have hf := ite_f hf hc
        have hf := ck_2 hf
        have hf := ck_2 hf
        by_cases hc : (r0 69 x5.toNatClampNeg) = (r0 71 x5.toNatClampNeg)
        · have hf := ite_t hf hc
          have g10 := fr_X13_round_96 _ (hK32) _ (ih) _ _ _ _ _ _ hf
          exact fun k hk => (by (try dsimp only); rw [g10 k (by omega)])
        · have hf := ite_f hf hc
          have g9 := fr_X13_round_96 _ (hK32) _ (ih) _ _ _ _ _ _ hf
          exact fun k hk => (by (try dsimp only); rw [g9 k (by omega)])
set_option maxRecDepth 100000 in
set_option maxHeartbeats 4000000 in
theorem fr_X13_round_55  {i0 : Nat → Int32} {l0 : Nat → Nat → Int64} {q : Int32 × (Nat → Nat → Int32)} (K32 : (Nat → Nat → Int32) → Int32 → Int32 → Int32 → Option (Int32 × (Nat → Nat → Int32))) (hK32 : ∀ (r0 : Nat → Nat → Int32) (x1 : Int32) (x2 : Int32) (x3 : Int32), K32 r0 x1 x2 x3 = some q → (∀ k : Nat, ¬ (k = 69 ∨ k = 70 ∨ k = 71) → q.2 k = r0 k)) : ∀ (r0 : Nat → Nat → Int32) (x1 : Int32) (x3 : Int32) (y0 : Int32), f_X13_round_55 i0 l0 K32 r0 x1 x3 y0 = some q → (∀ k : Nat, ¬ (k = 69 ∨ k = 70 ∨ k = 71) → q.2 k = r0 k) := by
  intro r0 x1 x3 y0 hf
  rw [f_X13_round_55] at hf
  have g11 := fr_X13_round_62 _ (hK32) 2000000 _ _ _ _ _ _ hf
  exact fun k hk => (by (try dsimp only); rw [g11 k (by omega)])
set_option maxRecDepth 100000 in
set_option maxHeartbeats 4000000 in
theorem fr_X13_round_124  {i0 : Nat → Int32} {l0 : Nat → Nat → Int64} {q : Int32 × (Nat → Nat → Int32)}  : ∀ (n : Nat), ∀ (r0 : Nat → Nat → Int32) (x1 : Int32) (x3 : Int32), f_X13_round_124 i0 l0 n r0 x1 x3 = some q → (∀ k : Nat, ¬ (k = 69 ∨ k = 70 ∨ k = 71) → q.2 k = r0 k) := by
  intro n
  induction n with
  | zero =>
    intro r0 x1 x3 hf
    rw [f_X13_round_124] at hf
    cases hf
  | succ n ih =>
    intro r0 x1 x3 hf
    rw [f_X13_round_124] at hf
    by_cases hc : 100 ≤ x3
    · have hf := ite_t hf hc
      obtain rfl := Option.some.inj hf
      exact fun k _ => rfl
    · have hf := ite_f hf hc
      have hf := ck_2 hf
      have hf := ck_2 hf
      have g12 := ih _ _ _ hf
      exact fun k hk => (by (try dsimp only); rw [g12 k (by omega), va_up_ne _ _ (by omega)])
set_option maxRecDepth 100000 in
set_option maxHeartbeats 4000000 in
theorem fr_X13_round_122  {i0 : Nat → Int32} {l0 : Nat → Nat → Int64} {q : Int32 × (Nat → Nat → Int32)}  : ∀ (r0 : Nat → Nat → Int32) (x1 : Int32), f_X13_round_122 i0 l0 r0 x1 = some q → (∀ k : Nat, ¬ (k = 69 ∨ k = 70 ∨ k = 71) → q.2 k = r0 k) := by
  intro r0 x1 hf
  rw [f_X13_round_122] at hf
  have g13 := fr_X13_round_124  2000000 _ _ _ hf
  exact fun k hk => (by (try dsimp only); rw [g13 k (by omega)])
set_option maxRecDepth 100000 in
set_option maxHeartbeats 4000000 in
theorem fr_X13_round_32  {i0 : Nat → Int32} {l0 : Nat → Nat → Int64} {q : Int32 × (Nat → Nat → Int32)}  : ∀ (n : Nat), ∀ (r0 : Nat → Nat → Int32) (x1 : Int32) (x2 : Int32) (x3 : Int32), f_X13_round_32 i0 l0 n r0 x1 x2 x3 = some q → (∀ k : Nat, ¬ (k = 69 ∨ k = 70 ∨ k = 71) → q.2 k = r0 k) := by
  intro n
  induction n with
  | zero =>
    intro r0 x1 x2 x3 hf
    rw [f_X13_round_32] at hf
    cases hf
  | succ n ih =>
    intro r0 x1 x2 x3 hf
    rw [f_X13_round_32] at hf
    by_cases hc : 2000 < x3
    · have hf := ite_t hf hc
      have g14 := fr_X13_round_122  _ _ hf
      exact fun k hk => (by (try dsimp only); rw [g14 k (by omega)])
    · have hf := ite_f hf hc
      by_cases hc : x2 = 0
      · have hf := ite_t hf hc
        have g15 := fr_X13_round_122  _ _ hf
        exact fun k hk => (by (try dsimp only); rw [g15 k (by omega)])
      · have hf := ite_f hf hc
        obtain ⟨q16, hq16, hf⟩ := bd_s hf
        have fq16 := fr_X13_beatOnce hq16
        by_cases hc : q16.1 = 0
        · have hf := ite_t hf hc
          have g18 := fr_X13_round_55 _ (ih) _ _ _ _ hf
          exact fun k hk => (by (try dsimp only); rw [g18 k (by omega), fq16 k (by omega)])
        · have hf := ite_f hf hc
          have g17 := fr_X13_round_55 _ (ih) _ _ _ _ hf
          exact fun k hk => (by (try dsimp only); rw [g17 k (by omega), fq16 k (by omega)])
set_option maxRecDepth 100000 in
set_option maxHeartbeats 4000000 in
theorem fr_X13_round_2  {i0 : Nat → Int32} {l0 : Nat → Nat → Int64} {q : Int32 × (Nat → Nat → Int32)}  : ∀ (n : Nat), ∀ (r0 : Nat → Nat → Int32) (x1 : Int32), f_X13_round_2 i0 l0 n r0 x1 = some q → (∀ k : Nat, ¬ (k = 69 ∨ k = 70 ∨ k = 71) → q.2 k = r0 k) := by
  intro n
  induction n with
  | zero =>
    intro r0 x1 hf
    rw [f_X13_round_2] at hf
    cases hf
  | succ n ih =>
    intro r0 x1 hf
    rw [f_X13_round_2] at hf
    by_cases hc : 100 ≤ x1
    · have hf := ite_t hf hc
      have g19 := fr_X13_round_32  2000000 _ _ _ _ hf
      exact fun k hk => (by (try dsimp only); rw [g19 k (by omega)])
    · have hf := ite_f hf hc
      have hf := ck_2 hf
      have hf := ck_2 hf
      have g20 := ih _ _ hf
      exact fun k hk => (by (try dsimp only); rw [g20 k (by omega), va_up_ne _ _ (by omega)])
set_option maxRecDepth 100000 in
set_option maxHeartbeats 4000000 in
theorem fr_X13_round  {i0 : Nat → Int32} {r0 : Nat → Nat → Int32} {l0 : Nat → Nat → Int64}  {q : Int32 × (Nat → Nat → Int32)} (hf : f_X13_round i0 r0 l0 = some q) : (∀ k : Nat, ¬ (k = 69 ∨ k = 70 ∨ k = 71) → q.2 k = r0 k) := by
  rw [f_X13_round] at hf
  have g21 := fr_X13_round_2  2000000 _ _ hf
  exact fun k hk => (by (try dsimp only); rw [g21 k (by omega)])
/-! X13_trail -/
set_option maxRecDepth 100000 in
set_option maxHeartbeats 4000000 in
theorem fr_X13_trail_159  {l0 : Nat → Nat → Int64} {q : Int32 × (Nat → Int32) × (Nat → Nat → Int32)} (K75 : (Nat → Int32) → (Nat → Nat → Int32) → Int32 → Int32 → Int32 → Int32 → Option (Int32 × (Nat → Int32) × (Nat → Nat → Int32))) (hK75 : ∀ (i0 : Nat → Int32) (r0 : Nat → Nat → Int32) (x1 : Int32) (x2 : Int32) (x4 : Int32) (x5 : Int32), K75 i0 r0 x1 x2 x4 x5 = some q → (∀ k : Nat, ¬ (k = 75) → q.2.1 k = i0 k) ∧ (∀ k : Nat, ¬ (k = 72 ∨ k = 73 ∨ k = 74) → q.2.2 k = r0 k)) (K85 : (Nat → Int32) → (Nat → Nat → Int32) → Int32 → Int32 → Int32 → Int32 → Int32 → Option (Int32 × (Nat → Int32) × (Nat → Nat → Int32))) (hK85 : ∀ (i0 : Nat → Int32) (r0 : Nat → Nat → Int32) (x1 : Int32) (x2 : Int32) (x4 : Int32) (x5 : Int32) (x6 : Int32), K85 i0 r0 x1 x2 x4 x5 x6 = some q → (∀ k : Nat, ¬ (k = 75) → q.2.1 k = i0 k) ∧ (∀ k : Nat, ¬ (k = 72 ∨ k = 73 ∨ k = 74) → q.2.2 k = r0 k)) : ∀ (i0 : Nat → Int32) (r0 : Nat → Nat → Int32) (x1 : Int32) (x2 : Int32) (x4 : Int32) (x5 : Int32) (x6 : Int32), f_X13_trail_159 l0 K75 K85 i0 r0 x1 x2 x4 x5 x6 = some q → (∀ k : Nat, ¬ (k = 75) → q.2.1 k = i0 k) ∧ (∀ k : Nat, ¬ (k = 72 ∨ k = 73 ∨ k = 74) → q.2.2 k = r0 k) := by
  intro i0 r0 x1 x2 x4 x5 x6 hf
  rw [f_X13_trail_159] at hf
  have g11 := hK85 _ _ _ _ _ _ _ hf
  exact ⟨fun k hk => (by (try dsimp only); rw [g11.1 k (by omega)]), fun k hk => (by (try dsimp only); rw [g11.2 k (by omega)])⟩
set_option maxRecDepth 100000 in
set_option maxHeartbeats 4000000 in
theorem fr_X13_trail_156  {l0 : Nat → Nat → Int64} {q : Int32 × (Nat → Int32) × (Nat → Nat → Int32)} (K75 : (Nat → Int32) → (Nat → Nat → Int32) → Int32 → Int32 → Int32 → Int32 → Option (Int32 × (Nat → Int32) × (Nat → Nat → Int32))) (hK75 : ∀ (i0 : Nat → Int32) (r0 : Nat → Nat → Int32) (x1 : Int32) (x2 : Int32) (x4 : Int32) (x5 : Int32), K75 i0 r0 x1 x2 x4 x5 = some q → (∀ k : Nat, ¬ (k = 75) → q.2.1 k = i0 k) ∧ (∀ k : Nat, ¬ (k = 72 ∨ k = 73 ∨ k = 74) → q.2.2 k = r0 k)) (K85 : (Nat → Int32) → (Nat → Nat → Int32) → Int32 → Int32 → Int32 → Int32 → Int32 → Option (Int32 × (Nat → Int32) × (Nat → Nat → Int32))) (hK85 : ∀ (i0 : Nat → Int32) (r0 : Nat → Nat → Int32) (x1 : Int32) (x2 : Int32) (x4 : Int32) (x5 : Int32) (x6 : Int32), K85 i0 r0 x1 x2 x4 x5 x6 = some q → (∀ k : Nat, ¬ (k = 75) → q.2.1 k = i0 k) ∧ (∀ k : Nat, ¬ (k = 72 ∨ k = 73 ∨ k = 74) → q.2.2 k = r0 k)) : ∀ (i0 : Nat → Int32) (r0 : Nat → Nat → Int32) (x1 : Int32) (x2 : Int32) (x4 : Int32) (x5 : Int32) (x6 : Int32), f_X13_trail_156 l0 K75 K85 i0 r0 x1 x2 x4 x5 x6 = some q → (∀ k : Nat, ¬ (k = 75) → q.2.1 k = i0 k) ∧ (∀ k : Nat, ¬ (k = 72 ∨ k = 73 ∨ k = 74) → q.2.2 k = r0 k) := by
  intro i0 r0 x1 x2 x4 x5 x6 hf
  rw [f_X13_trail_156] at hf
  have g12 := fr_X13_trail_159 _ (hK75) _ (hK85) _ _ _ _ _ _ _ hf
  exact ⟨fun k hk => (by (try dsimp only); rw [g12.1 k (by omega)]), fun k hk => (by (try dsimp only); rw [g12.2 k (by omega)])⟩
set_option maxRecDepth 100000 in
set_option maxHeartbeats 4000000 in
theorem fr_X13_trail_85  {l0 : Nat → Nat → Int64} {q : Int32 × (Nat → Int32) × (Nat → Nat → Int32)} (K75 : (Nat → Int32) → (Nat → Nat → Int32) → Int32 → Int32 → Int32 → Int32 → Option (Int32 × (Nat → Int32) × (Nat → Nat → Int32))) (hK75 : ∀ (i0 : Nat → Int32) (r0 : Nat → Nat → Int32) (x1 : Int32) (x2 : Int32) (x4 : Int32) (x5 : Int32), K75 i0 r0 x1 x2 x4 x5 = some q → (∀ k : Nat, ¬ (k = 75) → q.2.1 k = i0 k) ∧ (∀ k : Nat, ¬ (k = 72 ∨ k = 73 ∨ k = 74) → q.2.2 k = r0 k)) : ∀ (n : Nat), ∀ (i0 : Nat → Int32) (r0 : Nat → Nat → Int32) (x1 : Int32) (x2 : Int32) (x4 : Int32) (x5 : Int32) (x6 : Int32), f_X13_trail_85 l0 K75 n i0 r0 x1 x2 x4 x5 x6 = some q → (∀ k : Nat, ¬ (k = 75) → q.2.1 k = i0 k) ∧ (∀ k : Nat, ¬ (k = 72 ∨ k = 73 ∨ k = 74) → q.2.2 k = r0 k) := by
  intro n
  induction n with
  | zero =>
    intro i0 r0 x1 x2 x4 x5 x6 hf
    rw [f_X13_trail_85] at hf
    cases hf
  | succ n ih =>
    intro i0 r0 x1 x2 x4 x5 x6 hf
    rw [f_X13_trail_85] at hf
    by_cases hc : x1 < x6
    · have hf := ite_t hf hc
      have g13 := hK75 _ _ _ _ _ _ hf
      exact ⟨fun k hk => (by (try dsimp only); rw [g13.1 k (by omega)]), fun k hk => (by (try dsimp only); rw [g13.2 k (by omega)])⟩
    · have hf := ite_f hf hc
      have hf := ck_2 hf
      obtain ⟨q14, hq14, hf⟩ := bd_s hf
      by_cases hc : q14 = (-1)
      · have hf := ite_t hf hc
        have g15 := fr_X13_trail_159 _ (hK75) _ (ih) _ _ _ _ _ _ _ hf
        exact ⟨fun k hk => (by (try dsimp only); rw [g15.1 k (by omega)]), fun k hk => (by (try dsimp only); rw [g15.2 k (by omega)])⟩
      · have hf := ite_f hf hc
        have hf := ck_2 hf
        by_cases hc : (r0 72 q14.toNatClampNeg) = (-1)
        · have hf := ite_t hf hc
          have hf := ck_2 hf
          have hf := ck_2 hf
          have hf := ck_2 hf
          have hf := ck_2 hf
          have g16 := fr_X13_trail_156 _ (hK75) _ (ih) _ _ _ _ _ _ _ hf
          exact ⟨fun k hk => (by (try dsimp only); rw [g16.1 k (by omega)]), fun k hk => (by (try dsimp only); rw [g16.2 k (by omega), va_up_ne _ _ (by omega), va_up_ne _ _ (by omega)])⟩
        · have hf := ite_f hf hc
          have g17 := fr_X13_trail_159 _ (hK75) _ (ih) _ _ _ _ _ _ _ hf
          exact ⟨fun k hk => (by (try dsimp only); rw [g17.1 k (by omega)]), fun k hk => (by (try dsimp only); rw [g17.2 k (by omega)])⟩
set_option maxRecDepth 100000 in
set_option maxHeartbeats 4000000 in
theorem fr_X13_trail_211  {l0 : Nat → Nat → Int64} {q : Int32 × (Nat → Int32) × (Nat → Nat → Int32)} (K199 : (Nat → Int32) → (Nat → Nat → Int32) → Int32 → Int32 → Int32 → Option (Int32 × (Nat → Int32) × (Nat → Nat → Int32))) (hK199 : ∀ (i0 : Nat → Int32) (r0 : Nat → Nat → Int32) (x2 : Int32) (x5 : Int32) (x6 : Int32), K199 i0 r0 x2 x5 x6 = some q → (∀ k : Nat, ¬ (k = 75) → q.2.1 k = i0 k) ∧ (∀ k : Nat, ¬ (k = 72 ∨ k = 73 ∨ k = 74) → q.2.2 k = r0 k)) : ∀ (n : Nat), ∀ (i0 : Nat → Int32) (r0 : Nat → Nat → Int32) (x2 : Int32) (x5 : Int32) (x6 : Int32) (x7 : Int32), f_X13_trail_211 l0 K199 n i0 r0 x2 x5 x6 x7 = some q → (∀ k : Nat, ¬ (k = 75) → q.2.1 k = i0 k) ∧ (∀ k : Nat, ¬ (k = 72 ∨ k = 73 ∨ k = 74) → q.2.2 k = r0 k) := by
  intro n
  induction n with
  | zero =>
    intro i0 r0 x2 x5 x6 x7 hf
    rw [f_X13_trail_211] at hf
    cases hf
  | succ n ih =>
    intro i0 r0 x2 x5 x6 x7 hf
    rw [f_X13_trail_211] at hf
    obtain ⟨q18, hq18, hf⟩ := bd_s hf
    by_cases hc : q18 = 0
    · have hf := ite_t hf hc
      have g21 := ih _ _ _ _ _ _ hf
      exact ⟨fun k hk => (by (try dsimp only); rw [g21.1 k (by omega)]), fun k hk => (by (try dsimp only); rw [g21.2 k (by omega)])⟩
    · have hf := ite_f hf hc
      have hf := ck_2 hf
      obtain ⟨q19, hq19, hf⟩ := bd_s hf
      have g20 := hK199 _ _ _ _ _ hf
      exact ⟨fun k hk => (by (try dsimp only); rw [g20.1 k (by omega)]), fun k hk => (by (try dsimp only); rw [g20.2 k (by omega), va_up_ne _ _ (by omega)])⟩
set_option maxRecDepth 100000 in
set_option maxHeartbeats 4000000 in
theorem fr_X13_trail_199  {l0 : Nat → Nat → Int64} {q : Int32 × (Nat → Int32) × (Nat → Nat → Int32)}  : ∀ (n : Nat), ∀ (i0 : Nat → Int32) (r0 : Nat → Nat → Int32) (x2 : Int32) (x5 : Int32) (x6 : Int32), f_X13_trail_199 l0 n i0 r0 x2 x5 x6 = some q → (∀ k : Nat, ¬ (k = 75) → q.2.1 k = i0 k) ∧ (∀ k : Nat, ¬ (k = 72 ∨ k = 73 ∨ k = 74) → q.2.2 k = r0 k) := by
  intro n
  induction n with
  | zero =>
    intro i0 r0 x2 x5 x6 hf
    rw [f_X13_trail_199] at hf
    cases hf
  | succ n ih =>
    intro i0 r0 x2 x5 x6 hf
    rw [f_X13_trail_199] at hf
    by_cases hc : (i0 75) ≤ x6
    · have hf := ite_t hf hc
      obtain rfl := Option.some.inj hf
      exact ⟨fun k _ => rfl, fun k _ => rfl⟩
    · have hf := ite_f hf hc
      have g22 := fr_X13_trail_211 _ (ih) 2000000 _ _ _ _ _ _ hf
      exact ⟨fun k hk => (by (try dsimp only); rw [g22.1 k (by omega)]), fun k hk => (by (try dsimp only); rw [g22.2 k (by omega)])⟩
set_option maxRecDepth 100000 in
set_option maxHeartbeats 4000000 in
theorem fr_X13_trail_75  {l0 : Nat → Nat → Int64} {q : Int32 × (Nat → Int32) × (Nat → Nat → Int32)}  : ∀ (n : Nat), ∀ (i0 : Nat → Int32) (r0 : Nat → Nat → Int32) (x1 : Int32) (x2 : Int32) (x4 : Int32) (x5 : Int32), f_X13_trail_75 l0 n i0 r0 x1 x2 x4 x5 = some q → (∀ k : Nat, ¬ (k = 75) → q.2.1 k = i0 k) ∧ (∀ k : Nat, ¬ (k = 72 ∨ k = 73 ∨ k = 74) → q.2.2 k = r0 k) := by
  intro n
  induction n with
  | zero =>
    intro i0 r0 x1 x2 x4 x5 hf
    rw [f_X13_trail_75] at hf
    cases hf
  | succ n ih =>
    intro i0 r0 x1 x2 x4 x5 hf
    rw [f_X13_trail_75] at hf
    by_cases hc : x4 ≤ x5
    · have hf := ite_t hf hc
      have hf := ck_2 hf
      by_cases hc : (r0 72 (0 : Int32).toNatClampNeg) = (-1)
      · have hf := ite_t hf hc
        obtain rfl := Option.some.inj hf
        exact ⟨fun k _ => rfl, fun k _ => rfl⟩
      · have hf := ite_f hf hc
        have hf := ck_2 hf
        have g23 := fr_X13_trail_199  2000000 _ _ _ _ _ hf
        exact ⟨fun k hk => (by (try dsimp only); rw [g23.1 k (by omega), pk_un (by omega)]), fun k hk => (by (try dsimp only); rw [g23.2 k (by omega)])⟩
    · have hf := ite_f hf hc
      have g24 := fr_X13_trail_85 _ (ih) 2000000 _ _ _ _ _ _ _ hf
      exact ⟨fun k hk => (by (try dsimp only); rw [g24.1 k (by omega)]), fun k hk => (by (try dsimp only); rw [g24.2 k (by omega)])⟩
set_option maxRecDepth 100000 in
set_option maxHeartbeats 4000000 in
theorem fr_X13_trail_69  {l0 : Nat → Nat → Int64} {q : Int32 × (Nat → Int32) × (Nat → Nat → Int32)}  : ∀ (i0 : Nat → Int32) (r0 : Nat → Nat → Int32) (x1 : Int32) (x2 : Int32), f_X13_trail_69 l0 i0 r0 x1 x2 = some q → (∀ k : Nat, ¬ (k = 75) → q.2.1 k = i0 k) ∧ (∀ k : Nat, ¬ (k = 72 ∨ k = 73 ∨ k = 74) → q.2.2 k = r0 k) := by
  intro i0 r0 x1 x2 hf
  rw [f_X13_trail_69] at hf
  have g25 := fr_X13_trail_75  2000000 _ _ _ _ _ _ hf
  exact ⟨fun k hk => (by (try dsimp only); rw [g25.1 k (by omega)]), fun k hk => (by (try dsimp only); rw [g25.2 k (by omega)])⟩
set_option maxRecDepth 100000 in
set_option maxHeartbeats 4000000 in
theorem fr_X13_trail_29  {l0 : Nat → Nat → Int64} {q : Int32 × (Nat → Int32) × (Nat → Nat → Int32)}  : ∀ (n : Nat), ∀ (i0 : Nat → Int32) (r0 : Nat → Nat → Int32) (x1 : Int32) (x2 : Int32) (x3 : Int32), f_X13_trail_29 l0 n i0 r0 x1 x2 x3 = some q → (∀ k : Nat, ¬ (k = 75) → q.2.1 k = i0 k) ∧ (∀ k : Nat, ¬ (k = 72 ∨ k = 73 ∨ k = 74) → q.2.2 k = r0 k) := by
  intro n
  induction n with
  | zero =>
    intro i0 r0 x1 x2 x3 hf
    rw [f_X13_trail_29] at hf
    cases hf
  | succ n ih =>
    intro i0 r0 x1 x2 x3 hf
    rw [f_X13_trail_29] at hf
    by_cases hc : ((1 : Int32) <<< (x1 &&& 31)) ≤ x3
    · have hf := ite_t hf hc
      have hf := ck_2 hf
      have hf := ck_2 hf
      have g26 := fr_X13_trail_69  _ _ _ _ hf
      exact ⟨fun k hk => (by (try dsimp only); rw [g26.1 k (by omega)]), fun k hk => (by (try dsimp only); rw [g26.2 k (by omega), va_up_ne _ _ (by omega), va_up_ne _ _ (by omega)])⟩
    · have hf := ite_f hf hc
      have hf := ck_2 hf
      have g27 := ih _ _ _ _ _ hf
      exact ⟨fun k hk => (by (try dsimp only); rw [g27.1 k (by omega)]), fun k hk => (by (try dsimp only); rw [g27.2 k (by omega), va_up_ne _ _ (by omega)])⟩
set_option maxRecDepth 100000 in
set_option maxHeartbeats 4000000 in
theorem fr_X13_trail  {i0 : Nat → Int32} {r0 : Nat → Nat → Int32} {l0 : Nat → Nat → Int64} {x1 : Int32} {x2 : Int32} {q : Int32 × (Nat → Int32) × (Nat → Nat → Int32)} (hf : f_X13_trail i0 r0 l0 x1 x2 = some q) : (∀ k : Nat, ¬ (k = 75) → q.2.1 k = i0 k) ∧ (∀ k : Nat, ¬ (k = 72 ∨ k = 73 ∨ k = 74) → q.2.2 k = r0 k) := by
  rw [f_X13_trail] at hf
  obtain ⟨q28, hq28, hf⟩ := bd_s hf
  by_cases hc : q28 = 0
  · have hf := ite_t hf hc
    obtain rfl := Option.some.inj hf
    exact ⟨fun k _ => rfl, fun k _ => rfl⟩
  · have hf := ite_f hf hc
    obtain ⟨q29, hq29, hf⟩ := bd_s hf
    by_cases hc : q29 = 0
    · have hf := ite_t hf hc
      obtain rfl := Option.some.inj hf
      exact ⟨fun k _ => rfl, fun k _ => rfl⟩
    · have hf := ite_f hf hc
      have g30 := fr_X13_trail_29  2000000 _ _ _ _ _ hf
      exact ⟨fun k hk => (by (try dsimp only); rw [g30.1 k (by omega)]), fun k hk => (by (try dsimp only); rw [g30.2 k (by omega)])⟩
/-! X13_watch -/
set_option maxRecDepth 100000 in
set_option maxHeartbeats 4000000 in
theorem fr_X13_watch_37  {l0 : Nat → Nat → Int64} {q : Int32 × (Nat → Int32) × (Nat → Nat → Int32)}  : ∀ (i0 : Nat → Int32) (r0 : Nat → Nat → Int32), f_X13_watch_37 l0 i0 r0 = some q → (∀ k : Nat, ¬ (k = 76 ∨ k = 77 ∨ k = 78 ∨ k = 79) → q.2.1 k = i0 k) ∧ (∀ k : Nat, ¬ (k = 10 ∨ k = 11 ∨ k = 12 ∨ k = 13 ∨ k = 14) → q.2.2 k = r0 k) := by
  intro i0 r0 hf
  rw [f_X13_watch_37] at hf
  have hf := ck_2 hf
  obtain rfl := Option.some.inj hf
  exact ⟨fun k _ => rfl, fun k _ => rfl⟩
set_option maxRecDepth 100000 in
set_option maxHeartbeats 4000000 in
theorem fr_X13_watch  {i0 : Nat → Int32} {r0 : Nat → Nat → Int32} {l0 : Nat → Nat → Int64} {x1 : Int32} {q : Int32 × (Nat → Int32) × (Nat → Nat → Int32)} (hf : f_X13_watch i0 r0 l0 x1 = some q) : (∀ k : Nat, ¬ (k = 76 ∨ k = 77 ∨ k = 78 ∨ k = 79) → q.2.1 k = i0 k) ∧ (∀ k : Nat, ¬ (k = 10 ∨ k = 11 ∨ k = 12 ∨ k = 13 ∨ k = 14) → q.2.2 k = r0 k) := by
  rw [f_X13_watch] at hf
  obtain ⟨q5, hq5, hf⟩ := bd_s hf
  by_cases hc : q5 = 0
  · have hf := ite_t hf hc
    obtain rfl := Option.some.inj hf
    exact ⟨fun k _ => rfl, fun k _ => rfl⟩
  · have hf := ite_f hf hc
    obtain ⟨q6, hq6, hf⟩ := bd_s hf
    have fq6 := fr_X13_copyFloor hq6
    have g7 := fr_X13_watch_37  _ _ hf
    exact ⟨fun k hk => (by (try dsimp only); rw [g7.1 k (by omega), pk_un (by omega), pk_un (by omega), pk_un (by omega), pk_un (by omega)]), fun k hk => (by (try dsimp only); rw [g7.2 k (by omega), fq6 k (by omega)])⟩
/-! X13_see -/
set_option maxRecDepth 100000 in
set_option maxHeartbeats 4000000 in
theorem fr_X13_see_127  {l0 : Nat → Nat → Int64} {q : Int32 × (Nat → Int32) × (Nat → Nat → Int32)}  : ∀ (i0 : Nat → Int32) (r0 : Nat → Nat → Int32) (x1 : Int32), f_X13_see_127 l0 i0 r0 x1 = some q → (∀ k : Nat, ¬ (k = 77 ∨ k = 79) → q.2.1 k = i0 k) ∧ (∀ k : Nat, ¬ (k = 80 ∨ k = 81 ∨ k = 82) → q.2.2 k = r0 k) := by
  intro i0 r0 x1 hf
  rw [f_X13_see_127] at hf
  have hf := ck_2 hf
  obtain rfl := Option.some.inj hf
  exact ⟨fun k hk => (by (try dsimp only); rw [pk_un (by omega)]), fun k hk => (by (try dsimp only); rw [va_up_ne _ _ (by omega)])⟩
set_option maxRecDepth 100000 in
set_option maxHeartbeats 4000000 in
theorem fr_X13_see  {i0 : Nat → Int32} {r0 : Nat → Nat → Int32} {l0 : Nat → Nat → Int64} {x1 : Int32} {x2 : Int32} {x3 : Int32} {q : Int32 × (Nat → Int32) × (Nat → Nat → Int32)} (hf : f_X13_see i0 r0 l0 x1 x2 x3 = some q) : (∀ k : Nat, ¬ (k = 77 ∨ k = 79) → q.2.1 k = i0 k) ∧ (∀ k : Nat, ¬ (k = 80 ∨ k = 81 ∨ k = 82) → q.2.2 k = r0 k) := by
  rw [f_X13_see] at hf
  by_cases hc : (i0 76) = 0
  · have hf := ite_t hf hc
    obtain ⟨q17, hq17, hf⟩ := bd_s hf
    by_cases hc : q17 = 0
    · have hf := ite_t hf hc
      obtain rfl := Option.some.inj hf
      exact ⟨fun k _ => rfl, fun k _ => rfl⟩
    · have hf := ite_f hf hc
      obtain ⟨q18, hq18, hf⟩ := bd_s hf
      by_cases hc : q18 = 0
      · have hf := ite_t hf hc
        obtain rfl := Option.some.inj hf
        exact ⟨fun k _ => rfl, fun k _ => rfl⟩
      · have hf := ite_f hf hc
        obtain ⟨q19, hq19, hf⟩ := bd_s hf
        by_cases hc : q19 = 0
        · have hf := ite_t hf hc
          obtain rfl := Option.some.inj hf
          exact ⟨fun k _ => rfl, fun k _ => rfl⟩
        · have hf := ite_f hf hc
          obtain rfl := Option.some.inj hf
          exact ⟨fun k _ => rfl, fun k _ => rfl⟩
  · have hf := ite_f hf hc
    obtain ⟨q13, hq13, hf⟩ := bd_s hf
    by_cases hc : q13 = 0
    · have hf := ite_t hf hc
      obtain rfl := Option.some.inj hf
      exact ⟨fun k _ => rfl, fun k _ => rfl⟩
    · have hf := ite_f hf hc
      obtain ⟨q14, hq14, hf⟩ := bd_s hf
      by_cases hc : q14 = 0
      · have hf := ite_t hf hc
        obtain rfl := Option.some.inj hf
        exact ⟨fun k _ => rfl, fun k _ => rfl⟩
      · have hf := ite_f hf hc
        obtain ⟨q15, hq15, hf⟩ := bd_s hf
        by_cases hc : q15 = 0
        · have hf := ite_t hf hc
          obtain rfl := Option.some.inj hf
          exact ⟨fun k _ => rfl, fun k _ => rfl⟩
        · have hf := ite_f hf hc
          by_cases hc : (i0 77) = 20
          · have hf := ite_t hf hc
            obtain rfl := Option.some.inj hf
            exact ⟨fun k _ => rfl, fun k _ => rfl⟩
          · have hf := ite_f hf hc
            have hf := ck_2 hf
            have hf := ck_2 hf
            have g16 := fr_X13_see_127  _ _ _ hf
            exact ⟨fun k hk => (by (try dsimp only); rw [g16.1 k (by omega), pk_un (by omega)]), fun k hk => (by (try dsimp only); rw [g16.2 k (by omega), va_up_ne _ _ (by omega), va_up_ne _ _ (by omega)])⟩
/-! X13_right_ -/
set_option maxRecDepth 100000 in
set_option maxHeartbeats 4000000 in
theorem fr_X13_right__135  {l0 : Nat → Nat → Int64} {q : Int32 × (Nat → Int32) × (Nat → Nat → Int32)} (K108 : (Nat → Int32) → (Nat → Nat → Int32) → Int32 → Int32 → Int32 → Option (Int32 × (Nat → Int32) × (Nat → Nat → Int32))) (hK108 : ∀ (i0 : Nat → Int32) (r0 : Nat → Nat → Int32) (x2 : Int32) (x4 : Int32) (x5 : Int32), K108 i0 r0 x2 x4 x5 = some q → (∀ k : Nat, ¬ (k = 78 ∨ k = 79) → q.2.1 k = i0 k) ∧ (∀ k : Nat, ¬ (k = 83 ∨ k = 84 ∨ k = 85) → q.2.2 k = r0 k)) : ∀ (i0 : Nat → Int32) (r0 : Nat → Nat → Int32) (x2 : Int32) (x5 : Int32) (y0 : Int32) (y1 : Int32), f_X13_right__135 l0 K108 i0 r0 x2 x5 y0 y1 = some q → (∀ k : Nat, ¬ (k = 78 ∨ k = 79) → q.2.1 k = i0 k) ∧ (∀ k : Nat, ¬ (k = 83 ∨ k = 84 ∨ k = 85) → q.2.2 k = r0 k) := by
  intro i0 r0 x2 x5 y0 y1 hf
  rw [f_X13_right__135] at hf
  have g7 := hK108 _ _ _ _ _ hf
  exact ⟨fun k hk => (by (try dsimp only); rw [g7.1 k (by omega)]), fun k hk => (by (try dsimp only); rw [g7.2 k (by omega)])⟩
set_option maxRecDepth 100000 in
set_option maxHeartbeats 4000000 in
theorem fr_X13_right__108  {l0 : Nat → Nat → Int64} {q : Int32 × (Nat → Int32) × (Nat → Nat → Int32)}  : ∀ (n : Nat), ∀ (i0 : Nat → Int32) (r0 : Nat → Nat → Int32) (x2 : Int32) (x4 : Int32) (x5 : Int32), f_X13_right__108 l0 n i0 r0 x2 x4 x5 = some q → (∀ k : Nat, ¬ (k = 78 ∨ k = 79) → q.2.1 k = i0 k) ∧ (∀ k : Nat, ¬ (k = 83 ∨ k = 84 ∨ k = 85) → q.2.2 k = r0 k) := by
  intro n
  induction n with
  | zero =>
    intro i0 r0 x2 x4 x5 hf
    rw [f_X13_right__108] at hf
    cases hf
  | succ n ih =>
    intro i0 r0 x2 x4 x5 hf
    rw [f_X13_right__108] at hf
    by_cases hc : (i0 78) ≤ x5
    · have hf := ite_t hf hc
      obtain rfl := Option.some.inj hf
      exact ⟨fun k _ => rfl, fun k _ => rfl⟩
    · have hf := ite_f hf hc
      have hf := ck_2 hf
      by_cases hc : (r0 83 x5.toNatClampNeg) = x2
      · have hf := ite_t hf hc
        have g9 := fr_X13_right__135 _ (ih) _ _ _ _ _ _ hf
        exact ⟨fun k hk => (by (try dsimp only); rw [g9.1 k (by omega)]), fun k hk => (by (try dsimp only); rw [g9.2 k (by omega)])⟩
      · have hf := ite_f hf hc
        have g8 := fr_X13_right__135 _ (ih) _ _ _ _ _ _ hf
        exact ⟨fun k hk => (by (try dsimp only); rw [g8.1 k (by omega)]), fun k hk => (by (try dsimp only); rw [g8.2 k (by omega)])⟩
set_option maxRecDepth 100000 in
set_option maxHeartbeats 4000000 in
theorem fr_X13_right__82  {l0 : Nat → Nat → Int64} {q : Int32 × (Nat → Int32) × (Nat → Nat → Int32)}  : ∀ (i0 : Nat → Int32) (r0 : Nat → Nat → Int32) (x1 : Int32) (x2 : Int32), f_X13_right__82 l0 i0 r0 x1 x2 = some q → (∀ k : Nat, ¬ (k = 78 ∨ k = 79) → q.2.1 k = i0 k) ∧ (∀ k : Nat, ¬ (k = 83 ∨ k = 84 ∨ k = 85) → q.2.2 k = r0 k) := by
  intro i0 r0 x1 x2 hf
  rw [f_X13_right__82] at hf
  have hf := ck_2 hf
  have g10 := fr_X13_right__108  2000000 _ _ _ _ _ hf
  exact ⟨fun k hk => (by (try dsimp only); rw [g10.1 k (by omega), pk_un (by omega)]), fun k hk => (by (try dsimp only); rw [g10.2 k (by omega), va_up_ne _ _ (by omega)])⟩
set_option maxRecDepth 100000 in
set_option maxHeartbeats 4000000 in
theorem fr_X13_right_  {i0 : Nat → Int32} {r0 : Nat → Nat → Int32} {l0 : Nat → Nat → Int64} {x1 : Int32} {x2 : Int32} {x3 : Int32} {q : Int32 × (Nat → Int32) × (Nat → Nat → Int32)} (hf : f_X13_right_ i0 r0 l0 x1 x2 x3 = some q) : (∀ k : Nat, ¬ (k = 78 ∨ k = 79) → q.2.1 k = i0 k) ∧ (∀ k : Nat, ¬ (k = 83 ∨ k = 84 ∨ k = 85) → q.2.2 k = r0 k) := by
  rw [f_X13_right_] at hf
  obtain ⟨q11, hq11, hf⟩ := bd_s hf
  by_cases hc : q11 = 0
  · have hf := ite_t hf hc
    obtain rfl := Option.some.inj hf
    exact ⟨fun k _ => rfl, fun k _ => rfl⟩
  · have hf := ite_f hf hc
    obtain ⟨q12, hq12, hf⟩ := bd_s hf
    by_cases hc : q12 = 0
    · have hf := ite_t hf hc
      obtain rfl := Option.some.inj hf
      exact ⟨fun k _ => rfl, fun k _ => rfl⟩
    · have hf := ite_f hf hc
      obtain ⟨q13, hq13, hf⟩ := bd_s hf
      by_cases hc : q13 = 0
      · have hf := ite_t hf hc
        obtain rfl := Option.some.inj hf
        exact ⟨fun k _ => rfl, fun k _ => rfl⟩
      · have hf := ite_f hf hc
        by_cases hc : (i0 78) = 20
        · have hf := ite_t hf hc
          obtain rfl := Option.some.inj hf
          exact ⟨fun k _ => rfl, fun k _ => rfl⟩
        · have hf := ite_f hf hc
          have hf := ck_2 hf
          have hf := ck_2 hf
          have g14 := fr_X13_right__82  _ _ _ _ hf
          exact ⟨fun k hk => (by (try dsimp only); rw [g14.1 k (by omega), pk_un (by omega)]), fun k hk => (by (try dsimp only); rw [g14.2 k (by omega), va_up_ne _ _ (by omega), va_up_ne _ _ (by omega)])⟩
/-! X13_look_ -/
set_option maxRecDepth 100000 in
set_option maxHeartbeats 4000000 in
theorem fr_X13_look__162  {i0 : Nat → Int32} {l0 : Nat → Nat → Int64} {q : Int32 × (Nat → Nat → Int32)} (K52 : (Nat → Nat → Int32) → Int64 → Int32 → Int32 → Int32 → Option (Int32 × (Nat → Nat → Int32))) (hK52 : ∀ (r0 : Nat → Nat → Int32) (x1 : Int64) (x3 : Int32) (x4 : Int32) (x5 : Int32), K52 r0 x1 x3 x4 x5 = some q → (∀ k : Nat, ¬ (k = 86) → q.2 k = r0 k)) (K103 : (Nat → Nat → Int32) → Int64 → Int32 → Int32 → Int32 → Int32 → Int32 → Option (Int32 × (Nat → Nat → Int32))) (hK103 : ∀ (r0 : Nat → Nat → Int32) (x1 : Int64) (x3 : Int32) (x4 : Int32) (x5 : Int32) (x6 : Int32) (x7 : Int32), K103 r0 x1 x3 x4 x5 x6 x7 = some q → (∀ k : Nat, ¬ (k = 86) → q.2 k = r0 k)) : ∀ (r0 : Nat → Nat → Int32) (x1 : Int64) (x3 : Int32) (x4 : Int32) (x5 : Int32) (x6 : Int32) (x7 : Int32), f_X13_look__162 i0 l0 K52 K103 r0 x1 x3 x4 x5 x6 x7 = some q → (∀ k : Nat, ¬ (k = 86) → q.2 k = r0 k) := by
  intro r0 x1 x3 x4 x5 x6 x7 hf
  rw [f_X13_look__162] at hf
  have g5 := hK103 _ _ _ _ _ _ _ hf
  exact fun k hk => (by (try dsimp only); rw [g5 k (by omega)])
set_option maxRecDepth 100000 in
set_option maxHeartbeats 4000000 in
theorem fr_X13_look__148  {i0 : Nat → Int32} {l0 : Nat → Nat → Int64} {q : Int32 × (Nat → Nat → Int32)} (K52 : (Nat → Nat → Int32) → Int64 → Int32 → Int32 → Int32 → Option (Int32 × (Nat → Nat → Int32))) (hK52 : ∀ (r0 : Nat → Nat → Int32) (x1 : Int64) (x3 : Int32) (x4 : Int32) (x5 : Int32), K52 r0 x1 x3 x4 x5 = some q → (∀ k : Nat, ¬ (k = 86) → q.2 k = r0 k)) (K103 : (Nat → Nat → Int32) → Int64 → Int32 → Int32 → Int32 → Int32 → Int32 → Option (Int32 × (Nat → Nat → Int32))) (hK103 : ∀ (r0 : Nat → Nat → Int32) (x1 : Int64) (x3 : Int32) (x4 : Int32) (x5 : Int32) (x6 : Int32) (x7 : Int32), K103 r0 x1 x3 x4 x5 x6 x7 = some q → (∀ k : Nat, ¬ (k = 86) → q.2 k = r0 k)) : ∀ (r0 : Nat → Nat → Int32) (x1 : Int64) (x3 : Int32) (x4 : Int32) (x5 : Int32) (x6 : Int32) (x7 : Int32) (x8 : Int32), f_X13_look__148 i0 l0 K52 K103 r0 x1 x3 x4 x5 x6 x7 x8 = some q → (∀ k : Nat, ¬ (k = 86) → q.2 k = r0 k) := by
  intro r0 x1 x3 x4 x5 x6 x7 x8 hf
  rw [f_X13_look__148] at hf
  have hf := ck_2 hf
  have g6 := fr_X13_look__162 _ (hK52) _ (hK103) _ _ _ _ _ _ _ hf
  exact fun k hk => (by (try dsimp only); rw [g6 k (by omega)])
set_option maxRecDepth 100000 in
set_option maxHeartbeats 4000000 in
theorem fr_X13_look__184  {i0 : Nat → Int32} {l0 : Nat → Nat → Int64} {q : Int32 × (Nat → Nat → Int32)} (K52 : (Nat → Nat → Int32) → Int64 → Int32 → Int32 → Int32 → Option (Int32 × (Nat → Nat → Int32))) (hK52 : ∀ (r0 : Nat → Nat → Int32) (x1 : Int64) (x3 : Int32) (x4 : Int32) (x5 : Int32), K52 r0 x1 x3 x4 x5 = some q → (∀ k : Nat, ¬ (k = 86) → q.2 k = r0 k)) : ∀ (r0 : Nat → Nat → Int32) (x1 : Int64) (x3 : Int32) (x4 : Int32) (x5 : Int32), f_X13_look__184 i0 l0 K52 r0 x1 x3 x4 x5 = some q → (∀ k : Nat, ¬ (k = 86) → q.2 k = r0 k) := by
  intro r0 x1 x3 x4 x5 hf
  rw [f_X13_look__184] at hf
  have g7 := hK52 _ _ _ _ _ hf
  exact fun k hk => (by (try dsimp only); rw [g7 k (by omega)])
set_option maxRecDepth 100000 in
set_option maxHeartbeats 4000000 in
theorem fr_X13_look__103  {i0 : Nat → Int32} {l0 : Nat → Nat → Int64} {q : Int32 × (Nat → Nat → Int32)} (K52 : (Nat → Nat → Int32) → Int64 → Int32 → Int32 → Int32 → Option (Int32 × (Nat → Nat → Int32))) (hK52 : ∀ (r0 : Nat → Nat → Int32) (x1 : Int64) (x3 : Int32) (x4 : Int32) (x5 : Int32), K52 r0 x1 x3 x4 x5 = some q → (∀ k : Nat, ¬ (k = 86) → q.2 k = r0 k)) : ∀ (n : Nat), ∀ (r0 : Nat → Nat → Int32) (x1 : Int64) (x3 : Int32) (x4 : Int32) (x5 : Int32) (x6 : Int32) (x7 : Int32), f_X13_look__103 i0 l0 K52 n r0 x1 x3 x4 x5 x6 x7 = some q → (∀ k : Nat, ¬ (k = 86) → q.2 k = r0 k) := by
  intro n
  induction n with
  | zero =>
    intro r0 x1 x3 x4 x5 x6 x7 hf
    rw [f_X13_look__103] at hf
    cases hf
  | succ n ih =>
    intro r0 x1 x3 x4 x5 x6 x7 hf
    rw [f_X13_look__103] at hf
    by_cases hc : 40 < x7
    · have hf := ite_t hf hc
      by_cases hc : x6 < x3
      · have hf := ite_t hf hc
        have g8 := fr_X13_look__184 _ (hK52) _ _ _ _ _ hf
        exact fun k hk => (by (try dsimp only); rw [g8 k (by omega)])
      · have hf := ite_f hf hc
        have g9 := fr_X13_look__184 _ (hK52) _ _ _ _ _ hf
        exact fun k hk => (by (try dsimp only); rw [g9 k (by omega)])
    · have hf := ite_f hf hc
      by_cases hc : (lg_cmp ((x1 >>> (x7.toInt64 &&& 63)) &&& 1) 0) = 0
      · have hf := ite_t hf hc
        have g12 := fr_X13_look__162 _ (hK52) _ (ih) _ _ _ _ _ _ _ hf
        exact fun k hk => (by (try dsimp only); rw [g12 k (by omega)])
      · have hf := ite_f hf hc
        obtain ⟨q10, hq10, hf⟩ := bd_s hf
        have hf := ck_2 hf
        have hf := ck_2 hf
        have g11 := fr_X13_look__148 _ (hK52) _ (ih) _ _ _ _ _ _ _ _ hf
        exact fun k hk => (by (try dsimp only); rw [g11 k (by omega), va_up_ne _ _ (by omega)])
set_option maxRecDepth 100000 in
set_option maxHeartbeats 4000000 in
theorem fr_X13_look__69  {i0 : Nat → Int32} {l0 : Nat → Nat → Int64} {q : Int32 × (Nat → Nat → Int32)} (K52 : (Nat → Nat → Int32) → Int64 → Int32 → Int32 → Int32 → Option (Int32 × (Nat → Nat → Int32))) (hK52 : ∀ (r0 : Nat → Nat → Int32) (x1 : Int64) (x3 : Int32) (x4 : Int32) (x5 : Int32), K52 r0 x1 x3 x4 x5 = some q → (∀ k : Nat, ¬ (k = 86) → q.2 k = r0 k)) : ∀ (n : Nat), ∀ (r0 : Nat → Nat → Int32) (x1 : Int64) (x3 : Int32) (x4 : Int32) (x5 : Int32) (x6 : Int32), f_X13_look__69 i0 l0 K52 n r0 x1 x3 x4 x5 x6 = some q → (∀ k : Nat, ¬ (k = 86) → q.2 k = r0 k) := by
  intro n
  induction n with
  | zero =>
    intro r0 x1 x3 x4 x5 x6 hf
    rw [f_X13_look__69] at hf
    cases hf
  | succ n ih =>
    intro r0 x1 x3 x4 x5 x6 hf
    rw [f_X13_look__69] at hf
    have hf := ck_2 hf
    by_cases hc : ((1 : Int32) <<< ((r0 10 (7 : Int32).toNatClampNeg) &&& 31)) ≤ x6
    · have hf := ite_t hf hc
      have g13 := fr_X13_look__103 _ (hK52) 2000000 _ _ _ _ _ _ _ hf
      exact fun k hk => (by (try dsimp only); rw [g13 k (by omega)])
    · have hf := ite_f hf hc
      have hf := ck_2 hf
      have g14 := ih _ _ _ _ _ _ hf
      exact fun k hk => (by (try dsimp only); rw [g14 k (by omega), va_up_ne _ _ (by omega)])
set_option maxRecDepth 100000 in
set_option maxHeartbeats 4000000 in
theorem fr_X13_look__52  {i0 : Nat → Int32} {l0 : Nat → Nat → Int64} {q : Int32 × (Nat → Nat → Int32)}  : ∀ (n : Nat), ∀ (r0 : Nat → Nat → Int32) (x1 : Int64) (x3 : Int32) (x4 : Int32) (x5 : Int32), f_X13_look__52 i0 l0 n r0 x1 x3 x4 x5 = some q → (∀ k : Nat, ¬ (k = 86) → q.2 k = r0 k) := by
  intro n
  induction n with
  | zero =>
    intro r0 x1 x3 x4 x5 hf
    rw [f_X13_look__52] at hf
    cases hf
  | succ n ih =>
    intro r0 x1 x3 x4 x5 hf
    rw [f_X13_look__52] at hf
    have hf := ck_2 hf
    by_cases hc : ((1 : Int32) <<< ((r0 10 (7 : Int32).toNatClampNeg) &&& 31)) ≤ x5
    · have hf := ite_t hf hc
      obtain rfl := Option.some.inj hf
      exact fun k _ => rfl
    · have hf := ite_f hf hc
      have g15 := fr_X13_look__69 _ (ih) 2000000 _ _ _ _ _ _ hf
      exact fun k hk => (by (try dsimp only); rw [g15 k (by omega)])
set_option maxRecDepth 100000 in
set_option maxHeartbeats 4000000 in
theorem fr_X13_look__23  {i0 : Nat → Int32} {l0 : Nat → Nat → Int64} {q : Int32 × (Nat → Nat → Int32)}  : ∀ (n : Nat), ∀ (r0 : Nat → Nat → Int32) (x1 : Int64) (x3 : Int32) (x4 : Int32), f_X13_look__23 i0 l0 n r0 x1 x3 x4 = some q → (∀ k : Nat, ¬ (k = 86) → q.2 k = r0 k) := by
  intro n
  induction n with
  | zero =>
    intro r0 x1 x3 x4 hf
    rw [f_X13_look__23] at hf
    cases hf
  | succ n ih =>
    intro r0 x1 x3 x4 hf
    rw [f_X13_look__23] at hf
    by_cases hc : 40 < x4
    · have hf := ite_t hf hc
      have g16 := fr_X13_look__52  2000000 _ _ _ _ _ hf
      exact fun k hk => (by (try dsimp only); rw [g16 k (by omega)])
    · have hf := ite_f hf hc
      have g17 := ih _ _ _ _ hf
      exact fun k hk => (by (try dsimp only); rw [g17 k (by omega)])
set_option maxRecDepth 100000 in
set_option maxHeartbeats 4000000 in
theorem fr_X13_look_  {i0 : Nat → Int32} {r0 : Nat → Nat → Int32} {l0 : Nat → Nat → Int64}  {q : Int32 × (Nat → Nat → Int32)} (hf : f_X13_look_ i0 r0 l0 = some q) : (∀ k : Nat, ¬ (k = 86) → q.2 k = r0 k) := by
  rw [f_X13_look_] at hf
  by_cases hc : (i0 76) = 0
  · have hf := ite_t hf hc
    obtain rfl := Option.some.inj hf
    exact fun k _ => rfl
  · have hf := ite_f hf hc
    obtain ⟨q18, hq18, hf⟩ := bd_s hf
    have g19 := fr_X13_look__23  2000000 _ _ _ _ hf
    exact fun k hk => (by (try dsimp only); rw [g19 k (by omega)])
