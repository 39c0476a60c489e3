/-! ===== program: reading one leaves the one in force alone (the reference) ===== -/
def LWr (k j : Nat) : Prop := (28 ≤ k ∧ k ≤ 31 ∧ j < 60) ∨ ((k = 32 ∨ k = 33 ∨ k = 36 ∨ k = 37 ∨ k = 38) ∧ j < 120) ∨ ((k = 34 ∨ k = 35) ∧ j < 240) ∨ (39 ≤ k ∧ k ≤ 41 ∧ j < 1000) ∨ ((k = 42 ∨ k = 43) ∧ j < 6)
def LO (r r' : Nat → Nat → Int32) : Prop := ∀ k j, LWr k j → r' k j = r k j
def NN (i : Nat → Int32) : Prop := (∃ a, a ≤ 60 ∧ i 48 = nI a) ∧ (∃ c, c ≤ 1000 ∧ i 49 = nI c) ∧ ∃ p, p ≤ 6 ∧ i 47 = nI p
def OP {α : Type} (P : α → Prop) (o : Option α) : Prop := ∀ q, o = some q → P q
theorem OP.bd {α β : Type} {P : β → Prop} {x : Option α} {f : α → Option β} (h : ∀ a, x = some a → OP P (f a)) : OP P (bd x f) := fun q hq => by
  obtain ⟨a, h1, h2⟩ := bd_s hq
  exact h a h1 q h2
theorem OP.bt {α β γ : Type} {P : γ → Prop} {x : Option (α ⊕ β)} {f : α → Option γ} {g : β → Option γ} (h1 : ∀ a, x = some (.inl a) → OP P (f a)) (h2 : ∀ t, x = some (.inr t) → OP P (g t)) : OP P (bt x f g) := fun q hq => by
  rcases bt_s hq with ⟨a, e1, e2⟩ | ⟨a, e1, e2⟩
  · exact h1 a e1 q e2
  · exact h2 a e1 q e2
theorem OP.ck {α : Type} {P : α → Prop} {c : Bool} {x : Option α} (h : c = true → OP P x) : OP P (ck c x) := fun q hq => h (ck_1 hq) q (ck_2 hq)
theorem OP.ite {α : Type} {P : α → Prop} {c : Prop} [Decidable c] {x y : Option α} (h1 : c → OP P x) (h2 : ¬ c → OP P y) : OP P (if c then x else y) := by
  by_cases e : c
  · rw [if_pos e]; exact h1 e
  · rw [if_neg e]; exact h2 e
theorem OP.pu {α : Type} {P : α → Prop} {a : α} (h : P a) : OP P (some a) := fun q hq => by cases hq; exact h
theorem NN.of {i i' : Nat → Int32} (h : NN i) (g : ∀ k, k = 47 ∨ k = 48 ∨ k = 49 → i' k = i k) : NN i' := by
  unfold NN
  rw [g 47 (by omega), g 48 (by omega), g 49 (by omega)]
  exact h
theorem NN.u {i : Nat → Int32} (h : NN i) {k : Nat} (hk : 49 < k) (v : Int32) : NN (upd i k v) := h.of (fun z hz => pk_un (by omega))
theorem LO.up {r r1 : Nat → Nat → Int32} (h : LO r r1) {k j : Nat} {g : Nat → Int32} {v : Int32} (hg : g = r1 k) (hk : ¬ LWr k j) : LO r (va_up r1 k (upd g j v)) := by
  intro k' j' hl
  by_cases e : k' = k
  · subst e
    rw [up_s, pk_un (fun e2 => hk (by rw [← e2]; exact hl)), hg]
    exact h _ _ hl
  · rw [up_n e]
    exact h _ _ hl
theorem LO.rf (r : Nat → Nat → Int32) : LO r r := fun _ _ _ => rfl
def PAr (r : Nat → Nat → Int32) : ((Nat → Int32) × (Nat → Nat → Int32)) ⊕ ((Nat → Int32) × (Nat → Nat → Int32)) → Prop := Sum.elim (fun q => NN q.1 ∧ LO r q.2) (fun t => LO r t.2)
def PB (r : Nat → Nat → Int32) : ((Nat → Int32) × (Nat → Nat → Int64) × (Nat → Nat → Int32)) ⊕ ((Nat → Int32) × (Nat → Nat → Int64) × (Nat → Nat → Int32)) → Prop := Sum.elim (fun q => NN q.1 ∧ LO r q.2.2) (fun t => LO r t.2.2)
def PO (r : Nat → Nat → Int32) : (Int32 × (Nat → Int32) × (Nat → Nat → Int64) × (Nat → Nat → Int32)) ⊕ ((Nat → Int32) × (Nat → Nat → Int64) × (Nat → Nat → Int32)) → Prop := Sum.elim (fun q => (∃ a, 60 ≤ a ∧ a < 120 ∧ q.1 = nI a) ∧ NN q.2.1 ∧ LO r q.2.2.2) (fun t => LO r t.2.2)
theorem nn_need {i q : Nat → Int32} {r : Nat → Nat → Int32} {l : Nat → Nat → Int64} {x c : Int32} (h : f_X13_need i r l x c = some (.inl q)) (hN : NN i) : NN q := hN.of (fun k hk => (show ∀ k : Nat, ¬ (k = 8 ∨ k = 9) → q k = i k from fr_X13_need h) k (by omega))
theorem nn_scan {i q : Nat → Int32} {r : Nat → Nat → Int32} {l : Nat → Nat → Int64} (h : f_X13_scan i r l = some q) (hN : NN i) : NN q := hN.of (fun k hk => fr_X13_scan h k (by omega))
theorem nn_word {w : Nat} {i q : Nat → Int32} {r : Nat → Nat → Int32} {l : Nat → Nat → Int64} (h : f_X13_word w i r l = some (.inl q)) (hN : NN i) : NN q := hN.of (fun k hk => (show ∀ k : Nat, ¬ (k = 4 ∨ k = 5 ∨ k = 6 ∨ k = 7 ∨ k = 8 ∨ k = 9) → q k = i k from fr_X13_word h) k (by omega))
theorem nn_sign {i q : Nat → Int32} {r : Nat → Nat → Int32} {l : Nat → Nat → Int64} {x : Int32} (h : f_X13_sign i r l x = some (.inl q)) (hN : NN i) : NN q := hN.of (fun k hk => (show ∀ k : Nat, ¬ (k = 4 ∨ k = 5 ∨ k = 6 ∨ k = 7 ∨ k = 8 ∨ k = 9) → q k = i k from fr_X13_sign h) k (by omega))
theorem nn_var {i q : Nat → Int32} {r : Nat → Nat → Int32} {l : Nat → Nat → Int64} {x : Int32} (h : f_X13_readVar i r l x = some (.inl q)) (hN : NN i) : NN q := hN.of (fun k hk => (show ∀ k : Nat, ¬ (k = 4 ∨ k = 5 ∨ k = 6 ∨ k = 7 ∨ k = 8 ∨ k = 9 ∨ k = 56 ∨ k = 57) → q k = i k from fr_X13_readVar h) k (by omega))
theorem nn_name {i : Nat → Int32} {q : Int64 × (Nat → Int32)} {r : Nat → Nat → Int32} {l : Nat → Nat → Int64} (h : f_X13_nameAtHand i r l = some (.inl q)) (hN : NN i) : NN q.2 := hN.of (fun k hk => (show ∀ k : Nat, ¬ (k = 8 ∨ k = 9) → q.2 k = i k from fr_X13_nameAtHand h) k (by omega))
theorem inb_b {a N : Nat} (h : inb (nI a) N = true) (ha : a < 2 ^ 31) : a < N := by
  have := inb_lt (inb_in h)
  rw [nI_clamp ha] at this
  exact this
theorem nadd (a b : Nat) (x : Int32) (h : x = nI a) : x + nI b = nI (a + b) := by rw [h, nI_add]
/-! sums -/
theorem lo_mark {r : Nat → Nat → Int32} {i : Nat → Int32} {r0 : Nat → Nat → Int32} {l : Nat → Nat → Int64} {x1 x2 x3 : Int32} (hN : NN i) (hL : LO r r0) : OP (fun q => NN q.1 ∧ LO r q.2) (f_X13_mark i r0 l x1 x2 x3) := by
  obtain ⟨n1, ⟨c, hc, e⟩, n3⟩ := id hN
  have e1 : (1000 : Int32) + nI c = nI (1000 + c) := nadd 1000 c _ rfl
  rw [f_X13_mark, e, e1, nI_clamp (by omega)]
  refine .ck (fun h => .ck (fun _ => ?_))
  have hb := inb_b h (by omega)
  rw [f_X13_mark_26, e, nI_1, nI_clamp (by omega)]
  have hNn : NN (upd i 49 (nI (c + 1))) := ⟨by rw [pk_un (by omega)]; exact n1, ⟨c + 1, by omega, pk_us⟩, by rw [pk_un (by omega)]; exact n3⟩
  refine .ck (fun _ => .pu ⟨hNn, ?_⟩)
  have w : ∀ k, 39 ≤ k → k ≤ 41 → ¬ LWr k (1000 + c) := fun k h1 h2 => by unfold LWr; omega
  exact ((hL.up rfl (w 39 (by omega) (by omega))).up (by rw [up_n (by omega)]) (w 40 (by omega) (by omega))).up rfl (w 41 (by omega) (by omega))
def FS (r : Nat → Nat → Int32) (l : Nat → Nat → Int64) (F : (Nat → Int32) → (Nat → Nat → Int32) → (Nat → Nat → Int64) → Option (((Nat → Int32) × (Nat → Nat → Int32)) ⊕ ((Nat → Int32) × (Nat → Nat → Int32)))) : Prop := ∀ i r0, NN i → LO r r0 → OP (PAr r) (F i r0 l)
theorem lo_f24 {r : Nat → Nat → Int32} {l : Nat → Nat → Int64} {F : (Nat → Int32) → (Nat → Nat → Int32) → (Nat → Nat → Int64) → Option (((Nat → Int32) × (Nat → Nat → Int32)) ⊕ ((Nat → Int32) × (Nat → Nat → Int32)))} (hF : FS r l F) {i : Nat → Int32} {r0 : Nat → Nat → Int32} {y : Int32} (hN : NN i) (hL : LO r r0) : OP (PAr r) (f_X13_readFactor_24 F l i r0 y) := by
  rw [f_X13_readFactor_24]
  refine .bt (fun a h1 => .bd (fun b h2 => .bt (fun c h3 => ?_) (fun t h3 => .pu (hF _ _ (nn_scan h2 ((nn_need h1 hN).u (by omega) _)) hL _ h3)))) (fun t h1 => .pu hL)
  have h4 := hF _ _ (nn_scan h2 ((nn_need h1 hN).u (by omega) _)) hL _ h3
  exact .bt (fun d h5 => .pu ⟨(nn_sign h5 h4.1).u (by omega) _, h4.2⟩) (fun t h5 => .pu h4.2)
theorem lo_f111 {r : Nat → Nat → Int32} {l : Nat → Nat → Int64} {F : (Nat → Int32) → (Nat → Nat → Int32) → (Nat → Nat → Int64) → Option (((Nat → Int32) × (Nat → Nat → Int32)) ⊕ ((Nat → Int32) × (Nat → Nat → Int32)))} {i : Nat → Int32} {r0 : Nat → Nat → Int32} {y : Int32} (hN : NN i) (hL : LO r r0) : OP (PAr r) (f_X13_readFactor_111 F l i r0 y) := by
  rw [f_X13_readFactor_111]
  refine .bt (fun a h1 => .bd (fun b h2 => .bd (fun c h3 => ?_))) (fun t h1 => .pu hL)
  have h4 := lo_mark ((nn_need h1 hN).u (by omega) _) hL _ h2
  exact .pu ⟨nn_scan h3 h4.1, h4.2⟩
theorem lo_f226 {r : Nat → Nat → Int32} {l : Nat → Nat → Int64} {F : (Nat → Int32) → (Nat → Nat → Int32) → (Nat → Nat → Int64) → Option (((Nat → Int32) × (Nat → Nat → Int32)) ⊕ ((Nat → Int32) × (Nat → Nat → Int32)))} {i : Nat → Int32} {r0 : Nat → Nat → Int32} {y : Int32} (hN : NN i) (hL : LO r r0) : OP (PAr r) (f_X13_readFactor_226 F l i r0 y) := by
  rw [f_X13_readFactor_226]
  exact .bt (fun a h1 => .bt (fun b h2 => .bd (fun c h3 => .pu (lo_mark (nn_var h2 ((nn_need h1 hN).u (by omega) _)) hL _ h3))) (fun t h2 => .pu hL)) (fun t h1 => .pu hL)
theorem lo_f207 {r : Nat → Nat → Int32} {l : Nat → Nat → Int64} {F : (Nat → Int32) → (Nat → Nat → Int32) → (Nat → Nat → Int64) → Option (((Nat → Int32) × (Nat → Nat → Int32)) ⊕ ((Nat → Int32) × (Nat → Nat → Int32)))} {i : Nat → Int32} {r0 : Nat → Nat → Int32} {y : Int32} (hN : NN i) (hL : LO r r0) : OP (PAr r) (f_X13_readFactor_207 F l i r0 y) := by
  rw [f_X13_readFactor_207]
  exact .bt (fun a h1 => .ite (fun _ => lo_f226 (nn_need h1 hN) hL) (fun _ => lo_f226 (nn_need h1 hN) hL)) (fun t h1 => .pu hL)
theorem lo_f196 {r : Nat → Nat → Int32} {l : Nat → Nat → Int64} {F : (Nat → Int32) → (Nat → Nat → Int32) → (Nat → Nat → Int64) → Option (((Nat → Int32) × (Nat → Nat → Int32)) ⊕ ((Nat → Int32) × (Nat → Nat → Int32)))} {i : Nat → Int32} {r0 : Nat → Nat → Int32} {y : Int32} (hN : NN i) (hL : LO r r0) : OP (PAr r) (f_X13_readFactor_196 F l i r0 y) := by
  rw [f_X13_readFactor_196]
  exact .ite (fun _ => lo_f207 hN hL) (fun _ => lo_f207 hN hL)
theorem lo_f84 {r : Nat → Nat → Int32} {l : Nat → Nat → Int64} {F : (Nat → Int32) → (Nat → Nat → Int32) → (Nat → Nat → Int64) → Option (((Nat → Int32) × (Nat → Nat → Int32)) ⊕ ((Nat → Int32) × (Nat → Nat → Int32)))} {i : Nat → Int32} {r0 : Nat → Nat → Int32} {y : Int32} (hN : NN i) (hL : LO r r0) : OP (PAr r) (f_X13_readFactor_84 F l i r0 y) := by
  rw [f_X13_readFactor_84]
  refine .bt (fun a h1 => ?_) (fun t h1 => .pu hL)
  have hN := nn_need h1 hN
  exact .ite (fun _ => .ite (fun _ => lo_f111 hN hL) (fun _ => lo_f111 hN hL)) (fun _ => .bd (fun b _ => .ite (fun _ => .ite (fun _ => lo_f196 hN hL) (fun _ => lo_f196 hN hL)) (fun _ => .ck (fun _ => .bd (fun c _ => .ite (fun _ => lo_f196 hN hL) (fun _ => lo_f196 hN hL))))))
theorem lo_fac {r : Nat → Nat → Int32} {l : Nat → Nat → Int64} {F : (Nat → Int32) → (Nat → Nat → Int32) → (Nat → Nat → Int64) → Option (((Nat → Int32) × (Nat → Nat → Int32)) ⊕ ((Nat → Int32) × (Nat → Nat → Int32)))} (hF : FS r l F) {i : Nat → Int32} {r0 : Nat → Nat → Int32} (hN : NN i) (hL : LO r r0) : OP (PAr r) (f_X13_readFactor F i r0 l) := by
  rw [f_X13_readFactor, f_X13_readFactor_79]
  exact .bd (fun a _ => .ite (fun _ => .ite (fun _ => lo_f84 hN hL) (fun _ => .bd (fun b _ => .ite (fun _ => lo_f84 hN hL) (fun _ => lo_f84 hN hL)))) (fun _ => .ite (fun _ => lo_f24 hF hN hL) (fun _ => lo_f24 hF hN hL)))
theorem lo_t4 {r : Nat → Nat → Int32} {l : Nat → Nat → Int64} {F : (Nat → Int32) → (Nat → Nat → Int32) → (Nat → Nat → Int64) → Option (((Nat → Int32) × (Nat → Nat → Int32)) ⊕ ((Nat → Int32) × (Nat → Nat → Int32)))} (hF : FS r l F) : ∀ (n : Nat) (i : Nat → Int32) (r0 : Nat → Nat → Int32), NN i → LO r r0 → OP (PAr r) (f_X13_readTerms_4 F l n i r0) := by
  intro n
  induction n with
  | zero => intro i r0 _ _ q hq; rw [f_X13_readTerms_4] at hq; cases hq
  | succ n ih =>
    intro i r0 hN hL
    rw [f_X13_readTerms_4]
    refine .bd (fun a _ => .ite (fun _ => .pu ⟨hN, hL⟩) (fun _ => .bd (fun b h2 => .bt (fun c h3 => .bd (fun d h4 => ?_)) (fun t h3 => .pu (lo_fac hF (nn_scan h2 hN) hL _ h3)))))
    have h5 := lo_fac hF (nn_scan h2 hN) hL _ h3
    have h6 := lo_mark h5.1 h5.2 _ h4
    exact ih _ _ h6.1 h6.2
theorem lo_terms {r : Nat → Nat → Int32} {l : Nat → Nat → Int64} : ∀ d : Nat, FS r l (f_X13_readTerms d) := by
  intro d
  induction d with
  | zero => intro i r0 _ _ q hq; rw [f_X13_readTerms] at hq; cases hq
  | succ d ih =>
    intro i r0 hN hL
    rw [f_X13_readTerms, f_X13_readTerms_e]
    refine .bt (fun a h1 => ?_) (fun t h1 => .pu (lo_fac ih hN hL _ h1))
    have h2 := lo_fac ih hN hL _ h1
    exact lo_t4 ih _ _ _ h2.1 h2.2
theorem lo_sum {r : Nat → Nat → Int32} {l : Nat → Nat → Int64} {i : Nat → Int32} {r0 : Nat → Nat → Int32} {a : Nat} {x2 : Int32} (hN : NN i) (hL : LO r r0) (ha : 240 ≤ a) (hb : a < 2 ^ 31) : OP (PAr r) (f_X13_readSum i r0 l (nI a) x2) := by
  have w : ∀ k, k = 34 ∨ k = 35 → ¬ LWr k a := fun k hk => by unfold LWr; omega
  rw [f_X13_readSum, nI_clamp hb]
  refine .ck (fun _ => ?_)
  rw [f_X13_readSum_29, nI_clamp hb]
  have hN' : NN (upd (upd (upd i 53 x2) 54 0) 55 0) := ((hN.u (by omega) _).u (by omega) _).u (by omega) _
  have hL' := hL.up (v := 1000 + i 49) rfl (w 34 (by omega))
  refine .bt (fun q h1 => .ck (fun _ => ?_)) (fun t h1 => .pu (lo_terms 12 _ _ hN' hL' _ h1))
  have h2 := lo_terms 12 _ _ hN' hL' _ h1
  exact .pu ⟨h2.1, h2.2.up rfl (w 35 (by omega))⟩
theorem lo_t56 {r : Nat → Nat → Int32} {l : Nat → Nat → Int64} {i : Nat → Int32} {r0 : Nat → Nat → Int32} {a w : Nat} {y : Int32} (hN : NN i) (hL : LO r r0) (ha : 60 ≤ a) (hb : a < 120) (hw : w < 2) : OP (PAr r) (f_X13_readTest_56 l i r0 (nI a) (nI w) (nI (4 * a + 2 * w)) y) := by
  rw [f_X13_readTest_56, mul2, nI_clamp (by omega), nI_1]
  refine .bt (fun q h1 => .ck (fun _ => .bd (fun b h2 => ?_))) (fun t h1 => .pu hL)
  have hN' := nn_scan h2 (nn_need h1 hN)
  have hL' : LO r (va_up r0 36 (upd (r0 36) (2 * a + w) (q 7))) := hL.up rfl (by unfold LWr; omega)
  exact .bt (fun c h3 => .pu (lo_sum hN' hL' (by omega) (by omega) _ h3)) (fun t h3 => .pu (lo_sum hN' hL' (by omega) (by omega) _ h3))
theorem lo_test {r : Nat → Nat → Int32} {l : Nat → Nat → Int64} {i : Nat → Int32} {r0 : Nat → Nat → Int32} {a w : Nat} (hN : NN i) (hL : LO r r0) (ha : 60 ≤ a) (hb : a < 120) (hw : w < 2) : OP (PAr r) (f_X13_readTest i r0 l (nI a) (nI w)) := by
  have e : (4 : Int32) * nI a + 2 * nI w = nI (4 * a + 2 * w) := by rw [show (2 : Int32) = nI 2 from rfl, pk_mul, mul4]
  rw [f_X13_readTest, e]
  simp only [f_X13_readTest_51]
  refine .bt (fun q h1 => ?_) (fun t h1 => .pu (lo_sum hN hL (by omega) (by omega) _ h1))
  have h2 := lo_sum hN hL (show 240 ≤ 4 * a + 2 * w by omega) (by omega) _ h1
  exact .bd (fun _ _ => .ite (fun _ => .bd (fun _ _ => .ite (fun _ => .bd (fun _ _ => .ite (fun _ => .bd (fun _ _ => .ite (fun _ => lo_t56 h2.1 h2.2 ha hb hw) (fun _ => lo_t56 h2.1 h2.2 ha hb hw))) (fun _ => lo_t56 h2.1 h2.2 ha hb hw))) (fun _ => lo_t56 h2.1 h2.2 ha hb hw))) (fun _ => lo_t56 h2.1 h2.2 ha hb hw))
/-! STEPS -/
theorem lo_keep {r : Nat → Nat → Int32} {l : Nat → Nat → Int64} {i : Nat → Int32} {r0 : Nat → Nat → Int32} {a w : Nat} (hL : LO r r0) (ha : 60 ≤ a) (hb : a < 120) (hw : w < 2) : OP (fun q => LO r q) (f_X13_keepBody i r0 l (nI a) (nI w)) := by
  rw [f_X13_keepBody, mul2, nI_clamp (by omega)]
  exact .ck (fun _ => .ck (fun _ => .pu ((hL.up rfl (by unfold LWr; omega)).up (by rw [up_n (by omega)]) (by unfold LWr; omega))))
theorem lo_o47 {r : Nat → Nat → Int32} {l : Nat → Nat → Int64} {i : Nat → Int32} {r0 : Nat → Nat → Int32} {a : Nat} {y : Int32} (hN : NN i) (hL : LO r r0) (ha : 60 ≤ a) (hb : a < 120) : OP (PAr r) (f_X13_readOther_47 l i r0 (nI a) y) := by
  rw [f_X13_readOther_47, show (1 : Int32) = nI 1 from rfl, mul2, nI_clamp (by omega)]
  exact .bt (fun q h1 => .ck (fun _ => .ck (fun _ => .pu ⟨nn_var h1 hN, (hL.up rfl (by unfold LWr; omega)).up (by rw [up_n (by omega)]) (by unfold LWr; omega)⟩))) (fun t h1 => .pu hL)
theorem lo_other {r : Nat → Nat → Int32} {l : Nat → Nat → Int64} {i : Nat → Int32} {r0 : Nat → Nat → Int32} {a : Nat} (hN : NN i) (hL : LO r r0) (ha : 60 ≤ a) (hb : a < 120) : OP (PAr r) (f_X13_readOther i r0 l (nI a)) := by
  rw [f_X13_readOther]
  simp only [f_X13_readOther_46]
  exact .ck (fun _ => .ck (fun _ => .ite (fun _ => .ite (fun _ => lo_o47 hN hL ha hb) (fun _ => lo_o47 hN hL ha hb)) (fun _ => lo_o47 hN hL ha hb)))
def FBo (r : Nat → Nat → Int32) (F : (Nat → Int32) → (Nat → Nat → Int32) → (Nat → Nat → Int64) → Option (((Nat → Int32) × (Nat → Nat → Int64) × (Nat → Nat → Int32)) ⊕ ((Nat → Int32) × (Nat → Nat → Int64) × (Nat → Nat → Int32)))) : Prop := ∀ i r0 l, NN i → LO r r0 → OP (PB r) (F i r0 l)
theorem lo_1172 {r : Nat → Nat → Int32} {F : (Nat → Int32) → (Nat → Nat → Int32) → (Nat → Nat → Int64) → Option (((Nat → Int32) × (Nat → Nat → Int64) × (Nat → Nat → Int32)) ⊕ ((Nat → Int32) × (Nat → Nat → Int64) × (Nat → Nat → Int32)))} {i : Nat → Int32} {l : Nat → Nat → Int64} {r0 : Nat → Nat → Int32} {a : Nat} (hN : NN i) (hL : LO r r0) (ha : 60 ≤ a) (hb : a < 120) : OP (PO r) (f_X13_readOne_172 F i l r0 (nI a)) := by
  rw [f_X13_readOne_172]
  refine .bt (fun q h1 => ?_) (fun t h1 => .pu (lo_test (w := 1) hN hL ha hb (by omega) _ h1))
  have h2 := lo_test (w := 1) hN hL ha hb (by omega) _ h1
  exact .pu ⟨⟨a, ha, hb, rfl⟩, h2.1.u (by omega) _, h2.2⟩
theorem lo_1144 {r : Nat → Nat → Int32} {F : (Nat → Int32) → (Nat → Nat → Int32) → (Nat → Nat → Int64) → Option (((Nat → Int32) × (Nat → Nat → Int64) × (Nat → Nat → Int32)) ⊕ ((Nat → Int32) × (Nat → Nat → Int64) × (Nat → Nat → Int32)))} (hF : FBo r F) {i : Nat → Int32} {l : Nat → Nat → Int64} {r0 : Nat → Nat → Int32} {a : Nat} {x : Int32} (hN : NN i) (hL : LO r r0) (ha : 60 ≤ a) (hb : a < 120) : OP (PO r) (f_X13_readOne_144 F i l r0 x (nI a)) := by
  rw [f_X13_readOne_144]
  refine .bt (fun q h1 => .bd (fun b h2 => ?_)) (fun t h1 => .pu (hF _ _ _ hN hL _ h1))
  have h3 := hF _ _ _ hN hL _ h1
  have h4 := lo_keep (w := 1) h3.2 ha hb (by omega) _ h2
  exact .ite (fun _ => .bt (fun c h5 => lo_1172 (nn_word h5 h3.1) h4 ha hb) (fun t h5 => .pu h4)) (fun _ => .bt (fun c h5 => lo_1172 (nn_word h5 h3.1) h4 ha hb) (fun t h5 => .pu h4))
theorem lo_1116 {r : Nat → Nat → Int32} {F : (Nat → Int32) → (Nat → Nat → Int32) → (Nat → Nat → Int64) → Option (((Nat → Int32) × (Nat → Nat → Int64) × (Nat → Nat → Int32)) ⊕ ((Nat → Int32) × (Nat → Nat → Int64) × (Nat → Nat → Int32)))} (hF : FBo r F) {i : Nat → Int32} {l : Nat → Nat → Int64} {r0 : Nat → Nat → Int32} {a : Nat} {x : Int32} (hN : NN i) (hL : LO r r0) (ha : 60 ≤ a) (hb : a < 120) : OP (PO r) (f_X13_readOne_116 F i l r0 x (nI a)) := by
  rw [f_X13_readOne_116]
  refine .bt (fun q h1 => .bd (fun b h2 => ?_)) (fun t h1 => .pu (hF _ _ _ hN hL _ h1))
  have h3 := hF _ _ _ hN hL _ h1
  have h4 := lo_keep (w := 0) h3.2 ha hb (by omega) _ h2
  exact .ite (fun _ => .bt (fun c h5 => lo_1144 hF (nn_word h5 h3.1) h4 ha hb) (fun t h5 => .pu h4)) (fun _ => .bt (fun c h5 => lo_1144 hF (nn_word h5 h3.1) h4 ha hb) (fun t h5 => .pu h4))
theorem lo_182 {r : Nat → Nat → Int32} {F : (Nat → Int32) → (Nat → Nat → Int32) → (Nat → Nat → Int64) → Option (((Nat → Int32) × (Nat → Nat → Int64) × (Nat → Nat → Int32)) ⊕ ((Nat → Int32) × (Nat → Nat → Int64) × (Nat → Nat → Int32)))} (hF : FBo r F) {i : Nat → Int32} {l : Nat → Nat → Int64} {r0 : Nat → Nat → Int32} {a : Nat} {x : Int32} (hN : NN i) (hL : LO r r0) (ha : 60 ≤ a) (hb : a < 120) : OP (PO r) (f_X13_readOne_82 F i l r0 x (nI a)) := by
  rw [f_X13_readOne_82]
  refine .bt (fun q h1 => ?_) (fun t h1 => .pu (lo_test (w := 0) (hN.u (by omega) _) hL ha hb (by omega) _ h1))
  have h3 := lo_test (w := 0) (hN.u (by omega) _) hL ha hb (by omega) _ h1
  exact .ite (fun _ => .bt (fun c h5 => lo_1116 hF (nn_word h5 h3.1) h3.2 ha hb) (fun t h5 => .pu h3.2)) (fun _ => .bt (fun c h5 => lo_1116 hF (nn_word h5 h3.1) h3.2 ha hb) (fun t h5 => .pu h3.2))
theorem lo_1203 {r : Nat → Nat → Int32} {F : (Nat → Int32) → (Nat → Nat → Int32) → (Nat → Nat → Int64) → Option (((Nat → Int32) × (Nat → Nat → Int64) × (Nat → Nat → Int32)) ⊕ ((Nat → Int32) × (Nat → Nat → Int64) × (Nat → Nat → Int32)))} {i : Nat → Int32} {l : Nat → Nat → Int64} {r0 : Nat → Nat → Int32} {a : Nat} (hN : NN i) (hL : LO r r0) (ha : 60 ≤ a) (hb : a < 120) : OP (PO r) (f_X13_readOne_203 F i l r0 (nI a)) := by
  rw [f_X13_readOne_203]
  exact .bt (fun q h1 => .ck (fun _ => .bd (fun b h2 => .pu ⟨⟨a, ha, hb, rfl⟩, nn_scan h2 (nn_name h1 hN), hL⟩))) (fun t h1 => .pu hL)
theorem lo_1240 {r : Nat → Nat → Int32} {F : (Nat → Int32) → (Nat → Nat → Int32) → (Nat → Nat → Int64) → Option (((Nat → Int32) × (Nat → Nat → Int64) × (Nat → Nat → Int32)) ⊕ ((Nat → Int32) × (Nat → Nat → Int64) × (Nat → Nat → Int32)))} {i : Nat → Int32} {l : Nat → Nat → Int64} {r0 : Nat → Nat → Int32} {a : Nat} {x : Int32} (hN : NN i) (hL : LO r r0) (ha : 60 ≤ a) (hb : a < 120) : OP (PO r) (f_X13_readOne_240 F i l r0 x (nI a)) := by
  rw [f_X13_readOne_240, show (2 : Int32) * nI a = nI (2 * a) from pk_mul (a := 2) .., show (4 : Int32) * nI a = nI (4 * a) from pk_mul (a := 4) .., nI_clamp (by omega)]
  have hL' : LO r (va_up r0 33 (upd (r0 33) (2 * a) (i 57))) := hL.up rfl (by unfold LWr; omega)
  refine .ck (fun _ => .ite (fun _ => .bt (fun q h1 => ?_) (fun t h1 => .pu (lo_other hN hL' ha hb _ h1))) (fun _ => .bt (fun q h1 => ?_) (fun t h1 => .pu (lo_sum hN hL' (by omega) (by omega) _ h1))))
  · have h2 := lo_other hN hL' ha hb _ h1
    exact .pu ⟨⟨a, ha, hb, rfl⟩, h2.1, h2.2⟩
  · have h2 := lo_sum hN hL' (show 240 ≤ 4 * a by omega) (by omega) _ h1
    exact .pu ⟨⟨a, ha, hb, rfl⟩, h2.1, h2.2⟩
theorem lo_139 {r : Nat → Nat → Int32} {F : (Nat → Int32) → (Nat → Nat → Int32) → (Nat → Nat → Int64) → Option (((Nat → Int32) × (Nat → Nat → Int64) × (Nat → Nat → Int32)) ⊕ ((Nat → Int32) × (Nat → Nat → Int64) × (Nat → Nat → Int32)))} (hF : FBo r F) {i : Nat → Int32} {l : Nat → Nat → Int64} {r0 : Nat → Nat → Int32} {x y : Int32} (hN : NN i) (hL : LO r r0) : OP (PO r) (f_X13_readOne_39 F i l r0 x y) := by
  rw [f_X13_readOne_39]
  refine .bt (fun q h1 => ?_) (fun t h1 => .pu hL)
  have hN1 := nn_need h1 hN
  obtain ⟨⟨a, ha, e⟩, n2, n3⟩ := id hN1
  have e1 : (60 : Int32) + nI a = nI (60 + a) := nadd 60 a _ rfl
  rw [e, e1, nI_clamp (by omega), show (2 : Int32) * nI (60 + a) = nI (2 * (60 + a)) from pk_mul (a := 2) .., nI_clamp (by omega), nI_1]
  refine .ck (fun h2 => ?_)
  have hb := inb_b h2 (by omega)
  have hN2 : NN (upd q 48 (nI (a + 1))) := ⟨⟨a + 1, by omega, pk_us⟩, by rw [pk_un (by omega)]; exact n2, by rw [pk_un (by omega)]; exact n3⟩
  have hL' : LO r (va_up r0 28 (upd (r0 28) (60 + a) x)) := hL.up rfl (by unfold LWr; omega)
  refine .bd (fun b h3 => ?_)
  have hN3 := nn_scan h3 hN2
  exact .ite (fun _ => lo_182 hF hN3 hL' (by omega) hb) (fun _ => .ite (fun _ => lo_182 hF hN3 hL' (by omega) hb) (fun _ => .ite (fun _ => lo_1203 hN3 hL' (by omega) hb) (fun _ => .ite (fun _ => lo_1203 hN3 hL' (by omega) hb) (fun _ => .bt (fun c h4 => .ck (fun _ => lo_1240 (nn_var h4 hN3) (hL'.up (by rw [up_n (by omega)]) (by unfold LWr; omega)) (by omega) hb)) (fun t h4 => .pu hL')))))
theorem lo_one {r : Nat → Nat → Int32} {F : (Nat → Int32) → (Nat → Nat → Int32) → (Nat → Nat → Int64) → Option (((Nat → Int32) × (Nat → Nat → Int64) × (Nat → Nat → Int32)) ⊕ ((Nat → Int32) × (Nat → Nat → Int64) × (Nat → Nat → Int32)))} (hF : FBo r F) {i : Nat → Int32} {l : Nat → Nat → Int64} {r0 : Nat → Nat → Int32} (hN : NN i) (hL : LO r r0) : OP (PO r) (f_X13_readOne F i r0 l) := by
  rw [f_X13_readOne]
  simp only [f_X13_readOne_25, f_X13_readOne_38, f_X13_readOne_34]
  exact .bd (fun a _ => .ite (fun _ => lo_139 hF hN hL) (fun _ => .ite (fun _ => .ite (fun _ => lo_139 hF hN hL) (fun _ => lo_139 hF hN hL)) (fun _ => .ite (fun _ => .ite (fun _ => lo_139 hF hN hL) (fun _ => lo_139 hF hN hL)) (fun _ => lo_139 hF hN hL))))
theorem lo_b4 {r : Nat → Nat → Int32} {F : (Nat → Int32) → (Nat → Nat → Int32) → (Nat → Nat → Int64) → Option (((Nat → Int32) × (Nat → Nat → Int64) × (Nat → Nat → Int32)) ⊕ ((Nat → Int32) × (Nat → Nat → Int64) × (Nat → Nat → Int32)))} (hF : FBo r F) : ∀ (n : Nat) (i : Nat → Int32) (l : Nat → Nat → Int64) (r0 : Nat → Nat → Int32) (x1 x2 : Int32), NN i → LO r r0 → (x2 = -1 ∨ ∃ a, 60 ≤ a ∧ a < 120 ∧ x2 = nI a) → OP (PB r) (f_X13_readBody_4 F n i l r0 x1 x2) := by
  intro n
  induction n with
  | zero => intro i l r0 x1 x2 _ _ _ q hq; rw [f_X13_readBody_4] at hq; cases hq
  | succ n ih =>
    intro i l r0 x1 x2 hN hL hx
    rw [f_X13_readBody_4]
    refine .bd (fun a _ => .ite (fun _ => .pu ⟨(hN.u (by omega) _).u (by omega) _, hL⟩) (fun _ => .bt (fun q h1 => .ck (fun _ => .ck (fun _ => ?_))) (fun t h1 => .pu (lo_one hF hN hL _ h1))))
    obtain ⟨⟨b, hb1, hb2, eb⟩, hN1, hL1⟩ := lo_one hF hN hL _ h1
    have hL2 : LO r (va_up (va_up q.2.2.2 30 (upd (q.2.2.2 30) q.1.toNatClampNeg x2)) 29 (upd (q.2.2.2 29) q.1.toNatClampNeg (-1))) := by
      rw [eb, nI_clamp (by omega)]
      exact (hL1.up rfl (by unfold LWr; omega)).up (by rw [up_n (by omega)]) (by unfold LWr; omega)
    have h48 : ∀ (r1 : Nat → Nat → Int32) (x : Int32), LO r r1 → OP (PB r) (f_X13_readBody_48 F (f_X13_readBody_4 F n) q.2.1 q.2.2.1 r1 x q.1) := fun r1 x hr => by
      rw [f_X13_readBody_48]
      exact .bt (fun c h2 => ih _ _ _ _ _ (nn_sign h2 hN1) hr (Or.inr ⟨b, hb1, hb2, eb⟩)) (fun t h2 => .pu hr)
    rw [f_X13_readBody_31]
    refine .ite (fun _ => h48 _ _ hL2) (fun hne => .ck (fun _ => h48 _ _ ?_))
    rcases hx with e | ⟨a, ha1, ha2, e⟩
    · exact absurd e hne
    · subst e
      rw [nI_clamp (show a < 2 ^ 31 by omega)]
      exact LO.up (k := 29) (j := a) hL2 rfl (by unfold LWr; omega)
theorem lo_body {r : Nat → Nat → Int32} : ∀ d : Nat, FBo r (f_X13_readBody d) := by
  intro d
  induction d with
  | zero => intro i r0 l _ _ q hq; rw [f_X13_readBody] at hq; cases hq
  | succ d ih =>
    intro i r0 l hN hL
    rw [f_X13_readBody, f_X13_readBody_e]
    exact lo_b4 ih _ _ _ _ _ _ hN hL (Or.inl rfl)
/-! programs -/
theorem lo_p169 {r : Nat → Nat → Int32} : ∀ (n : Nat) (i : Nat → Int32) (l : Nat → Nat → Int64) (r0 : Nat → Nat → Int32) (s : Nat), NN i → LO r r0 → s ≤ 60 → OP (PB r) (f_X13_readProgram_169 n i l r0 (nI s)) := by
  intro n
  induction n with
  | zero => intro i l r0 s _ _ _ q hq; rw [f_X13_readProgram_169] at hq; cases hq
  | succ n ih =>
    intro i l r0 s hN hL hs
    obtain ⟨⟨a, ha, e⟩, n2, n3⟩ := id hN
    have e1 : (60 : Int32) + nI s = nI (60 + s) := nadd 60 s _ rfl
    rw [f_X13_readProgram_169, e1, nI_clamp (show 60 + s < 2 ^ 31 by omega)]
    refine .ite (fun _ => .pu ⟨hN, hL⟩) (fun hlt => ?_)
    have hsa : s < a := by
      rcases Nat.lt_or_ge s a with h | h
      · exact h
      · exact absurd (by rw [e]; exact nI_le h (by omega)) hlt
    refine .ck (fun _ => .ite (fun _ => .ck (fun _ => .bd (fun p _ => .ck (fun _ => ?_)))) (fun _ => ?_))
    · have hL' : LO r (va_up r0 31 (upd (r0 31) (60 + s) p)) := hL.up rfl (by unfold LWr; omega)
      have h228 : ∀ y : Int32, OP (PB r) (f_X13_readProgram_228 (f_X13_readProgram_169 n) i l (va_up r0 31 (upd (r0 31) (60 + s) p)) (nI s) y) := fun y => by
        rw [f_X13_readProgram_228]
        refine .bt (fun c h1 => ?_) (fun t h1 => .pu hL')
        rw [f_X13_readProgram_232, nI_1]
        exact ih _ _ _ _ (nn_need h1 hN) hL' (by omega)
      rw [f_X13_readProgram_212]
      exact .ck (fun _ => .ite (fun _ => h228 _) (fun _ => h228 _))
    · rw [f_X13_readProgram_232, nI_1]
      exact ih _ _ _ _ hN hL (by omega)
theorem lo_p82 {r : Nat → Nat → Int32} {K : (Nat → Int32) → (Nat → Nat → Int64) → (Nat → Nat → Int32) → Option (((Nat → Int32) × (Nat → Nat → Int64) × (Nat → Nat → Int32)) ⊕ ((Nat → Int32) × (Nat → Nat → Int64) × (Nat → Nat → Int32)))} (hK : ∀ i l r0, NN i → LO r r0 → OP (PB r) (K i l r0)) {i : Nat → Int32} {l : Nat → Nat → Int64} {r0 : Nat → Nat → Int32} {x : Int64} {y : Int32} (hN : NN i) (hL : LO r r0) : OP (PB r) (f_X13_readProgram_82 K i l r0 x y) := by
  rw [f_X13_readProgram_82]
  refine .bt (fun q h1 => .ck (fun h2 => .bd (fun b h3 => .bt (fun c h4 => .bt (fun d h5 => .ck (fun _ => .ck (fun _ => ?_))) (fun t h5 => ?_)) (fun t h4 => .pu hL)))) (fun t h1 => .pu hL)
  all_goals
    have hN1 := nn_need h1 hN
    obtain ⟨n1, n2, ⟨p, hp, e⟩⟩ := id hN1
    rw [e] at h2
    have hb := inb_b h2 (by omega)
    have hN2 : NN (upd q 47 (q 47 + 1)) := ⟨by rw [pk_un (by omega)]; exact n1, by rw [pk_un (by omega)]; exact n2, ⟨p + 1, by omega, by rw [pk_us, e, nI_1]⟩⟩
    have hN3 := nn_word h4 (nn_scan h3 hN2)
  · obtain ⟨hN4, hL4⟩ := lo_body 12 _ _ _ hN3 hL _ h5
    have e47 : c 47 = nI (p + 1) := by
      rw [(show ∀ k : Nat, ¬ (k = 4 ∨ k = 5 ∨ k = 6 ∨ k = 7 ∨ k = 8 ∨ k = 9) → c k = b k from fr_X13_word h4) 47 (by omega), fr_X13_scan h3 47 (by omega), pk_us, e, nI_1]
    have e6 : (6 : Int32) + c 47 - 1 = nI (6 + p) := by rw [e47, show (6 : Int32) = nI 6 from rfl, show (1 : Int32) = nI 1 from rfl, nI_add, pk_sub (by omega), show 6 + (p + 1) - 1 = 6 + p by omega]
    rw [e6, nI_clamp (by omega), f_X13_readProgram_151]
    have hL5 : LO r (va_up (va_up d.2.2 42 (upd (d.2.2 42) (6 + p) (d.1 51))) 43 (upd (d.2.2 43) (6 + p) (d.1 52))) := (hL4.up rfl (by unfold LWr; omega)).up (by rw [up_n (by omega)]) (by unfold LWr; omega)
    exact .bt (fun u h6 => .bt (fun v h7 => hK _ _ _ (nn_sign h7 (nn_word h6 hN4)) hL5) (fun t h7 => .pu hL5)) (fun t h6 => .pu hL5)
  · exact .pu (lo_body 12 _ _ _ hN3 hL _ h5)
theorem lo_p20 {r : Nat → Nat → Int32} : ∀ (n : Nat) (i : Nat → Int32) (l : Nat → Nat → Int64) (r0 : Nat → Nat → Int32), NN i → LO r r0 → OP (PB r) (f_X13_readProgram_20 n i l r0) := by
  intro n
  induction n with
  | zero => intro i l r0 _ _ q hq; rw [f_X13_readProgram_20] at hq; cases hq
  | succ n ih =>
    intro i l r0 hN hL
    have h54 : ∀ (i : Nat → Int32) (y : Int32), NN i → OP (PB r) (f_X13_readProgram_54 (f_X13_readProgram_20 n) i l r0 y) := fun i y hN => by
      rw [f_X13_readProgram_54]
      exact .bt (fun a h1 => .bd (fun b h2 => .bt (fun c h3 => .bd (fun d _ => .ite (fun _ => lo_p82 ih (nn_name h3 (nn_scan h2 (nn_need h1 hN))) hL) (fun _ => lo_p82 ih (nn_name h3 (nn_scan h2 (nn_need h1 hN))) hL))) (fun t h3 => .pu hL))) (fun t h1 => .pu hL)
    rw [f_X13_readProgram_20]
    exact .ite (fun _ => lo_p169 _ _ _ _ 0 hN hL (by omega)) (fun _ => .bd (fun a _ => .bt (fun b h1 => .ite (fun _ => h54 _ _ (nn_need h1 hN)) (fun _ => h54 _ _ (nn_need h1 hN))) (fun t h1 => .pu hL)))
theorem lo_prog {i : Nat → Int32} {r0 : Nat → Nat → Int32} {l : Nat → Nat → Int64} : OP (PB r0) (f_X13_readProgram i r0 l) := by
  rw [f_X13_readProgram]
  exact lo_p20 _ _ _ _ ⟨⟨0, by omega, by rw [pk_un (by omega), pk_un (by omega), pk_us]; rfl⟩, ⟨0, by omega, by rw [pk_un (by omega), pk_us]; rfl⟩, ⟨0, by omega, by rw [pk_un (by omega), pk_un (by omega), pk_un (by omega), pk_us]; rfl⟩⟩ (LO.rf _)
