/-! ===== least: tables as words ===== -/
def wdV (v : Nat → Nat) : Nat := pkB (fun i => (v (i % 8)).testBit (i / 8)) 24
def vlW (w o : Nat) : Nat := (w.testBit o).toNat + 2 * (w.testBit (8 + o)).toNat + 4 * (w.testBit (16 + o)).toNat
def PmV (v : Nat → Nat) : Prop := (∀ o, o < 8 → v o < 8) ∧ ∀ a b, a < 8 → b < 8 → v a = v b → a = b
def TbW (w : Nat) : Prop := w < 2 ^ 24 ∧ PmV (vlW w)
def pwG (g w : Nat) : Nat := wdV (fun o => apV g (vlW w o))
def e0W : Nat := 15781034
theorem bit3 (a b c : Bool) (l : Nat) (hl : l < 3) : (a.toNat + 2 * b.toNat + 4 * c.toNat).testBit l = if l = 0 then a else if l = 1 then b else c := by
  rcases (show l = 0 ∨ l = 1 ∨ l = 2 by omega) with rfl | rfl | rfl <;> cases a <;> cases b <;> cases c <;> rfl
theorem vlW_lt (w o : Nat) : vlW w o < 8 := by
  unfold vlW
  cases w.testBit o <;> cases w.testBit (8 + o) <;> cases w.testBit (16 + o) <;> decide
theorem vlW_bit (w o : Nat) {l : Nat} (hl : l < 3) : (vlW w o).testBit l = w.testBit (8 * l + o) := by
  unfold vlW
  rw [bit3 _ _ _ l hl]
  rcases (show l = 0 ∨ l = 1 ∨ l = 2 by omega) with rfl | rfl | rfl
  · rw [if_pos rfl]; congr 1; omega
  · rw [if_neg (by omega), if_pos rfl]
  · rw [if_neg (by omega), if_neg (by omega)]
theorem val3 : ∀ x : Fin 8, (x.1.testBit 0).toNat + 2 * (x.1.testBit 1).toNat + 4 * (x.1.testBit 2).toNat = x.1 := by decide
theorem wdV_lt (v : Nat → Nat) : wdV v < 2 ^ 24 := pkB_lt _ 24
theorem wdV_bit (v : Nat → Nat) (i : Nat) : (wdV v).testBit i = (decide (i < 24) && (v (i % 8)).testBit (i / 8)) := pkB_bit _ 24 i
theorem vl_wd {v : Nat → Nat} {o : Nat} (h : v o < 8) (ho : o < 8) : vlW (wdV v) o = v o := by
  unfold vlW
  rw [wdV_bit, wdV_bit, wdV_bit, show o % 8 = o by omega, show o / 8 = 0 by omega, show (8 + o) % 8 = o by omega, show (8 + o) / 8 = 1 by omega, show (16 + o) % 8 = o by omega, show (16 + o) / 8 = 2 by omega, decide_eq_true (show o < 24 by omega), decide_eq_true (show 8 + o < 24 by omega), decide_eq_true (show 16 + o < 24 by omega)]
  exact val3 ⟨v o, h⟩
theorem wd_vl {w : Nat} (h : w < 2 ^ 24) : wdV (vlW w) = w := by
  apply Nat.eq_of_testBit_eq
  intro i
  rw [wdV_bit]
  by_cases q : i < 24
  · rw [decide_eq_true q, Bool.true_and, vlW_bit _ _ (by omega), show 8 * (i / 8) + i % 8 = i by omega]
  · rw [decide_eq_false q, Bool.false_and]
    exact (Nat.testBit_lt_two_pow (Nat.lt_of_lt_of_le h (Nat.pow_le_pow_right (by omega) (by omega)))).symm
theorem wd_congr {v v' : Nat → Nat} (h : ∀ o, o < 8 → v o = v' o) : wdV v = wdV v' := pkB_congr (fun i _ => by rw [h (i % 8) (by omega)])
theorem w_ext {w w' : Nat} (h : w < 2 ^ 24) (h' : w' < 2 ^ 24) (hv : ∀ o, o < 8 → vlW w o = vlW w' o) : w = w' := by
  rw [← wd_vl h, ← wd_vl h', wd_congr hv]
theorem apV_in : ∀ g ∈ zG, ∀ x : Fin 8, apV g x.1 < 8 ∧ apV g (apV g x.1) = x.1 := by decide
theorem apV_lt {g x : Nat} (hg : g ∈ zG) (hx : x < 8) : apV g x < 8 := (apV_in g hg ⟨x, hx⟩).1
theorem apV_inv {g x : Nat} (hg : g ∈ zG) (hx : x < 8) : apV g (apV g x) = x := (apV_in g hg ⟨x, hx⟩).2
theorem vl_pw {g w o : Nat} (hg : g ∈ zG) (ho : o < 8) : vlW (pwG g w) o = apV g (vlW w o) := vl_wd (v := fun o => apV g (vlW w o)) (apV_lt hg (vlW_lt w o)) ho
theorem pw_pw {g w : Nat} (hg : g ∈ zG) (h : w < 2 ^ 24) : pwG g (pwG g w) = w := w_ext (wdV_lt _) h (fun o ho => by rw [vl_pw hg ho, vl_pw hg ho, apV_inv hg (vlW_lt w o)])
theorem pw_PW {g w : Nat} (hg : g ∈ zG) (h : TbW w) : TbW (pwG g w) := by
  refine ⟨wdV_lt _, fun o _ => vlW_lt _ _, fun a b ha hb e => ?_⟩
  rw [vl_pw hg ha, vl_pw hg hb] at e
  have e2 := congrArg (apV g) e
  rw [apV_inv hg (vlW_lt w a), apV_inv hg (vlW_lt w b)] at e2
  exact h.2.2 a b ha hb e2
theorem e0_vl : ∀ o : Fin 8, vlW e0W o.1 = o.1 := by decide
theorem e0_PW : TbW e0W := by
  refine ⟨by decide, fun o _ => vlW_lt _ _, fun a b ha hb e => ?_⟩
  rw [e0_vl ⟨a, ha⟩, e0_vl ⟨b, hb⟩] at e
  exact e
theorem PW_ne0 {w : Nat} (h : TbW w) : 0 < w := by
  rcases Nat.eq_zero_or_pos w with e | e
  · subst e
    have := h.2.2 0 1 (by omega) (by omega) (by decide)
    omega
  · exact e
/-- reachable within n gates -/
def RcN (gs : List Nat) : Nat → Nat → Prop
  | 0, w => w = e0W
  | n + 1, w => RcN gs n w ∨ ∃ g ∈ gs, RcN gs n (pwG g w)
theorem Rch_congr {gs : List Nat} : ∀ (n : Nat) {v v' : Nat → Nat}, (∀ o, o < 7 → v o = v' o) → Rch gs n v → Rch gs n v'
  | 0, v, v', h, q => by
    show ixB v' = _
    rw [← ixB_congr h]
    exact q
  | n + 1, v, v', h, q => by
    rcases (show Rch gs n v ∨ ∃ g ∈ gs, Rch gs n (fun z => apV g (v z)) from q) with q | ⟨g, hg, q⟩
    · exact Or.inl (Rch_congr n h q)
    · exact Or.inr ⟨g, hg, Rch_congr n (fun o ho => by rw [h o ho]) q⟩
theorem ixB_inj {v v' : Nat → Nat} (h : ixB v = ixB v') {o : Nat} (ho : o < 7) (h1 : v o < 8) (h2 : v' o < 8) : v o = v' o := by
  have e : ∀ l, l < 3 → (v o).testBit l = (v' o).testBit l := fun l hl => by rw [← ixB_bit v hl ho, ← ixB_bit v' hl ho, h]
  have a := val3 ⟨v o, h1⟩
  have b := val3 ⟨v' o, h2⟩
  dsimp only at a b
  rw [e 0 (by omega), e 1 (by omega), e 2 (by omega)] at a
  exact a.symm.trans b
/-- two tables alike on seven outs are alike -/
theorem pm7 {v v' : Nat → Nat} (h : PmV v) (h' : PmV v') (e : ∀ o, o < 7 → v o = v' o) : ∀ o, o < 8 → v o = v' o := by
  intro o ho
  by_cases q : o < 7
  · exact e o q
  · have : o = 7 := by omega
    subst this
    have ne : ∀ u : Nat → Nat, PmV u → ∀ k, k < 7 → u 7 ≠ u k := fun u hu k hk q => by have := hu.2 7 k (by omega) (by omega) q; omega
    have su : ∀ u : Nat → Nat, PmV u → ∀ x, x < 8 → (∀ k, k < 7 → x ≠ u k) → x = u 7 := by
      intro u hu x hx hn
      have hl : ([x, u 0, u 1, u 2, u 3, u 4, u 5, u 6, u 7] : List Nat).length ≤ (List.range 8).length ∨ x = u 7 := by
        by_cases z : x = u 7
        · exact Or.inr z
        · left
          refine nd_le ?_ (fun y hy => ?_)
          · have inj := hu.2
            have n : ∀ a b, a < 8 → b < 8 → a ≠ b → u a ≠ u b := fun a b ha hb hab q => hab (inj a b ha hb q)
            simp only [List.nodup_cons, List.mem_cons, List.not_mem_nil, or_false, not_or, not_false_eq_true, List.nodup_nil, and_true]
            exact ⟨⟨hn 0 (by omega), hn 1 (by omega), hn 2 (by omega), hn 3 (by omega), hn 4 (by omega), hn 5 (by omega), hn 6 (by omega), z⟩, ⟨n 0 1 (by omega) (by omega) (by omega), n 0 2 (by omega) (by omega) (by omega), n 0 3 (by omega) (by omega) (by omega), n 0 4 (by omega) (by omega) (by omega), n 0 5 (by omega) (by omega) (by omega), n 0 6 (by omega) (by omega) (by omega), n 0 7 (by omega) (by omega) (by omega)⟩, ⟨n 1 2 (by omega) (by omega) (by omega), n 1 3 (by omega) (by omega) (by omega), n 1 4 (by omega) (by omega) (by omega), n 1 5 (by omega) (by omega) (by omega), n 1 6 (by omega) (by omega) (by omega), n 1 7 (by omega) (by omega) (by omega)⟩, ⟨n 2 3 (by omega) (by omega) (by omega), n 2 4 (by omega) (by omega) (by omega), n 2 5 (by omega) (by omega) (by omega), n 2 6 (by omega) (by omega) (by omega), n 2 7 (by omega) (by omega) (by omega)⟩, ⟨n 3 4 (by omega) (by omega) (by omega), n 3 5 (by omega) (by omega) (by omega), n 3 6 (by omega) (by omega) (by omega), n 3 7 (by omega) (by omega) (by omega)⟩, ⟨n 4 5 (by omega) (by omega) (by omega), n 4 6 (by omega) (by omega) (by omega), n 4 7 (by omega) (by omega) (by omega)⟩, ⟨n 5 6 (by omega) (by omega) (by omega), n 5 7 (by omega) (by omega) (by omega)⟩, n 6 7 (by omega) (by omega) (by omega)⟩
          · rw [List.mem_range]
            simp only [List.mem_cons, List.not_mem_nil, or_false] at hy
            have b := hu.1
            rcases hy with rfl | rfl | rfl | rfl | rfl | rfl | rfl | rfl | rfl
            · exact hx
            · exact b 0 (by omega)
            · exact b 1 (by omega)
            · exact b 2 (by omega)
            · exact b 3 (by omega)
            · exact b 4 (by omega)
            · exact b 5 (by omega)
            · exact b 6 (by omega)
            · exact b 7 (by omega)
      rcases hl with hl | hl
      · rw [List.length_range] at hl
        exact absurd hl (by show ¬ 9 ≤ 8; omega)
      · exact hl
    exact su v' h' (v 7) (h.1 7 (by omega)) (fun k hk q => ne v h k hk (by rw [q, e k hk]))
theorem RN_Rch {gs : List Nat} (hz : ∀ g ∈ gs, g ∈ zG) : ∀ (n w : Nat), TbW w → (RcN gs n w ↔ Rch gs n (vlW w))
  | 0, w, h => by
    constructor
    · intro q
      have q : w = e0W := q
      subst q
      show ixB _ = ixB _
      exact ixB_congr (fun o ho => e0_vl ⟨o, by omega⟩)
    · intro q
      have q : ixB (vlW w) = ixB (fun z => z) := q
      refine w_ext h.1 e0_PW.1 (pm7 h.2 e0_PW.2 (fun o ho => ?_))
      rw [e0_vl ⟨o, by omega⟩]
      exact ixB_inj (v' := fun z => z) q ho (vlW_lt w o) (show o < 8 by omega)
  | n + 1, w, h => by
    have ih := RN_Rch hz n
    constructor
    · intro q
      rcases (show RcN gs n w ∨ ∃ g ∈ gs, RcN gs n (pwG g w) from q) with q | ⟨g, hg, q⟩
      · exact Or.inl ((ih w h).mp q)
      · exact Or.inr ⟨g, hg, Rch_congr n (fun o ho => vl_pw (hz g hg) (by omega)) ((ih _ (pw_PW (hz g hg) h)).mp q)⟩
    · intro q
      rcases (show Rch gs n (vlW w) ∨ ∃ g ∈ gs, Rch gs n (fun z => apV g (vlW w z)) from q) with q | ⟨g, hg, q⟩
      · exact Or.inl ((ih w h).mpr q)
      · exact Or.inr ⟨g, hg, (ih _ (pw_PW (hz g hg) h)).mpr (Rch_congr n (fun o ho => (vl_pw (hz g hg) (by omega)).symm) q)⟩
/-- every set bit of a ball is a table's -/
theorem Rch_tab {gs : List Nat} (hz : ∀ g ∈ gs, g ∈ zG) : ∀ (n : Nat) (v : Nat → Nat), (∀ o, o < 7 → v o < 8) → Rch gs n v → ∃ w, TbW w ∧ RcN gs n w ∧ ixB (vlW w) = ixB v
  | 0, v, h, q => ⟨e0W, e0_PW, rfl, by
      have q : ixB v = ixB (fun z => z) := q
      rw [q]
      exact ixB_congr (fun o ho => e0_vl ⟨o, by omega⟩)⟩
  | n + 1, v, h, q => by
    rcases (show Rch gs n v ∨ ∃ g ∈ gs, Rch gs n (fun z => apV g (v z)) from q) with q | ⟨g, hg, q⟩
    · obtain ⟨w, h1, h2, h3⟩ := Rch_tab hz n v h q
      exact ⟨w, h1, Or.inl h2, h3⟩
    · obtain ⟨w, h1, h2, h3⟩ := Rch_tab hz n _ (fun o ho => apV_lt (hz g hg) (h o ho)) q
      refine ⟨pwG g w, pw_PW (hz g hg) h1, Or.inr ⟨g, hg, ?_⟩, ?_⟩
      · rw [pw_pw (hz g hg) h1.1]
        exact h2
      · refine ixB_congr (fun o ho => ?_)
        rw [vl_pw (hz g hg) (by omega), ixB_inj h3 ho (vlW_lt w o) (apV_lt (hz g hg) (h o ho)), apV_inv (hz g hg) (h o ho)]
