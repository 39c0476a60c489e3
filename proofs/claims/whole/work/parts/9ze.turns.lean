/-! ===== run: turns ===== -/
abbrev Rt : Type := Int32 × (Nat → Int32) × (Nat → Nat → Int32)
/-- the class's loop after x turns -/
def Lp (i2 : Nat → Int32) (r2 : Nat → Nat → Int32) (l2 : Nat → Nat → Int64) (x : Nat) (i : Nat → Int32) (r : Nat → Nat → Int32) : Option Rt := f_X4_perform_56 i2 r2 l2 (2000000 - x) i r (nI x)
theorem cp20 (f g : Nat → Int32) {j : Nat} (hj : j < 20) : va_cpy f g (0 : Int32).toNatClampNeg (0 : Int32).toNatClampNeg (20 : Int32).toNatClampNeg j = f j := by
  have h0 : (0 : Int32).toNatClampNeg = 0 := nI_clamp (n := 0) (by omega)
  have h20 : (20 : Int32).toNatClampNeg = 20 := nI_clamp (n := 20) (by omega)
  unfold va_cpy
  rw [h0, h20, if_pos ⟨by omega, by omega⟩, show 0 + (j - 0) = j by omega]
theorem Lp_open {i2 : Nat → Int32} {r2 : Nat → Nat → Int32} {l2 : Nat → Nat → Int64} {x : Nat} (hx : x < 1000000) (i : Nat → Int32) (r : Nat → Nat → Int32) : Lp i2 r2 l2 x i r = if (i 10) = 0 then (if (i 12) = 0 then (if (i 7) = (-1) then (bd (f_X4_leaveBody i r i2 r2 l2) (fun q5 => Lp i2 r2 l2 (x + 1) q5.1 q5.2)) else (bd (f_X4_beginStep i r i2 r2 l2 (i 7)) (fun q4 => Lp i2 r2 l2 (x + 1) q4.1 q4.2))) else (f_X4_perform_106 i2 r2 l2 i r)) else (f_X4_perform_106 i2 r2 l2 i r) := by
  unfold Lp
  rw [show 2000000 - x = 2000000 - (x + 1) + 1 by omega, f_X4_perform_56, if_neg (show ¬ (1000000 : Int32) ≤ nI x from nI_ge (b := 1000000) hx (by omega))]
  simp only [f_X4_perform_100, nI_1]
theorem Lp_step {i2 : Nat → Int32} {r2 : Nat → Nat → Int32} {l2 : Nat → Nat → Int64} {x s : Nat} (hx : x < 1000000) (hs : s < 60) {i : Nat → Int32} {r : Nat → Nat → Int32} (h10 : i 10 = 0) (h12 : i 12 = 0) (h7 : i 7 = nI s) : Lp i2 r2 l2 x i r = bd (f_X4_beginStep i r i2 r2 l2 (nI s)) (fun q4 => Lp i2 r2 l2 (x + 1) q4.1 q4.2) := by
  rw [Lp_open hx, if_pos h10, if_pos h12, if_neg (by rw [h7]; exact nm1N (by omega)), h7]
theorem Lp_leave {i2 : Nat → Int32} {r2 : Nat → Nat → Int32} {l2 : Nat → Nat → Int64} {x : Nat} (hx : x < 1000000) {i : Nat → Int32} {r : Nat → Nat → Int32} (h10 : i 10 = 0) (h12 : i 12 = 0) (h7 : i 7 = -1) : Lp i2 r2 l2 x i r = bd (f_X4_leaveBody i r i2 r2 l2) (fun q5 => Lp i2 r2 l2 (x + 1) q5.1 q5.2) := by
  rw [Lp_open hx, if_pos h10, if_pos h12, if_pos h7]
theorem Lp_bad {i2 : Nat → Int32} {r2 : Nat → Nat → Int32} {l2 : Nat → Nat → Int64} {x : Nat} (hx : x < 1000000) {i : Nat → Int32} {r : Nat → Nat → Int32} (h12 : ¬ i 12 = 0) : ∃ r', Lp i2 r2 l2 x i r = some (-1, i, r') ∧ ∀ j, j < 20 → r' 0 j = r 1 j := by
  refine ⟨va_up r 0 (va_cpy (r 1) (r 0) (0 : Int32).toNatClampNeg (0 : Int32).toNatClampNeg (20 : Int32).toNatClampNeg), ?_, fun j hj => by rw [up_s, cp20 _ _ hj]⟩
  rw [Lp_open hx, if_neg h12, f_X4_perform_106, if_neg h12]
  by_cases q : i 10 = 0
  · rw [if_pos q]
  · rw [if_neg q]
/-- both run on, none has met trouble -/
def RS (m0 : Nat → Nat → Int32) (c cd dr : Nat) (i : Nat → Int32) (r : Nat → Nat → Int32) (mi : Nat → Int32) (mr : Nat → Nat → Int32) : Prop := (i 6 = nI cd ∧ mi 63 = nI cd) ∧ (i 9 = nI dr ∧ i 10 = 0) ∧ (i 11 = nI c ∧ mi 62 = nI c) ∧ (i 12 = 0 ∧ mi 61 = 0) ∧ RV r mr ∧ ∀ z, z < 44 → mr z = m0 z
/-- both have met the same trouble and end -/
def TR (r : Nat → Nat → Int32) (mr : Nat → Nat → Int32) (o1 : Option Rt) (o2 : Option ((Nat → Int32) × (Nat → Nat → Int32))) : Prop := ∃ i' r' mi' mr' k, o1 = some (-1, i', r') ∧ o2 = some (mi', mr') ∧ 1 ≤ k ∧ k ≤ 4 ∧ i' 12 = nI k ∧ mi' 61 = nI k ∧ i' 11 = mi' 62 ∧ (∀ j, j < 20 → r' 0 j = r 1 j) ∧ mr' 59 = mr 59
def FRc (cd : Nat) (r r' : Nat → Nat → Int32) : Prop := r' 1 = r 1 ∧ ∀ j, j < cd → r' 3 j = r 3 j ∧ r' 4 j = r 4 j
theorem FRc.tr {cd cd' : Nat} {a b c : Nat → Nat → Int32} (h : FRc cd a b) (g : FRc cd' b c) (hc : cd ≤ cd') : FRc cd a c := ⟨g.1.trans h.1, fun j hj => ⟨(g.2 j (by omega)).1.trans (h.2 j hj).1, (g.2 j (by omega)).2.trans (h.2 j hj).2⟩⟩
theorem FRc.of {cd : Nat} {r r' : Nat → Nat → Int32} (h : ∀ z, z ≠ 0 → z ≠ 2 → r' z = r z) : FRc cd r r' := ⟨h 1 (by omega) (by omega), fun j _ => by rw [h 3 (by omega) (by omega), h 4 (by omega) (by omega)]; exact ⟨rfl, rfl⟩⟩
/-- what the class goes to behind a STEP -/
def nx (r2 : Nat → Nat → Int32) (s dr : Nat) : Int32 := if dr = 0 then r2 2 s else r2 3 s
theorem behind_ok {i2 : Nat → Int32} {r2 : Nat → Nat → Int32} {l2 : Nat → Nat → Int64} {s dr y : Nat} (hs : s < 60) (hd : dr ≤ 1) (hy : r2 1 s = nI y) {i : Nat → Int32} {r : Nat → Nat → Int32} (h9 : i 9 = nI dr) : f_X4_goBehind i r i2 r2 l2 (nI s) = some (upd (upd i 8 (nI y)) 7 (nx r2 s dr)) := by
  have cs : (nI s).toNatClampNeg = s := nI_clamp (by omega)
  rw [f_X4_goBehind, f_X5_bodyOf, ck_t (inb_nI hs (by omega)), bd_some, f_X5_behind, ck_t (inb_nI hs (by omega)), ck_t (inb_nI hs (by omega)), cs, hy, h9, nx]
  rcases (show dr = 0 ∨ dr = 1 by omega) with rfl | rfl
  · rw [if_pos (show nI 0 = (0 : Int32) from rfl), if_pos rfl, bd_some]
  · rw [if_neg (show ¬ nI 1 = (0 : Int32) by decide), if_neg (show ¬ (1 : Nat) = 0 by omega), bd_some]
theorem behind_tot {i2 : Nat → Int32} {r2 : Nat → Nat → Int32} {l2 : Nat → Nat → Int64} {s : Nat} (hs : s < 60) (i : Nat → Int32) (r : Nat → Nat → Int32) : ∃ a b, f_X4_goBehind i r i2 r2 l2 (nI s) = some (upd (upd i 8 a) 7 b) := by
  rw [f_X4_goBehind, f_X5_bodyOf, ck_t (inb_nI hs (by omega)), bd_some, f_X5_behind, ck_t (inb_nI hs (by omega)), ck_t (inb_nI hs (by omega))]
  by_cases q : i 9 = 0
  · rw [if_pos q]; exact ⟨_, _, rfl⟩
  · rw [if_neg q]; exact ⟨_, _, rfl⟩
theorem count1_ok {c : Nat} {i : Nat → Int32} {r : Nat → Nat → Int32} (hc : c < 5000) (h11 : i 11 = nI c) : f_X4_countOne i r = some (upd i 11 (nI (c + 1))) := by
  rw [f_X4_countOne, h11, nI_1, if_pos (show nI (c + 1) ≤ (5000 : Int32) from nI_le (b := 5000) (by omega) (by omega))]
theorem count1_bad {i : Nat → Int32} {r : Nat → Nat → Int32} (h11 : i 11 = nI 5000) (h12 : i 12 = 0) : f_X4_countOne i r = some (upd (upd i 11 (nI 5001)) 12 3) := by
  rw [f_X4_countOne, h11, nI_1, if_neg (show ¬ nI (5000 + 1) ≤ (5000 : Int32) by decide), meet_f (by rw [pk_un (by omega)]; exact h12), bd_some]
theorem counts_ok {c : Nat} {mi : Nat → Int32} {mr : Nat → Nat → Int32} {ml : Nat → Nat → Int64} (hc : c < 5000) (h62 : mi 62 = nI c) (h61 : mi 61 = 0) : f_X13_counts mi mr ml = some (1, upd mi 62 (nI (c + 1))) := by
  rw [f_X13_counts, h62, nI_1, if_pos (show nI (c + 1) ≤ (5000 : Int32) from nI_le (b := 5000) (by omega) (by omega)), f_X13_counts_25, if_pos (by rw [pk_un (by omega)]; exact h61)]
theorem counts_bad {mi : Nat → Int32} {mr : Nat → Nat → Int32} {ml : Nat → Nat → Int64} (h62 : mi 62 = nI 5000) : f_X13_counts mi mr ml = some (0, upd (upd mi 62 (nI 5001)) 61 3) := by
  rw [f_X13_counts, h62, nI_1, if_neg (show ¬ nI (5000 + 1) ≤ (5000 : Int32) by decide), f_X13_counts_25, if_neg (by rw [pk_us]; decide)]
/-- how deep a body lies -/
def bl (lv : Nat → Nat) (y : Nat) : Nat := if y < 120 then lv (y / 2) + 1 else 0
/-- where both stand within a body -/
def AtB (n : Nat) (r2 : Nat → Nat → Int32) (y : Nat) (t : Int32) : Prop := t = -1 ∨ ∃ s, s < n ∧ t = nI s ∧ r2 1 s = nI y
theorem CW_nx {n : Nat} {lv : Nat → Nat} {r2 : Nat → Nat → Int32} (h : CW n lv r2) {s y dr : Nat} (hs : s < n) (hy : r2 1 s = nI y) (hb : y < 126) : AtB n r2 y (nx r2 s dr) := by
  obtain ⟨y', b1, b2, b3, b4, b5, b6, b7⟩ := h.1 s hs
  obtain rfl : y' = y := nI_inj (by omega) (by omega) (b2.symm.trans hy)
  unfold nx
  by_cases q : dr = 0
  · rw [if_pos q]
    rcases b6 with z | ⟨t, t1, t2, t3⟩
    · exact Or.inl z
    · exact Or.inr ⟨t, t1, t2, t3⟩
  · rw [if_neg q]
    rcases b7 with z | ⟨t, t1, t2, t3⟩
    · exact Or.inl z
    · exact Or.inr ⟨t, t1, t2, t3⟩
theorem CW_lev {n : Nat} {lv : Nat → Nat} {r2 : Nat → Nat → Int32} (h : CW n lv r2) {s y : Nat} (hs : s < n) (hy : r2 1 s = nI y) (hb : y < 126) : lv s = bl lv y ∧ lv s ≤ 6 := by
  obtain ⟨y', b1, b2, b3, b4, b5, b6, b7⟩ := h.1 s hs
  obtain rfl : y' = y := nI_inj (by omega) (by omega) (b2.symm.trans hy)
  unfold bl
  by_cases q : y' < 120
  · rw [if_pos q]; exact ⟨(b4 q).2, b3⟩
  · rw [if_neg q]; exact ⟨b5 (by omega), b3⟩
/-- a body's beginning, seen from where it runs -/
def st (r2 : Nat → Nat → Int32) (y dr : Nat) : Int32 := if dr = 0 then r2 9 y else r2 10 y
theorem CW_st {n : Nat} {lv : Nat → Nat} {r2 : Nat → Nat → Int32} (h : CW n lv r2) {y dr : Nat} (hb : y < 126) : AtB n r2 y (st r2 y dr) := by
  obtain ⟨b1, b2⟩ := h.2.1 y hb
  unfold st
  by_cases q : dr = 0
  · rw [if_pos q]
    rcases b1 with z | ⟨t, t1, t2, t3⟩
    · exact Or.inl z
    · exact Or.inr ⟨t, t1, t2, t3⟩
  · rw [if_neg q]
    rcases b2 with z | ⟨t, t1, t2, t3⟩
    · exact Or.inl z
    · exact Or.inr ⟨t, t1, t2, t3⟩
theorem enter_ok {i2 : Nat → Int32} {r2 : Nat → Nat → Int32} {l2 : Nat → Nat → Int64} {y dr : Nat} (hy : y < 126) (hd : dr ≤ 1) {i : Nat → Int32} {r : Nat → Nat → Int32} (h9 : i 9 = nI dr) : f_X4_enter i r i2 r2 l2 (nI y) = some (upd (upd i 8 (nI y)) 7 (st r2 y dr)) := by
  have cy : (nI y).toNatClampNeg = y := nI_clamp (by omega)
  rw [f_X4_enter, f_X5_startOf, ck_t (inb_nI hy (by omega)), ck_t (inb_nI hy (by omega)), cy, h9, st]
  rcases (show dr = 0 ∨ dr = 1 by omega) with rfl | rfl
  · rw [if_pos (show nI 0 = (0 : Int32) from rfl), if_pos rfl, bd_some]
  · rw [if_neg (show ¬ nI 1 = (0 : Int32) by decide), if_neg (show ¬ (1 : Nat) = 0 by omega), bd_some]
theorem enter_tot {i2 : Nat → Int32} {r2 : Nat → Nat → Int32} {l2 : Nat → Nat → Int64} {y : Nat} (hy : y < 126) (i : Nat → Int32) (r : Nat → Nat → Int32) : ∃ b, f_X4_enter i r i2 r2 l2 (nI y) = some (upd (upd i 8 (nI y)) 7 b) := by
  rw [f_X4_enter, f_X5_startOf, ck_t (inb_nI hy (by omega)), ck_t (inb_nI hy (by omega))]
  by_cases q : i 9 = 0
  · rw [if_pos q]; exact ⟨_, rfl⟩
  · rw [if_neg q]; exact ⟨_, rfl⟩
/-- bodies agree as long as 5001 - c is at most g -/
def BodyR (n : Nat) (lv : Nat → Nat) (i2 : Nat → Int32) (r2 : Nat → Nat → Int32) (l2 ml : Nat → Nat → Int64) (m0 : Nat → Nat → Int32) (g : Nat) : Prop := ∀ (d c cd dr y x fu : Nat) (t : Int32) (i : Nat → Int32) (r : Nat → Nat → Int32) (mi : Nat → Int32) (mr : Nat → Nat → Int32), 5001 ≤ c + g → c ≤ 5000 → cd ≤ 20 → dr ≤ 1 → y < 126 → AtB n r2 y t → (20 - cd) * 7 + 7 ≤ d + bl lv y → 5002 ≤ c + fu → x ≤ 2 * c → RS m0 c cd dr i r mi mr → i 7 = t → i 8 = nI y →
  (∃ c' x' i' r' mi' mr', c ≤ c' ∧ c' ≤ 5000 ∧ x' + 2 * c ≤ x + 2 * c' ∧ Lp i2 r2 l2 x i r = Lp i2 r2 l2 x' i' r' ∧ f_X13_goBody_11 (f_X13_goBody d) ml fu mi mr (nI dr) t = some (mi', mr') ∧ RS m0 c' cd dr i' r' mi' mr' ∧ i' 7 = -1 ∧ i' 8 = nI y ∧ FRc cd r r' ∧ mr' 59 = mr 59) ∨
  TR r mr (Lp i2 r2 l2 x i r) (f_X13_goBody_11 (f_X13_goBody d) ml fu mi mr (nI dr) t)
/-- one STEP agrees -/
def StepR (i2 : Nat → Int32) (r2 : Nat → Nat → Int32) (l2 ml : Nat → Nat → Int64) (m0 : Nat → Nat → Int32) (s d c cd dr y x : Nat) (i : Nat → Int32) (r : Nat → Nat → Int32) (mi : Nat → Int32) (mr : Nat → Nat → Int32) : Prop :=
  (∃ c' x' i' r' mi' mr', c < c' ∧ c' ≤ 5000 ∧ x' + 2 * c ≤ x + 2 * c' ∧ Lp i2 r2 l2 x i r = Lp i2 r2 l2 x' i' r' ∧ f_X13_goStep (f_X13_goBody d) mi mr ml (nI s) (nI dr) = some (mi', mr') ∧ RS m0 c' cd dr i' r' mi' mr' ∧ i' 7 = nx r2 s dr ∧ i' 8 = nI y ∧ FRc cd r r' ∧ mr' 59 = mr 59) ∨
  TR r mr (Lp i2 r2 l2 x i r) (f_X13_goStep (f_X13_goBody d) mi mr ml (nI s) (nI dr))
