/-! ===== least: a gate on a word of the class ===== -/
theorem zG_sh : ∀ g ∈ zG, (nI g &&& 1 = 0 ↔ g.testBit 0 = false) ∧ (nI g &&& 2 = 0 ↔ g.testBit 1 = false) ∧ (nI g &&& 4 = 0 ↔ g.testBit 2 = false) ∧ ((64 : Int32) ≤ nI g ↔ 64 ≤ g) ∧ (¬ 64 ≤ g → (nI g &&& 24) &&& 31 = nI (8 * (g / 8)) &&& 31) ∧ (64 ≤ g → (((nI g - 64) >>> (5 &&& 31)) <<< (3 &&& 31)) &&& 31 = nI (8 * ((g - 64) / 32)) &&& 31 ∧ (nI g &&& 24) &&& 31 = nI (8 * (g / 8 % 4)) &&& 31) := by decide
theorem zG_lt : ∀ g ∈ zG, g < 128 := by decide
def hd0 (g w : Nat) : Nat := if g.testBit 0 = false then 255 else 255 &&& w
def hd1 (g w : Nat) : Nat := if g.testBit 1 = false then hd0 g w else hd0 g w &&& (w / 2 ^ 8)
def hdN (g w : Nat) : Nat := if g.testBit 2 = false then hd1 g w else hd1 g w &&& (w / 2 ^ 16)
theorem hd_bit (g w j : Nat) : (hdN g w).testBit j = (decide (j < 8) && ((!g.testBit 0 || w.testBit j) && (!g.testBit 1 || w.testBit (8 + j)) && (!g.testBit 2 || w.testBit (16 + j)))) := by
  have h255 : (255 : Nat).testBit j = decide (j < 8) := Nat.testBit_two_pow_sub_one 8 j
  have e8 : (w / 2 ^ 8).testBit j = w.testBit (8 + j) := by rw [Nat.testBit_div_two_pow, Nat.add_comm]
  have e16 : (w / 2 ^ 16).testBit j = w.testBit (16 + j) := by rw [Nat.testBit_div_two_pow, Nat.add_comm]
  unfold hdN hd1 hd0
  obtain ⟨a, ea⟩ : ∃ a, a = w / 2 ^ 8 := ⟨_, rfl⟩
  obtain ⟨b, eb⟩ : ∃ b, b = w / 2 ^ 16 := ⟨_, rfl⟩
  rw [← ea] at e8 ⊢
  rw [← eb] at e16 ⊢
  cases g.testBit 0 <;> cases g.testBit 1 <;> cases g.testBit 2 <;> simp [Nat.testBit_and, h255, e8, e16, Bool.and_assoc]
theorem hd_lt (g w : Nat) : hdN g w < 256 := by
  refine Nat.lt_pow_two_of_testBit (n := 8) _ (fun i hi => ?_)
  rw [hd_bit, decide_eq_false (by omega)]
  rfl
theorem cOK_hd {g w o : Nat} (ho : o < 8) : (hdN g w).testBit o = cOK (g % 8) (vlW w o) := by
  rw [hd_bit, decide_eq_true ho, Bool.true_and]
  unfold cOK
  rw [vlW_bit _ _ (show 0 < 3 by omega), vlW_bit _ _ (show 1 < 3 by omega), vlW_bit _ _ (show 2 < 3 by omega), show (8 : Nat) = 2 ^ 3 from rfl, Nat.testBit_mod_two_pow, Nat.testBit_mod_two_pow, Nat.testBit_mod_two_pow]
  simp
theorem apV_turn {g x l : Nat} (h : ¬ 64 ≤ g) : (apV g x).testBit l = (x.testBit l ^^ (cOK (g % 8) x && decide (g / 8 = l))) := by
  unfold apV
  cases cOK (g % 8) x with
  | true => rw [if_pos rfl, if_neg h, Nat.testBit_xor, Nat.testBit_two_pow, Bool.true_and]
  | false => simp
theorem apV_swap {g x l : Nat} (h : 64 ≤ g) (hab : (g - 64) / 32 < g / 8 % 4) : (apV g x).testBit l = (x.testBit l ^^ ((cOK (g % 8) x && (x.testBit ((g - 64) / 32) ^^ x.testBit (g / 8 % 4))) && (decide ((g - 64) / 32 = l) || decide (g / 8 % 4 = l)))) := by
  unfold apV swV
  cases cOK (g % 8) x with
  | true =>
    rw [if_pos rfl, if_pos h]
    by_cases e : x.testBit ((g - 64) / 32) = x.testBit (g / 8 % 4)
    · rw [if_pos e, e]
      simp
    · rw [if_neg e, Nat.testBit_xor, Nat.testBit_xor, Nat.testBit_two_pow, Nat.testBit_two_pow]
      have bx : ∀ a b : Bool, ¬ a = b → (a ^^ b) = true := by decide
      have e2 : (x.testBit ((g - 64) / 32) ^^ x.testBit (g / 8 % 4)) = true := bx _ _ e
      rw [e2]
      by_cases q : (g - 64) / 32 = l
      · have q2 : ¬ g / 8 % 4 = l := by omega
        simp [q, q2]
      · by_cases q2 : g / 8 % 4 = l
        · simp [q, q2]
        · simp [q, q2]
  | false => simp
theorem shfB (h n i : Nat) : (h * 2 ^ n).testBit i = (decide (n ≤ i) && h.testBit (i - n)) := by
  rw [← Nat.shiftLeft_eq, Nat.testBit_shiftLeft]
theorem pw_bit (g w i : Nat) : (pwG g w).testBit i = (decide (i < 24) && (apV g (vlW w (i % 8))).testBit (i / 8)) := wdV_bit _ i
theorem big_bit {w i : Nat} (h : w < 2 ^ 24) (hi : 24 ≤ i) : w.testBit i = false := Nat.testBit_lt_two_pow (Nat.lt_of_lt_of_le h (Nat.pow_le_pow_right (by omega) hi))
theorem hd_big {g w j : Nat} (h : 8 ≤ j) : (hdN g w).testBit j = false := by rw [hd_bit, decide_eq_false (by omega)]; rfl
/-- the mask's bits, shifted to lane t -/
theorem sh_hd {h t i : Nat} (hb : ∀ j, 8 ≤ j → h.testBit j = false) : (decide (8 * t ≤ i) && h.testBit (i - 8 * t)) = (decide (t = i / 8) && h.testBit (i % 8)) := by
  by_cases q : t = i / 8
  · rw [decide_eq_true (show 8 * t ≤ i by omega), decide_eq_true q, show i - 8 * t = i % 8 by omega]
  · rw [decide_eq_false q, Bool.false_and]
    by_cases q2 : 8 * t ≤ i
    · rw [hb _ (by omega), Bool.and_false]
    · rw [decide_eq_false q2, Bool.false_and]
theorem pw_turn {g w : Nat} (hg : g ∈ zG) (h : ¬ 64 ≤ g) (hw : w < 2 ^ 24) : w ^^^ (hdN g w * 2 ^ (8 * (g / 8))) = pwG g w := by
  obtain ⟨h1, -⟩ := (zG_ok g hg).2 h
  apply Nat.eq_of_testBit_eq
  intro i
  rw [Nat.testBit_xor, shfB, pw_bit, sh_hd (fun j hj => hd_big hj)]
  by_cases q : i < 24
  · rw [decide_eq_true q, Bool.true_and, apV_turn h, cOK_hd (by omega), vlW_bit _ _ (by omega), show 8 * (i / 8) + i % 8 = i by omega, Bool.and_comm]
  · rw [decide_eq_false q, Bool.false_and, big_bit hw (by omega), decide_eq_false (by omega)]
    rfl
theorem pw_swap {g w : Nat} (hg : g ∈ zG) (h : 64 ≤ g) (hw : w < 2 ^ 24) : (w ^^^ (((w / 2 ^ (8 * ((g - 64) / 32)) ^^^ w / 2 ^ (8 * (g / 8 % 4))) &&& hdN g w) * 2 ^ (8 * ((g - 64) / 32)))) ^^^ (((w / 2 ^ (8 * ((g - 64) / 32)) ^^^ w / 2 ^ (8 * (g / 8 % 4))) &&& hdN g w) * 2 ^ (8 * (g / 8 % 4))) = pwG g w := by
  obtain ⟨h1, h2, -, -⟩ := (zG_ok g hg).1 h
  obtain ⟨u, eu⟩ : ∃ u, u = (w / 2 ^ (8 * ((g - 64) / 32)) ^^^ w / 2 ^ (8 * (g / 8 % 4))) &&& hdN g w := ⟨_, rfl⟩
  have ub : ∀ j, 8 ≤ j → u.testBit j = false := fun j hj => by rw [eu, Nat.testBit_and, hd_big hj, Bool.and_false]
  have uo : ∀ o, o < 8 → u.testBit o = (((vlW w o).testBit ((g - 64) / 32) ^^ (vlW w o).testBit (g / 8 % 4)) && cOK (g % 8) (vlW w o)) := fun o ho => by
    rw [eu, Nat.testBit_and, Nat.testBit_xor, cOK_hd ho, Nat.testBit_div_two_pow, Nat.testBit_div_two_pow, vlW_bit _ _ (by omega), vlW_bit _ _ h2, Nat.add_comm o, Nat.add_comm o]
  rw [← eu]
  apply Nat.eq_of_testBit_eq
  intro i
  rw [Nat.testBit_xor, Nat.testBit_xor, shfB, shfB, pw_bit, sh_hd ub, sh_hd ub]
  by_cases q : i < 24
  · rw [decide_eq_true q, Bool.true_and, apV_swap h h1, uo _ (by omega), vlW_bit _ _ (show i / 8 < 3 by omega), show 8 * (i / 8) + i % 8 = i by omega]
    by_cases z1 : (g - 64) / 32 = i / 8
    · have z2 : ¬ g / 8 % 4 = i / 8 := by omega
      rw [decide_eq_true z1, decide_eq_false z2]
      simp [Bool.and_comm]
    · by_cases z2 : g / 8 % 4 = i / 8
      · rw [decide_eq_true z2, decide_eq_false z1]
        simp [Bool.and_comm]
      · rw [decide_eq_false z1, decide_eq_false z2]
        simp
  · rw [decide_eq_false q, Bool.false_and, big_bit hw (by omega), decide_eq_false (by omega), decide_eq_false (by omega)]
    rfl
theorem pasw_ok {g w : Nat} (hg : g ∈ zG) (hw : w < 2 ^ 24) : f_X7_pass (nI g) (nI w) = some (nI (pwG g w)) := by
  obtain ⟨s0, s1, s2, s3, s4, s5⟩ := zG_sh g hg
  have e8 : nI w >>> (8 &&& 31) = nI (w / 2 ^ 8) := shr (a := 8) (by omega) (by omega)
  have e16 : nI w >>> (16 &&& 31) = nI (w / 2 ^ 16) := shr (a := 16) (by omega) (by omega)
  have a0 : f_X7_pass (nI g) (nI w) = f_X7_pass_14 (nI g) (nI w) (nI (hd0 g w)) := by
    rw [f_X7_pass]
    unfold hd0
    by_cases q : g.testBit 0 = false
    · rw [if_pos (s0.mpr q), if_pos q]; rfl
    · rw [if_neg (fun z => q (s0.mp z)), if_neg q, ← fa_and]; rfl
  have a1 : f_X7_pass_14 (nI g) (nI w) (nI (hd0 g w)) = f_X7_pass_27 (nI g) (nI w) (nI (hd1 g w)) := by
    rw [f_X7_pass_14, e8, fa_and]
    unfold hd1
    by_cases q : g.testBit 1 = false
    · rw [if_pos (s1.mpr q), if_pos q]
    · rw [if_neg (fun z => q (s1.mp z)), if_neg q]
  have a2 : f_X7_pass_27 (nI g) (nI w) (nI (hd1 g w)) = f_X7_pass_40 (nI g) (nI w) (nI (hdN g w)) := by
    rw [f_X7_pass_27, e16, fa_and]
    unfold hdN
    by_cases q : g.testBit 2 = false
    · rw [if_pos (s2.mpr q), if_pos q]
    · rw [if_neg (fun z => q (s2.mp z)), if_neg q]
  rw [a0, a1, a2, f_X7_pass_40]
  have hl := hd_lt g w
  have p8 : ∀ t, t < 3 → ∀ h, h < 256 → h * 2 ^ (8 * t) < 2 ^ 32 := fun t ht h hh => by
    have : 2 ^ (8 * t) ≤ 2 ^ 16 := Nat.pow_le_pow_right (by omega) (by omega)
    have h2 : h * 2 ^ (8 * t) ≤ 255 * 2 ^ 16 := Nat.mul_le_mul (by omega) this
    omega
  by_cases q : 64 ≤ g
  · obtain ⟨s6, s7⟩ := s5 q
    obtain ⟨h1, h2, -, -⟩ := (zG_ok g hg).1 q
    have hu : ((w / 2 ^ (8 * ((g - 64) / 32)) ^^^ w / 2 ^ (8 * (g / 8 % 4))) &&& hdN g w) < 256 := Nat.lt_of_le_of_lt Nat.and_le_right hl
    rw [if_pos (s3.mpr q), s6, s7, shr (by omega) (by omega), shr (by omega) (by omega), nx_xor, fa_and, pk_shlN _ (8 * ((g - 64) / 32)) (s_l _ (by omega)) (p8 _ (by omega) _ hu), pk_shlN _ (8 * (g / 8 % 4)) (s_l _ (by omega)) (p8 _ h2 _ hu), nx_xor, nx_xor, pw_swap hg q hw]
  · obtain ⟨h1, -⟩ := (zG_ok g hg).2 q
    rw [if_neg (fun z => q (s3.mp z)), s4 q, pk_shlN _ (8 * (g / 8)) (s_l _ (by omega)) (p8 _ h1 _ hl), nx_xor, pw_turn hg q hw]
