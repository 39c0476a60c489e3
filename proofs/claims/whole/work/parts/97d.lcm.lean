/-! ===== order: the numbers ===== -/
theorem lgc0 : lg_cmp (lN 0) 0 = 0 := by decide
theorem lgc1 {y : Nat} (h0 : 0 < y) (h : y < 2 ^ 63) : lg_cmp (lN y) 0 = 1 := by
  unfold lg_cmp
  rw [if_pos]
  rw [gt_iff_lt]
  exact (pk_lLT (a := 0) (by omega) h).mpr h0
theorem nzl_t {y : Nat} (h0 : 0 < y) (h : y < 2 ^ 63) : nzl (lN y) = true := by
  unfold nzl
  apply decide_eq_true
  intro e
  have := (pk_lEQ (a := y) (b := 0) h (by omega)).mp e
  omega
theorem gcd_stp {x y : Nat} : Nat.gcd y (x % y) = Nat.gcd x y := by
  rw [Nat.gcd_comm y (x % y), ← Nat.gcd_rec, Nat.gcd_comm]
theorem common_go : ∀ (n x y : Nat), x < 2 ^ 63 → y < 2 ^ 63 → y < n → f_X13_common_6 n (lN x) (lN y) = some (lN (Nat.gcd x y))
  | 0, _, _, _, _, h => absurd h (by omega)
  | n + 1, x, y, hx, hy, hn => by
    rw [f_X13_common_6]
    by_cases e : y = 0
    · subst e
      rw [lgc0, if_pos rfl, Nat.gcd_zero_right]
    · have hm : x % y < y := Nat.mod_lt _ (by omega)
      rw [lgc1 (by omega) hy, if_neg n10, ck_t (nzl_t (by omega) hy), pk_lRem hx (by omega) hy, common_go n y (x % y) hy (by omega) (by omega), gcd_stp]
theorem common_ok {x y : Nat} (hx : x < 2 ^ 63) (hy : y < 2000000) : f_X13_common (lN x) (lN y) = some (lN (Nat.gcd x y)) := by
  rw [f_X13_common]
  exact common_go 2000000 x y hx (by omega) hy
theorem gc45 {x : Nat} (h0 : 0 < x) (h : x < 2 ^ 63) : f_X8_greatestCommon_45 (lN x) = some (lN x) := by
  rw [f_X8_greatestCommon_45, lgc1 h0 h, if_neg (by decide)]
theorem mod_half {y z : Nat} (hz : 0 < z) (hzy : z < y) : 2 * (y % z) < y := by
  by_cases h : 2 * z ≤ y
  · have := Nat.mod_lt y hz
    omega
  · have h1 : y % z = y - z := by
      rw [Nat.mod_eq_sub_mod (by omega), Nat.mod_eq_of_lt (by omega)]
    omega
theorem gc_go : ∀ (b n x y c : Nat), 0 < x → x < 2 ^ 63 → y < 2 ^ 63 → y < 2 ^ b → c + 2 * b < 200 → 2 * b < n → f_X8_greatestCommon_9 n (lN x) (lN y) (nI c) = some (lN (Nat.gcd x y)) := by
  intro b
  induction b with
  | zero =>
    intro n x y c h0 hx hy hb hc hn
    obtain ⟨m, rfl⟩ : ∃ m, n = m + 1 := ⟨n - 1, by omega⟩
    have e : y = 0 := by
      rw [Nat.pow_zero] at hb
      omega
    subst e
    rw [f_X8_greatestCommon_9, if_neg (show ¬ (200 : Int32) ≤ nI c from nI_ge (b := 200) (by omega) (by omega)), lgc0, if_pos (by decide), gc45 h0 hx, Nat.gcd_zero_right]
  | succ b ih =>
    intro n x y c h0 hx hy hb hc hn
    obtain ⟨m, rfl⟩ : ∃ m, n = m + 1 := ⟨n - 1, by omega⟩
    rw [f_X8_greatestCommon_9, if_neg (show ¬ (200 : Int32) ≤ nI c from nI_ge (b := 200) (by omega) (by omega))]
    by_cases e : y = 0
    · subst e
      rw [lgc0, if_pos (by decide), gc45 h0 hx, Nat.gcd_zero_right]
    · have hm : x % y < y := Nat.mod_lt _ (by omega)
      rw [lgc1 (by omega) hy, if_neg (show ¬ (1 : Int32) ≤ 0 by decide), ck_t (nzl_t (by omega) hy), pk_lRem hx (by omega) hy, nI_1]
      obtain ⟨k, rfl⟩ : ∃ k, m = k + 1 := ⟨m - 1, by omega⟩
      rw [f_X8_greatestCommon_9, if_neg (show ¬ (200 : Int32) ≤ nI (c + 1) from nI_ge (b := 200) (by omega) (by omega))]
      by_cases e2 : x % y = 0
      · rw [e2, lgc0, if_pos (by decide), gc45 (by omega) hy]
        have h9 := gcd_stp (x := x) (y := y)
        rw [e2, Nat.gcd_zero_right] at h9
        rw [← h9]
      · have hh := mod_half (y := y) (z := x % y) (by omega) hm
        have hp : 2 ^ (b + 1) = 2 * 2 ^ b := by rw [Nat.pow_succ]; omega
        rw [lgc1 (by omega) (by omega), if_neg (show ¬ (1 : Int32) ≤ 0 by decide), ck_t (nzl_t (by omega) (by omega)), pk_lRem hy (by omega) (by omega), nI_1, ih k (x % y) (y % (x % y)) (c + 1 + 1) (by omega) (by omega) (by omega) (by omega) (by omega) (by omega), gcd_stp, gcd_stp]
theorem gc_ok {x y : Nat} (h0 : 0 < x) (hx : x < 2 ^ 63) (hy : y < 512) : f_X8_greatestCommon (lN x) (lN y) = some (lN (Nat.gcd x y)) := by
  rw [f_X8_greatestCommon]
  exact gc_go 9 2000000 x y 0 h0 hx (by omega) (by omega) (by omega) (by omega)
theorem lcm_eq (a c : Nat) (ha : 0 < a) : a / Nat.gcd a c * c = Nat.lcm a c := by
  unfold Nat.lcm
  have hg : 0 < Nat.gcd a c := Nat.gcd_pos_of_pos_left c ha
  obtain ⟨k, hk⟩ := Nat.gcd_dvd_left a c
  have h1 : a / Nat.gcd a c = k := Nat.div_eq_of_eq_mul_right hg hk
  have h2 : a * c = Nat.gcd a c * (k * c) := by
    rw [← Nat.mul_assoc, ← hk]
  rw [h1, h2, Nat.mul_div_cancel_left _ hg]
/-! how great a common multiple of cycles' lengths can be -/
def wc (c : Nat) : Nat := c / Nat.gcd c 6
def prW : List Nat → Nat
  | [] => 1
  | c :: t => wc c * prW t
def smN : List Nat → Nat
  | [] => 0
  | c :: t => c + smN t
def Ac (c : Nat) : Nat := wc c ^ 6 / 2 ^ c + 1
def prA : List Nat → Nat
  | [] => 1
  | c :: t => Ac c * prA t
def PA : Nat → Nat
  | 0 => 1
  | n + 1 => Ac n * PA n
theorem Ac_pos (c : Nat) : 1 ≤ Ac c := Nat.le_add_left 1 _
theorem wc_le (c : Nat) : wc c ^ 6 ≤ 2 ^ c * Ac c := by
  unfold Ac
  have := Nat.lt_mul_div_succ (wc c ^ 6) (Nat.pow_pos (n := c) (show 0 < 2 by omega))
  omega
theorem prW_le : ∀ (D : List Nat), prW D ^ 6 ≤ 2 ^ smN D * prA D
  | [] => by decide
  | c :: t => by
    show (wc c * prW t) ^ 6 ≤ 2 ^ (c + smN t) * (Ac c * prA t)
    rw [Nat.mul_pow, Nat.pow_add]
    have h1 := Nat.mul_le_mul (wc_le c) (prW_le t)
    have h2 : 2 ^ c * 2 ^ smN t * (Ac c * prA t) = 2 ^ c * Ac c * (2 ^ smN t * prA t) := by
      rw [Nat.mul_assoc, Nat.mul_left_comm (2 ^ smN t), ← Nat.mul_assoc]
    rw [h2]
    exact h1
theorem prA_erase {D : List Nat} {c : Nat} (h : c ∈ D) : prA D = Ac c * prA (D.erase c) := by
  induction D with
  | nil => cases h
  | cons a t ih =>
    by_cases e : a = c
    · subst e
      rw [List.erase_cons_head]
      rfl
    · have h2 : c ∈ t := by
        rcases List.mem_cons.mp h with h3 | h3
        · exact absurd h3.symm e
        · exact h3
      rw [List.erase_cons_tail (by simpa using e)]
      show Ac a * prA t = Ac c * (Ac a * prA (t.erase c))
      rw [ih h2, Nat.mul_left_comm]
theorem prA_le : ∀ (n : Nat) (D : List Nat), D.Nodup → (∀ c ∈ D, c < n) → prA D ≤ PA n
  | 0, D, _, h => by
    cases D with
    | nil => exact Nat.le_refl _
    | cons a t => exact absurd (h a List.mem_cons_self) (by omega)
  | n + 1, D, hd, h => by
    by_cases hm : n ∈ D
    · rw [prA_erase hm]
      exact Nat.mul_le_mul_left _ (prA_le n (D.erase n) (hd.erase n) (fun c hc => by
        have h1 := (List.Nodup.mem_erase_iff hd).mp hc
        have := h c h1.2
        omega))
    · have h1 := prA_le n D hd (fun c hc => by
        have := h c hc
        have h3 : c ≠ n := fun e => hm (e ▸ hc)
        omega)
      show prA D ≤ Ac n * PA n
      calc prA D ≤ PA n := h1
        _ = 1 * PA n := (Nat.one_mul _).symm
        _ ≤ Ac n * PA n := Nat.mul_le_mul_right _ (Ac_pos n)
theorem PA_num : 2 ^ 256 * PA 257 * 6 ^ 6 < (2 ^ 63) ^ 6 := by decide +kernel
theorem B_lt {D : List Nat} (hd : D.Nodup) (hs : smN D ≤ 256) : 6 * prW D < 2 ^ 63 := by
  have hc : ∀ c ∈ D, c < 257 := by
    intro c hc
    have : ∀ (D : List Nat), c ∈ D → c ≤ smN D := by
      intro D
      induction D with
      | nil => intro h; cases h
      | cons a t ih =>
        intro h
        show c ≤ a + smN t
        rcases List.mem_cons.mp h with h1 | h1
        · omega
        · have := ih h1
          omega
    have := this D hc
    omega
  have h1 := prW_le D
  have h2 := prA_le 257 D hd hc
  have h3 : 2 ^ smN D * prA D ≤ 2 ^ 256 * PA 257 := Nat.mul_le_mul (Nat.pow_le_pow_right (by omega) hs) h2
  have h4 : (6 * prW D) ^ 6 < (2 ^ 63) ^ 6 := by
    rw [Nat.mul_pow, Nat.mul_comm]
    exact Nat.lt_of_le_of_lt (Nat.mul_le_mul_right _ (Nat.le_trans h1 h3)) PA_num
  exact Nat.lt_of_not_le fun h => Nat.lt_irrefl _ (Nat.lt_of_lt_of_le h4 (Nat.pow_le_pow_left h 6))
theorem wc_dvd (c : Nat) : c ∣ 6 * wc c := by
  unfold wc
  obtain ⟨k, hk⟩ := Nat.gcd_dvd_left c 6
  obtain ⟨m, hm⟩ := Nat.gcd_dvd_right c 6
  by_cases h0 : Nat.gcd c 6 = 0
  · have := Nat.eq_zero_of_gcd_eq_zero_right h0
    omega
  · have h1 : c / Nat.gcd c 6 = k := Nat.div_eq_of_eq_mul_right (by omega) hk
    rw [h1]
    refine ⟨m, ?_⟩
    calc 6 * k = Nat.gcd c 6 * m * k := by rw [← hm]
      _ = Nat.gcd c 6 * k * m := by rw [Nat.mul_assoc, Nat.mul_comm m k, ← Nat.mul_assoc]
      _ = c * m := by rw [← hk]
theorem B_new (c : Nat) (D : List Nat) : c ∣ 6 * prW (c :: D) := by
  show c ∣ 6 * (wc c * prW D)
  rw [← Nat.mul_assoc]
  exact Nat.dvd_trans (wc_dvd c) (Nat.dvd_mul_right _ _)
theorem B_old {a c : Nat} {D : List Nat} (h : a ∣ 6 * prW D) : a ∣ 6 * prW (c :: D) := by
  show a ∣ 6 * (wc c * prW D)
  rw [Nat.mul_left_comm]
  exact Nat.dvd_trans h (Nat.dvd_mul_left _ _)
theorem wc_pos {c : Nat} (h : 0 < c) : 0 < wc c := by
  unfold wc
  exact Nat.div_pos (Nat.le_of_dvd h (Nat.gcd_dvd_left c 6)) (Nat.gcd_pos_of_pos_left 6 h)
theorem prW_pos : ∀ {D : List Nat}, (∀ c ∈ D, 0 < c) → 0 < prW D
  | [], _ => by decide
  | c :: t, h => Nat.mul_pos (wc_pos (h c List.mem_cons_self)) (prW_pos (fun x hx => h x (List.mem_cons_of_mem _ hx)))
