/-! ===== THE TAPE: feed, end, fault ===== -/
/-- n bytes: unsigned on the class's side, signed on the reference's -/
def BR (n : Nat) (f g : Nat → Int32) : Prop := ∀ k, k < n → ∃ b : Nat, b < 256 ∧ f k = nI b ∧ g k = (nI b).toInt8.toInt32
def GT (i : Nat → Int32) (r : Nat → Nat → Int32) (mi : Nat → Int32) (mr : Nat → Nat → Int32) : Prop := ∃ n : Nat, n ≤ 900 ∧ i 5 = nI n ∧ mi 2 = nI n ∧ BR n (r 0) (mr 1) ∧ i 10 = mi 8 ∧ i 11 = mi 9
theorem GT.congr {i i' : Nat → Int32} {r r' : Nat → Nat → Int32} {mi mi' : Nat → Int32} {mr mr' : Nat → Nat → Int32} (h : GT i r mi mr) (hi : i' = i) (hr : r' = r) (h2 : mi' 2 = mi 2) (h8 : mi' 8 = mi 8) (h9 : mi' 9 = mi 9) (h1 : mr' 1 = mr 1) : GT i' r' mi' mr' := by
  subst hi
  subst hr
  unfold GT at h ⊢
  rw [h2, h8, h9, h1]
  exact h
theorem BR.put {n : Nat} {f g : Nat → Int32} (h : BR n f g) {b : Nat} (hb : b < 256) : BR (n + 1) (upd f n (nI b)) (upd g n (nI b).toInt8.toInt32) := by
  intro k hk
  by_cases e : k = n
  · subst e
    exact ⟨b, hb, pk_us, pk_us⟩
  · obtain ⟨c, h1, h2, h3⟩ := h k (by omega)
    exact ⟨c, h1, by rw [pk_un e]; exact h2, by rw [pk_un e]; exact h3⟩
theorem BR.cut {n m : Nat} {f g : Nat → Int32} (h : BR n f g) (hm : m ≤ n) : BR m f g := fun k hk => h k (by omega)
theorem low8q (a b : Int32) (h : ∀ i, i < 8 → bq a i = bq b i) : a.toInt8 = b.toInt8 := low8 a b h
theorem byte_of (x : Int32) (m : Nat) (hm : m ≤ 24) : ∃ b : Nat, b < 256 ∧ ((x.toUInt32 >>> ((nI m).toUInt32 &&& Int32.toUInt32 31)).toInt32 &&& 255) = nI b ∧ vp_nar .byte ((x >>> (nI m &&& 31)).toInt8.toInt32) = (nI b).toInt8.toInt32 := by
  obtain ⟨b, hb, e⟩ := pk_andE ((x.toUInt32 >>> ((nI m).toUInt32 &&& Int32.toUInt32 31)).toInt32) (m := 255) 8 (by decide)
  refine ⟨b, hb, e, ?_⟩
  rw [pk_vb, ← e]
  congr 1
  rw [fa_byte_low]
  apply low8q
  intro i hi
  rw [b_sshr m (by omega) x (by omega), b_ushr m (by omega), if_pos (by omega)]
theorem tf_step {l : Nat → Nat → Int64} {n N m b : Nat} {i : Nat → Int32} {r : Nat → Nat → Int32} {x s : Int32} (hs : s = nI m) (hm : m ≤ 24) (hi : i 5 = nI N) (hN : N < 900) (hb : ((x.toUInt32 >>> ((nI m).toUInt32 &&& Int32.toUInt32 31)).toInt32 &&& 255) = nI b) : f_X9_takeFour_3 l (n + 1) i r x s = f_X9_takeFour_3 l n (upd i 5 (nI (N + 1))) (va_up r 0 (upd (r 0) N (nI b))) x (s + (-8)) := by
  rw [f_X9_takeFour_3, hs, if_neg (nI_pos (by omega)), hi, if_neg (show ¬ (900 : Int32) ≤ nI N from nI_ge (b := 900) hN (by omega)), ck_t (inb_nI hN (by omega)), nI_1, nI_clamp (by omega), hb]
theorem pf_step {l : Nat → Nat → Int64} {n N m b : Nat} {i : Nat → Int32} {r : Nat → Nat → Int32} {x s : Int32} (hs : s = nI m) (hm : m ≤ 24) (hi : i 2 = nI N) (hN : N < 900) (hb : vp_nar .byte ((x >>> (nI m &&& 31)).toInt8.toInt32) = (nI b).toInt8.toInt32) : f_X13_putFour_3 l (n + 1) i r x s = f_X13_putFour_3 l n (upd i 2 (nI (N + 1))) (va_up r 1 (upd (r 1) N (nI b).toInt8.toInt32)) x (s + (-8)) := by
  rw [f_X13_putFour_3, hs, if_neg (nI_pos (by omega)), hi, ck_t (inb_nI hN (by omega)), nI_1, nI_clamp (by omega), hb]
theorem four {l ml : Nat → Nat → Int64} {N : Nat} {i mi : Nat → Int32} {r mr : Nat → Nat → Int32} (x : Int32) (hi : i 5 = nI N) (hm : mi 2 = nI N) (hN : N + 4 ≤ 900) (hb : BR N (r 0) (mr 1)) : ∃ i' r' mi' mr', f_X9_takeFour i r l x = some (i', r') ∧ f_X13_putFour mi mr ml x = some (mi', mr') ∧ i' 5 = nI (N + 4) ∧ mi' 2 = nI (N + 4) ∧ BR (N + 4) (r' 0) (mr' 1) ∧ (∀ k, k ≠ 5 → i' k = i k) := by
  obtain ⟨b0, h0, c0, d0⟩ := byte_of x 24 (by omega)
  obtain ⟨b1, h1, c1, d1⟩ := byte_of x 16 (by omega)
  obtain ⟨b2, h2, c2, d2⟩ := byte_of x 8 (by omega)
  obtain ⟨b3, h3, c3, d3⟩ := byte_of x 0 (by omega)
  have s1 : (24 : Int32) + (-8) = nI 16 := by decide
  have s2 : nI 16 + (-8) = nI 8 := by decide
  have s3 : nI 8 + (-8) = nI 0 := by decide
  have s4 : nI 0 + (-8) < 0 := by decide
  have A : f_X9_takeFour i r l x = some ((upd (upd (upd (upd i 5 (nI (N + 1))) 5 (nI (N + 1 + 1))) 5 (nI (N + 1 + 1 + 1))) 5 (nI (N + 1 + 1 + 1 + 1))), (va_up (va_up (va_up (va_up r 0 (upd (r 0) (N) (nI b0))) 0 (upd ((va_up r 0 (upd (r 0) (N) (nI b0))) 0) (N + 1) (nI b1))) 0 (upd ((va_up (va_up r 0 (upd (r 0) (N) (nI b0))) 0 (upd ((va_up r 0 (upd (r 0) (N) (nI b0))) 0) (N + 1) (nI b1))) 0) (N + 1 + 1) (nI b2))) 0 (upd ((va_up (va_up (va_up r 0 (upd (r 0) (N) (nI b0))) 0 (upd ((va_up r 0 (upd (r 0) (N) (nI b0))) 0) (N + 1) (nI b1))) 0 (upd ((va_up (va_up r 0 (upd (r 0) (N) (nI b0))) 0 (upd ((va_up r 0 (upd (r 0) (N) (nI b0))) 0) (N + 1) (nI b1))) 0) (N + 1 + 1) (nI b2))) 0) (N + 1 + 1 + 1) (nI b3)))) := by
    rw [f_X9_takeFour, show (2000000 : Nat) = 1999995 + 1 + 1 + 1 + 1 + 1 from rfl, tf_step (m := 24) (s := 24) rfl (by omega) hi (by omega) c0, s1, tf_step (m := 16) (N := N + 1) rfl (by omega) pk_us (by omega) c1, s2, tf_step (m := 8) (N := N + 1 + 1) rfl (by omega) pk_us (by omega) c2, s3, tf_step (m := 0) (N := N + 1 + 1 + 1) rfl (by omega) pk_us (by omega) c3, f_X9_takeFour_3, if_pos s4]
  have B : f_X13_putFour mi mr ml x = some ((upd (upd (upd (upd mi 2 (nI (N + 1))) 2 (nI (N + 1 + 1))) 2 (nI (N + 1 + 1 + 1))) 2 (nI (N + 1 + 1 + 1 + 1))), (va_up (va_up (va_up (va_up mr 1 (upd (mr 1) (N) (nI b0).toInt8.toInt32)) 1 (upd ((va_up mr 1 (upd (mr 1) (N) (nI b0).toInt8.toInt32)) 1) (N + 1) (nI b1).toInt8.toInt32)) 1 (upd ((va_up (va_up mr 1 (upd (mr 1) (N) (nI b0).toInt8.toInt32)) 1 (upd ((va_up mr 1 (upd (mr 1) (N) (nI b0).toInt8.toInt32)) 1) (N + 1) (nI b1).toInt8.toInt32)) 1) (N + 1 + 1) (nI b2).toInt8.toInt32)) 1 (upd ((va_up (va_up (va_up mr 1 (upd (mr 1) (N) (nI b0).toInt8.toInt32)) 1 (upd ((va_up mr 1 (upd (mr 1) (N) (nI b0).toInt8.toInt32)) 1) (N + 1) (nI b1).toInt8.toInt32)) 1 (upd ((va_up (va_up mr 1 (upd (mr 1) (N) (nI b0).toInt8.toInt32)) 1 (upd ((va_up mr 1 (upd (mr 1) (N) (nI b0).toInt8.toInt32)) 1) (N + 1) (nI b1).toInt8.toInt32)) 1) (N + 1 + 1) (nI b2).toInt8.toInt32)) 1) (N + 1 + 1 + 1) (nI b3).toInt8.toInt32))) := by
    rw [f_X13_putFour, show (2000000 : Nat) = 1999995 + 1 + 1 + 1 + 1 + 1 from rfl, pf_step (m := 24) (s := 24) rfl (by omega) hm (by omega) d0, s1, pf_step (m := 16) (N := N + 1) rfl (by omega) pk_us (by omega) d1, s2, pf_step (m := 8) (N := N + 1 + 1) rfl (by omega) pk_us (by omega) d2, s3, pf_step (m := 0) (N := N + 1 + 1 + 1) rfl (by omega) pk_us (by omega) d3, f_X13_putFour_3, if_pos s4]
  refine ⟨_, _, _, _, A, B, pk_us, pk_us, ?_, ?_⟩
  · simp only [up_s]
    exact (((hb.put h0).put h1).put h2).put h3
  · intro k hk
    simp only [pk_un hk]
theorem feed_ok {l ml : Nat → Nat → Int64} {i mi : Nat → Int32} {r mr : Nat → Nat → Int32} (h : GT i r mi mr) (x1 x2 x3 x4 x5 : Int32) : ∃ q m, f_X11_feed i r l x1 x2 x3 x4 x5 = some q ∧ f_X13_feed mi mr ml x1 x2 x3 x4 x5 = some m ∧ q.1 = m.1 ∧ GT q.2.1 q.2.2 m.2.1 m.2.2 := by
  obtain ⟨N, hN, hi, hm, hb, h8, h9⟩ := h
  have e20 : nI N + 20 = nI (N + 20) := nI_add N 20
  by_cases hc : N + 20 ≤ 900
  · obtain ⟨i1, r1, m1, s1, a1, b1, c1, d1, e1, k1⟩ := four (l := l) (ml := ml) x1 hi hm (by omega) hb
    obtain ⟨i2, r2, m2, s2, a2, b2, c2, d2, e2, k2⟩ := four (l := l) (ml := ml) x2 c1 d1 (by omega) e1
    obtain ⟨i3, r3, m3, s3, a3, b3, c3, d3, e3, k3⟩ := four (l := l) (ml := ml) x3 c2 d2 (by omega) e2
    obtain ⟨i4, r4, m4, s4, a4, b4, c4, d4, e4, k4⟩ := four (l := l) (ml := ml) x4 c3 d3 (by omega) e3
    obtain ⟨i5, r5, m5, s5, a5, b5, c5, d5, e5, k5⟩ := four (l := l) (ml := ml) x5 c4 d4 (by omega) e4
    have A : f_X11_feed i r l x1 x2 x3 x4 x5 = some (i5 5, i5, r5) := by
      rw [f_X11_feed, f_X9_take, hi, e20, if_pos (show nI (N + 20) ≤ (900 : Int32) from nI_le (b := 900) hc (by omega))]
      simp only [a1, a2, a3, a4, a5, bd_some]
    have B : f_X13_feed mi mr ml x1 x2 x3 x4 x5 = some (m5 2, m5, s5) := by
      rw [f_X13_feed, hm, e20, if_pos (show nI (N + 20) ≤ (900 : Int32) from nI_le (b := 900) hc (by omega))]
      simp only [b1, b2, b3, b4, b5, bd_some]
    have F := fr_X13_feed B
    refine ⟨_, _, A, B, c5.trans d5.symm, N + 4 + 4 + 4 + 4 + 4, by omega, c5, d5, e5, ?_, ?_⟩
    · rw [F.1 8 (by omega), ← h8]
      show i5 10 = i 10
      rw [k5 10 (by omega), k4 10 (by omega), k3 10 (by omega), k2 10 (by omega), k1 10 (by omega)]
    · rw [F.1 9 (by omega), ← h9]
      show i5 11 = i 11
      rw [k5 11 (by omega), k4 11 (by omega), k3 11 (by omega), k2 11 (by omega), k1 11 (by omega)]
  · have A : f_X11_feed i r l x1 x2 x3 x4 x5 = some (-3, i, r) := by
      rw [f_X11_feed, f_X9_take, hi, e20, if_neg (show ¬ nI (N + 20) ≤ (900 : Int32) from nI_ge (a := 900) (by omega) (by omega))]
      rfl
    have B : f_X13_feed mi mr ml x1 x2 x3 x4 x5 = some (-3, mi, mr) := by
      rw [f_X13_feed, hm, e20, if_neg (show ¬ nI (N + 20) ≤ (900 : Int32) from nI_ge (a := 900) (by omega) (by omega))]
    exact ⟨_, _, A, B, rfl, N, hN, hi, hm, hb, h8, h9⟩
theorem z32 : (0 : Int32).toInt = 0 := by decide
theorem z64 : (0 : Int64).toInt = 0 := by decide
theorem end_ok {l ml : Nat → Nat → Int64} {i mi : Nat → Int32} {r mr : Nat → Nat → Int32} (h : GT i r mi mr) (x1 : Int32) : ∃ q m, f_X11_end i r l x1 = some q ∧ f_X13_end mi mr ml x1 = some m ∧ q.1 = m.1 ∧ GT q.2 r m.2 mr := by
  obtain ⟨N, hN, hi, hm, hb, h8, h9⟩ := h
  by_cases hc : 0 ≤ x1.toInt ∧ x1.toInt ≤ N
  · obtain ⟨n, hn, hx, hn2⟩ := nI_ofI hc.1
    have A : f_X11_end i r l x1 = some (x1, upd i 5 x1) := by
      rw [f_X11_end, f_X9_cutTo, if_neg (by rw [lt32, z32]; omega), hi, if_pos (by rw [le32, nI_toInt (by omega)]; omega)]
      rfl
    have B : f_X13_end mi mr ml x1 = some (x1, upd mi 2 x1) := by
      rw [f_X13_end, f_in, bd_some, i2l_toInt, i2l_toInt, z64, hm, nI_toInt (by omega), if_pos hc]
      rfl
    refine ⟨_, _, A, B, rfl, n, by omega, ?_, ?_, hb.cut (by omega), ?_, ?_⟩
    · show upd i 5 x1 5 = _
      rw [pk_us, hx]
    · show upd mi 2 x1 2 = _
      rw [pk_us, hx]
    · show upd i 5 x1 10 = upd mi 2 x1 8
      rw [pk_un (by omega), pk_un (by omega), h8]
    · show upd i 5 x1 11 = upd mi 2 x1 9
      rw [pk_un (by omega), pk_un (by omega), h9]
  · have A : f_X11_end i r l x1 = some (-1, i) := by
      rw [f_X11_end, f_X9_cutTo]
      by_cases h1 : x1 < 0
      · rw [if_pos h1]; rfl
      · rw [if_neg h1, hi, if_neg (by rw [le32, nI_toInt (by omega)]; rw [lt32, z32] at h1; omega)]; rfl
    have B : f_X13_end mi mr ml x1 = some (-1, mi) := by
      rw [f_X13_end, f_in, bd_some, i2l_toInt, i2l_toInt, z64, hm, nI_toInt (by omega), if_neg hc]
      rfl
    exact ⟨_, _, A, B, rfl, N, hN, hi, hm, hb, h8, h9⟩
theorem fault_ok {l ml : Nat → Nat → Int64} {i mi : Nat → Int32} {r mr : Nat → Nat → Int32} (h : GT i r mi mr) (x1 : Int32) : ∃ q m, f_X11_fault i r l x1 = some q ∧ f_X13_fault mi mr ml x1 = some m ∧ q = m := by
  obtain ⟨N, hN, hi, hm, hb, h8, h9⟩ := h
  rw [f_X11_fault, f_X13_fault]
  by_cases h0 : x1 = 0
  · rw [if_pos h0, if_pos h0]
    exact ⟨_, _, rfl, rfl, h8⟩
  · rw [if_neg h0, if_neg h0]
    by_cases h1 : x1 = 1
    · rw [if_pos h1, if_pos h1]
      exact ⟨_, _, rfl, rfl, h9⟩
    · rw [if_neg h1, if_neg h1]
      exact ⟨_, _, rfl, rfl, rfl⟩
