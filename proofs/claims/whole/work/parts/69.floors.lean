/-! MarbleFloor.step(III)I -/
abbrev wlX11_step : List Cond := Cond.code yX11_step cX11_step 4 (some .int) :: tbG
abbrev rmX11_step : Room := { frames := 1, cells := 0, slots := 0, locals := 22 }
theorem qnX11_step : yX11_step.cls = RX11 ∧ yX11_step.cls ≠ "java/lang/invoke/MethodHandle" ∧ yX11_step.cls ≠ "java/lang/invoke/VarHandle" ∧ (parseMethodDescriptor yX11_step.desc).map (fun d => d.parameters.length) = some 3 := by decide +kernel
def f_X11_step  (p1 : Nat → Nat → Int32) (s1 : Nat → Nat → Nat → Int32) (x1 : Int32) (x2 : Int32) (x3 : Int32) : Option (Int32) := bd (f_X11_noFloor x1) (fun q4 => if q4 = 0 then (ck (inb x1 6) (bd (f_X2_tell (p1 x1.toNatClampNeg) (s1 x1.toNatClampNeg) x2 x3) (fun q6 => some (q6)))) else (some ((-1))))
set_option maxRecDepth 100000 in
set_option maxHeartbeats 4000000 in
theorem c_X11_step {l : Launch} {D : va_G} {cs zs : Nat → Nat} {h0 : Nat} {a0 : Nat → Nat} {fl1 : Nat → Nat} {a1 : Nat → Nat → Nat} {p1 : Nat → Nat → Int32} {s1 : Nat → Nat → Nat → Int32} {x1 : Int32} {x2 : Int32} {x3 : Int32} {q : Int32} (hf : f_X11_step p1 s1 x1 x2 x3 = some q) : Mi l yX11_step wlX11_step rmX11_step D cs zs [.ref h0, .int x1, .int x2, .int x3] (W11 cs h0 a0  ++ ([va_ar cs (a0 1) fl1] ++ FO cs fl1 a1 p1 s1 (List.range 6))) q (W11 cs h0 a0  ++ ([va_ar cs (a0 1) fl1] ++ FO cs fl1 a1 p1 s1 (List.range 6))) := by
  refine Mi.of RX11 (by decide) rfl (Nat.le_of_ble_eq_true rfl) (fun p e s m below meth c A C hP hD hS ls hl => ?_)
  generalize ([.ref h0, .int x1, .int x2, .int x3] : List Value).toArray = args at C ⊢
  obtain ⟨hx, hb, hr, hml, hown, hts, hK, hA, hlocks, hZ⟩ := id C
  have hl : lv_has ls 4 [(0, .ref h0), (1, .int x1), (2, .int x2), (3, .int x3)] := hl
  rw [f_X11_step] at hf
  refine lv_iload_n hx hb dX11_step_0 rfl (lv_at hl 1 rfl) ?_
  obtain ⟨q4, hq4, hf⟩ := bd_s hf
  refine k_eSi (As := [.int x1]) (rest := []) hx hb hml hown hts hK hA hZ hl.1 hP hD hS (c_X11_noFloor  hq4) (gSt mlX11_107 stX11_noFloor inX11 coX11_noFloor) rfl qnX11_noFloor rfl rfl ⟨Nat.le_of_ble_eq_true rfl, Nat.le_of_ble_eq_true rfl⟩ rfl rfl (Nat.le_of_ble_eq_true rfl) ⟨Nat.zero_le _, Nat.zero_le _⟩ dX11_step_1 (fun H locs hP hD hS => ?_)
  refine lv_if_eq (tgt := 11) hx hb dX11_step_4 (by decide) (fun hc => ?_) (fun hc => ?_)
  · have hf := ite_t hf hc
    refine lv_aload_n hx hb dX11_step_11 rfl (lv_at hl 0 rfl) ?_
    refine va_get (D := D) (ci := 11) (v := .ref (a0 1)) (C := RX11) (T := TX11) (N := 13) hx hb hts hiX11 hown hK hP 0 rfl rfl 1 (by decide) (hts _ flX11_18) (fun _ h9 => h9) rfl dX11_step_12 ?_
    refine lv_iload_n hx hb dX11_step_15 rfl (lv_at hl 1 rfl) ?_
    have hj5 := inb_lt (ck_in hf)
    refine k_aald (f := fun j => fl1 j) (j := x1.toNatClampNeg) hx hb hK hP 1 4 rfl rfl rfl (ck_in hf) rfl dX11_step_16 ?_
    have hf := ck_2 hf
    refine lv_iload_n hx hb dX11_step_17 rfl (lv_at hl 2 rfl) ?_
    refine lv_iload_n hx hb dX11_step_18 rfl (lv_at hl 3 rfl) ?_
    obtain ⟨q6, hq6, hf⟩ := bd_s hf
    refine k_fVi (ws2 := W11 cs h0 a0  ++ ([va_ar cs (a0 1) fl1] ++ FO cs fl1 a1 p1 s1 (List.range 6))) (As := [.int x2, .int x3]) (rest := []) hx hb hml hown hts hK hA hZ hl.1 hP hD hS (c_X2_tell (h0 := fl1 x1.toNatClampNeg) (a0 := a1 x1.toNatClampNeg) hq6) (gVt mlX11_128 imX2_tell seX2_tell inX2 coX2_tell) rfl qnX2_tell rfl rfl ⟨Nat.le_of_ble_eq_true rfl, Nat.le_of_ble_eq_true rfl⟩ (bp (l := [W11 cs h0 a0 , [va_ar cs (a0 1) fl1]]) (lc := [W2 cs (fl1 x1.toNatClampNeg) (a1 x1.toNatClampNeg) (p1 x1.toNatClampNeg) (s1 x1.toNatClampNeg)]) (lr := [W11 cs h0 a0 , [va_ar cs (a0 1) fl1], FO cs fl1 a1 p1 s1 ((List.range 6).erase x1.toNatClampNeg)]) [W2 cs (fl1 x1.toNatClampNeg) (a1 x1.toNatClampNeg) (p1 x1.toNatClampNeg) (s1 x1.toNatClampNeg), FO cs fl1 a1 p1 s1 ((List.range 6).erase x1.toNatClampNeg)] (foc hj5) [2, 0, 1, 3] rfl rfl) (bp (l := [W11 cs h0 a0 , [va_ar cs (a0 1) fl1]]) (lc := [W2 cs (fl1 x1.toNatClampNeg) (a1 x1.toNatClampNeg) (p1 x1.toNatClampNeg) (s1 x1.toNatClampNeg)]) (lr := [W11 cs h0 a0 , [va_ar cs (a0 1) fl1], FO cs fl1 a1 p1 s1 ((List.range 6).erase x1.toNatClampNeg)]) [W2 cs (fl1 x1.toNatClampNeg) (a1 x1.toNatClampNeg) (p1 x1.toNatClampNeg) (s1 x1.toNatClampNeg), FO cs fl1 a1 p1 s1 ((List.range 6).erase x1.toNatClampNeg)] (foc hj5) [2, 0, 1, 3] rfl rfl) 0 2 rfl rfl rfl rfl rfl (Nat.le_of_ble_eq_true rfl) ⟨Nat.zero_le _, Nat.zero_le _⟩ dX11_step_19 (fun H locs hP hD hS => ?_)
    obtain rfl := Option.some.inj hf
    exact k_iret hx hb hr hlocks hK hP hD hS dX11_step_22
  · have hf := ite_f hf hc
    refine lv_iconst (v := (-1)) hx hb dX11_step_7 (by decide) ?_
    refine lv_goto (tgt := 22) hx hb dX11_step_8 (by decide) ?_
    obtain rfl := Option.some.inj hf
    exact k_iret hx hb hr hlocks hK hP hD hS dX11_step_22
/-! MarbleFloor.out(IIZ)I -/
abbrev wlX11_out : List Cond := Cond.code yX11_out cX11_out 4 (some .int) :: tbG
abbrev rmX11_out : Room := { frames := 2, cells := 0, slots := 0, locals := 48 }
theorem qnX11_out : yX11_out.cls = RX11 ∧ yX11_out.cls ≠ "java/lang/invoke/MethodHandle" ∧ yX11_out.cls ≠ "java/lang/invoke/VarHandle" ∧ (parseMethodDescriptor yX11_out.desc).map (fun d => d.parameters.length) = some 3 := by decide +kernel
def f_X11_out  (p1 : Nat → Nat → Int32) (s1 : Nat → Nat → Nat → Int32) (x1 : Int32) (x2 : Int32) (x3 : Int32) : Option (Int32) := bd (f_X11_noFloor x1) (fun q6 => if q6 = 0 then (ck (inb x1 6) (bd (f_X2_hasNoRow (p1 x1.toNatClampNeg) (s1 x1.toNatClampNeg) x2) (fun q8 => if q8 = 0 then (ck (inb x1 6) (bd (f_X2_outOf (p1 x1.toNatClampNeg) (s1 x1.toNatClampNeg) x2 x3) (fun q10 => some (q10)))) else (some ((-2)))))) else (some ((-2))))
set_option maxRecDepth 100000 in
set_option maxHeartbeats 4000000 in
theorem c_X11_out {l : Launch} {D : va_G} {cs zs : Nat → Nat} {h0 : Nat} {a0 : Nat → Nat} {fl1 : Nat → Nat} {a1 : Nat → Nat → Nat} {p1 : Nat → Nat → Int32} {s1 : Nat → Nat → Nat → Int32} {x1 : Int32} {x2 : Int32} {x3 : Int32} {q : Int32} (hf : f_X11_out p1 s1 x1 x2 x3 = some q) : Mi l yX11_out wlX11_out rmX11_out D cs zs [.ref h0, .int x1, .int x2, .int x3] (W11 cs h0 a0  ++ ([va_ar cs (a0 1) fl1] ++ FO cs fl1 a1 p1 s1 (List.range 6))) q (W11 cs h0 a0  ++ ([va_ar cs (a0 1) fl1] ++ FO cs fl1 a1 p1 s1 (List.range 6))) := by
  refine Mi.of RX11 (by decide) rfl (Nat.le_of_ble_eq_true rfl) (fun p e s m below meth c A C hP hD hS ls hl => ?_)
  generalize ([.ref h0, .int x1, .int x2, .int x3] : List Value).toArray = args at C ⊢
  obtain ⟨hx, hb, hr, hml, hown, hts, hK, hA, hlocks, hZ⟩ := id C
  have hl : lv_has ls 4 [(0, .ref h0), (1, .int x1), (2, .int x2), (3, .int x3)] := hl
  rw [f_X11_out] at hf
  refine lv_iload_n hx hb dX11_out_0 rfl (lv_at hl 1 rfl) ?_
  obtain ⟨q6, hq6, hf⟩ := bd_s hf
  refine k_eSi (As := [.int x1]) (rest := []) hx hb hml hown hts hK hA hZ hl.1 hP hD hS (c_X11_noFloor  hq6) (gSt mlX11_107 stX11_noFloor inX11 coX11_noFloor) rfl qnX11_noFloor rfl rfl ⟨Nat.le_of_ble_eq_true rfl, Nat.le_of_ble_eq_true rfl⟩ rfl rfl (Nat.le_of_ble_eq_true rfl) ⟨Nat.zero_le _, Nat.zero_le _⟩ dX11_out_1 (fun H locs hP hD hS => ?_)
  refine lv_if_ne (tgt := 20) hx hb dX11_out_4 (by decide) (fun hc => ?_) (fun hc => ?_)
  · have hf := ite_f hf hc
    refine lv_bipush (v := (-2)) hx hb dX11_out_20 (by decide) ?_
    obtain rfl := Option.some.inj hf
    exact k_iret hx hb hr hlocks hK hP hD hS dX11_out_22
  · have hf := ite_t hf hc
    refine lv_aload_n hx hb dX11_out_7 rfl (lv_at hl 0 rfl) ?_
    refine va_get (D := D) (ci := 11) (v := .ref (a0 1)) (C := RX11) (T := TX11) (N := 13) hx hb hts hiX11 hown hK hP 0 rfl rfl 1 (by decide) (hts _ flX11_18) (fun _ h9 => h9) rfl dX11_out_8 ?_
    refine lv_iload_n hx hb dX11_out_11 rfl (lv_at hl 1 rfl) ?_
    have hj7 := inb_lt (ck_in hf)
    refine k_aald (f := fun j => fl1 j) (j := x1.toNatClampNeg) hx hb hK hP 1 4 rfl rfl rfl (ck_in hf) rfl dX11_out_12 ?_
    have hf := ck_2 hf
    refine lv_iload_n hx hb dX11_out_13 rfl (lv_at hl 2 rfl) ?_
    obtain ⟨q8, hq8, hf⟩ := bd_s hf
    refine k_fVi (ws2 := W11 cs h0 a0  ++ ([va_ar cs (a0 1) fl1] ++ FO cs fl1 a1 p1 s1 (List.range 6))) (As := [.int x2]) (rest := []) hx hb hml hown hts hK hA hZ hl.1 hP hD hS (c_X2_hasNoRow (h0 := fl1 x1.toNatClampNeg) (a0 := a1 x1.toNatClampNeg) hq8) (gVt mlX11_132 imX2_hasNoRow seX2_hasNoRow inX2 coX2_hasNoRow) rfl qnX2_hasNoRow rfl rfl ⟨Nat.le_of_ble_eq_true rfl, Nat.le_of_ble_eq_true rfl⟩ (bp (l := [W11 cs h0 a0 , [va_ar cs (a0 1) fl1]]) (lc := [W2 cs (fl1 x1.toNatClampNeg) (a1 x1.toNatClampNeg) (p1 x1.toNatClampNeg) (s1 x1.toNatClampNeg)]) (lr := [W11 cs h0 a0 , [va_ar cs (a0 1) fl1], FO cs fl1 a1 p1 s1 ((List.range 6).erase x1.toNatClampNeg)]) [W2 cs (fl1 x1.toNatClampNeg) (a1 x1.toNatClampNeg) (p1 x1.toNatClampNeg) (s1 x1.toNatClampNeg), FO cs fl1 a1 p1 s1 ((List.range 6).erase x1.toNatClampNeg)] (foc hj7) [2, 0, 1, 3] rfl rfl) (bp (l := [W11 cs h0 a0 , [va_ar cs (a0 1) fl1]]) (lc := [W2 cs (fl1 x1.toNatClampNeg) (a1 x1.toNatClampNeg) (p1 x1.toNatClampNeg) (s1 x1.toNatClampNeg)]) (lr := [W11 cs h0 a0 , [va_ar cs (a0 1) fl1], FO cs fl1 a1 p1 s1 ((List.range 6).erase x1.toNatClampNeg)]) [W2 cs (fl1 x1.toNatClampNeg) (a1 x1.toNatClampNeg) (p1 x1.toNatClampNeg) (s1 x1.toNatClampNeg), FO cs fl1 a1 p1 s1 ((List.range 6).erase x1.toNatClampNeg)] (foc hj7) [2, 0, 1, 3] rfl rfl) 0 2 rfl rfl rfl rfl rfl (Nat.le_of_ble_eq_true rfl) ⟨Nat.zero_le _, Nat.zero_le _⟩ dX11_out_14 (fun H locs hP hD hS => ?_)
    refine lv_if_eq (tgt := 23) hx hb dX11_out_17 (by decide) (fun hc => ?_) (fun hc => ?_)
    · have hf := ite_t hf hc
      refine lv_aload_n hx hb dX11_out_23 rfl (lv_at hl 0 rfl) ?_
      refine va_get (D := D) (ci := 11) (v := .ref (a0 1)) (C := RX11) (T := TX11) (N := 13) hx hb hts hiX11 hown hK hP 0 rfl rfl 1 (by decide) (hts _ flX11_18) (fun _ h9 => h9) rfl dX11_out_24 ?_
      refine lv_iload_n hx hb dX11_out_27 rfl (lv_at hl 1 rfl) ?_
      have hj9 := inb_lt (ck_in hf)
      refine k_aald (f := fun j => fl1 j) (j := x1.toNatClampNeg) hx hb hK hP 1 4 rfl rfl rfl (ck_in hf) rfl dX11_out_28 ?_
      have hf := ck_2 hf
      refine lv_iload_n hx hb dX11_out_29 rfl (lv_at hl 2 rfl) ?_
      refine lv_iload_n hx hb dX11_out_30 rfl (lv_at hl 3 rfl) ?_
      obtain ⟨q10, hq10, hf⟩ := bd_s hf
      refine k_fVi (ws2 := W11 cs h0 a0  ++ ([va_ar cs (a0 1) fl1] ++ FO cs fl1 a1 p1 s1 (List.range 6))) (As := [.int x2, .int x3]) (rest := []) hx hb hml hown hts hK hA hZ hl.1 hP hD hS (c_X2_outOf (h0 := fl1 x1.toNatClampNeg) (a0 := a1 x1.toNatClampNeg) hq10) (gVt mlX11_135 imX2_outOf seX2_outOf inX2 coX2_outOf) rfl qnX2_outOf rfl rfl ⟨Nat.le_of_ble_eq_true rfl, Nat.le_of_ble_eq_true rfl⟩ (bp (l := [W11 cs h0 a0 , [va_ar cs (a0 1) fl1]]) (lc := [W2 cs (fl1 x1.toNatClampNeg) (a1 x1.toNatClampNeg) (p1 x1.toNatClampNeg) (s1 x1.toNatClampNeg)]) (lr := [W11 cs h0 a0 , [va_ar cs (a0 1) fl1], FO cs fl1 a1 p1 s1 ((List.range 6).erase x1.toNatClampNeg)]) [W2 cs (fl1 x1.toNatClampNeg) (a1 x1.toNatClampNeg) (p1 x1.toNatClampNeg) (s1 x1.toNatClampNeg), FO cs fl1 a1 p1 s1 ((List.range 6).erase x1.toNatClampNeg)] (foc hj9) [2, 0, 1, 3] rfl rfl) (bp (l := [W11 cs h0 a0 , [va_ar cs (a0 1) fl1]]) (lc := [W2 cs (fl1 x1.toNatClampNeg) (a1 x1.toNatClampNeg) (p1 x1.toNatClampNeg) (s1 x1.toNatClampNeg)]) (lr := [W11 cs h0 a0 , [va_ar cs (a0 1) fl1], FO cs fl1 a1 p1 s1 ((List.range 6).erase x1.toNatClampNeg)]) [W2 cs (fl1 x1.toNatClampNeg) (a1 x1.toNatClampNeg) (p1 x1.toNatClampNeg) (s1 x1.toNatClampNeg), FO cs fl1 a1 p1 s1 ((List.range 6).erase x1.toNatClampNeg)] (foc hj9) [2, 0, 1, 3] rfl rfl) 0 2 rfl rfl rfl rfl rfl (Nat.le_of_ble_eq_true rfl) ⟨Nat.zero_le _, Nat.zero_le _⟩ dX11_out_31 (fun H locs hP hD hS => ?_)
      obtain rfl := Option.some.inj hf
      exact k_iret hx hb hr hlocks hK hP hD hS dX11_out_34
    · have hf := ite_f hf hc
      refine lv_bipush (v := (-2)) hx hb dX11_out_20 (by decide) ?_
      obtain rfl := Option.some.inj hf
      exact k_iret hx hb hr hlocks hK hP hD hS dX11_out_22
/-! MarbleFloor.odd(I)I -/
abbrev wlX11_odd : List Cond := Cond.code yX11_odd cX11_odd 2 (some .int) :: tbG
abbrev rmX11_odd : Room := { frames := 4, cells := 0, slots := 0, locals := 93 }
theorem qnX11_odd : yX11_odd.cls = RX11 ∧ yX11_odd.cls ≠ "java/lang/invoke/MethodHandle" ∧ yX11_odd.cls ≠ "java/lang/invoke/VarHandle" ∧ (parseMethodDescriptor yX11_odd.desc).map (fun d => d.parameters.length) = some 1 := by decide +kernel
def f_X11_odd  (i1 : Nat → Int32) (r1 : Nat → Nat → Int32) (p2 : Nat → Nat → Int32) (s2 : Nat → Nat → Nat → Int32) (x1 : Int32) : Option (Int32 × (Nat → Nat → Int32)) := bd (f_X11_noFloor x1) (fun q4 => if q4 = 0 then (ck (inb x1 6) (bd (f_X8_oddness i1 r1 (p2 x1.toNatClampNeg) (s2 x1.toNatClampNeg)) (fun q6 => some (q6.1, q6.2)))) else (some ((-2), r1)))
set_option maxRecDepth 100000 in
set_option maxHeartbeats 4000000 in
theorem c_X11_odd {l : Launch} {D : va_G} {cs zs : Nat → Nat} {h0 : Nat} {a0 : Nat → Nat} {a1 : Nat → Nat} {fl2 : Nat → Nat} {a2 : Nat → Nat → Nat} {i1 : Nat → Int32} {r1 : Nat → Nat → Int32} {p2 : Nat → Nat → Int32} {s2 : Nat → Nat → Nat → Int32} {x1 : Int32} {q : Int32 × (Nat → Nat → Int32)} (hf : f_X11_odd i1 r1 p2 s2 x1 = some q) : Mi l yX11_odd wlX11_odd rmX11_odd D cs zs [.ref h0, .int x1] (W11 cs h0 a0  ++ (W8 cs (a0 4) a1 i1 r1 ++ ([va_ar cs (a0 1) fl2] ++ FO cs fl2 a2 p2 s2 (List.range 6)))) q.1 (W11 cs h0 a0  ++ (W8 cs (a0 4) a1 i1 q.2 ++ ([va_ar cs (a0 1) fl2] ++ FO cs fl2 a2 p2 s2 (List.range 6)))) := by
  refine Mi.of RX11 (by decide) rfl (Nat.le_of_ble_eq_true rfl) (fun p e s m below meth c A C hP hD hS ls hl => ?_)
  generalize ([.ref h0, .int x1] : List Value).toArray = args at C ⊢
  obtain ⟨hx, hb, hr, hml, hown, hts, hK, hA, hlocks, hZ⟩ := id C
  have hl : lv_has ls 2 [(0, .ref h0), (1, .int x1)] := hl
  rw [f_X11_odd] at hf
  refine lv_iload_n hx hb dX11_odd_0 rfl (lv_at hl 1 rfl) ?_
  obtain ⟨q4, hq4, hf⟩ := bd_s hf
  refine k_eSi (As := [.int x1]) (rest := []) hx hb hml hown hts hK hA hZ hl.1 hP hD hS (c_X11_noFloor  hq4) (gSt mlX11_107 stX11_noFloor inX11 coX11_noFloor) rfl qnX11_noFloor rfl rfl ⟨Nat.le_of_ble_eq_true rfl, Nat.le_of_ble_eq_true rfl⟩ rfl rfl (Nat.le_of_ble_eq_true rfl) ⟨Nat.zero_le _, Nat.zero_le _⟩ dX11_odd_1 (fun H locs hP hD hS => ?_)
  refine lv_if_eq (tgt := 12) hx hb dX11_odd_4 (by decide) (fun hc => ?_) (fun hc => ?_)
  · have hf := ite_t hf hc
    refine lv_aload_n hx hb dX11_odd_12 rfl (lv_at hl 0 rfl) ?_
    refine va_get (D := D) (ci := 11) (v := .ref (a0 4)) (C := RX11) (T := TX11) (N := 13) hx hb hts hiX11 hown hK hP 0 rfl rfl 4 (by decide) (hts _ flX11_39) (fun _ h9 => h9) rfl dX11_odd_13 ?_
    refine lv_aload_n hx hb dX11_odd_16 rfl (lv_at hl 0 rfl) ?_
    refine va_get (D := D) (ci := 11) (v := .ref (a0 1)) (C := RX11) (T := TX11) (N := 13) hx hb hts hiX11 hown hK hP 0 rfl rfl 1 (by decide) (hts _ flX11_18) (fun _ h9 => h9) rfl dX11_odd_17 ?_
    refine lv_iload_n hx hb dX11_odd_20 rfl (lv_at hl 1 rfl) ?_
    have hj5 := inb_lt (ck_in hf)
    refine k_aald (f := fun j => fl2 j) (j := x1.toNatClampNeg) hx hb hK hP 5 4 rfl rfl rfl (ck_in hf) rfl dX11_odd_21 ?_
    have hf := ck_2 hf
    obtain ⟨q6, hq6, hf⟩ := bd_s hf
    refine k_fVi (ws2 := W11 cs h0 a0  ++ (W8 cs (a0 4) a1 i1 q6.2 ++ ([va_ar cs (a0 1) fl2] ++ FO cs fl2 a2 p2 s2 (List.range 6)))) (As := [.ref (fl2 x1.toNatClampNeg)]) (rest := []) hx hb hml hown hts hK hA hZ hl.1 hP hD hS (c_X8_oddness (h0 := (a0 4)) (a0 := a1) (h1 := fl2 x1.toNatClampNeg) (a1 := a2 x1.toNatClampNeg) hq6) (gVt mlX11_139 imX8_oddness seX8_oddness inX8 coX8_oddness) rfl qnX8_oddness rfl rfl ⟨Nat.le_of_ble_eq_true rfl, Nat.le_of_ble_eq_true rfl⟩ (bp (l := [W11 cs h0 a0 , W8 cs (a0 4) a1 i1 r1, [va_ar cs (a0 1) fl2]]) (lc := [W8 cs (a0 4) a1 i1 r1, W2 cs (fl2 x1.toNatClampNeg) (a2 x1.toNatClampNeg) (p2 x1.toNatClampNeg) (s2 x1.toNatClampNeg)]) (lr := [W11 cs h0 a0 , [va_ar cs (a0 1) fl2], FO cs fl2 a2 p2 s2 ((List.range 6).erase x1.toNatClampNeg)]) [W2 cs (fl2 x1.toNatClampNeg) (a2 x1.toNatClampNeg) (p2 x1.toNatClampNeg) (s2 x1.toNatClampNeg), FO cs fl2 a2 p2 s2 ((List.range 6).erase x1.toNatClampNeg)] (foc hj5) [1, 3, 0, 2, 4] rfl rfl) (bp (l := [W11 cs h0 a0 , W8 cs (a0 4) a1 i1 q6.2, [va_ar cs (a0 1) fl2]]) (lc := [W8 cs (a0 4) a1 i1 q6.2, W2 cs (fl2 x1.toNatClampNeg) (a2 x1.toNatClampNeg) (p2 x1.toNatClampNeg) (s2 x1.toNatClampNeg)]) (lr := [W11 cs h0 a0 , [va_ar cs (a0 1) fl2], FO cs fl2 a2 p2 s2 ((List.range 6).erase x1.toNatClampNeg)]) [W2 cs (fl2 x1.toNatClampNeg) (a2 x1.toNatClampNeg) (p2 x1.toNatClampNeg) (s2 x1.toNatClampNeg), FO cs fl2 a2 p2 s2 ((List.range 6).erase x1.toNatClampNeg)] (foc hj5) [1, 3, 0, 2, 4] rfl rfl) 0 8 rfl rfl rfl rfl rfl (Nat.le_of_ble_eq_true rfl) ⟨Nat.zero_le _, Nat.zero_le _⟩ dX11_odd_22 (fun H locs hP hD hS => ?_)
    obtain rfl := Option.some.inj hf
    exact k_iret hx hb hr hlocks hK hP hD hS dX11_odd_25
  · have hf := ite_f hf hc
    refine lv_bipush (v := (-2)) hx hb dX11_odd_7 (by decide) ?_
    refine lv_goto (tgt := 25) hx hb dX11_odd_9 (by decide) ?_
    obtain rfl := Option.some.inj hf
    exact k_iret hx hb hr hlocks hK hP hD hS dX11_odd_25
/-! MarbleFloor.cycle(II)I -/
abbrev wlX11_cycle : List Cond := Cond.code yX11_cycle cX11_cycle 3 (some .int) :: tbG
abbrev rmX11_cycle : Room := { frames := 3, cells := 0, slots := 0, locals := 71 }
theorem qnX11_cycle : yX11_cycle.cls = RX11 ∧ yX11_cycle.cls ≠ "java/lang/invoke/MethodHandle" ∧ yX11_cycle.cls ≠ "java/lang/invoke/VarHandle" ∧ (parseMethodDescriptor yX11_cycle.desc).map (fun d => d.parameters.length) = some 2 := by decide +kernel
def f_X11_cycle  (p1 : Nat → Nat → Int32) (s1 : Nat → Nat → Nat → Int32) (x1 : Int32) (x2 : Int32) : Option (Int32) := bd (f_X11_noFloor x1) (fun q6 => if q6 = 0 then (ck (inb x1 6) (bd (f_X2_hasNoRow (p1 x1.toNatClampNeg) (s1 x1.toNatClampNeg) x2) (fun q8 => if q8 = 0 then (ck (inb x1 6) (bd (f_X2_runsTillThereAgain (p1 x1.toNatClampNeg) (s1 x1.toNatClampNeg) x2) (fun q10 => some (q10)))) else (some ((-2)))))) else (some ((-2))))
set_option maxRecDepth 100000 in
set_option maxHeartbeats 4000000 in
theorem c_X11_cycle {l : Launch} {D : va_G} {cs zs : Nat → Nat} {h0 : Nat} {a0 : Nat → Nat} {fl1 : Nat → Nat} {a1 : Nat → Nat → Nat} {p1 : Nat → Nat → Int32} {s1 : Nat → Nat → Nat → Int32} {x1 : Int32} {x2 : Int32} {q : Int32} (hf : f_X11_cycle p1 s1 x1 x2 = some q) : Mi l yX11_cycle wlX11_cycle rmX11_cycle D cs zs [.ref h0, .int x1, .int x2] (W11 cs h0 a0  ++ ([va_ar cs (a0 1) fl1] ++ FO cs fl1 a1 p1 s1 (List.range 6))) q (W11 cs h0 a0  ++ ([va_ar cs (a0 1) fl1] ++ FO cs fl1 a1 p1 s1 (List.range 6))) := by
  refine Mi.of RX11 (by decide) rfl (Nat.le_of_ble_eq_true rfl) (fun p e s m below meth c A C hP hD hS ls hl => ?_)
  generalize ([.ref h0, .int x1, .int x2] : List Value).toArray = args at C ⊢
  obtain ⟨hx, hb, hr, hml, hown, hts, hK, hA, hlocks, hZ⟩ := id C
  have hl : lv_has ls 3 [(0, .ref h0), (1, .int x1), (2, .int x2)] := hl
  rw [f_X11_cycle] at hf
  refine lv_iload_n hx hb dX11_cycle_0 rfl (lv_at hl 1 rfl) ?_
  obtain ⟨q6, hq6, hf⟩ := bd_s hf
  refine k_eSi (As := [.int x1]) (rest := []) hx hb hml hown hts hK hA hZ hl.1 hP hD hS (c_X11_noFloor  hq6) (gSt mlX11_107 stX11_noFloor inX11 coX11_noFloor) rfl qnX11_noFloor rfl rfl ⟨Nat.le_of_ble_eq_true rfl, Nat.le_of_ble_eq_true rfl⟩ rfl rfl (Nat.le_of_ble_eq_true rfl) ⟨Nat.zero_le _, Nat.zero_le _⟩ dX11_cycle_1 (fun H locs hP hD hS => ?_)
  refine lv_if_ne (tgt := 20) hx hb dX11_cycle_4 (by decide) (fun hc => ?_) (fun hc => ?_)
  · have hf := ite_f hf hc
    refine lv_bipush (v := (-2)) hx hb dX11_cycle_20 (by decide) ?_
    obtain rfl := Option.some.inj hf
    exact k_iret hx hb hr hlocks hK hP hD hS dX11_cycle_22
  · have hf := ite_t hf hc
    refine lv_aload_n hx hb dX11_cycle_7 rfl (lv_at hl 0 rfl) ?_
    refine va_get (D := D) (ci := 11) (v := .ref (a0 1)) (C := RX11) (T := TX11) (N := 13) hx hb hts hiX11 hown hK hP 0 rfl rfl 1 (by decide) (hts _ flX11_18) (fun _ h9 => h9) rfl dX11_cycle_8 ?_
    refine lv_iload_n hx hb dX11_cycle_11 rfl (lv_at hl 1 rfl) ?_
    have hj7 := inb_lt (ck_in hf)
    refine k_aald (f := fun j => fl1 j) (j := x1.toNatClampNeg) hx hb hK hP 1 4 rfl rfl rfl (ck_in hf) rfl dX11_cycle_12 ?_
    have hf := ck_2 hf
    refine lv_iload_n hx hb dX11_cycle_13 rfl (lv_at hl 2 rfl) ?_
    obtain ⟨q8, hq8, hf⟩ := bd_s hf
    refine k_fVi (ws2 := W11 cs h0 a0  ++ ([va_ar cs (a0 1) fl1] ++ FO cs fl1 a1 p1 s1 (List.range 6))) (As := [.int x2]) (rest := []) hx hb hml hown hts hK hA hZ hl.1 hP hD hS (c_X2_hasNoRow (h0 := fl1 x1.toNatClampNeg) (a0 := a1 x1.toNatClampNeg) hq8) (gVt mlX11_132 imX2_hasNoRow seX2_hasNoRow inX2 coX2_hasNoRow) rfl qnX2_hasNoRow rfl rfl ⟨Nat.le_of_ble_eq_true rfl, Nat.le_of_ble_eq_true rfl⟩ (bp (l := [W11 cs h0 a0 , [va_ar cs (a0 1) fl1]]) (lc := [W2 cs (fl1 x1.toNatClampNeg) (a1 x1.toNatClampNeg) (p1 x1.toNatClampNeg) (s1 x1.toNatClampNeg)]) (lr := [W11 cs h0 a0 , [va_ar cs (a0 1) fl1], FO cs fl1 a1 p1 s1 ((List.range 6).erase x1.toNatClampNeg)]) [W2 cs (fl1 x1.toNatClampNeg) (a1 x1.toNatClampNeg) (p1 x1.toNatClampNeg) (s1 x1.toNatClampNeg), FO cs fl1 a1 p1 s1 ((List.range 6).erase x1.toNatClampNeg)] (foc hj7) [2, 0, 1, 3] rfl rfl) (bp (l := [W11 cs h0 a0 , [va_ar cs (a0 1) fl1]]) (lc := [W2 cs (fl1 x1.toNatClampNeg) (a1 x1.toNatClampNeg) (p1 x1.toNatClampNeg) (s1 x1.toNatClampNeg)]) (lr := [W11 cs h0 a0 , [va_ar cs (a0 1) fl1], FO cs fl1 a1 p1 s1 ((List.range 6).erase x1.toNatClampNeg)]) [W2 cs (fl1 x1.toNatClampNeg) (a1 x1.toNatClampNeg) (p1 x1.toNatClampNeg) (s1 x1.toNatClampNeg), FO cs fl1 a1 p1 s1 ((List.range 6).erase x1.toNatClampNeg)] (foc hj7) [2, 0, 1, 3] rfl rfl) 0 2 rfl rfl rfl rfl rfl (Nat.le_of_ble_eq_true rfl) ⟨Nat.zero_le _, Nat.zero_le _⟩ dX11_cycle_14 (fun H locs hP hD hS => ?_)
    refine lv_if_eq (tgt := 23) hx hb dX11_cycle_17 (by decide) (fun hc => ?_) (fun hc => ?_)
    · have hf := ite_t hf hc
      refine lv_aload_n hx hb dX11_cycle_23 rfl (lv_at hl 0 rfl) ?_
      refine va_get (D := D) (ci := 11) (v := .ref (a0 1)) (C := RX11) (T := TX11) (N := 13) hx hb hts hiX11 hown hK hP 0 rfl rfl 1 (by decide) (hts _ flX11_18) (fun _ h9 => h9) rfl dX11_cycle_24 ?_
      refine lv_iload_n hx hb dX11_cycle_27 rfl (lv_at hl 1 rfl) ?_
      have hj9 := inb_lt (ck_in hf)
      refine k_aald (f := fun j => fl1 j) (j := x1.toNatClampNeg) hx hb hK hP 1 4 rfl rfl rfl (ck_in hf) rfl dX11_cycle_28 ?_
      have hf := ck_2 hf
      refine lv_iload_n hx hb dX11_cycle_29 rfl (lv_at hl 2 rfl) ?_
      obtain ⟨q10, hq10, hf⟩ := bd_s hf
      refine k_fVi (ws2 := W11 cs h0 a0  ++ ([va_ar cs (a0 1) fl1] ++ FO cs fl1 a1 p1 s1 (List.range 6))) (As := [.int x2]) (rest := []) hx hb hml hown hts hK hA hZ hl.1 hP hD hS (c_X2_runsTillThereAgain (h0 := fl1 x1.toNatClampNeg) (a0 := a1 x1.toNatClampNeg) hq10) (gVt mlX11_143 imX2_runsTillThereAgain seX2_runsTillThereAgain inX2 coX2_runsTillThereAgain) rfl qnX2_runsTillThereAgain rfl rfl ⟨Nat.le_of_ble_eq_true rfl, Nat.le_of_ble_eq_true rfl⟩ (bp (l := [W11 cs h0 a0 , [va_ar cs (a0 1) fl1]]) (lc := [W2 cs (fl1 x1.toNatClampNeg) (a1 x1.toNatClampNeg) (p1 x1.toNatClampNeg) (s1 x1.toNatClampNeg)]) (lr := [W11 cs h0 a0 , [va_ar cs (a0 1) fl1], FO cs fl1 a1 p1 s1 ((List.range 6).erase x1.toNatClampNeg)]) [W2 cs (fl1 x1.toNatClampNeg) (a1 x1.toNatClampNeg) (p1 x1.toNatClampNeg) (s1 x1.toNatClampNeg), FO cs fl1 a1 p1 s1 ((List.range 6).erase x1.toNatClampNeg)] (foc hj9) [2, 0, 1, 3] rfl rfl) (bp (l := [W11 cs h0 a0 , [va_ar cs (a0 1) fl1]]) (lc := [W2 cs (fl1 x1.toNatClampNeg) (a1 x1.toNatClampNeg) (p1 x1.toNatClampNeg) (s1 x1.toNatClampNeg)]) (lr := [W11 cs h0 a0 , [va_ar cs (a0 1) fl1], FO cs fl1 a1 p1 s1 ((List.range 6).erase x1.toNatClampNeg)]) [W2 cs (fl1 x1.toNatClampNeg) (a1 x1.toNatClampNeg) (p1 x1.toNatClampNeg) (s1 x1.toNatClampNeg), FO cs fl1 a1 p1 s1 ((List.range 6).erase x1.toNatClampNeg)] (foc hj9) [2, 0, 1, 3] rfl rfl) 0 2 rfl rfl rfl rfl rfl (Nat.le_of_ble_eq_true rfl) ⟨Nat.zero_le _, Nat.zero_le _⟩ dX11_cycle_30 (fun H locs hP hD hS => ?_)
      obtain rfl := Option.some.inj hf
      exact k_iret hx hb hr hlocks hK hP hD hS dX11_cycle_33
    · have hf := ite_f hf hc
      refine lv_bipush (v := (-2)) hx hb dX11_cycle_20 (by decide) ?_
      obtain rfl := Option.some.inj hf
      exact k_iret hx hb hr hlocks hK hP hD hS dX11_cycle_22
/-! MarbleFloor.order(I)J -/
abbrev wlX11_order : List Cond := Cond.code yX11_order cX11_order 2 (some .long) :: tbG
abbrev rmX11_order : Room := { frames := 4, cells := 0, slots := 0, locals := 96 }
theorem qnX11_order : yX11_order.cls = RX11 ∧ yX11_order.cls ≠ "java/lang/invoke/MethodHandle" ∧ yX11_order.cls ≠ "java/lang/invoke/VarHandle" ∧ (parseMethodDescriptor yX11_order.desc).map (fun d => d.parameters.length) = some 1 := by decide +kernel
def f_X11_order  (i1 : Nat → Int32) (r1 : Nat → Nat → Int32) (p2 : Nat → Nat → Int32) (s2 : Nat → Nat → Nat → Int32) (x1 : Int32) : Option (Int64 × (Nat → Nat → Int32)) := bd (f_X11_noFloor x1) (fun q4 => if q4 = 0 then (ck (inb x1 6) (bd (f_X8_runsTillAllAreThere i1 r1 (p2 x1.toNatClampNeg) (s2 x1.toNatClampNeg)) (fun q6 => some (q6.1, q6.2)))) else (some ((-2), r1)))
set_option maxRecDepth 100000 in
set_option maxHeartbeats 4000000 in
theorem c_X11_order {l : Launch} {D : va_G} {cs zs : Nat → Nat} {h0 : Nat} {a0 : Nat → Nat} {a1 : Nat → Nat} {fl2 : Nat → Nat} {a2 : Nat → Nat → Nat} {i1 : Nat → Int32} {r1 : Nat → Nat → Int32} {p2 : Nat → Nat → Int32} {s2 : Nat → Nat → Nat → Int32} {x1 : Int32} {q : Int64 × (Nat → Nat → Int32)} (hf : f_X11_order i1 r1 p2 s2 x1 = some q) : Ml l yX11_order wlX11_order rmX11_order D cs zs [.ref h0, .int x1] (W11 cs h0 a0  ++ (W8 cs (a0 4) a1 i1 r1 ++ ([va_ar cs (a0 1) fl2] ++ FO cs fl2 a2 p2 s2 (List.range 6)))) q.1 (W11 cs h0 a0  ++ (W8 cs (a0 4) a1 i1 q.2 ++ ([va_ar cs (a0 1) fl2] ++ FO cs fl2 a2 p2 s2 (List.range 6)))) := by
  refine Ml.of RX11 (by decide) rfl (Nat.le_of_ble_eq_true rfl) (fun p e s m below meth c A C hP hD hS ls hl => ?_)
  generalize ([.ref h0, .int x1] : List Value).toArray = args at C ⊢
  obtain ⟨hx, hb, hr, hml, hown, hts, hK, hA, hlocks, hZ⟩ := id C
  have hl : lv_has ls 2 [(0, .ref h0), (1, .int x1)] := hl
  rw [f_X11_order] at hf
  refine lv_iload_n hx hb dX11_order_0 rfl (lv_at hl 1 rfl) ?_
  obtain ⟨q4, hq4, hf⟩ := bd_s hf
  refine k_eSi (As := [.int x1]) (rest := []) hx hb hml hown hts hK hA hZ hl.1 hP hD hS (c_X11_noFloor  hq4) (gSt mlX11_107 stX11_noFloor inX11 coX11_noFloor) rfl qnX11_noFloor rfl rfl ⟨Nat.le_of_ble_eq_true rfl, Nat.le_of_ble_eq_true rfl⟩ rfl rfl (Nat.le_of_ble_eq_true rfl) ⟨Nat.zero_le _, Nat.zero_le _⟩ dX11_order_1 (fun H locs hP hD hS => ?_)
  refine lv_if_eq (tgt := 13) hx hb dX11_order_4 (by decide) (fun hc => ?_) (fun hc => ?_)
  · have hf := ite_t hf hc
    refine lv_aload_n hx hb dX11_order_13 rfl (lv_at hl 0 rfl) ?_
    refine va_get (D := D) (ci := 11) (v := .ref (a0 4)) (C := RX11) (T := TX11) (N := 13) hx hb hts hiX11 hown hK hP 0 rfl rfl 4 (by decide) (hts _ flX11_39) (fun _ h9 => h9) rfl dX11_order_14 ?_
    refine lv_aload_n hx hb dX11_order_17 rfl (lv_at hl 0 rfl) ?_
    refine va_get (D := D) (ci := 11) (v := .ref (a0 1)) (C := RX11) (T := TX11) (N := 13) hx hb hts hiX11 hown hK hP 0 rfl rfl 1 (by decide) (hts _ flX11_18) (fun _ h9 => h9) rfl dX11_order_18 ?_
    refine lv_iload_n hx hb dX11_order_21 rfl (lv_at hl 1 rfl) ?_
    have hj5 := inb_lt (ck_in hf)
    refine k_aald (f := fun j => fl2 j) (j := x1.toNatClampNeg) hx hb hK hP 5 4 rfl rfl rfl (ck_in hf) rfl dX11_order_22 ?_
    have hf := ck_2 hf
    obtain ⟨q6, hq6, hf⟩ := bd_s hf
    refine k_fVl (ws2 := W11 cs h0 a0  ++ (W8 cs (a0 4) a1 i1 q6.2 ++ ([va_ar cs (a0 1) fl2] ++ FO cs fl2 a2 p2 s2 (List.range 6)))) (As := [.ref (fl2 x1.toNatClampNeg)]) (rest := []) hx hb hml hown hts hK hA hZ hl.1 hP hD hS (c_X8_runsTillAllAreThere (h0 := (a0 4)) (a0 := a1) (h1 := fl2 x1.toNatClampNeg) (a1 := a2 x1.toNatClampNeg) hq6) (gVt mlX11_148 imX8_runsTillAllAreThere seX8_runsTillAllAreThere inX8 coX8_runsTillAllAreThere) rfl qnX8_runsTillAllAreThere rfl rfl ⟨Nat.le_of_ble_eq_true rfl, Nat.le_of_ble_eq_true rfl⟩ (bp (l := [W11 cs h0 a0 , W8 cs (a0 4) a1 i1 r1, [va_ar cs (a0 1) fl2]]) (lc := [W8 cs (a0 4) a1 i1 r1, W2 cs (fl2 x1.toNatClampNeg) (a2 x1.toNatClampNeg) (p2 x1.toNatClampNeg) (s2 x1.toNatClampNeg)]) (lr := [W11 cs h0 a0 , [va_ar cs (a0 1) fl2], FO cs fl2 a2 p2 s2 ((List.range 6).erase x1.toNatClampNeg)]) [W2 cs (fl2 x1.toNatClampNeg) (a2 x1.toNatClampNeg) (p2 x1.toNatClampNeg) (s2 x1.toNatClampNeg), FO cs fl2 a2 p2 s2 ((List.range 6).erase x1.toNatClampNeg)] (foc hj5) [1, 3, 0, 2, 4] rfl rfl) (bp (l := [W11 cs h0 a0 , W8 cs (a0 4) a1 i1 q6.2, [va_ar cs (a0 1) fl2]]) (lc := [W8 cs (a0 4) a1 i1 q6.2, W2 cs (fl2 x1.toNatClampNeg) (a2 x1.toNatClampNeg) (p2 x1.toNatClampNeg) (s2 x1.toNatClampNeg)]) (lr := [W11 cs h0 a0 , [va_ar cs (a0 1) fl2], FO cs fl2 a2 p2 s2 ((List.range 6).erase x1.toNatClampNeg)]) [W2 cs (fl2 x1.toNatClampNeg) (a2 x1.toNatClampNeg) (p2 x1.toNatClampNeg) (s2 x1.toNatClampNeg), FO cs fl2 a2 p2 s2 ((List.range 6).erase x1.toNatClampNeg)] (foc hj5) [1, 3, 0, 2, 4] rfl rfl) 0 8 rfl rfl rfl rfl rfl (Nat.le_of_ble_eq_true rfl) ⟨Nat.zero_le _, Nat.zero_le _⟩ dX11_order_23 (fun H locs hP hD hS => ?_)
    obtain rfl := Option.some.inj hf
    exact k_lret hx hb hr hlocks hK hP hD hS dX11_order_26
  · have hf := ite_f hf hc
    refine lv_ldc2 (v := (-2)) hx hb hown (hts _ kcX11_146) dX11_order_7 ?_
    refine lv_goto (tgt := 26) hx hb dX11_order_10 (by decide) ?_
    obtain rfl := Option.some.inj hf
    exact k_lret hx hb hr hlocks hK hP hD hS dX11_order_26
/-! MarbleFloor.apart(II)I -/
abbrev wlX11_apart : List Cond := Cond.code yX11_apart cX11_apart 3 (some .int) :: tbG
abbrev rmX11_apart : Room := { frames := 3, cells := 0, slots := 0, locals := 70 }
theorem qnX11_apart : yX11_apart.cls = RX11 ∧ yX11_apart.cls ≠ "java/lang/invoke/MethodHandle" ∧ yX11_apart.cls ≠ "java/lang/invoke/VarHandle" ∧ (parseMethodDescriptor yX11_apart.desc).map (fun d => d.parameters.length) = some 2 := by decide +kernel
def f_X11_apart  (p1 : Nat → Nat → Int32) (s1 : Nat → Nat → Nat → Int32) (x1 : Int32) (x2 : Int32) : Option (Int32) := bd (f_X11_noFloor x1) (fun q11 => if q11 = 0 then (bd (f_X11_noFloor x2) (fun q12 => if q12 = 0 then (ck (inb x1 6) (bd (f_X2_lanes (p1 x1.toNatClampNeg) (s1 x1.toNatClampNeg)) (fun q14 => ck (inb x2 6) (bd (f_X2_lanes (p1 x2.toNatClampNeg) (s1 x2.toNatClampNeg)) (fun q16 => if q14 = q16 then (ck (inb x1 6) (ck (inb x2 6) (if x1.toNatClampNeg = x2.toNatClampNeg then (bd (f_X2_leastRowUnlike_S (p1 x1.toNatClampNeg) (s1 x1.toNatClampNeg)) (fun q19 => some (q19))) else (bd (f_X2_leastRowUnlike (p1 x1.toNatClampNeg) (s1 x1.toNatClampNeg) (p1 x2.toNatClampNeg) (s1 x2.toNatClampNeg)) (fun q20 => some (q20)))))) else (some ((-4)))))))) else (some ((-2))))) else (some ((-2))))
set_option maxRecDepth 100000 in
set_option maxHeartbeats 4000000 in
theorem c_X11_apart {l : Launch} {D : va_G} {cs zs : Nat → Nat} {h0 : Nat} {a0 : Nat → Nat} {fl1 : Nat → Nat} {a1 : Nat → Nat → Nat} {p1 : Nat → Nat → Int32} {s1 : Nat → Nat → Nat → Int32} {x1 : Int32} {x2 : Int32} {q : Int32} (hf : f_X11_apart p1 s1 x1 x2 = some q) : Mi l yX11_apart wlX11_apart rmX11_apart D cs zs [.ref h0, .int x1, .int x2] (W11 cs h0 a0  ++ ([va_ar cs (a0 1) fl1] ++ FO cs fl1 a1 p1 s1 (List.range 6))) q (W11 cs h0 a0  ++ ([va_ar cs (a0 1) fl1] ++ FO cs fl1 a1 p1 s1 (List.range 6))) := by
  refine Mi.of RX11 (by decide) rfl (Nat.le_of_ble_eq_true rfl) (fun p e s m below meth c A C hP hD hS ls hl => ?_)
  generalize ([.ref h0, .int x1, .int x2] : List Value).toArray = args at C ⊢
  obtain ⟨hx, hb, hr, hml, hown, hts, hK, hA, hlocks, hZ⟩ := id C
  have hl : lv_has ls 3 [(0, .ref h0), (1, .int x1), (2, .int x2)] := hl
  rw [f_X11_apart] at hf
  refine lv_iload_n hx hb dX11_apart_0 rfl (lv_at hl 1 rfl) ?_
  obtain ⟨q11, hq11, hf⟩ := bd_s hf
  refine k_eSi (As := [.int x1]) (rest := []) hx hb hml hown hts hK hA hZ hl.1 hP hD hS (c_X11_noFloor  hq11) (gSt mlX11_107 stX11_noFloor inX11 coX11_noFloor) rfl qnX11_noFloor rfl rfl ⟨Nat.le_of_ble_eq_true rfl, Nat.le_of_ble_eq_true rfl⟩ rfl rfl (Nat.le_of_ble_eq_true rfl) ⟨Nat.zero_le _, Nat.zero_le _⟩ dX11_apart_1 (fun H locs hP hD hS => ?_)
  refine lv_if_ne (tgt := 14) hx hb dX11_apart_4 (by decide) (fun hc => ?_) (fun hc => ?_)
  · have hf := ite_f hf hc
    refine lv_bipush (v := (-2)) hx hb dX11_apart_14 (by decide) ?_
    obtain rfl := Option.some.inj hf
    exact k_iret hx hb hr hlocks hK hP hD hS dX11_apart_16
  · have hf := ite_t hf hc
    refine lv_iload_n hx hb dX11_apart_7 rfl (lv_at hl 2 rfl) ?_
    obtain ⟨q12, hq12, hf⟩ := bd_s hf
    refine k_eSi (As := [.int x2]) (rest := []) hx hb hml hown hts hK hA hZ hl.1 hP hD hS (c_X11_noFloor  hq12) (gSt mlX11_107 stX11_noFloor inX11 coX11_noFloor) rfl qnX11_noFloor rfl rfl ⟨Nat.le_of_ble_eq_true rfl, Nat.le_of_ble_eq_true rfl⟩ rfl rfl (Nat.le_of_ble_eq_true rfl) ⟨Nat.zero_le _, Nat.zero_le _⟩ dX11_apart_8 (fun H locs hP hD hS => ?_)
    refine lv_if_eq (tgt := 17) hx hb dX11_apart_11 (by decide) (fun hc => ?_) (fun hc => ?_)
    · have hf := ite_t hf hc
      refine lv_aload_n hx hb dX11_apart_17 rfl (lv_at hl 0 rfl) ?_
      refine va_get (D := D) (ci := 11) (v := .ref (a0 1)) (C := RX11) (T := TX11) (N := 13) hx hb hts hiX11 hown hK hP 0 rfl rfl 1 (by decide) (hts _ flX11_18) (fun _ h9 => h9) rfl dX11_apart_18 ?_
      refine lv_iload_n hx hb dX11_apart_21 rfl (lv_at hl 1 rfl) ?_
      have hj13 := inb_lt (ck_in hf)
      refine k_aald (f := fun j => fl1 j) (j := x1.toNatClampNeg) hx hb hK hP 1 4 rfl rfl rfl (ck_in hf) rfl dX11_apart_22 ?_
      have hf := ck_2 hf
      obtain ⟨q14, hq14, hf⟩ := bd_s hf
      refine k_fVi (ws2 := W11 cs h0 a0  ++ ([va_ar cs (a0 1) fl1] ++ FO cs fl1 a1 p1 s1 (List.range 6))) (As := []) (rest := []) hx hb hml hown hts hK hA hZ hl.1 hP hD hS (c_X2_lanes (h0 := fl1 x1.toNatClampNeg) (a0 := a1 x1.toNatClampNeg) hq14) (gVt mlX11_152 imX2_lanes seX2_lanes inX2 coX2_lanes) rfl qnX2_lanes rfl rfl ⟨Nat.le_of_ble_eq_true rfl, Nat.le_of_ble_eq_true rfl⟩ (bp (l := [W11 cs h0 a0 , [va_ar cs (a0 1) fl1]]) (lc := [W2 cs (fl1 x1.toNatClampNeg) (a1 x1.toNatClampNeg) (p1 x1.toNatClampNeg) (s1 x1.toNatClampNeg)]) (lr := [W11 cs h0 a0 , [va_ar cs (a0 1) fl1], FO cs fl1 a1 p1 s1 ((List.range 6).erase x1.toNatClampNeg)]) [W2 cs (fl1 x1.toNatClampNeg) (a1 x1.toNatClampNeg) (p1 x1.toNatClampNeg) (s1 x1.toNatClampNeg), FO cs fl1 a1 p1 s1 ((List.range 6).erase x1.toNatClampNeg)] (foc hj13) [2, 0, 1, 3] rfl rfl) (bp (l := [W11 cs h0 a0 , [va_ar cs (a0 1) fl1]]) (lc := [W2 cs (fl1 x1.toNatClampNeg) (a1 x1.toNatClampNeg) (p1 x1.toNatClampNeg) (s1 x1.toNatClampNeg)]) (lr := [W11 cs h0 a0 , [va_ar cs (a0 1) fl1], FO cs fl1 a1 p1 s1 ((List.range 6).erase x1.toNatClampNeg)]) [W2 cs (fl1 x1.toNatClampNeg) (a1 x1.toNatClampNeg) (p1 x1.toNatClampNeg) (s1 x1.toNatClampNeg), FO cs fl1 a1 p1 s1 ((List.range 6).erase x1.toNatClampNeg)] (foc hj13) [2, 0, 1, 3] rfl rfl) 0 2 rfl rfl rfl rfl rfl (Nat.le_of_ble_eq_true rfl) ⟨Nat.zero_le _, Nat.zero_le _⟩ dX11_apart_23 (fun H locs hP hD hS => ?_)
      refine lv_aload_n hx hb dX11_apart_26 rfl (lv_at hl 0 rfl) ?_
      refine va_get (D := D) (ci := 11) (v := .ref (a0 1)) (C := RX11) (T := TX11) (N := 13) hx hb hts hiX11 hown hK hP 0 rfl rfl 1 (by decide) (hts _ flX11_18) (fun _ h9 => h9) rfl dX11_apart_27 ?_
      refine lv_iload_n hx hb dX11_apart_30 rfl (lv_at hl 2 rfl) ?_
      have hj15 := inb_lt (ck_in hf)
      refine k_aald (f := fun j => fl1 j) (j := x2.toNatClampNeg) hx hb hK hP 1 4 rfl rfl rfl (ck_in hf) rfl dX11_apart_31 ?_
      have hf := ck_2 hf
      obtain ⟨q16, hq16, hf⟩ := bd_s hf
      refine k_fVi (ws2 := W11 cs h0 a0  ++ ([va_ar cs (a0 1) fl1] ++ FO cs fl1 a1 p1 s1 (List.range 6))) (As := []) (rest := [.int q14]) hx hb hml hown hts hK hA hZ hl.1 hP hD hS (c_X2_lanes (h0 := fl1 x2.toNatClampNeg) (a0 := a1 x2.toNatClampNeg) hq16) (gVt mlX11_152 imX2_lanes seX2_lanes inX2 coX2_lanes) rfl qnX2_lanes rfl rfl ⟨Nat.le_of_ble_eq_true rfl, Nat.le_of_ble_eq_true rfl⟩ (bp (l := [W11 cs h0 a0 , [va_ar cs (a0 1) fl1]]) (lc := [W2 cs (fl1 x2.toNatClampNeg) (a1 x2.toNatClampNeg) (p1 x2.toNatClampNeg) (s1 x2.toNatClampNeg)]) (lr := [W11 cs h0 a0 , [va_ar cs (a0 1) fl1], FO cs fl1 a1 p1 s1 ((List.range 6).erase x2.toNatClampNeg)]) [W2 cs (fl1 x2.toNatClampNeg) (a1 x2.toNatClampNeg) (p1 x2.toNatClampNeg) (s1 x2.toNatClampNeg), FO cs fl1 a1 p1 s1 ((List.range 6).erase x2.toNatClampNeg)] (foc hj15) [2, 0, 1, 3] rfl rfl) (bp (l := [W11 cs h0 a0 , [va_ar cs (a0 1) fl1]]) (lc := [W2 cs (fl1 x2.toNatClampNeg) (a1 x2.toNatClampNeg) (p1 x2.toNatClampNeg) (s1 x2.toNatClampNeg)]) (lr := [W11 cs h0 a0 , [va_ar cs (a0 1) fl1], FO cs fl1 a1 p1 s1 ((List.range 6).erase x2.toNatClampNeg)]) [W2 cs (fl1 x2.toNatClampNeg) (a1 x2.toNatClampNeg) (p1 x2.toNatClampNeg) (s1 x2.toNatClampNeg), FO cs fl1 a1 p1 s1 ((List.range 6).erase x2.toNatClampNeg)] (foc hj15) [2, 0, 1, 3] rfl rfl) 0 2 rfl rfl rfl rfl rfl (Nat.le_of_ble_eq_true rfl) ⟨Nat.zero_le _, Nat.zero_le _⟩ dX11_apart_32 (fun H locs hP hD hS => ?_)
      refine lv_icmp_eq (tgt := 41) hx hb dX11_apart_35 (by decide) (fun hc => ?_) (fun hc => ?_)
      · have hf := ite_t hf hc
        refine lv_aload_n hx hb dX11_apart_41 rfl (lv_at hl 0 rfl) ?_
        refine va_get (D := D) (ci := 11) (v := .ref (a0 1)) (C := RX11) (T := TX11) (N := 13) hx hb hts hiX11 hown hK hP 0 rfl rfl 1 (by decide) (hts _ flX11_18) (fun _ h9 => h9) rfl dX11_apart_42 ?_
        refine lv_iload_n hx hb dX11_apart_45 rfl (lv_at hl 1 rfl) ?_
        have hj17 := inb_lt (ck_in hf)
        refine k_aald (f := fun j => fl1 j) (j := x1.toNatClampNeg) hx hb hK hP 1 4 rfl rfl rfl (ck_in hf) rfl dX11_apart_46 ?_
        have hf := ck_2 hf
        refine lv_aload_n hx hb dX11_apart_47 rfl (lv_at hl 0 rfl) ?_
        refine va_get (D := D) (ci := 11) (v := .ref (a0 1)) (C := RX11) (T := TX11) (N := 13) hx hb hts hiX11 hown hK hP 0 rfl rfl 1 (by decide) (hts _ flX11_18) (fun _ h9 => h9) rfl dX11_apart_48 ?_
        refine lv_iload_n hx hb dX11_apart_51 rfl (lv_at hl 2 rfl) ?_
        have hj18 := inb_lt (ck_in hf)
        refine k_aald (f := fun j => fl1 j) (j := x2.toNatClampNeg) hx hb hK hP 1 4 rfl rfl rfl (ck_in hf) rfl dX11_apart_52 ?_
        have hf := ck_2 hf
        by_cases hc : x1.toNatClampNeg = x2.toNatClampNeg
        · have hf := ite_t hf hc
          rw [← hc]
          obtain ⟨q19, hq19, hf⟩ := bd_s hf
          refine k_fVi (ws2 := W11 cs h0 a0  ++ ([va_ar cs (a0 1) fl1] ++ FO cs fl1 a1 p1 s1 (List.range 6))) (As := [.ref (fl1 x1.toNatClampNeg)]) (rest := []) hx hb hml hown hts hK hA hZ hl.1 hP hD hS (c_X2_leastRowUnlike_S (h0 := fl1 x1.toNatClampNeg) (a0 := a1 x1.toNatClampNeg) hq19) (gVt mlX11_155 imX2_leastRowUnlike seX2_leastRowUnlike inX2 coX2_leastRowUnlike) rfl qnX2_leastRowUnlike_S rfl rfl ⟨Nat.le_of_ble_eq_true rfl, Nat.le_of_ble_eq_true rfl⟩ (bp (l := [W11 cs h0 a0 , [va_ar cs (a0 1) fl1]]) (lc := [W2 cs (fl1 x1.toNatClampNeg) (a1 x1.toNatClampNeg) (p1 x1.toNatClampNeg) (s1 x1.toNatClampNeg)]) (lr := [W11 cs h0 a0 , [va_ar cs (a0 1) fl1], FO cs fl1 a1 p1 s1 ((List.range 6).erase x1.toNatClampNeg)]) [W2 cs (fl1 x1.toNatClampNeg) (a1 x1.toNatClampNeg) (p1 x1.toNatClampNeg) (s1 x1.toNatClampNeg), FO cs fl1 a1 p1 s1 ((List.range 6).erase x1.toNatClampNeg)] (foc hj17) [2, 0, 1, 3] rfl rfl) (bp (l := [W11 cs h0 a0 , [va_ar cs (a0 1) fl1]]) (lc := [W2 cs (fl1 x1.toNatClampNeg) (a1 x1.toNatClampNeg) (p1 x1.toNatClampNeg) (s1 x1.toNatClampNeg)]) (lr := [W11 cs h0 a0 , [va_ar cs (a0 1) fl1], FO cs fl1 a1 p1 s1 ((List.range 6).erase x1.toNatClampNeg)]) [W2 cs (fl1 x1.toNatClampNeg) (a1 x1.toNatClampNeg) (p1 x1.toNatClampNeg) (s1 x1.toNatClampNeg), FO cs fl1 a1 p1 s1 ((List.range 6).erase x1.toNatClampNeg)] (foc hj17) [2, 0, 1, 3] rfl rfl) 0 2 rfl rfl rfl rfl rfl (Nat.le_of_ble_eq_true rfl) ⟨Nat.zero_le _, Nat.zero_le _⟩ dX11_apart_53 (fun H locs hP hD hS => ?_)
          obtain rfl := Option.some.inj hf
          exact k_iret hx hb hr hlocks hK hP hD hS dX11_apart_56
        · have hf := ite_f hf hc
          obtain ⟨q20, hq20, hf⟩ := bd_s hf
          refine k_fVi (ws2 := W11 cs h0 a0  ++ ([va_ar cs (a0 1) fl1] ++ FO cs fl1 a1 p1 s1 (List.range 6))) (As := [.ref (fl1 x2.toNatClampNeg)]) (rest := []) hx hb hml hown hts hK hA hZ hl.1 hP hD hS (c_X2_leastRowUnlike (h0 := fl1 x1.toNatClampNeg) (a0 := a1 x1.toNatClampNeg) (h1 := fl1 x2.toNatClampNeg) (a1 := a1 x2.toNatClampNeg) hq20) (gVt mlX11_155 imX2_leastRowUnlike seX2_leastRowUnlike inX2 coX2_leastRowUnlike) rfl qnX2_leastRowUnlike rfl rfl ⟨Nat.le_of_ble_eq_true rfl, Nat.le_of_ble_eq_true rfl⟩ (bp (l := [W11 cs h0 a0 , [va_ar cs (a0 1) fl1]]) (lc := [W2 cs (fl1 x1.toNatClampNeg) (a1 x1.toNatClampNeg) (p1 x1.toNatClampNeg) (s1 x1.toNatClampNeg), W2 cs (fl1 x2.toNatClampNeg) (a1 x2.toNatClampNeg) (p1 x2.toNatClampNeg) (s1 x2.toNatClampNeg)]) (lr := [W11 cs h0 a0 , [va_ar cs (a0 1) fl1], FO cs fl1 a1 p1 s1 (((List.range 6).erase x1.toNatClampNeg).erase x2.toNatClampNeg)]) [W2 cs (fl1 x1.toNatClampNeg) (a1 x1.toNatClampNeg) (p1 x1.toNatClampNeg) (s1 x1.toNatClampNeg), W2 cs (fl1 x2.toNatClampNeg) (a1 x2.toNatClampNeg) (p1 x2.toNatClampNeg) (s1 x2.toNatClampNeg), FO cs fl1 a1 p1 s1 (((List.range 6).erase x1.toNatClampNeg).erase x2.toNatClampNeg)] (foc2 hj17 hj18 hc) [2, 3, 0, 1, 4] rfl rfl) (bp (l := [W11 cs h0 a0 , [va_ar cs (a0 1) fl1]]) (lc := [W2 cs (fl1 x1.toNatClampNeg) (a1 x1.toNatClampNeg) (p1 x1.toNatClampNeg) (s1 x1.toNatClampNeg), W2 cs (fl1 x2.toNatClampNeg) (a1 x2.toNatClampNeg) (p1 x2.toNatClampNeg) (s1 x2.toNatClampNeg)]) (lr := [W11 cs h0 a0 , [va_ar cs (a0 1) fl1], FO cs fl1 a1 p1 s1 (((List.range 6).erase x1.toNatClampNeg).erase x2.toNatClampNeg)]) [W2 cs (fl1 x1.toNatClampNeg) (a1 x1.toNatClampNeg) (p1 x1.toNatClampNeg) (s1 x1.toNatClampNeg), W2 cs (fl1 x2.toNatClampNeg) (a1 x2.toNatClampNeg) (p1 x2.toNatClampNeg) (s1 x2.toNatClampNeg), FO cs fl1 a1 p1 s1 (((List.range 6).erase x1.toNatClampNeg).erase x2.toNatClampNeg)] (foc2 hj17 hj18 hc) [2, 3, 0, 1, 4] rfl rfl) 0 2 rfl rfl rfl rfl rfl (Nat.le_of_ble_eq_true rfl) ⟨Nat.zero_le _, Nat.zero_le _⟩ dX11_apart_53 (fun H locs hP hD hS => ?_)
          obtain rfl := Option.some.inj hf
          exact k_iret hx hb hr hlocks hK hP hD hS dX11_apart_56
      · have hf := ite_f hf hc
        refine lv_bipush (v := (-4)) hx hb dX11_apart_38 (by decide) ?_
        obtain rfl := Option.some.inj hf
        exact k_iret hx hb hr hlocks hK hP hD hS dX11_apart_40
    · have hf := ite_f hf hc
      refine lv_bipush (v := (-2)) hx hb dX11_apart_14 (by decide) ?_
      obtain rfl := Option.some.inj hf
      exact k_iret hx hb hr hlocks hK hP hD hS dX11_apart_16
/-! MarbleFloor.settle(I)I -/
abbrev wlX11_settle : List Cond := Cond.code yX11_settle cX11_settle 2 (some .int) :: tbG
abbrev rmX11_settle : Room := { frames := 3, cells := 0, slots := 0, locals := 67 }
theorem qnX11_settle : yX11_settle.cls = RX11 ∧ yX11_settle.cls ≠ "java/lang/invoke/MethodHandle" ∧ yX11_settle.cls ≠ "java/lang/invoke/VarHandle" ∧ (parseMethodDescriptor yX11_settle.desc).map (fun d => d.parameters.length) = some 1 := by decide +kernel
def f_X11_settle_13 (i1 : Nat → Int32) (r1 : Nat → Nat → Int32)  (p2 : Nat → Nat → Int32) (s2 : Nat → Nat → Nat → Int32) (x1 : Int32) : Option (Int32 × (Nat → Nat → Int32) × (Nat → Nat → Nat → Int32)) := ck (inb x1 6) (bd (f_X2_steps (p2 x1.toNatClampNeg) (s2 x1.toNatClampNeg)) (fun q6 => some (q6, p2, s2)))
set_option maxRecDepth 100000 in
set_option maxHeartbeats 4000000 in
theorem w_X11_settle_13 {p : Program} {l : Launch} {e : Env} {s : State} {m : MethodId} {args : Array Value} {below : List Frame} {meth : Method} {c : Code} {A : Nat → Prop} {D : va_G} {cs zs : Nat → Nat} {h0 : Nat} {a0 : Nat → Nat} {a1 : Nat → Nat} {fl2 : Nat → Nat} {a2 : Nat → Nat → Nat} {i1 : Nat → Int32} {r1 : Nat → Nat → Int32} {q : Int32 × (Nat → Nat → Int32) × (Nat → Nat → Nat → Int32)} (C : Cx p s m args meth c A D cs zs cX11_settle 2 (some .int) RX11)  : ∀ (p2 : Nat → Nat → Int32) (s2 : Nat → Nat → Nat → Int32) (x1 : Int32) (H : Heap) (locs : List Loc) (ls : Array Slot), f_X11_settle_13 i1 r1 p2 s2 x1 = some q → va_P D vwCl (W11 cs h0 a0  ++ (W2 cs (a0 2) a1 i1 r1 ++ ([va_ar cs (a0 1) fl2] ++ FO cs fl2 a2 p2 s2 (List.range 6)))) H → va_D A (W11 cs h0 a0  ++ (W2 cs (a0 2) a1 i1 r1 ++ ([va_ar cs (a0 1) fl2] ++ FO cs fl2 a2 p2 s2 (List.range 6)))) → va_S A s.heap H locs → lv_has ls 2 [(0, .ref h0), (1, .int x1)] → W p l e rmX11_settle s m args below meth c H locs 0 0 (MQ below (Qi D cs A q.1 (W11 cs h0 a0  ++ (W2 cs (a0 2) a1 i1 r1 ++ ([va_ar cs (a0 1) fl2] ++ FO cs fl2 a2 q.2.1 q.2.2 (List.range 6))))) args s 0 0 A) (F0 m 13 ls []) := by
  obtain ⟨hx, hb, hr, hml, hown, hts, hK, hA, hlocks, hZ⟩ := id C
  intro p2 s2 x1 H locs ls hf hP hD hS hl
  rw [f_X11_settle_13] at hf
  refine lv_aload_n hx hb dX11_settle_13 rfl (lv_at hl 0 rfl) ?_
  refine va_get (D := D) (ci := 11) (v := .ref (a0 1)) (C := RX11) (T := TX11) (N := 13) hx hb hts hiX11 hown hK hP 0 rfl rfl 1 (by decide) (hts _ flX11_18) (fun _ h9 => h9) rfl dX11_settle_14 ?_
  refine lv_iload_n hx hb dX11_settle_17 rfl (lv_at hl 1 rfl) ?_
  have hj5 := inb_lt (ck_in hf)
  refine k_aald (f := fun j => fl2 j) (j := x1.toNatClampNeg) hx hb hK hP 6 4 rfl rfl rfl (ck_in hf) rfl dX11_settle_18 ?_
  have hf := ck_2 hf
  obtain ⟨q6, hq6, hf⟩ := bd_s hf
  refine k_fVi (ws2 := W11 cs h0 a0  ++ (W2 cs (a0 2) a1 i1 r1 ++ ([va_ar cs (a0 1) fl2] ++ FO cs fl2 a2 p2 s2 (List.range 6)))) (As := []) (rest := []) hx hb hml hown hts hK hA hZ hl.1 hP hD hS (c_X2_steps (h0 := fl2 x1.toNatClampNeg) (a0 := a2 x1.toNatClampNeg) hq6) (gVt mlX11_171 imX2_steps seX2_steps inX2 coX2_steps) rfl qnX2_steps rfl rfl ⟨Nat.le_of_ble_eq_true rfl, Nat.le_of_ble_eq_true rfl⟩ (bp (l := [W11 cs h0 a0 , W2 cs (a0 2) a1 i1 r1, [va_ar cs (a0 1) fl2]]) (lc := [W2 cs (fl2 x1.toNatClampNeg) (a2 x1.toNatClampNeg) (p2 x1.toNatClampNeg) (s2 x1.toNatClampNeg)]) (lr := [W11 cs h0 a0 , W2 cs (a0 2) a1 i1 r1, [va_ar cs (a0 1) fl2], FO cs fl2 a2 p2 s2 ((List.range 6).erase x1.toNatClampNeg)]) [W2 cs (fl2 x1.toNatClampNeg) (a2 x1.toNatClampNeg) (p2 x1.toNatClampNeg) (s2 x1.toNatClampNeg), FO cs fl2 a2 p2 s2 ((List.range 6).erase x1.toNatClampNeg)] (foc hj5) [3, 0, 1, 2, 4] rfl rfl) (bp (l := [W11 cs h0 a0 , W2 cs (a0 2) a1 i1 r1, [va_ar cs (a0 1) fl2]]) (lc := [W2 cs (fl2 x1.toNatClampNeg) (a2 x1.toNatClampNeg) (p2 x1.toNatClampNeg) (s2 x1.toNatClampNeg)]) (lr := [W11 cs h0 a0 , W2 cs (a0 2) a1 i1 r1, [va_ar cs (a0 1) fl2], FO cs fl2 a2 p2 s2 ((List.range 6).erase x1.toNatClampNeg)]) [W2 cs (fl2 x1.toNatClampNeg) (a2 x1.toNatClampNeg) (p2 x1.toNatClampNeg) (s2 x1.toNatClampNeg), FO cs fl2 a2 p2 s2 ((List.range 6).erase x1.toNatClampNeg)] (foc hj5) [3, 0, 1, 2, 4] rfl rfl) 0 2 rfl rfl rfl rfl rfl (Nat.le_of_ble_eq_true rfl) ⟨Nat.zero_le _, Nat.zero_le _⟩ dX11_settle_19 (fun H locs hP hD hS => ?_)
  obtain rfl := Option.some.inj hf
  exact k_iret hx hb hr hlocks hK hP hD hS dX11_settle_22
def f_X11_settle  (i1 : Nat → Int32) (r1 : Nat → Nat → Int32) (p2 : Nat → Nat → Int32) (s2 : Nat → Nat → Nat → Int32) (x1 : Int32) : Option (Int32 × (Nat → Nat → Int32) × (Nat → Nat → Nat → Int32)) := ck (inb x1 6) (bd (f_X2_copyFrom (p2 x1.toNatClampNeg) (s2 x1.toNatClampNeg) i1 r1) (fun q8 => f_X11_settle_13 i1 r1 (va_up p2 x1.toNatClampNeg q8.1) (va_up s2 x1.toNatClampNeg q8.2) x1))
set_option maxRecDepth 100000 in
set_option maxHeartbeats 4000000 in
theorem c_X11_settle {l : Launch} {D : va_G} {cs zs : Nat → Nat} {h0 : Nat} {a0 : Nat → Nat} {a1 : Nat → Nat} {fl2 : Nat → Nat} {a2 : Nat → Nat → Nat} {i1 : Nat → Int32} {r1 : Nat → Nat → Int32} {p2 : Nat → Nat → Int32} {s2 : Nat → Nat → Nat → Int32} {x1 : Int32} {q : Int32 × (Nat → Nat → Int32) × (Nat → Nat → Nat → Int32)} (hf : f_X11_settle i1 r1 p2 s2 x1 = some q) : Mi l yX11_settle wlX11_settle rmX11_settle D cs zs [.ref h0, .int x1] (W11 cs h0 a0  ++ (W2 cs (a0 2) a1 i1 r1 ++ ([va_ar cs (a0 1) fl2] ++ FO cs fl2 a2 p2 s2 (List.range 6)))) q.1 (W11 cs h0 a0  ++ (W2 cs (a0 2) a1 i1 r1 ++ ([va_ar cs (a0 1) fl2] ++ FO cs fl2 a2 q.2.1 q.2.2 (List.range 6)))) := by
  refine Mi.of RX11 (by decide) rfl (Nat.le_of_ble_eq_true rfl) (fun p e s m below meth c A C hP hD hS ls hl => ?_)
  generalize ([.ref h0, .int x1] : List Value).toArray = args at C ⊢
  obtain ⟨hx, hb, hr, hml, hown, hts, hK, hA, hlocks, hZ⟩ := id C
  have hl : lv_has ls 2 [(0, .ref h0), (1, .int x1)] := hl
  rw [f_X11_settle] at hf
  refine lv_aload_n hx hb dX11_settle_0 rfl (lv_at hl 0 rfl) ?_
  refine va_get (D := D) (ci := 11) (v := .ref (a0 1)) (C := RX11) (T := TX11) (N := 13) hx hb hts hiX11 hown hK hP 0 rfl rfl 1 (by decide) (hts _ flX11_18) (fun _ h9 => h9) rfl dX11_settle_1 ?_
  refine lv_iload_n hx hb dX11_settle_4 rfl (lv_at hl 1 rfl) ?_
  have hj7 := inb_lt (ck_in hf)
  refine k_aald (f := fun j => fl2 j) (j := x1.toNatClampNeg) hx hb hK hP 6 4 rfl rfl rfl (ck_in hf) rfl dX11_settle_5 ?_
  have hf := ck_2 hf
  refine lv_aload_n hx hb dX11_settle_6 rfl (lv_at hl 0 rfl) ?_
  refine va_get (D := D) (ci := 11) (v := .ref (a0 2)) (C := RX11) (T := TX11) (N := 13) hx hb hts hiX11 hown hK hP 0 rfl rfl 2 (by decide) (hts _ flX11_23) (fun _ h9 => h9) rfl dX11_settle_7 ?_
  obtain ⟨q8, hq8, hf⟩ := bd_s hf
  refine k_fVv (ws2 := W11 cs h0 a0  ++ (W2 cs (a0 2) a1 i1 r1 ++ ([va_ar cs (a0 1) fl2] ++ FO cs fl2 a2 (va_up p2 x1.toNatClampNeg q8.1) (va_up s2 x1.toNatClampNeg q8.2) (List.range 6)))) (As := [.ref (a0 2)]) (rest := []) hx hb hml hown hts hK hA hZ hl.1 hP hD hS (c_X2_copyFrom (h0 := fl2 x1.toNatClampNeg) (a0 := a2 x1.toNatClampNeg) (h1 := (a0 2)) (a1 := a1) hq8) (gVt mlX11_290 imX2_copyFrom seX2_copyFrom inX2 coX2_copyFrom) rfl qnX2_copyFrom rfl rfl ⟨Nat.le_of_ble_eq_true rfl, Nat.le_of_ble_eq_true rfl⟩ (bp (l := [W11 cs h0 a0 , W2 cs (a0 2) a1 i1 r1, [va_ar cs (a0 1) fl2]]) (lc := [W2 cs (fl2 x1.toNatClampNeg) (a2 x1.toNatClampNeg) (p2 x1.toNatClampNeg) (s2 x1.toNatClampNeg), W2 cs (a0 2) a1 i1 r1]) (lr := [W11 cs h0 a0 , [va_ar cs (a0 1) fl2], FO cs fl2 a2 p2 s2 ((List.range 6).erase x1.toNatClampNeg)]) [W2 cs (fl2 x1.toNatClampNeg) (a2 x1.toNatClampNeg) (p2 x1.toNatClampNeg) (s2 x1.toNatClampNeg), FO cs fl2 a2 p2 s2 ((List.range 6).erase x1.toNatClampNeg)] (foc hj7) [3, 1, 0, 2, 4] rfl rfl) (bp (l := [W11 cs h0 a0 , W2 cs (a0 2) a1 i1 r1, [va_ar cs (a0 1) fl2]]) (lc := [W2 cs (fl2 x1.toNatClampNeg) (a2 x1.toNatClampNeg) q8.1 q8.2, W2 cs (a0 2) a1 i1 r1]) (lr := [W11 cs h0 a0 , [va_ar cs (a0 1) fl2], FO cs fl2 a2 p2 s2 ((List.range 6).erase x1.toNatClampNeg)]) [W2 cs (fl2 x1.toNatClampNeg) (a2 x1.toNatClampNeg) q8.1 q8.2, FO cs fl2 a2 p2 s2 ((List.range 6).erase x1.toNatClampNeg)] (foc_up hj7) [3, 1, 0, 2, 4] rfl rfl) 0 2 rfl rfl rfl rfl rfl (Nat.le_of_ble_eq_true rfl) ⟨Nat.zero_le _, Nat.zero_le _⟩ dX11_settle_10 (fun H locs hP hD hS => ?_)
  exact w_X11_settle_13 C  _ _ _ _ _ _ hf hP hD hS (lv_sub hl [0, 1] rfl)
/-! MarbleFloor.floor(I)I -/
abbrev wlX11_floor : List Cond := Cond.code yX11_floor cX11_floor 3 (some .int) :: tbG
abbrev rmX11_floor : Room := { frames := 6, cells := 0, slots := 0, locals := 138 }
theorem qnX11_floor : yX11_floor.cls = RX11 ∧ yX11_floor.cls ≠ "java/lang/invoke/MethodHandle" ∧ yX11_floor.cls ≠ "java/lang/invoke/VarHandle" ∧ (parseMethodDescriptor yX11_floor.desc).map (fun d => d.parameters.length) = some 1 := by decide +kernel
def f_X11_floor  (i1 : Nat → Int32) (r1 : Nat → Nat → Int32) (l1 : Nat → Nat → Int64) (i3 : Nat → Int32) (r3 : Nat → Nat → Int32) (p4 : Nat → Nat → Int32) (s4 : Nat → Nat → Nat → Int32) (x1 : Int32) : Option (Int32 × (Nat → Int32) × (Nat → Nat → Int64) × (Nat → Nat → Int32) × (Nat → Int32) × (Nat → Nat → Int32) × (Nat → Nat → Int32) × (Nat → Nat → Nat → Int32)) := bd (f_X11_noFloor x1) (fun q6 => if q6 = 0 then (bd (f_X3_readInto i1 r1 l1 i3 r3) (fun q7 => bd (f_X9_empty q7.2.1 q7.2.2.2.1 q7.2.2.1) (fun q8 => if q7.1 = 0 then (some ((-1), q8, q7.2.2.1, q7.2.2.2.1, q7.2.2.2.2.1, q7.2.2.2.2.2, p4, s4)) else (bd (f_X11_settle q7.2.2.2.2.1 q7.2.2.2.2.2 p4 s4 x1) (fun q9 => some (q9.1, q8, q7.2.2.1, q7.2.2.2.1, q7.2.2.2.2.1, q7.2.2.2.2.2, q9.2.1, q9.2.2)))))) else (bd (f_X9_empty i1 r1 l1) (fun q10 => some ((-2), q10, l1, r1, i3, r3, p4, s4))))
set_option maxRecDepth 100000 in
set_option maxHeartbeats 4000000 in
theorem c_X11_floor {l : Launch} {D : va_G} {cs zs : Nat → Nat} {h0 : Nat} {a0 : Nat → Nat} {a1 : Nat → Nat} {a2 : Nat → Nat} {a3 : Nat → Nat} {fl4 : Nat → Nat} {a4 : Nat → Nat → Nat} {i1 : Nat → Int32} {r1 : Nat → Nat → Int32} {l1 : Nat → Nat → Int64} {i3 : Nat → Int32} {r3 : Nat → Nat → Int32} {p4 : Nat → Nat → Int32} {s4 : Nat → Nat → Nat → Int32} {x1 : Int32} {q : Int32 × (Nat → Int32) × (Nat → Nat → Int64) × (Nat → Nat → Int32) × (Nat → Int32) × (Nat → Nat → Int32) × (Nat → Nat → Int32) × (Nat → Nat → Nat → Int32)} (hf : f_X11_floor i1 r1 l1 i3 r3 p4 s4 x1 = some q) : Mi l yX11_floor wlX11_floor rmX11_floor D cs zs [.ref h0, .int x1] (W11 cs h0 a0  ++ (W9 cs (a0 0) a1 i1 r1 l1 ++ (W3 cs (a0 3) (va_up a2 0 (a0 0))  ++ (W2 cs (a0 2) a3 i3 r3 ++ ([va_ar cs (a0 1) fl4] ++ FO cs fl4 a4 p4 s4 (List.range 6)))))) q.1 (W11 cs h0 a0  ++ (W9 cs (a0 0) a1 q.2.1 q.2.2.2.1 q.2.2.1 ++ (W3 cs (a0 3) (va_up a2 0 (a0 0))  ++ (W2 cs (a0 2) a3 q.2.2.2.2.1 q.2.2.2.2.2.1 ++ ([va_ar cs (a0 1) fl4] ++ FO cs fl4 a4 q.2.2.2.2.2.2.1 q.2.2.2.2.2.2.2 (List.range 6)))))) := by
  refine Mi.of RX11 (by decide) rfl (Nat.le_of_ble_eq_true rfl) (fun p e s m below meth c A C hP hD hS ls hl => ?_)
  generalize ([.ref h0, .int x1] : List Value).toArray = args at C ⊢
  obtain ⟨hx, hb, hr, hml, hown, hts, hK, hA, hlocks, hZ⟩ := id C
  have hl : lv_has ls 3 [(0, .ref h0), (1, .int x1)] := hl
  rw [f_X11_floor] at hf
  refine lv_iload_n hx hb dX11_floor_0 rfl (lv_at hl 1 rfl) ?_
  obtain ⟨q6, hq6, hf⟩ := bd_s hf
  refine k_eSi (As := [.int x1]) (rest := []) hx hb hml hown hts hK hA hZ hl.1 hP hD hS (c_X11_noFloor  hq6) (gSt mlX11_107 stX11_noFloor inX11 coX11_noFloor) rfl qnX11_noFloor rfl rfl ⟨Nat.le_of_ble_eq_true rfl, Nat.le_of_ble_eq_true rfl⟩ rfl rfl (Nat.le_of_ble_eq_true rfl) ⟨Nat.zero_le _, Nat.zero_le _⟩ dX11_floor_1 (fun H locs hP hD hS => ?_)
  refine lv_if_eq (tgt := 17) hx hb dX11_floor_4 (by decide) (fun hc => ?_) (fun hc => ?_)
  · have hf := ite_t hf hc
    refine lv_aload_n hx hb dX11_floor_17 rfl (lv_at hl 0 rfl) ?_
    refine va_get (D := D) (ci := 11) (v := .ref (a0 3)) (C := RX11) (T := TX11) (N := 13) hx hb hts hiX11 hown hK hP 0 rfl rfl 3 (by decide) (hts _ flX11_32) (fun _ h9 => h9) rfl dX11_floor_18 ?_
    refine lv_aload_n hx hb dX11_floor_21 rfl (lv_at hl 0 rfl) ?_
    refine va_get (D := D) (ci := 11) (v := .ref (a0 2)) (C := RX11) (T := TX11) (N := 13) hx hb hts hiX11 hown hK hP 0 rfl rfl 2 (by decide) (hts _ flX11_23) (fun _ h9 => h9) rfl dX11_floor_22 ?_
    obtain ⟨q7, hq7, hf⟩ := bd_s hf
    refine k_fVi (ws2 := W11 cs h0 a0  ++ (W9 cs (a0 0) a1 q7.2.1 q7.2.2.2.1 q7.2.2.1 ++ (W3 cs (a0 3) (va_up a2 0 (a0 0))  ++ (W2 cs (a0 2) a3 q7.2.2.2.2.1 q7.2.2.2.2.2 ++ ([va_ar cs (a0 1) fl4] ++ FO cs fl4 a4 p4 s4 (List.range 6)))))) (As := [.ref (a0 2)]) (rest := []) hx hb hml hown hts hK hA hZ hl.1 hP hD hS (c_X3_readInto (h0 := (a0 3)) (a0 := (va_up a2 0 (a0 0))) (a1 := a1) (h2 := (a0 2)) (a2 := a3) hq7) (gVt mlX11_114 imX3_readInto seX3_readInto inX3 coX3_readInto) rfl qnX3_readInto rfl rfl ⟨Nat.le_of_ble_eq_true rfl, Nat.le_of_ble_eq_true rfl⟩ (bp (l := [W11 cs h0 a0 , W9 cs (a0 0) a1 i1 r1 l1, W3 cs (a0 3) (va_up a2 0 (a0 0)) , W2 cs (a0 2) a3 i3 r3, [va_ar cs (a0 1) fl4]]) (lc := [W3 cs (a0 3) (va_up a2 0 (a0 0)) , W9 cs (a0 0) a1 i1 r1 l1, W2 cs (a0 2) a3 i3 r3]) (lr := [W11 cs h0 a0 , [va_ar cs (a0 1) fl4], FO cs fl4 a4 p4 s4 (List.range 6)]) [FO cs fl4 a4 p4 s4 (List.range 6)] (List.Perm.refl _) [2, 1, 3, 0, 4, 5] rfl rfl) (bp (l := [W11 cs h0 a0 , W9 cs (a0 0) a1 q7.2.1 q7.2.2.2.1 q7.2.2.1, W3 cs (a0 3) (va_up a2 0 (a0 0)) , W2 cs (a0 2) a3 q7.2.2.2.2.1 q7.2.2.2.2.2, [va_ar cs (a0 1) fl4]]) (lc := [W3 cs (a0 3) (va_up a2 0 (a0 0)) , W9 cs (a0 0) a1 q7.2.1 q7.2.2.2.1 q7.2.2.1, W2 cs (a0 2) a3 q7.2.2.2.2.1 q7.2.2.2.2.2]) (lr := [W11 cs h0 a0 , [va_ar cs (a0 1) fl4], FO cs fl4 a4 p4 s4 (List.range 6)]) [FO cs fl4 a4 p4 s4 (List.range 6)] (List.Perm.refl _) [2, 1, 3, 0, 4, 5] rfl rfl) 0 3 rfl rfl rfl rfl rfl (Nat.le_of_ble_eq_true rfl) ⟨Nat.zero_le _, Nat.zero_le _⟩ dX11_floor_25 (fun H locs hP hD hS => ?_)
    refine lv_istore_n (lv' := [(2, .int q7.1), (0, .ref h0), (1, .int x1)]) hx hb dX11_floor_28 rfl hl (by decide) rfl (fun ls hl => ?_)
    refine lv_aload_n hx hb dX11_floor_29 rfl (lv_at hl 1 rfl) ?_
    refine va_get (D := D) (ci := 11) (v := .ref (a0 0)) (C := RX11) (T := TX11) (N := 13) hx hb hts hiX11 hown hK hP 0 rfl rfl 0 (by decide) (hts _ flX11_10) (fun _ h9 => h9) rfl dX11_floor_30 ?_
    obtain ⟨q8, hq8, hf⟩ := bd_s hf
    refine k_fVv (ws2 := W11 cs h0 a0  ++ (W9 cs (a0 0) a1 q8 q7.2.2.2.1 q7.2.2.1 ++ (W3 cs (a0 3) (va_up a2 0 (a0 0))  ++ (W2 cs (a0 2) a3 q7.2.2.2.2.1 q7.2.2.2.2.2 ++ ([va_ar cs (a0 1) fl4] ++ FO cs fl4 a4 p4 s4 (List.range 6)))))) (As := []) (rest := []) hx hb hml hown hts hK hA hZ hl.1 hP hD hS (c_X9_empty (h0 := (a0 0)) (a0 := a1) hq8) (gVt mlX11_111 imX9_empty seX9_empty inX9 coX9_empty) rfl qnX9_empty rfl rfl ⟨Nat.le_of_ble_eq_true rfl, Nat.le_of_ble_eq_true rfl⟩ (bp (l := [W11 cs h0 a0 , W9 cs (a0 0) a1 q7.2.1 q7.2.2.2.1 q7.2.2.1, W3 cs (a0 3) (va_up a2 0 (a0 0)) , W2 cs (a0 2) a3 q7.2.2.2.2.1 q7.2.2.2.2.2, [va_ar cs (a0 1) fl4]]) (lc := [W9 cs (a0 0) a1 q7.2.1 q7.2.2.2.1 q7.2.2.1]) (lr := [W11 cs h0 a0 , W3 cs (a0 3) (va_up a2 0 (a0 0)) , W2 cs (a0 2) a3 q7.2.2.2.2.1 q7.2.2.2.2.2, [va_ar cs (a0 1) fl4], FO cs fl4 a4 p4 s4 (List.range 6)]) [FO cs fl4 a4 p4 s4 (List.range 6)] (List.Perm.refl _) [1, 0, 2, 3, 4, 5] rfl rfl) (bp (l := [W11 cs h0 a0 , W9 cs (a0 0) a1 q8 q7.2.2.2.1 q7.2.2.1, W3 cs (a0 3) (va_up a2 0 (a0 0)) , W2 cs (a0 2) a3 q7.2.2.2.2.1 q7.2.2.2.2.2, [va_ar cs (a0 1) fl4]]) (lc := [W9 cs (a0 0) a1 q8 q7.2.2.2.1 q7.2.2.1]) (lr := [W11 cs h0 a0 , W3 cs (a0 3) (va_up a2 0 (a0 0)) , W2 cs (a0 2) a3 q7.2.2.2.2.1 q7.2.2.2.2.2, [va_ar cs (a0 1) fl4], FO cs fl4 a4 p4 s4 (List.range 6)]) [FO cs fl4 a4 p4 s4 (List.range 6)] (List.Perm.refl _) [1, 0, 2, 3, 4, 5] rfl rfl) 0 9 rfl rfl rfl rfl rfl (Nat.le_of_ble_eq_true rfl) ⟨Nat.zero_le _, Nat.zero_le _⟩ dX11_floor_33 (fun H locs hP hD hS => ?_)
    refine lv_iload_n hx hb dX11_floor_36 rfl (lv_at hl 0 rfl) ?_
    refine lv_if_ne (tgt := 42) hx hb dX11_floor_37 (by decide) (fun hc => ?_) (fun hc => ?_)
    · have hf := ite_f hf hc
      refine lv_aload_n hx hb dX11_floor_42 rfl (lv_at hl 1 rfl) ?_
      refine lv_iload_n hx hb dX11_floor_43 rfl (lv_at hl 2 rfl) ?_
      obtain ⟨q9, hq9, hf⟩ := bd_s hf
      refine k_fVi (ws2 := W11 cs h0 a0  ++ (W9 cs (a0 0) a1 q8 q7.2.2.2.1 q7.2.2.1 ++ (W3 cs (a0 3) (va_up a2 0 (a0 0))  ++ (W2 cs (a0 2) a3 q7.2.2.2.2.1 q7.2.2.2.2.2 ++ ([va_ar cs (a0 1) fl4] ++ FO cs fl4 a4 q9.2.1 q9.2.2 (List.range 6)))))) (As := [.int x1]) (rest := []) hx hb hml hown hts hK hA hZ hl.1 hP hD hS (c_X11_settle (h0 := h0) (a0 := a0) (a1 := a3) (fl2 := fl4) (a2 := a4) hq9) (gVt mlX11_118 imX11_settle seX11_settle inX11 coX11_settle) rfl qnX11_settle rfl rfl ⟨Nat.le_of_ble_eq_true rfl, Nat.le_of_ble_eq_true rfl⟩ (bp (l := [W11 cs h0 a0 , W9 cs (a0 0) a1 q8 q7.2.2.2.1 q7.2.2.1, W3 cs (a0 3) (va_up a2 0 (a0 0)) , W2 cs (a0 2) a3 q7.2.2.2.2.1 q7.2.2.2.2.2, [va_ar cs (a0 1) fl4]]) (lc := [W11 cs h0 a0 , W2 cs (a0 2) a3 q7.2.2.2.2.1 q7.2.2.2.2.2, [va_ar cs (a0 1) fl4], FO cs fl4 a4 p4 s4 (List.range 6)]) (lr := [W9 cs (a0 0) a1 q8 q7.2.2.2.1 q7.2.2.1, W3 cs (a0 3) (va_up a2 0 (a0 0)) ]) [FO cs fl4 a4 p4 s4 (List.range 6)] (List.Perm.refl _) [0, 3, 4, 5, 1, 2] rfl rfl) (bp (l := [W11 cs h0 a0 , W9 cs (a0 0) a1 q8 q7.2.2.2.1 q7.2.2.1, W3 cs (a0 3) (va_up a2 0 (a0 0)) , W2 cs (a0 2) a3 q7.2.2.2.2.1 q7.2.2.2.2.2, [va_ar cs (a0 1) fl4]]) (lc := [W11 cs h0 a0 , W2 cs (a0 2) a3 q7.2.2.2.2.1 q7.2.2.2.2.2, [va_ar cs (a0 1) fl4], FO cs fl4 a4 q9.2.1 q9.2.2 (List.range 6)]) (lr := [W9 cs (a0 0) a1 q8 q7.2.2.2.1 q7.2.2.1, W3 cs (a0 3) (va_up a2 0 (a0 0)) ]) [FO cs fl4 a4 q9.2.1 q9.2.2 (List.range 6)] (List.Perm.refl _) [0, 3, 4, 5, 1, 2] rfl rfl) 0 11 rfl rfl rfl rfl rfl (Nat.le_of_ble_eq_true rfl) ⟨Nat.zero_le _, Nat.zero_le _⟩ dX11_floor_44 (fun H locs hP hD hS => ?_)
      obtain rfl := Option.some.inj hf
      exact k_iret hx hb hr hlocks hK hP hD hS dX11_floor_47
    · have hf := ite_t hf hc
      refine lv_iconst (v := (-1)) hx hb dX11_floor_40 (by decide) ?_
      obtain rfl := Option.some.inj hf
      exact k_iret hx hb hr hlocks hK hP hD hS dX11_floor_41
  · have hf := ite_f hf hc
    refine lv_aload_n hx hb dX11_floor_7 rfl (lv_at hl 0 rfl) ?_
    refine va_get (D := D) (ci := 11) (v := .ref (a0 0)) (C := RX11) (T := TX11) (N := 13) hx hb hts hiX11 hown hK hP 0 rfl rfl 0 (by decide) (hts _ flX11_10) (fun _ h9 => h9) rfl dX11_floor_8 ?_
    obtain ⟨q10, hq10, hf⟩ := bd_s hf
    refine k_fVv (ws2 := W11 cs h0 a0  ++ (W9 cs (a0 0) a1 q10 r1 l1 ++ (W3 cs (a0 3) (va_up a2 0 (a0 0))  ++ (W2 cs (a0 2) a3 i3 r3 ++ ([va_ar cs (a0 1) fl4] ++ FO cs fl4 a4 p4 s4 (List.range 6)))))) (As := []) (rest := []) hx hb hml hown hts hK hA hZ hl.1 hP hD hS (c_X9_empty (h0 := (a0 0)) (a0 := a1) hq10) (gVt mlX11_111 imX9_empty seX9_empty inX9 coX9_empty) rfl qnX9_empty rfl rfl ⟨Nat.le_of_ble_eq_true rfl, Nat.le_of_ble_eq_true rfl⟩ (bp (l := [W11 cs h0 a0 , W9 cs (a0 0) a1 i1 r1 l1, W3 cs (a0 3) (va_up a2 0 (a0 0)) , W2 cs (a0 2) a3 i3 r3, [va_ar cs (a0 1) fl4]]) (lc := [W9 cs (a0 0) a1 i1 r1 l1]) (lr := [W11 cs h0 a0 , W3 cs (a0 3) (va_up a2 0 (a0 0)) , W2 cs (a0 2) a3 i3 r3, [va_ar cs (a0 1) fl4], FO cs fl4 a4 p4 s4 (List.range 6)]) [FO cs fl4 a4 p4 s4 (List.range 6)] (List.Perm.refl _) [1, 0, 2, 3, 4, 5] rfl rfl) (bp (l := [W11 cs h0 a0 , W9 cs (a0 0) a1 q10 r1 l1, W3 cs (a0 3) (va_up a2 0 (a0 0)) , W2 cs (a0 2) a3 i3 r3, [va_ar cs (a0 1) fl4]]) (lc := [W9 cs (a0 0) a1 q10 r1 l1]) (lr := [W11 cs h0 a0 , W3 cs (a0 3) (va_up a2 0 (a0 0)) , W2 cs (a0 2) a3 i3 r3, [va_ar cs (a0 1) fl4], FO cs fl4 a4 p4 s4 (List.range 6)]) [FO cs fl4 a4 p4 s4 (List.range 6)] (List.Perm.refl _) [1, 0, 2, 3, 4, 5] rfl rfl) 0 9 rfl rfl rfl rfl rfl (Nat.le_of_ble_eq_true rfl) ⟨Nat.zero_le _, Nat.zero_le _⟩ dX11_floor_11 (fun H locs hP hD hS => ?_)
    refine lv_bipush (v := (-2)) hx hb dX11_floor_14 (by decide) ?_
    obtain rfl := Option.some.inj hf
    exact k_iret hx hb hr hlocks hK hP hD hS dX11_floor_16
/-! MarbleFloor.lay(II)I -/
abbrev wlX11_lay : List Cond := Cond.code yX11_lay cX11_lay 3 (some .int) :: tbG
abbrev rmX11_lay : Room := { frames := 4, cells := 0, slots := 0, locals := 94 }
theorem qnX11_lay : yX11_lay.cls = RX11 ∧ yX11_lay.cls ≠ "java/lang/invoke/MethodHandle" ∧ yX11_lay.cls ≠ "java/lang/invoke/VarHandle" ∧ (parseMethodDescriptor yX11_lay.desc).map (fun d => d.parameters.length) = some 2 := by decide +kernel
def f_X11_lay  (i1 : Nat → Int32) (r1 : Nat → Nat → Int32) (i2 : Nat → Int32) (r2 : Nat → Nat → Int32) (p3 : Nat → Nat → Int32) (s3 : Nat → Nat → Nat → Int32) (x1 : Int32) (x2 : Int32) : Option (Int32 × (Nat → Int32) × (Nat → Nat → Int32) × (Nat → Int32) × (Nat → Nat → Int32) × (Nat → Nat → Int32) × (Nat → Nat → Nat → Int32)) := bd (f_X11_noFloor x1) (fun q6 => if q6 = 0 then (bd (f_X11_noFloor x2) (fun q7 => if q7 = 0 then (ck (inb x1 6) (bd (f_X8_layInto i1 r1 (p3 x1.toNatClampNeg) (s3 x1.toNatClampNeg) i2 r2) (fun q9 => if q9.1 = 0 then (some ((-3), q9.2.1, q9.2.2.1, q9.2.2.2.1, q9.2.2.2.2, p3, s3)) else (bd (f_X11_settle q9.2.2.2.1 q9.2.2.2.2 p3 s3 x2) (fun q10 => some (q10.1, q9.2.1, q9.2.2.1, q9.2.2.2.1, q9.2.2.2.2, q10.2.1, q10.2.2)))))) else (some ((-2), i1, r1, i2, r2, p3, s3)))) else (some ((-2), i1, r1, i2, r2, p3, s3)))
set_option maxRecDepth 100000 in
set_option maxHeartbeats 4000000 in
theorem c_X11_lay {l : Launch} {D : va_G} {cs zs : Nat → Nat} {h0 : Nat} {a0 : Nat → Nat} {a1 : Nat → Nat} {a2 : Nat → Nat} {fl3 : Nat → Nat} {a3 : Nat → Nat → Nat} {i1 : Nat → Int32} {r1 : Nat → Nat → Int32} {i2 : Nat → Int32} {r2 : Nat → Nat → Int32} {p3 : Nat → Nat → Int32} {s3 : Nat → Nat → Nat → Int32} {x1 : Int32} {x2 : Int32} {q : Int32 × (Nat → Int32) × (Nat → Nat → Int32) × (Nat → Int32) × (Nat → Nat → Int32) × (Nat → Nat → Int32) × (Nat → Nat → Nat → Int32)} (hf : f_X11_lay i1 r1 i2 r2 p3 s3 x1 x2 = some q) : Mi l yX11_lay wlX11_lay rmX11_lay D cs zs [.ref h0, .int x1, .int x2] (W11 cs h0 a0  ++ (W8 cs (a0 4) a1 i1 r1 ++ (W2 cs (a0 2) a2 i2 r2 ++ ([va_ar cs (a0 1) fl3] ++ FO cs fl3 a3 p3 s3 (List.range 6))))) q.1 (W11 cs h0 a0  ++ (W8 cs (a0 4) a1 q.2.1 q.2.2.1 ++ (W2 cs (a0 2) a2 q.2.2.2.1 q.2.2.2.2.1 ++ ([va_ar cs (a0 1) fl3] ++ FO cs fl3 a3 q.2.2.2.2.2.1 q.2.2.2.2.2.2 (List.range 6))))) := by
  refine Mi.of RX11 (by decide) rfl (Nat.le_of_ble_eq_true rfl) (fun p e s m below meth c A C hP hD hS ls hl => ?_)
  generalize ([.ref h0, .int x1, .int x2] : List Value).toArray = args at C ⊢
  obtain ⟨hx, hb, hr, hml, hown, hts, hK, hA, hlocks, hZ⟩ := id C
  have hl : lv_has ls 3 [(0, .ref h0), (1, .int x1), (2, .int x2)] := hl
  rw [f_X11_lay] at hf
  refine lv_iload_n hx hb dX11_lay_0 rfl (lv_at hl 1 rfl) ?_
  obtain ⟨q6, hq6, hf⟩ := bd_s hf
  refine k_eSi (As := [.int x1]) (rest := []) hx hb hml hown hts hK hA hZ hl.1 hP hD hS (c_X11_noFloor  hq6) (gSt mlX11_107 stX11_noFloor inX11 coX11_noFloor) rfl qnX11_noFloor rfl rfl ⟨Nat.le_of_ble_eq_true rfl, Nat.le_of_ble_eq_true rfl⟩ rfl rfl (Nat.le_of_ble_eq_true rfl) ⟨Nat.zero_le _, Nat.zero_le _⟩ dX11_lay_1 (fun H locs hP hD hS => ?_)
  refine lv_if_ne (tgt := 14) hx hb dX11_lay_4 (by decide) (fun hc => ?_) (fun hc => ?_)
  · have hf := ite_f hf hc
    refine lv_bipush (v := (-2)) hx hb dX11_lay_14 (by decide) ?_
    obtain rfl := Option.some.inj hf
    exact k_iret hx hb hr hlocks hK hP hD hS dX11_lay_16
  · have hf := ite_t hf hc
    refine lv_iload_n hx hb dX11_lay_7 rfl (lv_at hl 2 rfl) ?_
    obtain ⟨q7, hq7, hf⟩ := bd_s hf
    refine k_eSi (As := [.int x2]) (rest := []) hx hb hml hown hts hK hA hZ hl.1 hP hD hS (c_X11_noFloor  hq7) (gSt mlX11_107 stX11_noFloor inX11 coX11_noFloor) rfl qnX11_noFloor rfl rfl ⟨Nat.le_of_ble_eq_true rfl, Nat.le_of_ble_eq_true rfl⟩ rfl rfl (Nat.le_of_ble_eq_true rfl) ⟨Nat.zero_le _, Nat.zero_le _⟩ dX11_lay_8 (fun H locs hP hD hS => ?_)
    refine lv_if_eq (tgt := 17) hx hb dX11_lay_11 (by decide) (fun hc => ?_) (fun hc => ?_)
    · have hf := ite_t hf hc
      refine lv_aload_n hx hb dX11_lay_17 rfl (lv_at hl 0 rfl) ?_
      refine va_get (D := D) (ci := 11) (v := .ref (a0 4)) (C := RX11) (T := TX11) (N := 13) hx hb hts hiX11 hown hK hP 0 rfl rfl 4 (by decide) (hts _ flX11_39) (fun _ h9 => h9) rfl dX11_lay_18 ?_
      refine lv_aload_n hx hb dX11_lay_21 rfl (lv_at hl 0 rfl) ?_
      refine va_get (D := D) (ci := 11) (v := .ref (a0 1)) (C := RX11) (T := TX11) (N := 13) hx hb hts hiX11 hown hK hP 0 rfl rfl 1 (by decide) (hts _ flX11_18) (fun _ h9 => h9) rfl dX11_lay_22 ?_
      refine lv_iload_n hx hb dX11_lay_25 rfl (lv_at hl 1 rfl) ?_
      have hj8 := inb_lt (ck_in hf)
      refine k_aald (f := fun j => fl3 j) (j := x1.toNatClampNeg) hx hb hK hP 10 4 rfl rfl rfl (ck_in hf) rfl dX11_lay_26 ?_
      have hf := ck_2 hf
      refine lv_aload_n hx hb dX11_lay_27 rfl (lv_at hl 0 rfl) ?_
      refine va_get (D := D) (ci := 11) (v := .ref (a0 2)) (C := RX11) (T := TX11) (N := 13) hx hb hts hiX11 hown hK hP 0 rfl rfl 2 (by decide) (hts _ flX11_23) (fun _ h9 => h9) rfl dX11_lay_28 ?_
      obtain ⟨q9, hq9, hf⟩ := bd_s hf
      refine k_fVi (ws2 := W11 cs h0 a0  ++ (W8 cs (a0 4) a1 q9.2.1 q9.2.2.1 ++ (W2 cs (a0 2) a2 q9.2.2.2.1 q9.2.2.2.2 ++ ([va_ar cs (a0 1) fl3] ++ FO cs fl3 a3 p3 s3 (List.range 6))))) (As := [.ref (fl3 x1.toNatClampNeg), .ref (a0 2)]) (rest := []) hx hb hml hown hts hK hA hZ hl.1 hP hD hS (c_X8_layInto (h0 := (a0 4)) (a0 := a1) (h1 := fl3 x1.toNatClampNeg) (a1 := a3 x1.toNatClampNeg) (h2 := (a0 2)) (a2 := a2) hq9) (gVt mlX11_162 imX8_layInto seX8_layInto inX8 coX8_layInto) rfl qnX8_layInto rfl rfl ⟨Nat.le_of_ble_eq_true rfl, Nat.le_of_ble_eq_true rfl⟩ (bp (l := [W11 cs h0 a0 , W8 cs (a0 4) a1 i1 r1, W2 cs (a0 2) a2 i2 r2, [va_ar cs (a0 1) fl3]]) (lc := [W8 cs (a0 4) a1 i1 r1, W2 cs (fl3 x1.toNatClampNeg) (a3 x1.toNatClampNeg) (p3 x1.toNatClampNeg) (s3 x1.toNatClampNeg), W2 cs (a0 2) a2 i2 r2]) (lr := [W11 cs h0 a0 , [va_ar cs (a0 1) fl3], FO cs fl3 a3 p3 s3 ((List.range 6).erase x1.toNatClampNeg)]) [W2 cs (fl3 x1.toNatClampNeg) (a3 x1.toNatClampNeg) (p3 x1.toNatClampNeg) (s3 x1.toNatClampNeg), FO cs fl3 a3 p3 s3 ((List.range 6).erase x1.toNatClampNeg)] (foc hj8) [1, 4, 2, 0, 3, 5] rfl rfl) (bp (l := [W11 cs h0 a0 , W8 cs (a0 4) a1 q9.2.1 q9.2.2.1, W2 cs (a0 2) a2 q9.2.2.2.1 q9.2.2.2.2, [va_ar cs (a0 1) fl3]]) (lc := [W8 cs (a0 4) a1 q9.2.1 q9.2.2.1, W2 cs (fl3 x1.toNatClampNeg) (a3 x1.toNatClampNeg) (p3 x1.toNatClampNeg) (s3 x1.toNatClampNeg), W2 cs (a0 2) a2 q9.2.2.2.1 q9.2.2.2.2]) (lr := [W11 cs h0 a0 , [va_ar cs (a0 1) fl3], FO cs fl3 a3 p3 s3 ((List.range 6).erase x1.toNatClampNeg)]) [W2 cs (fl3 x1.toNatClampNeg) (a3 x1.toNatClampNeg) (p3 x1.toNatClampNeg) (s3 x1.toNatClampNeg), FO cs fl3 a3 p3 s3 ((List.range 6).erase x1.toNatClampNeg)] (foc hj8) [1, 4, 2, 0, 3, 5] rfl rfl) 0 8 rfl rfl rfl rfl rfl (Nat.le_of_ble_eq_true rfl) ⟨Nat.zero_le _, Nat.zero_le _⟩ dX11_lay_31 (fun H locs hP hD hS => ?_)
      refine lv_if_ne (tgt := 40) hx hb dX11_lay_34 (by decide) (fun hc => ?_) (fun hc => ?_)
      · have hf := ite_f hf hc
        refine lv_aload_n hx hb dX11_lay_40 rfl (lv_at hl 0 rfl) ?_
        refine lv_iload_n hx hb dX11_lay_41 rfl (lv_at hl 2 rfl) ?_
        obtain ⟨q10, hq10, hf⟩ := bd_s hf
        refine k_fVi (ws2 := W11 cs h0 a0  ++ (W8 cs (a0 4) a1 q9.2.1 q9.2.2.1 ++ (W2 cs (a0 2) a2 q9.2.2.2.1 q9.2.2.2.2 ++ ([va_ar cs (a0 1) fl3] ++ FO cs fl3 a3 q10.2.1 q10.2.2 (List.range 6))))) (As := [.int x2]) (rest := []) hx hb hml hown hts hK hA hZ hl.1 hP hD hS (c_X11_settle (h0 := h0) (a0 := a0) (a1 := a2) (fl2 := fl3) (a2 := a3) hq10) (gVt mlX11_118 imX11_settle seX11_settle inX11 coX11_settle) rfl qnX11_settle rfl rfl ⟨Nat.le_of_ble_eq_true rfl, Nat.le_of_ble_eq_true rfl⟩ (bp (l := [W11 cs h0 a0 , W8 cs (a0 4) a1 q9.2.1 q9.2.2.1, W2 cs (a0 2) a2 q9.2.2.2.1 q9.2.2.2.2, [va_ar cs (a0 1) fl3]]) (lc := [W11 cs h0 a0 , W2 cs (a0 2) a2 q9.2.2.2.1 q9.2.2.2.2, [va_ar cs (a0 1) fl3], FO cs fl3 a3 p3 s3 (List.range 6)]) (lr := [W8 cs (a0 4) a1 q9.2.1 q9.2.2.1]) [FO cs fl3 a3 p3 s3 (List.range 6)] (List.Perm.refl _) [0, 2, 3, 4, 1] rfl rfl) (bp (l := [W11 cs h0 a0 , W8 cs (a0 4) a1 q9.2.1 q9.2.2.1, W2 cs (a0 2) a2 q9.2.2.2.1 q9.2.2.2.2, [va_ar cs (a0 1) fl3]]) (lc := [W11 cs h0 a0 , W2 cs (a0 2) a2 q9.2.2.2.1 q9.2.2.2.2, [va_ar cs (a0 1) fl3], FO cs fl3 a3 q10.2.1 q10.2.2 (List.range 6)]) (lr := [W8 cs (a0 4) a1 q9.2.1 q9.2.2.1]) [FO cs fl3 a3 q10.2.1 q10.2.2 (List.range 6)] (List.Perm.refl _) [0, 2, 3, 4, 1] rfl rfl) 0 11 rfl rfl rfl rfl rfl (Nat.le_of_ble_eq_true rfl) ⟨Nat.zero_le _, Nat.zero_le _⟩ dX11_lay_42 (fun H locs hP hD hS => ?_)
        obtain rfl := Option.some.inj hf
        exact k_iret hx hb hr hlocks hK hP hD hS dX11_lay_45
      · have hf := ite_t hf hc
        refine lv_bipush (v := (-3)) hx hb dX11_lay_37 (by decide) ?_
        obtain rfl := Option.some.inj hf
        exact k_iret hx hb hr hlocks hK hP hD hS dX11_lay_39
    · have hf := ite_f hf hc
      refine lv_bipush (v := (-2)) hx hb dX11_lay_14 (by decide) ?_
      obtain rfl := Option.some.inj hf
      exact k_iret hx hb hr hlocks hK hP hD hS dX11_lay_16
/-! MarbleFloor.roll(III)I -/
abbrev wlX11_roll : List Cond := Cond.code yX11_roll cX11_roll 6 (some .int) :: tbG
abbrev rmX11_roll : Room := { frames := 4, cells := 0, slots := 0, locals := 88 }
theorem qnX11_roll : yX11_roll.cls = RX11 ∧ yX11_roll.cls ≠ "java/lang/invoke/MethodHandle" ∧ yX11_roll.cls ≠ "java/lang/invoke/VarHandle" ∧ (parseMethodDescriptor yX11_roll.desc).map (fun d => d.parameters.length) = some 3 := by decide +kernel
def f_X11_roll  (i1 : Nat → Int32) (r1 : Nat → Nat → Int32) (p2 : Nat → Nat → Int32) (s2 : Nat → Nat → Nat → Int32) (x1 : Int32) (x2 : Int32) (x3 : Int32) : Option (Int32 × (Nat → Int32) × (Nat → Nat → Int32) × (Nat → Nat → Int32) × (Nat → Nat → Nat → Int32)) := bd (f_X11_noFloor x1) (fun q11 => if q11 = 0 then (bd (f_X11_noFloor x3) (fun q12 => if q12 = 0 then (if x2 < 1 then (some ((-2), i1, r1, p2, s2)) else (ck (inb x1 6) (bd (f_X2_hasNoRow (p2 x1.toNatClampNeg) (s2 x1.toNatClampNeg) x2) (fun q14 => if q14 = 0 then (ck (inb x1 6) (bd (f_J6_bitCount_0f7a4 x2) (fun q16 => bd (f_X2_lanes (p2 x1.toNatClampNeg) (s2 x1.toNatClampNeg)) (fun q17 => if 8 < (q17 + q16) then (some ((-3), i1, r1, p2, s2)) else (bd (f_X2_steps (p2 x1.toNatClampNeg) (s2 x1.toNatClampNeg)) (fun q18 => if ((2 * q18) + q16) ≤ 40 then (bd (f_X2_layRolled i1 r1 (p2 x1.toNatClampNeg) (s2 x1.toNatClampNeg) x2) (fun q19 => bd (f_X11_settle q19.1 q19.2 p2 s2 x3) (fun q20 => some (q20.1, q19.1, q19.2, q20.2.1, q20.2.2)))) else (some ((-3), i1, r1, p2, s2)))))))) else (some ((-2), i1, r1, p2, s2)))))) else (some ((-2), i1, r1, p2, s2)))) else (some ((-2), i1, r1, p2, s2)))
set_option maxRecDepth 100000 in
set_option maxHeartbeats 4000000 in
theorem c_X11_roll {l : Launch} {D : va_G} {cs zs : Nat → Nat} {h0 : Nat} {a0 : Nat → Nat} {a1 : Nat → Nat} {fl2 : Nat → Nat} {a2 : Nat → Nat → Nat} {i1 : Nat → Int32} {r1 : Nat → Nat → Int32} {p2 : Nat → Nat → Int32} {s2 : Nat → Nat → Nat → Int32} {x1 : Int32} {x2 : Int32} {x3 : Int32} {q : Int32 × (Nat → Int32) × (Nat → Nat → Int32) × (Nat → Nat → Int32) × (Nat → Nat → Nat → Int32)} (hf : f_X11_roll i1 r1 p2 s2 x1 x2 x3 = some q) : Mi l yX11_roll wlX11_roll rmX11_roll D cs zs [.ref h0, .int x1, .int x2, .int x3] (W11 cs h0 a0  ++ (W2 cs (a0 2) a1 i1 r1 ++ ([va_ar cs (a0 1) fl2] ++ FO cs fl2 a2 p2 s2 (List.range 6)))) q.1 (W11 cs h0 a0  ++ (W2 cs (a0 2) a1 q.2.1 q.2.2.1 ++ ([va_ar cs (a0 1) fl2] ++ FO cs fl2 a2 q.2.2.2.1 q.2.2.2.2 (List.range 6)))) := by
  refine Mi.of RX11 (by decide) rfl (Nat.le_of_ble_eq_true rfl) (fun p e s m below meth c A C hP hD hS ls hl => ?_)
  generalize ([.ref h0, .int x1, .int x2, .int x3] : List Value).toArray = args at C ⊢
  obtain ⟨hx, hb, hr, hml, hown, hts, hK, hA, hlocks, hZ⟩ := id C
  have hl : lv_has ls 6 [(0, .ref h0), (1, .int x1), (2, .int x2), (3, .int x3)] := hl
  rw [f_X11_roll] at hf
  refine lv_iload_n hx hb dX11_roll_0 rfl (lv_at hl 1 rfl) ?_
  obtain ⟨q11, hq11, hf⟩ := bd_s hf
  refine k_eSi (As := [.int x1]) (rest := []) hx hb hml hown hts hK hA hZ hl.1 hP hD hS (c_X11_noFloor  hq11) (gSt mlX11_107 stX11_noFloor inX11 coX11_noFloor) rfl qnX11_noFloor rfl rfl ⟨Nat.le_of_ble_eq_true rfl, Nat.le_of_ble_eq_true rfl⟩ rfl rfl (Nat.le_of_ble_eq_true rfl) ⟨Nat.zero_le _, Nat.zero_le _⟩ dX11_roll_1 (fun H locs hP hD hS => ?_)
  refine lv_if_ne (tgt := 32) hx hb dX11_roll_4 (by decide) (fun hc => ?_) (fun hc => ?_)
  · have hf := ite_f hf hc
    refine lv_bipush (v := (-2)) hx hb dX11_roll_32 (by decide) ?_
    obtain rfl := Option.some.inj hf
    exact k_iret hx hb hr hlocks hK hP hD hS dX11_roll_34
  · have hf := ite_t hf hc
    refine lv_iload_n hx hb dX11_roll_7 rfl (lv_at hl 3 rfl) ?_
    obtain ⟨q12, hq12, hf⟩ := bd_s hf
    refine k_eSi (As := [.int x3]) (rest := []) hx hb hml hown hts hK hA hZ hl.1 hP hD hS (c_X11_noFloor  hq12) (gSt mlX11_107 stX11_noFloor inX11 coX11_noFloor) rfl qnX11_noFloor rfl rfl ⟨Nat.le_of_ble_eq_true rfl, Nat.le_of_ble_eq_true rfl⟩ rfl rfl (Nat.le_of_ble_eq_true rfl) ⟨Nat.zero_le _, Nat.zero_le _⟩ dX11_roll_8 (fun H locs hP hD hS => ?_)
    refine lv_if_ne (tgt := 32) hx hb dX11_roll_11 (by decide) (fun hc => ?_) (fun hc => ?_)
    · have hf := ite_f hf hc
      refine lv_bipush (v := (-2)) hx hb dX11_roll_32 (by decide) ?_
      obtain rfl := Option.some.inj hf
      exact k_iret hx hb hr hlocks hK hP hD hS dX11_roll_34
    · have hf := ite_t hf hc
      refine lv_iload_n hx hb dX11_roll_14 rfl (lv_at hl 2 rfl) ?_
      refine lv_iconst (v := 1) hx hb dX11_roll_15 (by decide) ?_
      refine lv_icmp_lt (tgt := 32) hx hb dX11_roll_16 (by decide) (fun hc => ?_) (fun hc => ?_)
      · have hf := ite_t hf hc
        refine lv_bipush (v := (-2)) hx hb dX11_roll_32 (by decide) ?_
        obtain rfl := Option.some.inj hf
        exact k_iret hx hb hr hlocks hK hP hD hS dX11_roll_34
      · have hf := ite_f hf hc
        refine lv_aload_n hx hb dX11_roll_19 rfl (lv_at hl 0 rfl) ?_
        refine va_get (D := D) (ci := 11) (v := .ref (a0 1)) (C := RX11) (T := TX11) (N := 13) hx hb hts hiX11 hown hK hP 0 rfl rfl 1 (by decide) (hts _ flX11_18) (fun _ h9 => h9) rfl dX11_roll_20 ?_
        refine lv_iload_n hx hb dX11_roll_23 rfl (lv_at hl 1 rfl) ?_
        have hj13 := inb_lt (ck_in hf)
        refine k_aald (f := fun j => fl2 j) (j := x1.toNatClampNeg) hx hb hK hP 6 4 rfl rfl rfl (ck_in hf) rfl dX11_roll_24 ?_
        have hf := ck_2 hf
        refine lv_iload_n hx hb dX11_roll_25 rfl (lv_at hl 2 rfl) ?_
        obtain ⟨q14, hq14, hf⟩ := bd_s hf
        refine k_fVi (ws2 := W11 cs h0 a0  ++ (W2 cs (a0 2) a1 i1 r1 ++ ([va_ar cs (a0 1) fl2] ++ FO cs fl2 a2 p2 s2 (List.range 6)))) (As := [.int x2]) (rest := []) hx hb hml hown hts hK hA hZ hl.1 hP hD hS (c_X2_hasNoRow (h0 := fl2 x1.toNatClampNeg) (a0 := a2 x1.toNatClampNeg) hq14) (gVt mlX11_132 imX2_hasNoRow seX2_hasNoRow inX2 coX2_hasNoRow) rfl qnX2_hasNoRow rfl rfl ⟨Nat.le_of_ble_eq_true rfl, Nat.le_of_ble_eq_true rfl⟩ (bp (l := [W11 cs h0 a0 , W2 cs (a0 2) a1 i1 r1, [va_ar cs (a0 1) fl2]]) (lc := [W2 cs (fl2 x1.toNatClampNeg) (a2 x1.toNatClampNeg) (p2 x1.toNatClampNeg) (s2 x1.toNatClampNeg)]) (lr := [W11 cs h0 a0 , W2 cs (a0 2) a1 i1 r1, [va_ar cs (a0 1) fl2], FO cs fl2 a2 p2 s2 ((List.range 6).erase x1.toNatClampNeg)]) [W2 cs (fl2 x1.toNatClampNeg) (a2 x1.toNatClampNeg) (p2 x1.toNatClampNeg) (s2 x1.toNatClampNeg), FO cs fl2 a2 p2 s2 ((List.range 6).erase x1.toNatClampNeg)] (foc hj13) [3, 0, 1, 2, 4] rfl rfl) (bp (l := [W11 cs h0 a0 , W2 cs (a0 2) a1 i1 r1, [va_ar cs (a0 1) fl2]]) (lc := [W2 cs (fl2 x1.toNatClampNeg) (a2 x1.toNatClampNeg) (p2 x1.toNatClampNeg) (s2 x1.toNatClampNeg)]) (lr := [W11 cs h0 a0 , W2 cs (a0 2) a1 i1 r1, [va_ar cs (a0 1) fl2], FO cs fl2 a2 p2 s2 ((List.range 6).erase x1.toNatClampNeg)]) [W2 cs (fl2 x1.toNatClampNeg) (a2 x1.toNatClampNeg) (p2 x1.toNatClampNeg) (s2 x1.toNatClampNeg), FO cs fl2 a2 p2 s2 ((List.range 6).erase x1.toNatClampNeg)] (foc hj13) [3, 0, 1, 2, 4] rfl rfl) 0 2 rfl rfl rfl rfl rfl (Nat.le_of_ble_eq_true rfl) ⟨Nat.zero_le _, Nat.zero_le _⟩ dX11_roll_26 (fun H locs hP hD hS => ?_)
        refine lv_if_eq (tgt := 35) hx hb dX11_roll_29 (by decide) (fun hc => ?_) (fun hc => ?_)
        · have hf := ite_t hf hc
          refine lv_aload_n hx hb dX11_roll_35 rfl (lv_at hl 0 rfl) ?_
          refine va_get (D := D) (ci := 11) (v := .ref (a0 1)) (C := RX11) (T := TX11) (N := 13) hx hb hts hiX11 hown hK hP 0 rfl rfl 1 (by decide) (hts _ flX11_18) (fun _ h9 => h9) rfl dX11_roll_36 ?_
          refine lv_iload_n hx hb dX11_roll_39 rfl (lv_at hl 1 rfl) ?_
          have hj15 := inb_lt (ck_in hf)
          refine k_aald (f := fun j => fl2 j) (j := x1.toNatClampNeg) hx hb hK hP 6 4 rfl rfl rfl (ck_in hf) rfl dX11_roll_40 ?_
          have hf := ck_2 hf
          refine lv_astore (lv' := [(4, .ref (fl2 x1.toNatClampNeg)), (0, .ref h0), (1, .int x1), (2, .int x2), (3, .int x3)]) hx hb dX11_roll_41 hl (by decide) rfl (fun ls hl => ?_)
          refine lv_iload_n hx hb dX11_roll_43 rfl (lv_at hl 3 rfl) ?_
          obtain ⟨q16, hq16, hf⟩ := bd_s hf
          refine k_eSi (As := [.int x2]) (rest := []) hx hb hml hown hts hK hA hZ hl.1 hP hD hS (c_J6_bitCount_0f7a4  hq16) (gSt mlX11_166 stJ6_bitCount_0f7a4 inJ6 coJ6_bitCount_0f7a4) rfl qnJ6_bitCount_0f7a4 rfl rfl ⟨Nat.le_of_ble_eq_true rfl, Nat.le_of_ble_eq_true rfl⟩ rfl rfl (Nat.le_of_ble_eq_true rfl) ⟨Nat.zero_le _, Nat.zero_le _⟩ dX11_roll_44 (fun H locs hP hD hS => ?_)
          refine lv_istore (lv' := [(5, .int q16), (4, .ref (fl2 x1.toNatClampNeg)), (0, .ref h0), (1, .int x1), (2, .int x2), (3, .int x3)]) hx hb dX11_roll_47 hl (by decide) rfl (fun ls hl => ?_)
          refine lv_aload hx hb dX11_roll_49 (lv_at hl 1 rfl) ?_
          obtain ⟨q17, hq17, hf⟩ := bd_s hf
          refine k_fVi (ws2 := W11 cs h0 a0  ++ (W2 cs (a0 2) a1 i1 r1 ++ ([va_ar cs (a0 1) fl2] ++ FO cs fl2 a2 p2 s2 (List.range 6)))) (As := []) (rest := []) hx hb hml hown hts hK hA hZ hl.1 hP hD hS (c_X2_lanes (h0 := fl2 x1.toNatClampNeg) (a0 := a2 x1.toNatClampNeg) hq17) (gVt mlX11_152 imX2_lanes seX2_lanes inX2 coX2_lanes) rfl qnX2_lanes rfl rfl ⟨Nat.le_of_ble_eq_true rfl, Nat.le_of_ble_eq_true rfl⟩ (bp (l := [W11 cs h0 a0 , W2 cs (a0 2) a1 i1 r1, [va_ar cs (a0 1) fl2]]) (lc := [W2 cs (fl2 x1.toNatClampNeg) (a2 x1.toNatClampNeg) (p2 x1.toNatClampNeg) (s2 x1.toNatClampNeg)]) (lr := [W11 cs h0 a0 , W2 cs (a0 2) a1 i1 r1, [va_ar cs (a0 1) fl2], FO cs fl2 a2 p2 s2 ((List.range 6).erase x1.toNatClampNeg)]) [W2 cs (fl2 x1.toNatClampNeg) (a2 x1.toNatClampNeg) (p2 x1.toNatClampNeg) (s2 x1.toNatClampNeg), FO cs fl2 a2 p2 s2 ((List.range 6).erase x1.toNatClampNeg)] (foc hj15) [3, 0, 1, 2, 4] rfl rfl) (bp (l := [W11 cs h0 a0 , W2 cs (a0 2) a1 i1 r1, [va_ar cs (a0 1) fl2]]) (lc := [W2 cs (fl2 x1.toNatClampNeg) (a2 x1.toNatClampNeg) (p2 x1.toNatClampNeg) (s2 x1.toNatClampNeg)]) (lr := [W11 cs h0 a0 , W2 cs (a0 2) a1 i1 r1, [va_ar cs (a0 1) fl2], FO cs fl2 a2 p2 s2 ((List.range 6).erase x1.toNatClampNeg)]) [W2 cs (fl2 x1.toNatClampNeg) (a2 x1.toNatClampNeg) (p2 x1.toNatClampNeg) (s2 x1.toNatClampNeg), FO cs fl2 a2 p2 s2 ((List.range 6).erase x1.toNatClampNeg)] (foc hj15) [3, 0, 1, 2, 4] rfl rfl) 0 2 rfl rfl rfl rfl rfl (Nat.le_of_ble_eq_true rfl) ⟨Nat.zero_le _, Nat.zero_le _⟩ dX11_roll_51 (fun H locs hP hD hS => ?_)
          refine lv_iload hx hb dX11_roll_54 (lv_at hl 0 rfl) ?_
          refine lv_iadd hx hb dX11_roll_56 ?_
          refine lv_bipush (v := 8) hx hb dX11_roll_57 (by decide) ?_
          refine lv_icmp_gt (tgt := 77) hx hb dX11_roll_59 (by decide) (fun hc => ?_) (fun hc => ?_)
          · have hf := ite_t hf hc
            refine lv_bipush (v := (-3)) hx hb dX11_roll_77 (by decide) ?_
            obtain rfl := Option.some.inj hf
            exact k_iret hx hb hr hlocks hK hP hD hS dX11_roll_79
          · have hf := ite_f hf hc
            refine lv_iconst (v := 2) hx hb dX11_roll_62 (by decide) ?_
            refine lv_aload hx hb dX11_roll_63 (lv_at hl 1 rfl) ?_
            obtain ⟨q18, hq18, hf⟩ := bd_s hf
            refine k_fVi (ws2 := W11 cs h0 a0  ++ (W2 cs (a0 2) a1 i1 r1 ++ ([va_ar cs (a0 1) fl2] ++ FO cs fl2 a2 p2 s2 (List.range 6)))) (As := []) (rest := [.int 2]) hx hb hml hown hts hK hA hZ hl.1 hP hD hS (c_X2_steps (h0 := fl2 x1.toNatClampNeg) (a0 := a2 x1.toNatClampNeg) hq18) (gVt mlX11_171 imX2_steps seX2_steps inX2 coX2_steps) rfl qnX2_steps rfl rfl ⟨Nat.le_of_ble_eq_true rfl, Nat.le_of_ble_eq_true rfl⟩ (bp (l := [W11 cs h0 a0 , W2 cs (a0 2) a1 i1 r1, [va_ar cs (a0 1) fl2]]) (lc := [W2 cs (fl2 x1.toNatClampNeg) (a2 x1.toNatClampNeg) (p2 x1.toNatClampNeg) (s2 x1.toNatClampNeg)]) (lr := [W11 cs h0 a0 , W2 cs (a0 2) a1 i1 r1, [va_ar cs (a0 1) fl2], FO cs fl2 a2 p2 s2 ((List.range 6).erase x1.toNatClampNeg)]) [W2 cs (fl2 x1.toNatClampNeg) (a2 x1.toNatClampNeg) (p2 x1.toNatClampNeg) (s2 x1.toNatClampNeg), FO cs fl2 a2 p2 s2 ((List.range 6).erase x1.toNatClampNeg)] (foc hj15) [3, 0, 1, 2, 4] rfl rfl) (bp (l := [W11 cs h0 a0 , W2 cs (a0 2) a1 i1 r1, [va_ar cs (a0 1) fl2]]) (lc := [W2 cs (fl2 x1.toNatClampNeg) (a2 x1.toNatClampNeg) (p2 x1.toNatClampNeg) (s2 x1.toNatClampNeg)]) (lr := [W11 cs h0 a0 , W2 cs (a0 2) a1 i1 r1, [va_ar cs (a0 1) fl2], FO cs fl2 a2 p2 s2 ((List.range 6).erase x1.toNatClampNeg)]) [W2 cs (fl2 x1.toNatClampNeg) (a2 x1.toNatClampNeg) (p2 x1.toNatClampNeg) (s2 x1.toNatClampNeg), FO cs fl2 a2 p2 s2 ((List.range 6).erase x1.toNatClampNeg)] (foc hj15) [3, 0, 1, 2, 4] rfl rfl) 0 2 rfl rfl rfl rfl rfl (Nat.le_of_ble_eq_true rfl) ⟨Nat.zero_le _, Nat.zero_le _⟩ dX11_roll_65 (fun H locs hP hD hS => ?_)
            refine lv_imul hx hb dX11_roll_68 ?_
            refine lv_iload hx hb dX11_roll_69 (lv_at hl 0 rfl) ?_
            refine lv_iadd hx hb dX11_roll_71 ?_
            refine lv_bipush (v := 40) hx hb dX11_roll_72 (by decide) ?_
            refine lv_icmp_le (tgt := 80) hx hb dX11_roll_74 (by decide) (fun hc => ?_) (fun hc => ?_)
            · have hf := ite_t hf hc
              refine lv_aload_n hx hb dX11_roll_80 rfl (lv_at hl 2 rfl) ?_
              refine va_get (D := D) (ci := 11) (v := .ref (a0 2)) (C := RX11) (T := TX11) (N := 13) hx hb hts hiX11 hown hK hP 0 rfl rfl 2 (by decide) (hts _ flX11_23) (fun _ h9 => h9) rfl dX11_roll_81 ?_
              refine lv_aload hx hb dX11_roll_84 (lv_at hl 1 rfl) ?_
              refine lv_iload_n hx hb dX11_roll_86 rfl (lv_at hl 4 rfl) ?_
              obtain ⟨q19, hq19, hf⟩ := bd_s hf
              refine k_fVv (ws2 := W11 cs h0 a0  ++ (W2 cs (a0 2) a1 q19.1 q19.2 ++ ([va_ar cs (a0 1) fl2] ++ FO cs fl2 a2 p2 s2 (List.range 6)))) (As := [.ref (fl2 x1.toNatClampNeg), .int x2]) (rest := []) hx hb hml hown hts hK hA hZ hl.1 hP hD hS (c_X2_layRolled (h0 := (a0 2)) (a0 := a1) (h1 := fl2 x1.toNatClampNeg) (a1 := a2 x1.toNatClampNeg) hq19) (gVt mlX11_174 imX2_layRolled seX2_layRolled inX2 coX2_layRolled) rfl qnX2_layRolled rfl rfl ⟨Nat.le_of_ble_eq_true rfl, Nat.le_of_ble_eq_true rfl⟩ (bp (l := [W11 cs h0 a0 , W2 cs (a0 2) a1 i1 r1, [va_ar cs (a0 1) fl2]]) (lc := [W2 cs (a0 2) a1 i1 r1, W2 cs (fl2 x1.toNatClampNeg) (a2 x1.toNatClampNeg) (p2 x1.toNatClampNeg) (s2 x1.toNatClampNeg)]) (lr := [W11 cs h0 a0 , [va_ar cs (a0 1) fl2], FO cs fl2 a2 p2 s2 ((List.range 6).erase x1.toNatClampNeg)]) [W2 cs (fl2 x1.toNatClampNeg) (a2 x1.toNatClampNeg) (p2 x1.toNatClampNeg) (s2 x1.toNatClampNeg), FO cs fl2 a2 p2 s2 ((List.range 6).erase x1.toNatClampNeg)] (foc hj15) [1, 3, 0, 2, 4] rfl rfl) (bp (l := [W11 cs h0 a0 , W2 cs (a0 2) a1 q19.1 q19.2, [va_ar cs (a0 1) fl2]]) (lc := [W2 cs (a0 2) a1 q19.1 q19.2, W2 cs (fl2 x1.toNatClampNeg) (a2 x1.toNatClampNeg) (p2 x1.toNatClampNeg) (s2 x1.toNatClampNeg)]) (lr := [W11 cs h0 a0 , [va_ar cs (a0 1) fl2], FO cs fl2 a2 p2 s2 ((List.range 6).erase x1.toNatClampNeg)]) [W2 cs (fl2 x1.toNatClampNeg) (a2 x1.toNatClampNeg) (p2 x1.toNatClampNeg) (s2 x1.toNatClampNeg), FO cs fl2 a2 p2 s2 ((List.range 6).erase x1.toNatClampNeg)] (foc hj15) [1, 3, 0, 2, 4] rfl rfl) 0 2 rfl rfl rfl rfl rfl (Nat.le_of_ble_eq_true rfl) ⟨Nat.zero_le _, Nat.zero_le _⟩ dX11_roll_87 (fun H locs hP hD hS => ?_)
              refine lv_aload_n hx hb dX11_roll_90 rfl (lv_at hl 2 rfl) ?_
              refine lv_iload_n hx hb dX11_roll_91 rfl (lv_at hl 5 rfl) ?_
              obtain ⟨q20, hq20, hf⟩ := bd_s hf
              refine k_fVi (ws2 := W11 cs h0 a0  ++ (W2 cs (a0 2) a1 q19.1 q19.2 ++ ([va_ar cs (a0 1) fl2] ++ FO cs fl2 a2 q20.2.1 q20.2.2 (List.range 6)))) (As := [.int x3]) (rest := []) hx hb hml hown hts hK hA hZ hl.1 hP hD hS (c_X11_settle (h0 := h0) (a0 := a0) (a1 := a1) (fl2 := fl2) (a2 := a2) hq20) (gVt mlX11_118 imX11_settle seX11_settle inX11 coX11_settle) rfl qnX11_settle rfl rfl ⟨Nat.le_of_ble_eq_true rfl, Nat.le_of_ble_eq_true rfl⟩ (bp (l := [W11 cs h0 a0 , W2 cs (a0 2) a1 q19.1 q19.2, [va_ar cs (a0 1) fl2]]) (lc := [W11 cs h0 a0 , W2 cs (a0 2) a1 q19.1 q19.2, [va_ar cs (a0 1) fl2], FO cs fl2 a2 p2 s2 (List.range 6)]) (lr := []) [FO cs fl2 a2 p2 s2 (List.range 6)] (List.Perm.refl _) [0, 1, 2, 3] rfl rfl) (bp (l := [W11 cs h0 a0 , W2 cs (a0 2) a1 q19.1 q19.2, [va_ar cs (a0 1) fl2]]) (lc := [W11 cs h0 a0 , W2 cs (a0 2) a1 q19.1 q19.2, [va_ar cs (a0 1) fl2], FO cs fl2 a2 q20.2.1 q20.2.2 (List.range 6)]) (lr := []) [FO cs fl2 a2 q20.2.1 q20.2.2 (List.range 6)] (List.Perm.refl _) [0, 1, 2, 3] rfl rfl) 0 11 rfl rfl rfl rfl rfl (Nat.le_of_ble_eq_true rfl) ⟨Nat.zero_le _, Nat.zero_le _⟩ dX11_roll_92 (fun H locs hP hD hS => ?_)
              obtain rfl := Option.some.inj hf
              exact k_iret hx hb hr hlocks hK hP hD hS dX11_roll_95
            · have hf := ite_f hf hc
              refine lv_bipush (v := (-3)) hx hb dX11_roll_77 (by decide) ?_
              obtain rfl := Option.some.inj hf
              exact k_iret hx hb hr hlocks hK hP hD hS dX11_roll_79
        · have hf := ite_f hf hc
          refine lv_bipush (v := (-2)) hx hb dX11_roll_32 (by decide) ?_
          obtain rfl := Option.some.inj hf
          exact k_iret hx hb hr hlocks hK hP hD hS dX11_roll_34
/-! MarbleFloor.chain(III)I -/
abbrev wlX11_chain : List Cond := Cond.code yX11_chain cX11_chain 4 (some .int) :: tbG
abbrev rmX11_chain : Room := { frames := 4, cells := 0, slots := 0, locals := 88 }
theorem qnX11_chain : yX11_chain.cls = RX11 ∧ yX11_chain.cls ≠ "java/lang/invoke/MethodHandle" ∧ yX11_chain.cls ≠ "java/lang/invoke/VarHandle" ∧ (parseMethodDescriptor yX11_chain.desc).map (fun d => d.parameters.length) = some 3 := by decide +kernel
def f_X11_chain  (i1 : Nat → Int32) (r1 : Nat → Nat → Int32) (p2 : Nat → Nat → Int32) (s2 : Nat → Nat → Nat → Int32) (x1 : Int32) (x2 : Int32) (x3 : Int32) : Option (Int32 × (Nat → Int32) × (Nat → Nat → Int32) × (Nat → Nat → Int32) × (Nat → Nat → Nat → Int32)) := bd (f_X11_noFloor x1) (fun q13 => if q13 = 0 then (bd (f_X11_noFloor x2) (fun q14 => if q14 = 0 then (bd (f_X11_noFloor x3) (fun q15 => if q15 = 0 then (ck (inb x1 6) (bd (f_X2_steps (p2 x1.toNatClampNeg) (s2 x1.toNatClampNeg)) (fun q17 => ck (inb x2 6) (bd (f_X2_steps (p2 x2.toNatClampNeg) (s2 x2.toNatClampNeg)) (fun q19 => if (q17 + q19) ≤ 40 then (ck (inb x1 6) (ck (inb x2 6) (if x1.toNatClampNeg = x2.toNatClampNeg then (bd (f_X2_layChained_S i1 r1 (p2 x1.toNatClampNeg) (s2 x1.toNatClampNeg)) (fun q22 => bd (f_X11_settle q22.1 q22.2 p2 s2 x3) (fun q24 => some (q24.1, q22.1, q22.2, q24.2.1, q24.2.2)))) else (bd (f_X2_layChained i1 r1 (p2 x1.toNatClampNeg) (s2 x1.toNatClampNeg) (p2 x2.toNatClampNeg) (s2 x2.toNatClampNeg)) (fun q23 => bd (f_X11_settle q23.1 q23.2 p2 s2 x3) (fun q25 => some (q25.1, q23.1, q23.2, q25.2.1, q25.2.2))))))) else (some ((-3), i1, r1, p2, s2))))))) else (some ((-2), i1, r1, p2, s2)))) else (some ((-2), i1, r1, p2, s2)))) else (some ((-2), i1, r1, p2, s2)))
set_option maxRecDepth 100000 in
set_option maxHeartbeats 4000000 in
theorem c_X11_chain {l : Launch} {D : va_G} {cs zs : Nat → Nat} {h0 : Nat} {a0 : Nat → Nat} {a1 : Nat → Nat} {fl2 : Nat → Nat} {a2 : Nat → Nat → Nat} {i1 : Nat → Int32} {r1 : Nat → Nat → Int32} {p2 : Nat → Nat → Int32} {s2 : Nat → Nat → Nat → Int32} {x1 : Int32} {x2 : Int32} {x3 : Int32} {q : Int32 × (Nat → Int32) × (Nat → Nat → Int32) × (Nat → Nat → Int32) × (Nat → Nat → Nat → Int32)} (hf : f_X11_chain i1 r1 p2 s2 x1 x2 x3 = some q) : Mi l yX11_chain wlX11_chain rmX11_chain D cs zs [.ref h0, .int x1, .int x2, .int x3] (W11 cs h0 a0  ++ (W2 cs (a0 2) a1 i1 r1 ++ ([va_ar cs (a0 1) fl2] ++ FO cs fl2 a2 p2 s2 (List.range 6)))) q.1 (W11 cs h0 a0  ++ (W2 cs (a0 2) a1 q.2.1 q.2.2.1 ++ ([va_ar cs (a0 1) fl2] ++ FO cs fl2 a2 q.2.2.2.1 q.2.2.2.2 (List.range 6)))) := by
  refine Mi.of RX11 (by decide) rfl (Nat.le_of_ble_eq_true rfl) (fun p e s m below meth c A C hP hD hS ls hl => ?_)
  generalize ([.ref h0, .int x1, .int x2, .int x3] : List Value).toArray = args at C ⊢
  obtain ⟨hx, hb, hr, hml, hown, hts, hK, hA, hlocks, hZ⟩ := id C
  have hl : lv_has ls 4 [(0, .ref h0), (1, .int x1), (2, .int x2), (3, .int x3)] := hl
  rw [f_X11_chain] at hf
  refine lv_iload_n hx hb dX11_chain_0 rfl (lv_at hl 1 rfl) ?_
  obtain ⟨q13, hq13, hf⟩ := bd_s hf
  refine k_eSi (As := [.int x1]) (rest := []) hx hb hml hown hts hK hA hZ hl.1 hP hD hS (c_X11_noFloor  hq13) (gSt mlX11_107 stX11_noFloor inX11 coX11_noFloor) rfl qnX11_noFloor rfl rfl ⟨Nat.le_of_ble_eq_true rfl, Nat.le_of_ble_eq_true rfl⟩ rfl rfl (Nat.le_of_ble_eq_true rfl) ⟨Nat.zero_le _, Nat.zero_le _⟩ dX11_chain_1 (fun H locs hP hD hS => ?_)
  refine lv_if_ne (tgt := 21) hx hb dX11_chain_4 (by decide) (fun hc => ?_) (fun hc => ?_)
  · have hf := ite_f hf hc
    refine lv_bipush (v := (-2)) hx hb dX11_chain_21 (by decide) ?_
    obtain rfl := Option.some.inj hf
    exact k_iret hx hb hr hlocks hK hP hD hS dX11_chain_23
  · have hf := ite_t hf hc
    refine lv_iload_n hx hb dX11_chain_7 rfl (lv_at hl 2 rfl) ?_
    obtain ⟨q14, hq14, hf⟩ := bd_s hf
    refine k_eSi (As := [.int x2]) (rest := []) hx hb hml hown hts hK hA hZ hl.1 hP hD hS (c_X11_noFloor  hq14) (gSt mlX11_107 stX11_noFloor inX11 coX11_noFloor) rfl qnX11_noFloor rfl rfl ⟨Nat.le_of_ble_eq_true rfl, Nat.le_of_ble_eq_true rfl⟩ rfl rfl (Nat.le_of_ble_eq_true rfl) ⟨Nat.zero_le _, Nat.zero_le _⟩ dX11_chain_8 (fun H locs hP hD hS => ?_)
    refine lv_if_ne (tgt := 21) hx hb dX11_chain_11 (by decide) (fun hc => ?_) (fun hc => ?_)
    · have hf := ite_f hf hc
      refine lv_bipush (v := (-2)) hx hb dX11_chain_21 (by decide) ?_
      obtain rfl := Option.some.inj hf
      exact k_iret hx hb hr hlocks hK hP hD hS dX11_chain_23
    · have hf := ite_t hf hc
      refine lv_iload_n hx hb dX11_chain_14 rfl (lv_at hl 3 rfl) ?_
      obtain ⟨q15, hq15, hf⟩ := bd_s hf
      refine k_eSi (As := [.int x3]) (rest := []) hx hb hml hown hts hK hA hZ hl.1 hP hD hS (c_X11_noFloor  hq15) (gSt mlX11_107 stX11_noFloor inX11 coX11_noFloor) rfl qnX11_noFloor rfl rfl ⟨Nat.le_of_ble_eq_true rfl, Nat.le_of_ble_eq_true rfl⟩ rfl rfl (Nat.le_of_ble_eq_true rfl) ⟨Nat.zero_le _, Nat.zero_le _⟩ dX11_chain_15 (fun H locs hP hD hS => ?_)
      refine lv_if_eq (tgt := 24) hx hb dX11_chain_18 (by decide) (fun hc => ?_) (fun hc => ?_)
      · have hf := ite_t hf hc
        refine lv_aload_n hx hb dX11_chain_24 rfl (lv_at hl 0 rfl) ?_
        refine va_get (D := D) (ci := 11) (v := .ref (a0 1)) (C := RX11) (T := TX11) (N := 13) hx hb hts hiX11 hown hK hP 0 rfl rfl 1 (by decide) (hts _ flX11_18) (fun _ h9 => h9) rfl dX11_chain_25 ?_
        refine lv_iload_n hx hb dX11_chain_28 rfl (lv_at hl 1 rfl) ?_
        have hj16 := inb_lt (ck_in hf)
        refine k_aald (f := fun j => fl2 j) (j := x1.toNatClampNeg) hx hb hK hP 6 4 rfl rfl rfl (ck_in hf) rfl dX11_chain_29 ?_
        have hf := ck_2 hf
        obtain ⟨q17, hq17, hf⟩ := bd_s hf
        refine k_fVi (ws2 := W11 cs h0 a0  ++ (W2 cs (a0 2) a1 i1 r1 ++ ([va_ar cs (a0 1) fl2] ++ FO cs fl2 a2 p2 s2 (List.range 6)))) (As := []) (rest := []) hx hb hml hown hts hK hA hZ hl.1 hP hD hS (c_X2_steps (h0 := fl2 x1.toNatClampNeg) (a0 := a2 x1.toNatClampNeg) hq17) (gVt mlX11_171 imX2_steps seX2_steps inX2 coX2_steps) rfl qnX2_steps rfl rfl ⟨Nat.le_of_ble_eq_true rfl, Nat.le_of_ble_eq_true rfl⟩ (bp (l := [W11 cs h0 a0 , W2 cs (a0 2) a1 i1 r1, [va_ar cs (a0 1) fl2]]) (lc := [W2 cs (fl2 x1.toNatClampNeg) (a2 x1.toNatClampNeg) (p2 x1.toNatClampNeg) (s2 x1.toNatClampNeg)]) (lr := [W11 cs h0 a0 , W2 cs (a0 2) a1 i1 r1, [va_ar cs (a0 1) fl2], FO cs fl2 a2 p2 s2 ((List.range 6).erase x1.toNatClampNeg)]) [W2 cs (fl2 x1.toNatClampNeg) (a2 x1.toNatClampNeg) (p2 x1.toNatClampNeg) (s2 x1.toNatClampNeg), FO cs fl2 a2 p2 s2 ((List.range 6).erase x1.toNatClampNeg)] (foc hj16) [3, 0, 1, 2, 4] rfl rfl) (bp (l := [W11 cs h0 a0 , W2 cs (a0 2) a1 i1 r1, [va_ar cs (a0 1) fl2]]) (lc := [W2 cs (fl2 x1.toNatClampNeg) (a2 x1.toNatClampNeg) (p2 x1.toNatClampNeg) (s2 x1.toNatClampNeg)]) (lr := [W11 cs h0 a0 , W2 cs (a0 2) a1 i1 r1, [va_ar cs (a0 1) fl2], FO cs fl2 a2 p2 s2 ((List.range 6).erase x1.toNatClampNeg)]) [W2 cs (fl2 x1.toNatClampNeg) (a2 x1.toNatClampNeg) (p2 x1.toNatClampNeg) (s2 x1.toNatClampNeg), FO cs fl2 a2 p2 s2 ((List.range 6).erase x1.toNatClampNeg)] (foc hj16) [3, 0, 1, 2, 4] rfl rfl) 0 2 rfl rfl rfl rfl rfl (Nat.le_of_ble_eq_true rfl) ⟨Nat.zero_le _, Nat.zero_le _⟩ dX11_chain_30 (fun H locs hP hD hS => ?_)
        refine lv_aload_n hx hb dX11_chain_33 rfl (lv_at hl 0 rfl) ?_
        refine va_get (D := D) (ci := 11) (v := .ref (a0 1)) (C := RX11) (T := TX11) (N := 13) hx hb hts hiX11 hown hK hP 0 rfl rfl 1 (by decide) (hts _ flX11_18) (fun _ h9 => h9) rfl dX11_chain_34 ?_
        refine lv_iload_n hx hb dX11_chain_37 rfl (lv_at hl 2 rfl) ?_
        have hj18 := inb_lt (ck_in hf)
        refine k_aald (f := fun j => fl2 j) (j := x2.toNatClampNeg) hx hb hK hP 6 4 rfl rfl rfl (ck_in hf) rfl dX11_chain_38 ?_
        have hf := ck_2 hf
        obtain ⟨q19, hq19, hf⟩ := bd_s hf
        refine k_fVi (ws2 := W11 cs h0 a0  ++ (W2 cs (a0 2) a1 i1 r1 ++ ([va_ar cs (a0 1) fl2] ++ FO cs fl2 a2 p2 s2 (List.range 6)))) (As := []) (rest := [.int q17]) hx hb hml hown hts hK hA hZ hl.1 hP hD hS (c_X2_steps (h0 := fl2 x2.toNatClampNeg) (a0 := a2 x2.toNatClampNeg) hq19) (gVt mlX11_171 imX2_steps seX2_steps inX2 coX2_steps) rfl qnX2_steps rfl rfl ⟨Nat.le_of_ble_eq_true rfl, Nat.le_of_ble_eq_true rfl⟩ (bp (l := [W11 cs h0 a0 , W2 cs (a0 2) a1 i1 r1, [va_ar cs (a0 1) fl2]]) (lc := [W2 cs (fl2 x2.toNatClampNeg) (a2 x2.toNatClampNeg) (p2 x2.toNatClampNeg) (s2 x2.toNatClampNeg)]) (lr := [W11 cs h0 a0 , W2 cs (a0 2) a1 i1 r1, [va_ar cs (a0 1) fl2], FO cs fl2 a2 p2 s2 ((List.range 6).erase x2.toNatClampNeg)]) [W2 cs (fl2 x2.toNatClampNeg) (a2 x2.toNatClampNeg) (p2 x2.toNatClampNeg) (s2 x2.toNatClampNeg), FO cs fl2 a2 p2 s2 ((List.range 6).erase x2.toNatClampNeg)] (foc hj18) [3, 0, 1, 2, 4] rfl rfl) (bp (l := [W11 cs h0 a0 , W2 cs (a0 2) a1 i1 r1, [va_ar cs (a0 1) fl2]]) (lc := [W2 cs (fl2 x2.toNatClampNeg) (a2 x2.toNatClampNeg) (p2 x2.toNatClampNeg) (s2 x2.toNatClampNeg)]) (lr := [W11 cs h0 a0 , W2 cs (a0 2) a1 i1 r1, [va_ar cs (a0 1) fl2], FO cs fl2 a2 p2 s2 ((List.range 6).erase x2.toNatClampNeg)]) [W2 cs (fl2 x2.toNatClampNeg) (a2 x2.toNatClampNeg) (p2 x2.toNatClampNeg) (s2 x2.toNatClampNeg), FO cs fl2 a2 p2 s2 ((List.range 6).erase x2.toNatClampNeg)] (foc hj18) [3, 0, 1, 2, 4] rfl rfl) 0 2 rfl rfl rfl rfl rfl (Nat.le_of_ble_eq_true rfl) ⟨Nat.zero_le _, Nat.zero_le _⟩ dX11_chain_39 (fun H locs hP hD hS => ?_)
        refine lv_iadd hx hb dX11_chain_42 ?_
        refine lv_bipush (v := 40) hx hb dX11_chain_43 (by decide) ?_
        refine lv_icmp_le (tgt := 51) hx hb dX11_chain_45 (by decide) (fun hc => ?_) (fun hc => ?_)
        · have hf := ite_t hf hc
          refine lv_aload_n hx hb dX11_chain_51 rfl (lv_at hl 0 rfl) ?_
          refine va_get (D := D) (ci := 11) (v := .ref (a0 2)) (C := RX11) (T := TX11) (N := 13) hx hb hts hiX11 hown hK hP 0 rfl rfl 2 (by decide) (hts _ flX11_23) (fun _ h9 => h9) rfl dX11_chain_52 ?_
          refine lv_aload_n hx hb dX11_chain_55 rfl (lv_at hl 0 rfl) ?_
          refine va_get (D := D) (ci := 11) (v := .ref (a0 1)) (C := RX11) (T := TX11) (N := 13) hx hb hts hiX11 hown hK hP 0 rfl rfl 1 (by decide) (hts _ flX11_18) (fun _ h9 => h9) rfl dX11_chain_56 ?_
          refine lv_iload_n hx hb dX11_chain_59 rfl (lv_at hl 1 rfl) ?_
          have hj20 := inb_lt (ck_in hf)
          refine k_aald (f := fun j => fl2 j) (j := x1.toNatClampNeg) hx hb hK hP 6 4 rfl rfl rfl (ck_in hf) rfl dX11_chain_60 ?_
          have hf := ck_2 hf
          refine lv_aload_n hx hb dX11_chain_61 rfl (lv_at hl 0 rfl) ?_
          refine va_get (D := D) (ci := 11) (v := .ref (a0 1)) (C := RX11) (T := TX11) (N := 13) hx hb hts hiX11 hown hK hP 0 rfl rfl 1 (by decide) (hts _ flX11_18) (fun _ h9 => h9) rfl dX11_chain_62 ?_
          refine lv_iload_n hx hb dX11_chain_65 rfl (lv_at hl 2 rfl) ?_
          have hj21 := inb_lt (ck_in hf)
          refine k_aald (f := fun j => fl2 j) (j := x2.toNatClampNeg) hx hb hK hP 6 4 rfl rfl rfl (ck_in hf) rfl dX11_chain_66 ?_
          have hf := ck_2 hf
          by_cases hc : x1.toNatClampNeg = x2.toNatClampNeg
          · have hf := ite_t hf hc
            rw [← hc]
            obtain ⟨q22, hq22, hf⟩ := bd_s hf
            refine k_fVv (ws2 := W11 cs h0 a0  ++ (W2 cs (a0 2) a1 q22.1 q22.2 ++ ([va_ar cs (a0 1) fl2] ++ FO cs fl2 a2 p2 s2 (List.range 6)))) (As := [.ref (fl2 x1.toNatClampNeg), .ref (fl2 x1.toNatClampNeg)]) (rest := []) hx hb hml hown hts hK hA hZ hl.1 hP hD hS (c_X2_layChained_S (h0 := (a0 2)) (a0 := a1) (h1 := fl2 x1.toNatClampNeg) (a1 := a2 x1.toNatClampNeg) hq22) (gVt mlX11_178 imX2_layChained seX2_layChained inX2 coX2_layChained) rfl qnX2_layChained_S rfl rfl ⟨Nat.le_of_ble_eq_true rfl, Nat.le_of_ble_eq_true rfl⟩ (bp (l := [W11 cs h0 a0 , W2 cs (a0 2) a1 i1 r1, [va_ar cs (a0 1) fl2]]) (lc := [W2 cs (a0 2) a1 i1 r1, W2 cs (fl2 x1.toNatClampNeg) (a2 x1.toNatClampNeg) (p2 x1.toNatClampNeg) (s2 x1.toNatClampNeg)]) (lr := [W11 cs h0 a0 , [va_ar cs (a0 1) fl2], FO cs fl2 a2 p2 s2 ((List.range 6).erase x1.toNatClampNeg)]) [W2 cs (fl2 x1.toNatClampNeg) (a2 x1.toNatClampNeg) (p2 x1.toNatClampNeg) (s2 x1.toNatClampNeg), FO cs fl2 a2 p2 s2 ((List.range 6).erase x1.toNatClampNeg)] (foc hj20) [1, 3, 0, 2, 4] rfl rfl) (bp (l := [W11 cs h0 a0 , W2 cs (a0 2) a1 q22.1 q22.2, [va_ar cs (a0 1) fl2]]) (lc := [W2 cs (a0 2) a1 q22.1 q22.2, W2 cs (fl2 x1.toNatClampNeg) (a2 x1.toNatClampNeg) (p2 x1.toNatClampNeg) (s2 x1.toNatClampNeg)]) (lr := [W11 cs h0 a0 , [va_ar cs (a0 1) fl2], FO cs fl2 a2 p2 s2 ((List.range 6).erase x1.toNatClampNeg)]) [W2 cs (fl2 x1.toNatClampNeg) (a2 x1.toNatClampNeg) (p2 x1.toNatClampNeg) (s2 x1.toNatClampNeg), FO cs fl2 a2 p2 s2 ((List.range 6).erase x1.toNatClampNeg)] (foc hj20) [1, 3, 0, 2, 4] rfl rfl) 0 2 rfl rfl rfl rfl rfl (Nat.le_of_ble_eq_true rfl) ⟨Nat.zero_le _, Nat.zero_le _⟩ dX11_chain_67 (fun H locs hP hD hS => ?_)
            refine lv_aload_n hx hb dX11_chain_70 rfl (lv_at hl 0 rfl) ?_
            refine lv_iload_n hx hb dX11_chain_71 rfl (lv_at hl 3 rfl) ?_
            obtain ⟨q24, hq24, hf⟩ := bd_s hf
            refine k_fVi (ws2 := W11 cs h0 a0  ++ (W2 cs (a0 2) a1 q22.1 q22.2 ++ ([va_ar cs (a0 1) fl2] ++ FO cs fl2 a2 q24.2.1 q24.2.2 (List.range 6)))) (As := [.int x3]) (rest := []) hx hb hml hown hts hK hA hZ hl.1 hP hD hS (c_X11_settle (h0 := h0) (a0 := a0) (a1 := a1) (fl2 := fl2) (a2 := a2) hq24) (gVt mlX11_118 imX11_settle seX11_settle inX11 coX11_settle) rfl qnX11_settle rfl rfl ⟨Nat.le_of_ble_eq_true rfl, Nat.le_of_ble_eq_true rfl⟩ (bp (l := [W11 cs h0 a0 , W2 cs (a0 2) a1 q22.1 q22.2, [va_ar cs (a0 1) fl2]]) (lc := [W11 cs h0 a0 , W2 cs (a0 2) a1 q22.1 q22.2, [va_ar cs (a0 1) fl2], FO cs fl2 a2 p2 s2 (List.range 6)]) (lr := []) [FO cs fl2 a2 p2 s2 (List.range 6)] (List.Perm.refl _) [0, 1, 2, 3] rfl rfl) (bp (l := [W11 cs h0 a0 , W2 cs (a0 2) a1 q22.1 q22.2, [va_ar cs (a0 1) fl2]]) (lc := [W11 cs h0 a0 , W2 cs (a0 2) a1 q22.1 q22.2, [va_ar cs (a0 1) fl2], FO cs fl2 a2 q24.2.1 q24.2.2 (List.range 6)]) (lr := []) [FO cs fl2 a2 q24.2.1 q24.2.2 (List.range 6)] (List.Perm.refl _) [0, 1, 2, 3] rfl rfl) 0 11 rfl rfl rfl rfl rfl (Nat.le_of_ble_eq_true rfl) ⟨Nat.zero_le _, Nat.zero_le _⟩ dX11_chain_72 (fun H locs hP hD hS => ?_)
            obtain rfl := Option.some.inj hf
            exact k_iret hx hb hr hlocks hK hP hD hS dX11_chain_75
          · have hf := ite_f hf hc
            obtain ⟨q23, hq23, hf⟩ := bd_s hf
            refine k_fVv (ws2 := W11 cs h0 a0  ++ (W2 cs (a0 2) a1 q23.1 q23.2 ++ ([va_ar cs (a0 1) fl2] ++ FO cs fl2 a2 p2 s2 (List.range 6)))) (As := [.ref (fl2 x1.toNatClampNeg), .ref (fl2 x2.toNatClampNeg)]) (rest := []) hx hb hml hown hts hK hA hZ hl.1 hP hD hS (c_X2_layChained (h0 := (a0 2)) (a0 := a1) (h1 := fl2 x1.toNatClampNeg) (a1 := a2 x1.toNatClampNeg) (h2 := fl2 x2.toNatClampNeg) (a2 := a2 x2.toNatClampNeg) hq23) (gVt mlX11_178 imX2_layChained seX2_layChained inX2 coX2_layChained) rfl qnX2_layChained rfl rfl ⟨Nat.le_of_ble_eq_true rfl, Nat.le_of_ble_eq_true rfl⟩ (bp (l := [W11 cs h0 a0 , W2 cs (a0 2) a1 i1 r1, [va_ar cs (a0 1) fl2]]) (lc := [W2 cs (a0 2) a1 i1 r1, W2 cs (fl2 x1.toNatClampNeg) (a2 x1.toNatClampNeg) (p2 x1.toNatClampNeg) (s2 x1.toNatClampNeg), W2 cs (fl2 x2.toNatClampNeg) (a2 x2.toNatClampNeg) (p2 x2.toNatClampNeg) (s2 x2.toNatClampNeg)]) (lr := [W11 cs h0 a0 , [va_ar cs (a0 1) fl2], FO cs fl2 a2 p2 s2 (((List.range 6).erase x1.toNatClampNeg).erase x2.toNatClampNeg)]) [W2 cs (fl2 x1.toNatClampNeg) (a2 x1.toNatClampNeg) (p2 x1.toNatClampNeg) (s2 x1.toNatClampNeg), W2 cs (fl2 x2.toNatClampNeg) (a2 x2.toNatClampNeg) (p2 x2.toNatClampNeg) (s2 x2.toNatClampNeg), FO cs fl2 a2 p2 s2 (((List.range 6).erase x1.toNatClampNeg).erase x2.toNatClampNeg)] (foc2 hj20 hj21 hc) [1, 3, 4, 0, 2, 5] rfl rfl) (bp (l := [W11 cs h0 a0 , W2 cs (a0 2) a1 q23.1 q23.2, [va_ar cs (a0 1) fl2]]) (lc := [W2 cs (a0 2) a1 q23.1 q23.2, W2 cs (fl2 x1.toNatClampNeg) (a2 x1.toNatClampNeg) (p2 x1.toNatClampNeg) (s2 x1.toNatClampNeg), W2 cs (fl2 x2.toNatClampNeg) (a2 x2.toNatClampNeg) (p2 x2.toNatClampNeg) (s2 x2.toNatClampNeg)]) (lr := [W11 cs h0 a0 , [va_ar cs (a0 1) fl2], FO cs fl2 a2 p2 s2 (((List.range 6).erase x1.toNatClampNeg).erase x2.toNatClampNeg)]) [W2 cs (fl2 x1.toNatClampNeg) (a2 x1.toNatClampNeg) (p2 x1.toNatClampNeg) (s2 x1.toNatClampNeg), W2 cs (fl2 x2.toNatClampNeg) (a2 x2.toNatClampNeg) (p2 x2.toNatClampNeg) (s2 x2.toNatClampNeg), FO cs fl2 a2 p2 s2 (((List.range 6).erase x1.toNatClampNeg).erase x2.toNatClampNeg)] (foc2 hj20 hj21 hc) [1, 3, 4, 0, 2, 5] rfl rfl) 0 2 rfl rfl rfl rfl rfl (Nat.le_of_ble_eq_true rfl) ⟨Nat.zero_le _, Nat.zero_le _⟩ dX11_chain_67 (fun H locs hP hD hS => ?_)
            refine lv_aload_n hx hb dX11_chain_70 rfl (lv_at hl 0 rfl) ?_
            refine lv_iload_n hx hb dX11_chain_71 rfl (lv_at hl 3 rfl) ?_
            obtain ⟨q25, hq25, hf⟩ := bd_s hf
            refine k_fVi (ws2 := W11 cs h0 a0  ++ (W2 cs (a0 2) a1 q23.1 q23.2 ++ ([va_ar cs (a0 1) fl2] ++ FO cs fl2 a2 q25.2.1 q25.2.2 (List.range 6)))) (As := [.int x3]) (rest := []) hx hb hml hown hts hK hA hZ hl.1 hP hD hS (c_X11_settle (h0 := h0) (a0 := a0) (a1 := a1) (fl2 := fl2) (a2 := a2) hq25) (gVt mlX11_118 imX11_settle seX11_settle inX11 coX11_settle) rfl qnX11_settle rfl rfl ⟨Nat.le_of_ble_eq_true rfl, Nat.le_of_ble_eq_true rfl⟩ (bp (l := [W11 cs h0 a0 , W2 cs (a0 2) a1 q23.1 q23.2, [va_ar cs (a0 1) fl2]]) (lc := [W11 cs h0 a0 , W2 cs (a0 2) a1 q23.1 q23.2, [va_ar cs (a0 1) fl2], FO cs fl2 a2 p2 s2 (List.range 6)]) (lr := []) [FO cs fl2 a2 p2 s2 (List.range 6)] (List.Perm.refl _) [0, 1, 2, 3] rfl rfl) (bp (l := [W11 cs h0 a0 , W2 cs (a0 2) a1 q23.1 q23.2, [va_ar cs (a0 1) fl2]]) (lc := [W11 cs h0 a0 , W2 cs (a0 2) a1 q23.1 q23.2, [va_ar cs (a0 1) fl2], FO cs fl2 a2 q25.2.1 q25.2.2 (List.range 6)]) (lr := []) [FO cs fl2 a2 q25.2.1 q25.2.2 (List.range 6)] (List.Perm.refl _) [0, 1, 2, 3] rfl rfl) 0 11 rfl rfl rfl rfl rfl (Nat.le_of_ble_eq_true rfl) ⟨Nat.zero_le _, Nat.zero_le _⟩ dX11_chain_72 (fun H locs hP hD hS => ?_)
            obtain rfl := Option.some.inj hf
            exact k_iret hx hb hr hlocks hK hP hD hS dX11_chain_75
        · have hf := ite_f hf hc
          refine lv_bipush (v := (-3)) hx hb dX11_chain_48 (by decide) ?_
          obtain rfl := Option.some.inj hf
          exact k_iret hx hb hr hlocks hK hP hD hS dX11_chain_50
      · have hf := ite_f hf hc
        refine lv_bipush (v := (-2)) hx hb dX11_chain_21 (by decide) ?_
        obtain rfl := Option.some.inj hf
        exact k_iret hx hb hr hlocks hK hP hD hS dX11_chain_23
/-! MarbleFloor.least(III)I -/
abbrev wlX11_least : List Cond := Cond.code yX11_least cX11_least 4 (some .int) :: tbG
abbrev rmX11_least : Room := { frames := 5, cells := 0, slots := 0, locals := 116 }
theorem qnX11_least : yX11_least.cls = RX11 ∧ yX11_least.cls ≠ "java/lang/invoke/MethodHandle" ∧ yX11_least.cls ≠ "java/lang/invoke/VarHandle" ∧ (parseMethodDescriptor yX11_least.desc).map (fun d => d.parameters.length) = some 3 := by decide +kernel
def f_X11_least  (i1 : Nat → Int32) (r1 : Nat → Nat → Int32) (u1 : Nat → Nat) (i2 : Nat → Int32) (r2 : Nat → Nat → Int32) (p3 : Nat → Nat → Int32) (s3 : Nat → Nat → Nat → Int32) (x1 : Int32) (x2 : Int32) (x3 : Int32) : Option (Int32 × (Nat → Int32) × (Nat → Nat → Int32) × (Nat → Int32) × (Nat → Nat → Int32) × (Nat → Nat → Int32) × (Nat → Nat → Nat → Int32)) := bd (f_X11_noFloor x1) (fun q8 => if q8 = 0 then (bd (f_X11_noFloor x3) (fun q9 => if q9 = 0 then (if x2 < 0 then (some ((-2), i1, r1, i2, r2, p3, s3)) else (if x2 ≤ 31 then (ck (inb x1 6) (bd (f_X2_lanes (p3 x1.toNatClampNeg) (s3 x1.toNatClampNeg)) (fun q11 => if q11 = 3 then (ck (inb x1 6) (bd (f_X7_find i1 r1 u1 (p3 x1.toNatClampNeg) (s3 x1.toNatClampNeg) i2 r2 x2) (fun q13 => if q13.1 = 0 then (some ((-1), q13.2.1, q13.2.2.1, q13.2.2.2.1, q13.2.2.2.2, p3, s3)) else (bd (f_X11_settle q13.2.2.2.1 q13.2.2.2.2 p3 s3 x3) (fun q14 => some (q14.1, q13.2.1, q13.2.2.1, q13.2.2.2.1, q13.2.2.2.2, q14.2.1, q14.2.2)))))) else (some ((-4), i1, r1, i2, r2, p3, s3))))) else (some ((-2), i1, r1, i2, r2, p3, s3)))) else (some ((-2), i1, r1, i2, r2, p3, s3)))) else (some ((-2), i1, r1, i2, r2, p3, s3)))
set_option maxRecDepth 100000 in
set_option maxHeartbeats 4000000 in
theorem c_X11_least {l : Launch} {D : va_G} {cs zs : Nat → Nat} {h0 : Nat} {a0 : Nat → Nat} {a1 : Nat → Nat} {a2 : Nat → Nat} {fl3 : Nat → Nat} {a3 : Nat → Nat → Nat} {i1 : Nat → Int32} {r1 : Nat → Nat → Int32} {u1 : Nat → Nat} {i2 : Nat → Int32} {r2 : Nat → Nat → Int32} {p3 : Nat → Nat → Int32} {s3 : Nat → Nat → Nat → Int32} {x1 : Int32} {x2 : Int32} {x3 : Int32} {q : Int32 × (Nat → Int32) × (Nat → Nat → Int32) × (Nat → Int32) × (Nat → Nat → Int32) × (Nat → Nat → Int32) × (Nat → Nat → Nat → Int32)} (hf : f_X11_least i1 r1 u1 i2 r2 p3 s3 x1 x2 x3 = some q) : Mi l yX11_least wlX11_least rmX11_least D cs zs [.ref h0, .int x1, .int x2, .int x3] (W11 cs h0 a0  ++ (W7 cs (a0 5) a1 i1 r1 u1 ++ (W2 cs (a0 2) a2 i2 r2 ++ ([va_ar cs (a0 1) fl3] ++ FO cs fl3 a3 p3 s3 (List.range 6))))) q.1 (W11 cs h0 a0  ++ (W7 cs (a0 5) a1 q.2.1 q.2.2.1 u1 ++ (W2 cs (a0 2) a2 q.2.2.2.1 q.2.2.2.2.1 ++ ([va_ar cs (a0 1) fl3] ++ FO cs fl3 a3 q.2.2.2.2.2.1 q.2.2.2.2.2.2 (List.range 6))))) := by
  refine Mi.of RX11 (by decide) rfl (Nat.le_of_ble_eq_true rfl) (fun p e s m below meth c A C hP hD hS ls hl => ?_)
  generalize ([.ref h0, .int x1, .int x2, .int x3] : List Value).toArray = args at C ⊢
  obtain ⟨hx, hb, hr, hml, hown, hts, hK, hA, hlocks, hZ⟩ := id C
  have hl : lv_has ls 4 [(0, .ref h0), (1, .int x1), (2, .int x2), (3, .int x3)] := hl
  rw [f_X11_least] at hf
  refine lv_iload_n hx hb dX11_least_0 rfl (lv_at hl 1 rfl) ?_
  obtain ⟨q8, hq8, hf⟩ := bd_s hf
  refine k_eSi (As := [.int x1]) (rest := []) hx hb hml hown hts hK hA hZ hl.1 hP hD hS (c_X11_noFloor  hq8) (gSt mlX11_107 stX11_noFloor inX11 coX11_noFloor) rfl qnX11_noFloor rfl rfl ⟨Nat.le_of_ble_eq_true rfl, Nat.le_of_ble_eq_true rfl⟩ rfl rfl (Nat.le_of_ble_eq_true rfl) ⟨Nat.zero_le _, Nat.zero_le _⟩ dX11_least_1 (fun H locs hP hD hS => ?_)
  refine lv_if_ne (tgt := 24) hx hb dX11_least_4 (by decide) (fun hc => ?_) (fun hc => ?_)
  · have hf := ite_f hf hc
    refine lv_bipush (v := (-2)) hx hb dX11_least_24 (by decide) ?_
    obtain rfl := Option.some.inj hf
    exact k_iret hx hb hr hlocks hK hP hD hS dX11_least_26
  · have hf := ite_t hf hc
    refine lv_iload_n hx hb dX11_least_7 rfl (lv_at hl 3 rfl) ?_
    obtain ⟨q9, hq9, hf⟩ := bd_s hf
    refine k_eSi (As := [.int x3]) (rest := []) hx hb hml hown hts hK hA hZ hl.1 hP hD hS (c_X11_noFloor  hq9) (gSt mlX11_107 stX11_noFloor inX11 coX11_noFloor) rfl qnX11_noFloor rfl rfl ⟨Nat.le_of_ble_eq_true rfl, Nat.le_of_ble_eq_true rfl⟩ rfl rfl (Nat.le_of_ble_eq_true rfl) ⟨Nat.zero_le _, Nat.zero_le _⟩ dX11_least_8 (fun H locs hP hD hS => ?_)
    refine lv_if_ne (tgt := 24) hx hb dX11_least_11 (by decide) (fun hc => ?_) (fun hc => ?_)
    · have hf := ite_f hf hc
      refine lv_bipush (v := (-2)) hx hb dX11_least_24 (by decide) ?_
      obtain rfl := Option.some.inj hf
      exact k_iret hx hb hr hlocks hK hP hD hS dX11_least_26
    · have hf := ite_t hf hc
      refine lv_iload_n hx hb dX11_least_14 rfl (lv_at hl 2 rfl) ?_
      refine lv_if_lt (tgt := 24) hx hb dX11_least_15 (by decide) (fun hc => ?_) (fun hc => ?_)
      · have hf := ite_t hf hc
        refine lv_bipush (v := (-2)) hx hb dX11_least_24 (by decide) ?_
        obtain rfl := Option.some.inj hf
        exact k_iret hx hb hr hlocks hK hP hD hS dX11_least_26
      · have hf := ite_f hf hc
        refine lv_iload_n hx hb dX11_least_18 rfl (lv_at hl 2 rfl) ?_
        refine lv_bipush (v := 31) hx hb dX11_least_19 (by decide) ?_
        refine lv_icmp_le (tgt := 27) hx hb dX11_least_21 (by decide) (fun hc => ?_) (fun hc => ?_)
        · have hf := ite_t hf hc
          refine lv_aload_n hx hb dX11_least_27 rfl (lv_at hl 0 rfl) ?_
          refine va_get (D := D) (ci := 11) (v := .ref (a0 1)) (C := RX11) (T := TX11) (N := 13) hx hb hts hiX11 hown hK hP 0 rfl rfl 1 (by decide) (hts _ flX11_18) (fun _ h9 => h9) rfl dX11_least_28 ?_
          refine lv_iload_n hx hb dX11_least_31 rfl (lv_at hl 1 rfl) ?_
          have hj10 := inb_lt (ck_in hf)
          refine k_aald (f := fun j => fl3 j) (j := x1.toNatClampNeg) hx hb hK hP 13 4 rfl rfl rfl (ck_in hf) rfl dX11_least_32 ?_
          have hf := ck_2 hf
          obtain ⟨q11, hq11, hf⟩ := bd_s hf
          refine k_fVi (ws2 := W11 cs h0 a0  ++ (W7 cs (a0 5) a1 i1 r1 u1 ++ (W2 cs (a0 2) a2 i2 r2 ++ ([va_ar cs (a0 1) fl3] ++ FO cs fl3 a3 p3 s3 (List.range 6))))) (As := []) (rest := []) hx hb hml hown hts hK hA hZ hl.1 hP hD hS (c_X2_lanes (h0 := fl3 x1.toNatClampNeg) (a0 := a3 x1.toNatClampNeg) hq11) (gVt mlX11_152 imX2_lanes seX2_lanes inX2 coX2_lanes) rfl qnX2_lanes rfl rfl ⟨Nat.le_of_ble_eq_true rfl, Nat.le_of_ble_eq_true rfl⟩ (bp (l := [W11 cs h0 a0 , W7 cs (a0 5) a1 i1 r1 u1, W2 cs (a0 2) a2 i2 r2, [va_ar cs (a0 1) fl3]]) (lc := [W2 cs (fl3 x1.toNatClampNeg) (a3 x1.toNatClampNeg) (p3 x1.toNatClampNeg) (s3 x1.toNatClampNeg)]) (lr := [W11 cs h0 a0 , W7 cs (a0 5) a1 i1 r1 u1, W2 cs (a0 2) a2 i2 r2, [va_ar cs (a0 1) fl3], FO cs fl3 a3 p3 s3 ((List.range 6).erase x1.toNatClampNeg)]) [W2 cs (fl3 x1.toNatClampNeg) (a3 x1.toNatClampNeg) (p3 x1.toNatClampNeg) (s3 x1.toNatClampNeg), FO cs fl3 a3 p3 s3 ((List.range 6).erase x1.toNatClampNeg)] (foc hj10) [4, 0, 1, 2, 3, 5] rfl rfl) (bp (l := [W11 cs h0 a0 , W7 cs (a0 5) a1 i1 r1 u1, W2 cs (a0 2) a2 i2 r2, [va_ar cs (a0 1) fl3]]) (lc := [W2 cs (fl3 x1.toNatClampNeg) (a3 x1.toNatClampNeg) (p3 x1.toNatClampNeg) (s3 x1.toNatClampNeg)]) (lr := [W11 cs h0 a0 , W7 cs (a0 5) a1 i1 r1 u1, W2 cs (a0 2) a2 i2 r2, [va_ar cs (a0 1) fl3], FO cs fl3 a3 p3 s3 ((List.range 6).erase x1.toNatClampNeg)]) [W2 cs (fl3 x1.toNatClampNeg) (a3 x1.toNatClampNeg) (p3 x1.toNatClampNeg) (s3 x1.toNatClampNeg), FO cs fl3 a3 p3 s3 ((List.range 6).erase x1.toNatClampNeg)] (foc hj10) [4, 0, 1, 2, 3, 5] rfl rfl) 0 2 rfl rfl rfl rfl rfl (Nat.le_of_ble_eq_true rfl) ⟨Nat.zero_le _, Nat.zero_le _⟩ dX11_least_33 (fun H locs hP hD hS => ?_)
          refine lv_iconst (v := 3) hx hb dX11_least_36 (by decide) ?_
          refine lv_icmp_eq (tgt := 43) hx hb dX11_least_37 (by decide) (fun hc => ?_) (fun hc => ?_)
          · have hf := ite_t hf hc
            refine lv_aload_n hx hb dX11_least_43 rfl (lv_at hl 0 rfl) ?_
            refine va_get (D := D) (ci := 11) (v := .ref (a0 5)) (C := RX11) (T := TX11) (N := 13) hx hb hts hiX11 hown hK hP 0 rfl rfl 5 (by decide) (hts _ flX11_46) (fun _ h9 => h9) rfl dX11_least_44 ?_
            refine lv_aload_n hx hb dX11_least_47 rfl (lv_at hl 0 rfl) ?_
            refine va_get (D := D) (ci := 11) (v := .ref (a0 1)) (C := RX11) (T := TX11) (N := 13) hx hb hts hiX11 hown hK hP 0 rfl rfl 1 (by decide) (hts _ flX11_18) (fun _ h9 => h9) rfl dX11_least_48 ?_
            refine lv_iload_n hx hb dX11_least_51 rfl (lv_at hl 1 rfl) ?_
            have hj12 := inb_lt (ck_in hf)
            refine k_aald (f := fun j => fl3 j) (j := x1.toNatClampNeg) hx hb hK hP 13 4 rfl rfl rfl (ck_in hf) rfl dX11_least_52 ?_
            have hf := ck_2 hf
            refine lv_iload_n hx hb dX11_least_53 rfl (lv_at hl 2 rfl) ?_
            refine lv_aload_n hx hb dX11_least_54 rfl (lv_at hl 0 rfl) ?_
            refine va_get (D := D) (ci := 11) (v := .ref (a0 2)) (C := RX11) (T := TX11) (N := 13) hx hb hts hiX11 hown hK hP 0 rfl rfl 2 (by decide) (hts _ flX11_23) (fun _ h9 => h9) rfl dX11_least_55 ?_
            obtain ⟨q13, hq13, hf⟩ := bd_s hf
            refine k_fVi (ws2 := W11 cs h0 a0  ++ (W7 cs (a0 5) a1 q13.2.1 q13.2.2.1 u1 ++ (W2 cs (a0 2) a2 q13.2.2.2.1 q13.2.2.2.2 ++ ([va_ar cs (a0 1) fl3] ++ FO cs fl3 a3 p3 s3 (List.range 6))))) (As := [.ref (fl3 x1.toNatClampNeg), .int x2, .ref (a0 2)]) (rest := []) hx hb hml hown hts hK hA hZ hl.1 hP hD hS (c_X7_find (h0 := (a0 5)) (a0 := a1) (h1 := fl3 x1.toNatClampNeg) (a1 := a3 x1.toNatClampNeg) (h2 := (a0 2)) (a2 := a2) hq13) (gVt mlX11_158 imX7_find seX7_find inX7 coX7_find) rfl qnX7_find rfl rfl ⟨Nat.le_of_ble_eq_true rfl, Nat.le_of_ble_eq_true rfl⟩ (bp (l := [W11 cs h0 a0 , W7 cs (a0 5) a1 i1 r1 u1, W2 cs (a0 2) a2 i2 r2, [va_ar cs (a0 1) fl3]]) (lc := [W7 cs (a0 5) a1 i1 r1 u1, W2 cs (fl3 x1.toNatClampNeg) (a3 x1.toNatClampNeg) (p3 x1.toNatClampNeg) (s3 x1.toNatClampNeg), W2 cs (a0 2) a2 i2 r2]) (lr := [W11 cs h0 a0 , [va_ar cs (a0 1) fl3], FO cs fl3 a3 p3 s3 ((List.range 6).erase x1.toNatClampNeg)]) [W2 cs (fl3 x1.toNatClampNeg) (a3 x1.toNatClampNeg) (p3 x1.toNatClampNeg) (s3 x1.toNatClampNeg), FO cs fl3 a3 p3 s3 ((List.range 6).erase x1.toNatClampNeg)] (foc hj12) [1, 4, 2, 0, 3, 5] rfl rfl) (bp (l := [W11 cs h0 a0 , W7 cs (a0 5) a1 q13.2.1 q13.2.2.1 u1, W2 cs (a0 2) a2 q13.2.2.2.1 q13.2.2.2.2, [va_ar cs (a0 1) fl3]]) (lc := [W7 cs (a0 5) a1 q13.2.1 q13.2.2.1 u1, W2 cs (fl3 x1.toNatClampNeg) (a3 x1.toNatClampNeg) (p3 x1.toNatClampNeg) (s3 x1.toNatClampNeg), W2 cs (a0 2) a2 q13.2.2.2.1 q13.2.2.2.2]) (lr := [W11 cs h0 a0 , [va_ar cs (a0 1) fl3], FO cs fl3 a3 p3 s3 ((List.range 6).erase x1.toNatClampNeg)]) [W2 cs (fl3 x1.toNatClampNeg) (a3 x1.toNatClampNeg) (p3 x1.toNatClampNeg) (s3 x1.toNatClampNeg), FO cs fl3 a3 p3 s3 ((List.range 6).erase x1.toNatClampNeg)] (foc hj12) [1, 4, 2, 0, 3, 5] rfl rfl) 0 7 rfl rfl rfl rfl rfl (Nat.le_of_ble_eq_true rfl) ⟨Nat.zero_le _, Nat.zero_le _⟩ dX11_least_58 (fun H locs hP hD hS => ?_)
            refine lv_if_ne (tgt := 66) hx hb dX11_least_61 (by decide) (fun hc => ?_) (fun hc => ?_)
            · have hf := ite_f hf hc
              refine lv_aload_n hx hb dX11_least_66 rfl (lv_at hl 0 rfl) ?_
              refine lv_iload_n hx hb dX11_least_67 rfl (lv_at hl 3 rfl) ?_
              obtain ⟨q14, hq14, hf⟩ := bd_s hf
              refine k_fVi (ws2 := W11 cs h0 a0  ++ (W7 cs (a0 5) a1 q13.2.1 q13.2.2.1 u1 ++ (W2 cs (a0 2) a2 q13.2.2.2.1 q13.2.2.2.2 ++ ([va_ar cs (a0 1) fl3] ++ FO cs fl3 a3 q14.2.1 q14.2.2 (List.range 6))))) (As := [.int x3]) (rest := []) hx hb hml hown hts hK hA hZ hl.1 hP hD hS (c_X11_settle (h0 := h0) (a0 := a0) (a1 := a2) (fl2 := fl3) (a2 := a3) hq14) (gVt mlX11_118 imX11_settle seX11_settle inX11 coX11_settle) rfl qnX11_settle rfl rfl ⟨Nat.le_of_ble_eq_true rfl, Nat.le_of_ble_eq_true rfl⟩ (bp (l := [W11 cs h0 a0 , W7 cs (a0 5) a1 q13.2.1 q13.2.2.1 u1, W2 cs (a0 2) a2 q13.2.2.2.1 q13.2.2.2.2, [va_ar cs (a0 1) fl3]]) (lc := [W11 cs h0 a0 , W2 cs (a0 2) a2 q13.2.2.2.1 q13.2.2.2.2, [va_ar cs (a0 1) fl3], FO cs fl3 a3 p3 s3 (List.range 6)]) (lr := [W7 cs (a0 5) a1 q13.2.1 q13.2.2.1 u1]) [FO cs fl3 a3 p3 s3 (List.range 6)] (List.Perm.refl _) [0, 2, 3, 4, 1] rfl rfl) (bp (l := [W11 cs h0 a0 , W7 cs (a0 5) a1 q13.2.1 q13.2.2.1 u1, W2 cs (a0 2) a2 q13.2.2.2.1 q13.2.2.2.2, [va_ar cs (a0 1) fl3]]) (lc := [W11 cs h0 a0 , W2 cs (a0 2) a2 q13.2.2.2.1 q13.2.2.2.2, [va_ar cs (a0 1) fl3], FO cs fl3 a3 q14.2.1 q14.2.2 (List.range 6)]) (lr := [W7 cs (a0 5) a1 q13.2.1 q13.2.2.1 u1]) [FO cs fl3 a3 q14.2.1 q14.2.2 (List.range 6)] (List.Perm.refl _) [0, 2, 3, 4, 1] rfl rfl) 0 11 rfl rfl rfl rfl rfl (Nat.le_of_ble_eq_true rfl) ⟨Nat.zero_le _, Nat.zero_le _⟩ dX11_least_68 (fun H locs hP hD hS => ?_)
              obtain rfl := Option.some.inj hf
              exact k_iret hx hb hr hlocks hK hP hD hS dX11_least_71
            · have hf := ite_t hf hc
              refine lv_iconst (v := (-1)) hx hb dX11_least_64 (by decide) ?_
              obtain rfl := Option.some.inj hf
              exact k_iret hx hb hr hlocks hK hP hD hS dX11_least_65
          · have hf := ite_f hf hc
            refine lv_bipush (v := (-4)) hx hb dX11_least_40 (by decide) ?_
            obtain rfl := Option.some.inj hf
            exact k_iret hx hb hr hlocks hK hP hD hS dX11_least_42
        · have hf := ite_f hf hc
          refine lv_bipush (v := (-2)) hx hb dX11_least_24 (by decide) ?_
          obtain rfl := Option.some.inj hf
          exact k_iret hx hb hr hlocks hK hP hD hS dX11_least_26
/-! MarbleFloor.watch(I)I -/
abbrev wlX11_watch : List Cond := Cond.code yX11_watch cX11_watch 2 (some .int) :: tbG
abbrev rmX11_watch : Room := { frames := 4, cells := 0, slots := 0, locals := 94 }
theorem qnX11_watch : yX11_watch.cls = RX11 ∧ yX11_watch.cls ≠ "java/lang/invoke/MethodHandle" ∧ yX11_watch.cls ≠ "java/lang/invoke/VarHandle" ∧ (parseMethodDescriptor yX11_watch.desc).map (fun d => d.parameters.length) = some 1 := by decide +kernel
def f_X11_watch  (i1 : Nat → Int32) (r1 : Nat → Nat → Int32) (u1 : Nat → Nat) (p2 : Nat → Nat → Int32) (s2 : Nat → Nat → Nat → Int32) (x1 : Int32) : Option (Int32 × (Nat → Int32) × (Nat → Nat → Int32)) := bd (f_X11_noFloor x1) (fun q6 => if q6 = 0 then (ck (inb x1 6) (bd (f_X1_begin i1 r1 u1 (p2 x1.toNatClampNeg) (s2 x1.toNatClampNeg)) (fun q8 => ck (inb x1 6) (bd (f_X2_steps (p2 x1.toNatClampNeg) (s2 x1.toNatClampNeg)) (fun q10 => some (q10, q8.1, q8.2)))))) else (some ((-2), i1, r1)))
set_option maxRecDepth 100000 in
set_option maxHeartbeats 4000000 in
theorem c_X11_watch {l : Launch} {D : va_G} {cs zs : Nat → Nat} {h0 : Nat} {a0 : Nat → Nat} {a1 : Nat → Nat} {fl2 : Nat → Nat} {a2 : Nat → Nat → Nat} {i1 : Nat → Int32} {r1 : Nat → Nat → Int32} {u1 : Nat → Nat} {p2 : Nat → Nat → Int32} {s2 : Nat → Nat → Nat → Int32} {x1 : Int32} {q : Int32 × (Nat → Int32) × (Nat → Nat → Int32)} (hf : f_X11_watch i1 r1 u1 p2 s2 x1 = some q) : Mi l yX11_watch wlX11_watch rmX11_watch D cs zs [.ref h0, .int x1] (W11 cs h0 a0  ++ (W1 cs (a0 12) a1 i1 r1 u1 ++ ([va_ar cs (a0 1) fl2] ++ FO cs fl2 a2 p2 s2 (List.range 6)))) q.1 (W11 cs h0 a0  ++ (W1 cs (a0 12) a1 q.2.1 q.2.2 u1 ++ ([va_ar cs (a0 1) fl2] ++ FO cs fl2 a2 p2 s2 (List.range 6)))) := by
  refine Mi.of RX11 (by decide) rfl (Nat.le_of_ble_eq_true rfl) (fun p e s m below meth c A C hP hD hS ls hl => ?_)
  generalize ([.ref h0, .int x1] : List Value).toArray = args at C ⊢
  obtain ⟨hx, hb, hr, hml, hown, hts, hK, hA, hlocks, hZ⟩ := id C
  have hl : lv_has ls 2 [(0, .ref h0), (1, .int x1)] := hl
  rw [f_X11_watch] at hf
  refine lv_iload_n hx hb dX11_watch_0 rfl (lv_at hl 1 rfl) ?_
  obtain ⟨q6, hq6, hf⟩ := bd_s hf
  refine k_eSi (As := [.int x1]) (rest := []) hx hb hml hown hts hK hA hZ hl.1 hP hD hS (c_X11_noFloor  hq6) (gSt mlX11_107 stX11_noFloor inX11 coX11_noFloor) rfl qnX11_noFloor rfl rfl ⟨Nat.le_of_ble_eq_true rfl, Nat.le_of_ble_eq_true rfl⟩ rfl rfl (Nat.le_of_ble_eq_true rfl) ⟨Nat.zero_le _, Nat.zero_le _⟩ dX11_watch_1 (fun H locs hP hD hS => ?_)
  refine lv_if_eq (tgt := 10) hx hb dX11_watch_4 (by decide) (fun hc => ?_) (fun hc => ?_)
  · have hf := ite_t hf hc
    refine lv_aload_n hx hb dX11_watch_10 rfl (lv_at hl 0 rfl) ?_
    refine va_get (D := D) (ci := 11) (v := .ref (a0 12)) (C := RX11) (T := TX11) (N := 13) hx hb hts hiX11 hown hK hP 0 rfl rfl 12 (by decide) (hts _ flX11_95) (fun _ h9 => h9) rfl dX11_watch_11 ?_
    refine lv_aload_n hx hb dX11_watch_14 rfl (lv_at hl 0 rfl) ?_
    refine va_get (D := D) (ci := 11) (v := .ref (a0 1)) (C := RX11) (T := TX11) (N := 13) hx hb hts hiX11 hown hK hP 0 rfl rfl 1 (by decide) (hts _ flX11_18) (fun _ h9 => h9) rfl dX11_watch_15 ?_
    refine lv_iload_n hx hb dX11_watch_18 rfl (lv_at hl 1 rfl) ?_
    have hj7 := inb_lt (ck_in hf)
    refine k_aald (f := fun j => fl2 j) (j := x1.toNatClampNeg) hx hb hK hP 12 4 rfl rfl rfl (ck_in hf) rfl dX11_watch_19 ?_
    have hf := ck_2 hf
    obtain ⟨q8, hq8, hf⟩ := bd_s hf
    refine k_fVv (ws2 := W11 cs h0 a0  ++ (W1 cs (a0 12) a1 q8.1 q8.2 u1 ++ ([va_ar cs (a0 1) fl2] ++ FO cs fl2 a2 p2 s2 (List.range 6)))) (As := [.ref (fl2 x1.toNatClampNeg)]) (rest := []) hx hb hml hown hts hK hA hZ hl.1 hP hD hS (c_X1_begin (h0 := (a0 12)) (a0 := a1) (h1 := fl2 x1.toNatClampNeg) (a1 := a2 x1.toNatClampNeg) hq8) (gVt mlX11_249 imX1_begin seX1_begin inX1 coX1_begin) rfl qnX1_begin rfl rfl ⟨Nat.le_of_ble_eq_true rfl, Nat.le_of_ble_eq_true rfl⟩ (bp (l := [W11 cs h0 a0 , W1 cs (a0 12) a1 i1 r1 u1, [va_ar cs (a0 1) fl2]]) (lc := [W1 cs (a0 12) a1 i1 r1 u1, W2 cs (fl2 x1.toNatClampNeg) (a2 x1.toNatClampNeg) (p2 x1.toNatClampNeg) (s2 x1.toNatClampNeg)]) (lr := [W11 cs h0 a0 , [va_ar cs (a0 1) fl2], FO cs fl2 a2 p2 s2 ((List.range 6).erase x1.toNatClampNeg)]) [W2 cs (fl2 x1.toNatClampNeg) (a2 x1.toNatClampNeg) (p2 x1.toNatClampNeg) (s2 x1.toNatClampNeg), FO cs fl2 a2 p2 s2 ((List.range 6).erase x1.toNatClampNeg)] (foc hj7) [1, 3, 0, 2, 4] rfl rfl) (bp (l := [W11 cs h0 a0 , W1 cs (a0 12) a1 q8.1 q8.2 u1, [va_ar cs (a0 1) fl2]]) (lc := [W1 cs (a0 12) a1 q8.1 q8.2 u1, W2 cs (fl2 x1.toNatClampNeg) (a2 x1.toNatClampNeg) (p2 x1.toNatClampNeg) (s2 x1.toNatClampNeg)]) (lr := [W11 cs h0 a0 , [va_ar cs (a0 1) fl2], FO cs fl2 a2 p2 s2 ((List.range 6).erase x1.toNatClampNeg)]) [W2 cs (fl2 x1.toNatClampNeg) (a2 x1.toNatClampNeg) (p2 x1.toNatClampNeg) (s2 x1.toNatClampNeg), FO cs fl2 a2 p2 s2 ((List.range 6).erase x1.toNatClampNeg)] (foc hj7) [1, 3, 0, 2, 4] rfl rfl) 0 1 rfl rfl rfl rfl rfl (Nat.le_of_ble_eq_true rfl) ⟨Nat.zero_le _, Nat.zero_le _⟩ dX11_watch_20 (fun H locs hP hD hS => ?_)
    refine lv_aload_n hx hb dX11_watch_23 rfl (lv_at hl 0 rfl) ?_
    refine va_get (D := D) (ci := 11) (v := .ref (a0 1)) (C := RX11) (T := TX11) (N := 13) hx hb hts hiX11 hown hK hP 0 rfl rfl 1 (by decide) (hts _ flX11_18) (fun _ h9 => h9) rfl dX11_watch_24 ?_
    refine lv_iload_n hx hb dX11_watch_27 rfl (lv_at hl 1 rfl) ?_
    have hj9 := inb_lt (ck_in hf)
    refine k_aald (f := fun j => fl2 j) (j := x1.toNatClampNeg) hx hb hK hP 12 4 rfl rfl rfl (ck_in hf) rfl dX11_watch_28 ?_
    have hf := ck_2 hf
    obtain ⟨q10, hq10, hf⟩ := bd_s hf
    refine k_fVi (ws2 := W11 cs h0 a0  ++ (W1 cs (a0 12) a1 q8.1 q8.2 u1 ++ ([va_ar cs (a0 1) fl2] ++ FO cs fl2 a2 p2 s2 (List.range 6)))) (As := []) (rest := []) hx hb hml hown hts hK hA hZ hl.1 hP hD hS (c_X2_steps (h0 := fl2 x1.toNatClampNeg) (a0 := a2 x1.toNatClampNeg) hq10) (gVt mlX11_171 imX2_steps seX2_steps inX2 coX2_steps) rfl qnX2_steps rfl rfl ⟨Nat.le_of_ble_eq_true rfl, Nat.le_of_ble_eq_true rfl⟩ (bp (l := [W11 cs h0 a0 , W1 cs (a0 12) a1 q8.1 q8.2 u1, [va_ar cs (a0 1) fl2]]) (lc := [W2 cs (fl2 x1.toNatClampNeg) (a2 x1.toNatClampNeg) (p2 x1.toNatClampNeg) (s2 x1.toNatClampNeg)]) (lr := [W11 cs h0 a0 , W1 cs (a0 12) a1 q8.1 q8.2 u1, [va_ar cs (a0 1) fl2], FO cs fl2 a2 p2 s2 ((List.range 6).erase x1.toNatClampNeg)]) [W2 cs (fl2 x1.toNatClampNeg) (a2 x1.toNatClampNeg) (p2 x1.toNatClampNeg) (s2 x1.toNatClampNeg), FO cs fl2 a2 p2 s2 ((List.range 6).erase x1.toNatClampNeg)] (foc hj9) [3, 0, 1, 2, 4] rfl rfl) (bp (l := [W11 cs h0 a0 , W1 cs (a0 12) a1 q8.1 q8.2 u1, [va_ar cs (a0 1) fl2]]) (lc := [W2 cs (fl2 x1.toNatClampNeg) (a2 x1.toNatClampNeg) (p2 x1.toNatClampNeg) (s2 x1.toNatClampNeg)]) (lr := [W11 cs h0 a0 , W1 cs (a0 12) a1 q8.1 q8.2 u1, [va_ar cs (a0 1) fl2], FO cs fl2 a2 p2 s2 ((List.range 6).erase x1.toNatClampNeg)]) [W2 cs (fl2 x1.toNatClampNeg) (a2 x1.toNatClampNeg) (p2 x1.toNatClampNeg) (s2 x1.toNatClampNeg), FO cs fl2 a2 p2 s2 ((List.range 6).erase x1.toNatClampNeg)] (foc hj9) [3, 0, 1, 2, 4] rfl rfl) 0 2 rfl rfl rfl rfl rfl (Nat.le_of_ble_eq_true rfl) ⟨Nat.zero_le _, Nat.zero_le _⟩ dX11_watch_29 (fun H locs hP hD hS => ?_)
    obtain rfl := Option.some.inj hf
    exact k_iret hx hb hr hlocks hK hP hD hS dX11_watch_32
  · have hf := ite_f hf hc
    refine lv_bipush (v := (-2)) hx hb dX11_watch_7 (by decide) ?_
    obtain rfl := Option.some.inj hf
    exact k_iret hx hb hr hlocks hK hP hD hS dX11_watch_9
