def fs11 (a : Nat → Nat) : List Value := [.ref (a 0), .ref (a 1), .ref (a 2), .ref (a 3), .ref (a 4), .ref (a 5), .ref (a 6), .ref (a 7), .ref (a 8), .ref (a 9), .ref (a 10), .ref (a 11), .ref (a 12)]
def W11 (cs : Nat → ClassId) (h : Nat) (a : Nat → Nat)  : va_W := [(h, .inr (11, fs11 a))]
/-! MarbleFloor.feed(IIIII)I -/
abbrev wlX11_feed : List Cond := Cond.code yX11_feed cX11_feed 6 (some .int) :: tbG
abbrev rmX11_feed : Room := { frames := 2, cells := 0, slots := 0, locals := 47 }
theorem qnX11_feed : yX11_feed.cls = RX11 ∧ yX11_feed.cls ≠ "java/lang/invoke/MethodHandle" ∧ yX11_feed.cls ≠ "java/lang/invoke/VarHandle" ∧ (parseMethodDescriptor yX11_feed.desc).map (fun d => d.parameters.length) = some 5 := by decide +kernel
def f_X11_feed  (i1 : Nat → Int32) (r1 : Nat → Nat → Int32) (l1 : Nat → Nat → Int64) (x1 : Int32) (x2 : Int32) (x3 : Int32) (x4 : Int32) (x5 : Int32) : Option (Int32 × (Nat → Int32) × (Nat → Nat → Int32)) := bd (f_X9_take i1 r1 l1 x1 x2 x3 x4 x5) (fun q2 => some (q2.1, q2.2.1, q2.2.2))
set_option maxRecDepth 100000 in
set_option maxHeartbeats 4000000 in
theorem c_X11_feed {l : Launch} {D : va_G} {cs zs : Nat → Nat} {h0 : Nat} {a0 : Nat → Nat} {a1 : Nat → Nat} {i1 : Nat → Int32} {r1 : Nat → Nat → Int32} {l1 : Nat → Nat → Int64} {x1 : Int32} {x2 : Int32} {x3 : Int32} {x4 : Int32} {x5 : Int32} {q : Int32 × (Nat → Int32) × (Nat → Nat → Int32)} (hf : f_X11_feed i1 r1 l1 x1 x2 x3 x4 x5 = some q) : Mi l yX11_feed wlX11_feed rmX11_feed D cs zs [.ref h0, .int x1, .int x2, .int x3, .int x4, .int x5] (W11 cs h0 a0  ++ W9 cs (a0 0) a1 i1 r1 l1) q.1 (W11 cs h0 a0  ++ W9 cs (a0 0) a1 q.2.1 q.2.2 l1) := by
  refine Mi.of RX11 (by decide) rfl (Nat.le_of_ble_eq_true rfl) (fun p e s m below meth c A C hP hD hS ls hl => ?_)
  generalize ([.ref h0, .int x1, .int x2, .int x3, .int x4, .int x5] : List Value).toArray = args at C ⊢
  obtain ⟨hx, hb, hr, hml, hown, hts, hK, hA, hlocks, hZ⟩ := id C
  have hl : lv_has ls 6 [(0, .ref h0), (1, .int x1), (2, .int x2), (3, .int x3), (4, .int x4), (5, .int x5)] := hl
  rw [f_X11_feed] at hf
  refine lv_aload_n hx hb dX11_feed_0 rfl (lv_at hl 0 rfl) ?_
  refine va_get (D := D) (ci := 11) (v := .ref (a0 0)) (C := RX11) (T := TX11) (N := 13) hx hb hts hiX11 hown hK hP 0 rfl rfl 0 (by decide) (hts _ flX11_10) (fun _ h9 => h9) rfl dX11_feed_1 ?_
  refine lv_iload_n hx hb dX11_feed_4 rfl (lv_at hl 1 rfl) ?_
  refine lv_iload_n hx hb dX11_feed_5 rfl (lv_at hl 2 rfl) ?_
  refine lv_iload_n hx hb dX11_feed_6 rfl (lv_at hl 3 rfl) ?_
  refine lv_iload hx hb dX11_feed_7 (lv_at hl 4 rfl) ?_
  refine lv_iload hx hb dX11_feed_9 (lv_at hl 5 rfl) ?_
  obtain ⟨q2, hq2, hf⟩ := bd_s hf
  refine k_pVi (wr := W11 cs h0 a0 ) (ws2 := W11 cs h0 a0  ++ W9 cs (a0 0) a1 q2.2.1 q2.2.2 l1) (As := [.int x1, .int x2, .int x3, .int x4, .int x5]) (rest := []) hx hb hml hown hts hK hA hZ hl.1 hP hD hS (c_X9_take (h0 := (a0 0)) (a0 := a1) hq2) (gVt mlX11_99 imX9_take seX9_take inX9 coX9_take) rfl qnX9_take rfl rfl ⟨Nat.le_of_ble_eq_true rfl, Nat.le_of_ble_eq_true rfl⟩ [1, 2, 3, 4, 5, 6] [0] [0, 1, 2, 3, 4, 5, 6] rfl rfl rfl (by decide) 0 9 rfl rfl rfl rfl rfl (Nat.le_of_ble_eq_true rfl) ⟨Nat.zero_le _, Nat.zero_le _⟩ dX11_feed_11 (fun H locs hP hD hS => ?_)
  obtain rfl := Option.some.inj hf
  exact k_iret hx hb hr hlocks hK hP hD hS dX11_feed_14
/-! MarbleFloor.end(I)I -/
abbrev wlX11_end : List Cond := Cond.code yX11_end cX11_end 2 (some .int) :: tbG
abbrev rmX11_end : Room := { frames := 1, cells := 0, slots := 0, locals := 21 }
theorem qnX11_end : yX11_end.cls = RX11 ∧ yX11_end.cls ≠ "java/lang/invoke/MethodHandle" ∧ yX11_end.cls ≠ "java/lang/invoke/VarHandle" ∧ (parseMethodDescriptor yX11_end.desc).map (fun d => d.parameters.length) = some 1 := by decide +kernel
def f_X11_end  (i1 : Nat → Int32) (r1 : Nat → Nat → Int32) (l1 : Nat → Nat → Int64) (x1 : Int32) : Option (Int32 × (Nat → Int32)) := bd (f_X9_cutTo i1 r1 l1 x1) (fun q2 => some (q2.1, q2.2))
set_option maxRecDepth 100000 in
set_option maxHeartbeats 4000000 in
theorem c_X11_end {l : Launch} {D : va_G} {cs zs : Nat → Nat} {h0 : Nat} {a0 : Nat → Nat} {a1 : Nat → Nat} {i1 : Nat → Int32} {r1 : Nat → Nat → Int32} {l1 : Nat → Nat → Int64} {x1 : Int32} {q : Int32 × (Nat → Int32)} (hf : f_X11_end i1 r1 l1 x1 = some q) : Mi l yX11_end wlX11_end rmX11_end D cs zs [.ref h0, .int x1] (W11 cs h0 a0  ++ W9 cs (a0 0) a1 i1 r1 l1) q.1 (W11 cs h0 a0  ++ W9 cs (a0 0) a1 q.2 r1 l1) := by
  refine Mi.of RX11 (by decide) rfl (Nat.le_of_ble_eq_true rfl) (fun p e s m below meth c A C hP hD hS ls hl => ?_)
  generalize ([.ref h0, .int x1] : List Value).toArray = args at C ⊢
  obtain ⟨hx, hb, hr, hml, hown, hts, hK, hA, hlocks, hZ⟩ := id C
  have hl : lv_has ls 2 [(0, .ref h0), (1, .int x1)] := hl
  rw [f_X11_end] at hf
  refine lv_aload_n hx hb dX11_end_0 rfl (lv_at hl 0 rfl) ?_
  refine va_get (D := D) (ci := 11) (v := .ref (a0 0)) (C := RX11) (T := TX11) (N := 13) hx hb hts hiX11 hown hK hP 0 rfl rfl 0 (by decide) (hts _ flX11_10) (fun _ h9 => h9) rfl dX11_end_1 ?_
  refine lv_iload_n hx hb dX11_end_4 rfl (lv_at hl 1 rfl) ?_
  obtain ⟨q2, hq2, hf⟩ := bd_s hf
  refine k_pVi (wr := W11 cs h0 a0 ) (ws2 := W11 cs h0 a0  ++ W9 cs (a0 0) a1 q2.2 r1 l1) (As := [.int x1]) (rest := []) hx hb hml hown hts hK hA hZ hl.1 hP hD hS (c_X9_cutTo (h0 := (a0 0)) (a0 := a1) hq2) (gVt mlX11_103 imX9_cutTo seX9_cutTo inX9 coX9_cutTo) rfl qnX9_cutTo rfl rfl ⟨Nat.le_of_ble_eq_true rfl, Nat.le_of_ble_eq_true rfl⟩ [1, 2, 3, 4, 5, 6] [0] [0, 1, 2, 3, 4, 5, 6] rfl rfl rfl (by decide) 0 9 rfl rfl rfl rfl rfl (Nat.le_of_ble_eq_true rfl) ⟨Nat.zero_le _, Nat.zero_le _⟩ dX11_end_5 (fun H locs hP hD hS => ?_)
  obtain rfl := Option.some.inj hf
  exact k_iret hx hb hr hlocks hK hP hD hS dX11_end_8
/-! MarbleFloor.fault(I)I -/
abbrev wlX11_fault : List Cond := Cond.code yX11_fault cX11_fault 2 (some .int) :: tbG
abbrev rmX11_fault : Room := { frames := 1, cells := 0, slots := 0, locals := 20 }
theorem qnX11_fault : yX11_fault.cls = RX11 ∧ yX11_fault.cls ≠ "java/lang/invoke/MethodHandle" ∧ yX11_fault.cls ≠ "java/lang/invoke/VarHandle" ∧ (parseMethodDescriptor yX11_fault.desc).map (fun d => d.parameters.length) = some 1 := by decide +kernel
def f_X11_fault  (i1 : Nat → Int32) (r1 : Nat → Nat → Int32) (l1 : Nat → Nat → Int64) (x1 : Int32) : Option (Int32) := if x1 = 0 then (bd (f_X9_faultKind i1 r1 l1) (fun q4 => some (q4))) else (if x1 = 1 then (bd (f_X9_faultPlace i1 r1 l1) (fun q3 => some (q3))) else (some ((-1))))
set_option maxRecDepth 100000 in
set_option maxHeartbeats 4000000 in
theorem c_X11_fault {l : Launch} {D : va_G} {cs zs : Nat → Nat} {h0 : Nat} {a0 : Nat → Nat} {a1 : Nat → Nat} {i1 : Nat → Int32} {r1 : Nat → Nat → Int32} {l1 : Nat → Nat → Int64} {x1 : Int32} {q : Int32} (hf : f_X11_fault i1 r1 l1 x1 = some q) : Mi l yX11_fault wlX11_fault rmX11_fault D cs zs [.ref h0, .int x1] (W11 cs h0 a0  ++ W9 cs (a0 0) a1 i1 r1 l1) q (W11 cs h0 a0  ++ W9 cs (a0 0) a1 i1 r1 l1) := by
  refine Mi.of RX11 (by decide) rfl (Nat.le_of_ble_eq_true rfl) (fun p e s m below meth c A C hP hD hS ls hl => ?_)
  generalize ([.ref h0, .int x1] : List Value).toArray = args at C ⊢
  obtain ⟨hx, hb, hr, hml, hown, hts, hK, hA, hlocks, hZ⟩ := id C
  have hl : lv_has ls 2 [(0, .ref h0), (1, .int x1)] := hl
  rw [f_X11_fault] at hf
  refine lv_iload_n hx hb dX11_fault_0 rfl (lv_at hl 1 rfl) ?_
  refine lv_if_ne (tgt := 12) hx hb dX11_fault_1 (by decide) (fun hc => ?_) (fun hc => ?_)
  · have hf := ite_f hf hc
    refine lv_iload_n hx hb dX11_fault_12 rfl (lv_at hl 1 rfl) ?_
    refine lv_iconst (v := 1) hx hb dX11_fault_13 (by decide) ?_
    refine lv_icmp_ne (tgt := 25) hx hb dX11_fault_14 (by decide) (fun hc => ?_) (fun hc => ?_)
    · have hf := ite_f hf hc
      refine lv_iconst (v := (-1)) hx hb dX11_fault_25 (by decide) ?_
      obtain rfl := Option.some.inj hf
      exact k_iret hx hb hr hlocks hK hP hD hS dX11_fault_26
    · have hf := ite_t hf hc
      refine lv_aload_n hx hb dX11_fault_17 rfl (lv_at hl 0 rfl) ?_
      refine va_get (D := D) (ci := 11) (v := .ref (a0 0)) (C := RX11) (T := TX11) (N := 13) hx hb hts hiX11 hown hK hP 0 rfl rfl 0 (by decide) (hts _ flX11_10) (fun _ h9 => h9) rfl dX11_fault_18 ?_
      obtain ⟨q3, hq3, hf⟩ := bd_s hf
      refine k_pVi (wr := W11 cs h0 a0 ) (ws2 := W11 cs h0 a0  ++ W9 cs (a0 0) a1 i1 r1 l1) (As := []) (rest := []) hx hb hml hown hts hK hA hZ hl.1 hP hD hS (c_X9_faultPlace (h0 := (a0 0)) (a0 := a1) hq3) (gVt mlX11_125 imX9_faultPlace seX9_faultPlace inX9 coX9_faultPlace) rfl qnX9_faultPlace rfl rfl ⟨Nat.le_of_ble_eq_true rfl, Nat.le_of_ble_eq_true rfl⟩ [1, 2, 3, 4, 5, 6] [0] [0, 1, 2, 3, 4, 5, 6] rfl rfl rfl (by decide) 0 9 rfl rfl rfl rfl rfl (Nat.le_of_ble_eq_true rfl) ⟨Nat.zero_le _, Nat.zero_le _⟩ dX11_fault_21 (fun H locs hP hD hS => ?_)
      obtain rfl := Option.some.inj hf
      exact k_iret hx hb hr hlocks hK hP hD hS dX11_fault_24
  · have hf := ite_t hf hc
    refine lv_aload_n hx hb dX11_fault_4 rfl (lv_at hl 0 rfl) ?_
    refine va_get (D := D) (ci := 11) (v := .ref (a0 0)) (C := RX11) (T := TX11) (N := 13) hx hb hts hiX11 hown hK hP 0 rfl rfl 0 (by decide) (hts _ flX11_10) (fun _ h9 => h9) rfl dX11_fault_5 ?_
    obtain ⟨q4, hq4, hf⟩ := bd_s hf
    refine k_pVi (wr := W11 cs h0 a0 ) (ws2 := W11 cs h0 a0  ++ W9 cs (a0 0) a1 i1 r1 l1) (As := []) (rest := []) hx hb hml hown hts hK hA hZ hl.1 hP hD hS (c_X9_faultKind (h0 := (a0 0)) (a0 := a1) hq4) (gVt mlX11_121 imX9_faultKind seX9_faultKind inX9 coX9_faultKind) rfl qnX9_faultKind rfl rfl ⟨Nat.le_of_ble_eq_true rfl, Nat.le_of_ble_eq_true rfl⟩ [1, 2, 3, 4, 5, 6] [0] [0, 1, 2, 3, 4, 5, 6] rfl rfl rfl (by decide) 0 9 rfl rfl rfl rfl rfl (Nat.le_of_ble_eq_true rfl) ⟨Nat.zero_le _, Nat.zero_le _⟩ dX11_fault_8 (fun H locs hP hD hS => ?_)
    obtain rfl := Option.some.inj hf
    exact k_iret hx hb hr hlocks hK hP hD hS dX11_fault_11
/-! MarbleFloor.let(II)I -/
abbrev wlX11_let : List Cond := Cond.code yX11_let cX11_let 3 (some .int) :: tbG
abbrev rmX11_let : Room := { frames := 1, cells := 0, slots := 0, locals := 23 }
theorem qnX11_let : yX11_let.cls = RX11 ∧ yX11_let.cls ≠ "java/lang/invoke/MethodHandle" ∧ yX11_let.cls ≠ "java/lang/invoke/VarHandle" ∧ (parseMethodDescriptor yX11_let.desc).map (fun d => d.parameters.length) = some 2 := by decide +kernel
def f_X11_let  (i1 : Nat → Int32) (r1 : Nat → Nat → Int32) (x1 : Int32) (x2 : Int32) : Option (Int32 × (Nat → Nat → Int32)) := bd (f_X4_hasNoValue x1) (fun q3 => if q3 = 0 then (bd (f_X4_put i1 r1 x1 x2) (fun q4 => some (q4.1, q4.2))) else (some ((-2000000000), r1)))
set_option maxRecDepth 100000 in
set_option maxHeartbeats 4000000 in
theorem c_X11_let {l : Launch} {D : va_G} {cs zs : Nat → Nat} {h0 : Nat} {a0 : Nat → Nat} {a1 : Nat → Nat} {i1 : Nat → Int32} {r1 : Nat → Nat → Int32} {x1 : Int32} {x2 : Int32} {q : Int32 × (Nat → Nat → Int32)} (hf : f_X11_let i1 r1 x1 x2 = some q) : Mi l yX11_let wlX11_let rmX11_let D cs zs [.ref h0, .int x1, .int x2] (W11 cs h0 a0  ++ W4 cs (a0 9) a1 i1 r1) q.1 (W11 cs h0 a0  ++ W4 cs (a0 9) a1 i1 q.2) := by
  refine Mi.of RX11 (by decide) rfl (Nat.le_of_ble_eq_true rfl) (fun p e s m below meth c A C hP hD hS ls hl => ?_)
  generalize ([.ref h0, .int x1, .int x2] : List Value).toArray = args at C ⊢
  obtain ⟨hx, hb, hr, hml, hown, hts, hK, hA, hlocks, hZ⟩ := id C
  have hl : lv_has ls 3 [(0, .ref h0), (1, .int x1), (2, .int x2)] := hl
  rw [f_X11_let] at hf
  refine lv_iload_n hx hb dX11_let_0 rfl (lv_at hl 1 rfl) ?_
  obtain ⟨q3, hq3, hf⟩ := bd_s hf
  refine k_eSi (As := [.int x1]) (rest := []) hx hb hml hown hts hK hA hZ hl.1 hP hD hS (c_X4_hasNoValue  hq3) (gSt mlX11_188 stX4_hasNoValue inX4 coX4_hasNoValue) rfl qnX4_hasNoValue rfl rfl ⟨Nat.le_of_ble_eq_true rfl, Nat.le_of_ble_eq_true rfl⟩ rfl rfl (Nat.le_of_ble_eq_true rfl) ⟨Nat.zero_le _, Nat.zero_le _⟩ dX11_let_1 (fun H locs hP hD hS => ?_)
  refine lv_if_eq (tgt := 10) hx hb dX11_let_4 (by decide) (fun hc => ?_) (fun hc => ?_)
  · have hf := ite_t hf hc
    refine lv_aload_n hx hb dX11_let_10 rfl (lv_at hl 0 rfl) ?_
    refine va_get (D := D) (ci := 11) (v := .ref (a0 9)) (C := RX11) (T := TX11) (N := 13) hx hb hts hiX11 hown hK hP 0 rfl rfl 9 (by decide) (hts _ flX11_74) (fun _ h9 => h9) rfl dX11_let_11 ?_
    refine lv_iload_n hx hb dX11_let_14 rfl (lv_at hl 1 rfl) ?_
    refine lv_iload_n hx hb dX11_let_15 rfl (lv_at hl 2 rfl) ?_
    obtain ⟨q4, hq4, hf⟩ := bd_s hf
    refine k_pVi (wr := W11 cs h0 a0 ) (ws2 := W11 cs h0 a0  ++ W4 cs (a0 9) a1 i1 q4.2) (As := [.int x1, .int x2]) (rest := []) hx hb hml hown hts hK hA hZ hl.1 hP hD hS (c_X4_put (h0 := (a0 9)) (a0 := a1) hq4) (gVt mlX11_192 imX4_put seX4_put inX4 coX4_put) rfl qnX4_put rfl rfl ⟨Nat.le_of_ble_eq_true rfl, Nat.le_of_ble_eq_true rfl⟩ [1, 2, 3, 4, 5, 6] [0] [0, 1, 2, 3, 4, 5, 6] rfl rfl rfl (by decide) 0 4 rfl rfl rfl rfl rfl (Nat.le_of_ble_eq_true rfl) ⟨Nat.zero_le _, Nat.zero_le _⟩ dX11_let_16 (fun H locs hP hD hS => ?_)
    obtain rfl := Option.some.inj hf
    exact k_iret hx hb hr hlocks hK hP hD hS dX11_let_19
  · have hf := ite_f hf hc
    refine lv_ldc (v := (-2000000000)) hx hb hown (hts _ kcX11_191) dX11_let_7 ?_
    obtain rfl := Option.some.inj hf
    exact k_iret hx hb hr hlocks hK hP hD hS dX11_let_9
/-! MarbleFloor.value(I)I -/
abbrev wlX11_value : List Cond := Cond.code yX11_value cX11_value 2 (some .int) :: tbG
abbrev rmX11_value : Room := { frames := 1, cells := 0, slots := 0, locals := 21 }
theorem qnX11_value : yX11_value.cls = RX11 ∧ yX11_value.cls ≠ "java/lang/invoke/MethodHandle" ∧ yX11_value.cls ≠ "java/lang/invoke/VarHandle" ∧ (parseMethodDescriptor yX11_value.desc).map (fun d => d.parameters.length) = some 1 := by decide +kernel
def f_X11_value  (i1 : Nat → Int32) (r1 : Nat → Nat → Int32) (x1 : Int32) : Option (Int32) := bd (f_X4_hasNoValue x1) (fun q3 => if q3 = 0 then (bd (f_X4_valueOf i1 r1 x1) (fun q4 => some (q4))) else (some ((-2000000000))))
set_option maxRecDepth 100000 in
set_option maxHeartbeats 4000000 in
theorem c_X11_value {l : Launch} {D : va_G} {cs zs : Nat → Nat} {h0 : Nat} {a0 : Nat → Nat} {a1 : Nat → Nat} {i1 : Nat → Int32} {r1 : Nat → Nat → Int32} {x1 : Int32} {q : Int32} (hf : f_X11_value i1 r1 x1 = some q) : Mi l yX11_value wlX11_value rmX11_value D cs zs [.ref h0, .int x1] (W11 cs h0 a0  ++ W4 cs (a0 9) a1 i1 r1) q (W11 cs h0 a0  ++ W4 cs (a0 9) a1 i1 r1) := by
  refine Mi.of RX11 (by decide) rfl (Nat.le_of_ble_eq_true rfl) (fun p e s m below meth c A C hP hD hS ls hl => ?_)
  generalize ([.ref h0, .int x1] : List Value).toArray = args at C ⊢
  obtain ⟨hx, hb, hr, hml, hown, hts, hK, hA, hlocks, hZ⟩ := id C
  have hl : lv_has ls 2 [(0, .ref h0), (1, .int x1)] := hl
  rw [f_X11_value] at hf
  refine lv_iload_n hx hb dX11_value_0 rfl (lv_at hl 1 rfl) ?_
  obtain ⟨q3, hq3, hf⟩ := bd_s hf
  refine k_eSi (As := [.int x1]) (rest := []) hx hb hml hown hts hK hA hZ hl.1 hP hD hS (c_X4_hasNoValue  hq3) (gSt mlX11_188 stX4_hasNoValue inX4 coX4_hasNoValue) rfl qnX4_hasNoValue rfl rfl ⟨Nat.le_of_ble_eq_true rfl, Nat.le_of_ble_eq_true rfl⟩ rfl rfl (Nat.le_of_ble_eq_true rfl) ⟨Nat.zero_le _, Nat.zero_le _⟩ dX11_value_1 (fun H locs hP hD hS => ?_)
  refine lv_if_eq (tgt := 12) hx hb dX11_value_4 (by decide) (fun hc => ?_) (fun hc => ?_)
  · have hf := ite_t hf hc
    refine lv_aload_n hx hb dX11_value_12 rfl (lv_at hl 0 rfl) ?_
    refine va_get (D := D) (ci := 11) (v := .ref (a0 9)) (C := RX11) (T := TX11) (N := 13) hx hb hts hiX11 hown hK hP 0 rfl rfl 9 (by decide) (hts _ flX11_74) (fun _ h9 => h9) rfl dX11_value_13 ?_
    refine lv_iload_n hx hb dX11_value_16 rfl (lv_at hl 1 rfl) ?_
    obtain ⟨q4, hq4, hf⟩ := bd_s hf
    refine k_pVi (wr := W11 cs h0 a0 ) (ws2 := W11 cs h0 a0  ++ W4 cs (a0 9) a1 i1 r1) (As := [.int x1]) (rest := []) hx hb hml hown hts hK hA hZ hl.1 hP hD hS (c_X4_valueOf (h0 := (a0 9)) (a0 := a1) hq4) (gVt mlX11_195 imX4_valueOf seX4_valueOf inX4 coX4_valueOf) rfl qnX4_valueOf rfl rfl ⟨Nat.le_of_ble_eq_true rfl, Nat.le_of_ble_eq_true rfl⟩ [1, 2, 3, 4, 5, 6] [0] [0, 1, 2, 3, 4, 5, 6] rfl rfl rfl (by decide) 0 4 rfl rfl rfl rfl rfl (Nat.le_of_ble_eq_true rfl) ⟨Nat.zero_le _, Nat.zero_le _⟩ dX11_value_17 (fun H locs hP hD hS => ?_)
    obtain rfl := Option.some.inj hf
    exact k_iret hx hb hr hlocks hK hP hD hS dX11_value_20
  · have hf := ite_f hf hc
    refine lv_ldc (v := (-2000000000)) hx hb hown (hts _ kcX11_191) dX11_value_7 ?_
    refine lv_goto (tgt := 20) hx hb dX11_value_9 (by decide) ?_
    obtain rfl := Option.some.inj hf
    exact k_iret hx hb hr hlocks hK hP hD hS dX11_value_20
/-! MarbleFloor.trouble(I)I -/
abbrev wlX11_trouble : List Cond := Cond.code yX11_trouble cX11_trouble 2 (some .int) :: tbG
abbrev rmX11_trouble : Room := { frames := 1, cells := 0, slots := 0, locals := 20 }
theorem qnX11_trouble : yX11_trouble.cls = RX11 ∧ yX11_trouble.cls ≠ "java/lang/invoke/MethodHandle" ∧ yX11_trouble.cls ≠ "java/lang/invoke/VarHandle" ∧ (parseMethodDescriptor yX11_trouble.desc).map (fun d => d.parameters.length) = some 1 := by decide +kernel
def f_X11_trouble  (i1 : Nat → Int32) (r1 : Nat → Nat → Int32) (x1 : Int32) : Option (Int32) := if x1 = 0 then (bd (f_X4_latestTrouble i1 r1) (fun q4 => some (q4))) else (if x1 = 1 then (bd (f_X4_latestCounted i1 r1) (fun q3 => some (q3))) else (some ((-1))))
set_option maxRecDepth 100000 in
set_option maxHeartbeats 4000000 in
theorem c_X11_trouble {l : Launch} {D : va_G} {cs zs : Nat → Nat} {h0 : Nat} {a0 : Nat → Nat} {a1 : Nat → Nat} {i1 : Nat → Int32} {r1 : Nat → Nat → Int32} {x1 : Int32} {q : Int32} (hf : f_X11_trouble i1 r1 x1 = some q) : Mi l yX11_trouble wlX11_trouble rmX11_trouble D cs zs [.ref h0, .int x1] (W11 cs h0 a0  ++ W4 cs (a0 9) a1 i1 r1) q (W11 cs h0 a0  ++ W4 cs (a0 9) a1 i1 r1) := by
  refine Mi.of RX11 (by decide) rfl (Nat.le_of_ble_eq_true rfl) (fun p e s m below meth c A C hP hD hS ls hl => ?_)
  generalize ([.ref h0, .int x1] : List Value).toArray = args at C ⊢
  obtain ⟨hx, hb, hr, hml, hown, hts, hK, hA, hlocks, hZ⟩ := id C
  have hl : lv_has ls 2 [(0, .ref h0), (1, .int x1)] := hl
  rw [f_X11_trouble] at hf
  refine lv_iload_n hx hb dX11_trouble_0 rfl (lv_at hl 1 rfl) ?_
  refine lv_if_ne (tgt := 12) hx hb dX11_trouble_1 (by decide) (fun hc => ?_) (fun hc => ?_)
  · have hf := ite_f hf hc
    refine lv_iload_n hx hb dX11_trouble_12 rfl (lv_at hl 1 rfl) ?_
    refine lv_iconst (v := 1) hx hb dX11_trouble_13 (by decide) ?_
    refine lv_icmp_ne (tgt := 25) hx hb dX11_trouble_14 (by decide) (fun hc => ?_) (fun hc => ?_)
    · have hf := ite_f hf hc
      refine lv_iconst (v := (-1)) hx hb dX11_trouble_25 (by decide) ?_
      obtain rfl := Option.some.inj hf
      exact k_iret hx hb hr hlocks hK hP hD hS dX11_trouble_26
    · have hf := ite_t hf hc
      refine lv_aload_n hx hb dX11_trouble_17 rfl (lv_at hl 0 rfl) ?_
      refine va_get (D := D) (ci := 11) (v := .ref (a0 9)) (C := RX11) (T := TX11) (N := 13) hx hb hts hiX11 hown hK hP 0 rfl rfl 9 (by decide) (hts _ flX11_74) (fun _ h9 => h9) rfl dX11_trouble_18 ?_
      obtain ⟨q3, hq3, hf⟩ := bd_s hf
      refine k_pVi (wr := W11 cs h0 a0 ) (ws2 := W11 cs h0 a0  ++ W4 cs (a0 9) a1 i1 r1) (As := []) (rest := []) hx hb hml hown hts hK hA hZ hl.1 hP hD hS (c_X4_latestCounted (h0 := (a0 9)) (a0 := a1) hq3) (gVt mlX11_205 imX4_latestCounted seX4_latestCounted inX4 coX4_latestCounted) rfl qnX4_latestCounted rfl rfl ⟨Nat.le_of_ble_eq_true rfl, Nat.le_of_ble_eq_true rfl⟩ [1, 2, 3, 4, 5, 6] [0] [0, 1, 2, 3, 4, 5, 6] rfl rfl rfl (by decide) 0 4 rfl rfl rfl rfl rfl (Nat.le_of_ble_eq_true rfl) ⟨Nat.zero_le _, Nat.zero_le _⟩ dX11_trouble_21 (fun H locs hP hD hS => ?_)
      obtain rfl := Option.some.inj hf
      exact k_iret hx hb hr hlocks hK hP hD hS dX11_trouble_24
  · have hf := ite_t hf hc
    refine lv_aload_n hx hb dX11_trouble_4 rfl (lv_at hl 0 rfl) ?_
    refine va_get (D := D) (ci := 11) (v := .ref (a0 9)) (C := RX11) (T := TX11) (N := 13) hx hb hts hiX11 hown hK hP 0 rfl rfl 9 (by decide) (hts _ flX11_74) (fun _ h9 => h9) rfl dX11_trouble_5 ?_
    obtain ⟨q4, hq4, hf⟩ := bd_s hf
    refine k_pVi (wr := W11 cs h0 a0 ) (ws2 := W11 cs h0 a0  ++ W4 cs (a0 9) a1 i1 r1) (As := []) (rest := []) hx hb hml hown hts hK hA hZ hl.1 hP hD hS (c_X4_latestTrouble (h0 := (a0 9)) (a0 := a1) hq4) (gVt mlX11_202 imX4_latestTrouble seX4_latestTrouble inX4 coX4_latestTrouble) rfl qnX4_latestTrouble rfl rfl ⟨Nat.le_of_ble_eq_true rfl, Nat.le_of_ble_eq_true rfl⟩ [1, 2, 3, 4, 5, 6] [0] [0, 1, 2, 3, 4, 5, 6] rfl rfl rfl (by decide) 0 4 rfl rfl rfl rfl rfl (Nat.le_of_ble_eq_true rfl) ⟨Nat.zero_le _, Nat.zero_le _⟩ dX11_trouble_8 (fun H locs hP hD hS => ?_)
    obtain rfl := Option.some.inj hf
    exact k_iret hx hb hr hlocks hK hP hD hS dX11_trouble_11
/-! MarbleFloor.run(IZ)I -/
abbrev wlX11_run : List Cond := Cond.code yX11_run cX11_run 3 (some .int) :: tbG
abbrev rmX11_run : Room := { frames := 6, cells := 0, slots := 0, locals := 137 }
theorem qnX11_run : yX11_run.cls = RX11 ∧ yX11_run.cls ≠ "java/lang/invoke/MethodHandle" ∧ yX11_run.cls ≠ "java/lang/invoke/VarHandle" ∧ (parseMethodDescriptor yX11_run.desc).map (fun d => d.parameters.length) = some 2 := by decide +kernel
def f_X11_run  (i1 : Nat → Int32) (r1 : Nat → Nat → Int32) (i2 : Nat → Int32) (r2 : Nat → Nat → Int32) (l2 : Nat → Nat → Int64) (x1 : Int32) (x2 : Int32) : Option (Int32 × (Nat → Int32) × (Nat → Nat → Int32) × Nat) := if x1 < 0 then (some ((-2), i1, r1, 0)) else (bd (f_X5_procs i2 r2 l2) (fun q3 => if x1 < q3 then (bd (f_X4_perform i1 r1 i2 r2 l2 x1 x2) (fun q4 => some (q4.1, q4.2.1, q4.2.2, 1))) else (some ((-2), i1, r1, 0))))
set_option maxRecDepth 100000 in
set_option maxHeartbeats 4000000 in
theorem c_X11_run {l : Launch} {D : va_G} {cs zs : Nat → Nat} {h0 : Nat} {a0 : Nat → Nat} {a1 : Nat → Nat} {a2 : Nat → Nat} {i1 : Nat → Int32} {r1 : Nat → Nat → Int32} {i2 : Nat → Int32} {r2 : Nat → Nat → Int32} {l2 : Nat → Nat → Int64} {x1 : Int32} {x2 : Int32} {q : Int32 × (Nat → Int32) × (Nat → Nat → Int32) × Nat} (hf : f_X11_run i1 r1 i2 r2 l2 x1 x2 = some q) : Mi l yX11_run wlX11_run rmX11_run D cs zs [.ref h0, .int x1, .int x2] (W11 cs h0 a0  ++ (W4 cs (a0 9) a1 i1 r1 ++ W5 cs (a0 6) a2 i2 r2 l2)) q.1 (W11 cs h0 a0  ++ (W4 cs (a0 9) (if q.2.2.2 = 0 then a1 else (va_up a1 5 (a0 6))) q.2.1 q.2.2.1 ++ W5 cs (a0 6) a2 i2 r2 l2)) := by
  refine Mi.of RX11 (by decide) rfl (Nat.le_of_ble_eq_true rfl) (fun p e s m below meth c A C hP hD hS ls hl => ?_)
  generalize ([.ref h0, .int x1, .int x2] : List Value).toArray = args at C ⊢
  obtain ⟨hx, hb, hr, hml, hown, hts, hK, hA, hlocks, hZ⟩ := id C
  have hl : lv_has ls 3 [(0, .ref h0), (1, .int x1), (2, .int x2)] := hl
  rw [f_X11_run] at hf
  refine lv_iload_n hx hb dX11_run_0 rfl (lv_at hl 1 rfl) ?_
  refine lv_if_lt (tgt := 15) hx hb dX11_run_1 (by decide) (fun hc => ?_) (fun hc => ?_)
  · have hf := ite_t hf hc
    refine lv_bipush (v := (-2)) hx hb dX11_run_15 (by decide) ?_
    obtain rfl := Option.some.inj hf
    exact k_iret hx hb hr hlocks hK hP hD hS dX11_run_17
  · have hf := ite_f hf hc
    refine lv_iload_n hx hb dX11_run_4 rfl (lv_at hl 1 rfl) ?_
    refine lv_aload_n hx hb dX11_run_5 rfl (lv_at hl 0 rfl) ?_
    refine va_get (D := D) (ci := 11) (v := .ref (a0 6)) (C := RX11) (T := TX11) (N := 13) hx hb hts hiX11 hown hK hP 0 rfl rfl 6 (by decide) (hts _ flX11_53) (fun _ h9 => h9) rfl dX11_run_6 ?_
    obtain ⟨q3, hq3, hf⟩ := bd_s hf
    refine k_pVi (wr := W11 cs h0 a0  ++ W4 cs (a0 9) a1 i1 r1) (ws2 := W11 cs h0 a0  ++ (W4 cs (a0 9) a1 i1 r1 ++ W5 cs (a0 6) a2 i2 r2 l2)) (As := []) (rest := [.int x1]) hx hb hml hown hts hK hA hZ hl.1 hP hD hS (c_X5_procs (h0 := (a0 6)) (a0 := a2) hq3) (gVt mlX11_185 imX5_procs seX5_procs inX5 coX5_procs) rfl qnX5_procs rfl rfl ⟨Nat.le_of_ble_eq_true rfl, Nat.le_of_ble_eq_true rfl⟩ [7, 8, 9, 10, 11, 12, 13, 14, 15, 16, 17, 18, 19, 20] [0, 1, 2, 3, 4, 5, 6] [0, 1, 2, 3, 4, 5, 6, 7, 8, 9, 10, 11, 12, 13, 14, 15, 16, 17, 18, 19, 20] rfl rfl rfl (by decide) 0 5 rfl rfl rfl rfl rfl (Nat.le_of_ble_eq_true rfl) ⟨Nat.zero_le _, Nat.zero_le _⟩ dX11_run_9 (fun H locs hP hD hS => ?_)
    refine lv_icmp_lt (tgt := 18) hx hb dX11_run_12 (by decide) (fun hc => ?_) (fun hc => ?_)
    · have hf := ite_t hf hc
      refine lv_aload_n hx hb dX11_run_18 rfl (lv_at hl 0 rfl) ?_
      refine va_get (D := D) (ci := 11) (v := .ref (a0 9)) (C := RX11) (T := TX11) (N := 13) hx hb hts hiX11 hown hK hP 0 rfl rfl 9 (by decide) (hts _ flX11_74) (fun _ h9 => h9) rfl dX11_run_19 ?_
      refine lv_aload_n hx hb dX11_run_22 rfl (lv_at hl 0 rfl) ?_
      refine va_get (D := D) (ci := 11) (v := .ref (a0 6)) (C := RX11) (T := TX11) (N := 13) hx hb hts hiX11 hown hK hP 0 rfl rfl 6 (by decide) (hts _ flX11_53) (fun _ h9 => h9) rfl dX11_run_23 ?_
      refine lv_iload_n hx hb dX11_run_26 rfl (lv_at hl 1 rfl) ?_
      refine lv_iload_n hx hb dX11_run_27 rfl (lv_at hl 2 rfl) ?_
      obtain ⟨q4, hq4, hf⟩ := bd_s hf
      refine k_pVi (wr := W11 cs h0 a0 ) (ws2 := W11 cs h0 a0  ++ (W4 cs (a0 9) (va_up a1 5 (a0 6)) q4.2.1 q4.2.2 ++ W5 cs (a0 6) a2 i2 r2 l2)) (As := [.ref (a0 6), .int x1, .int x2]) (rest := []) hx hb hml hown hts hK hA hZ hl.1 hP hD hS (c_X4_perform (h0 := (a0 9)) (a0 := a1) (h1 := (a0 6)) (a1 := a2) hq4) (gVt mlX11_198 imX4_perform seX4_perform inX4 coX4_perform) rfl qnX4_perform rfl rfl ⟨Nat.le_of_ble_eq_true rfl, Nat.le_of_ble_eq_true rfl⟩ [1, 2, 3, 4, 5, 6, 7, 8, 9, 10, 11, 12, 13, 14, 15, 16, 17, 18, 19, 20] [0] [0, 1, 2, 3, 4, 5, 6, 7, 8, 9, 10, 11, 12, 13, 14, 15, 16, 17, 18, 19, 20] rfl rfl rfl (by decide) 0 4 rfl rfl rfl rfl rfl (Nat.le_of_ble_eq_true rfl) ⟨Nat.zero_le _, Nat.zero_le _⟩ dX11_run_28 (fun H locs hP hD hS => ?_)
      obtain rfl := Option.some.inj hf
      exact k_iret hx hb hr hlocks hK hP hD hS dX11_run_31
    · have hf := ite_f hf hc
      refine lv_bipush (v := (-2)) hx hb dX11_run_15 (by decide) ?_
      obtain rfl := Option.some.inj hf
      exact k_iret hx hb hr hlocks hK hP hD hS dX11_run_17
/-! MarbleFloor.table(II)I -/
abbrev wlX11_table : List Cond := Cond.code yX11_table cX11_table 3 (some .int) :: tbG
abbrev rmX11_table : Room := { frames := 2, cells := 0, slots := 0, locals := 46 }
theorem qnX11_table : yX11_table.cls = RX11 ∧ yX11_table.cls ≠ "java/lang/invoke/MethodHandle" ∧ yX11_table.cls ≠ "java/lang/invoke/VarHandle" ∧ (parseMethodDescriptor yX11_table.desc).map (fun d => d.parameters.length) = some 2 := by decide +kernel
def f_X11_table  (i1 : Nat → Int32) (r1 : Nat → Nat → Int32) (x1 : Int32) (x2 : Int32) : Option (Int32 × (Nat → Int32) × (Nat → Nat → Int32)) := if x1 < 2 then (some ((-2), i1, r1)) else (if 10 < x1 then (some ((-2), i1, r1)) else (if x2 < 2 then (some ((-2), i1, r1)) else (if x2 ≤ 10 then (bd (f_X0_clear i1 r1 x1 x2) (fun q2 => some (1, q2.1, q2.2))) else (some ((-2), i1, r1)))))
set_option maxRecDepth 100000 in
set_option maxHeartbeats 4000000 in
theorem c_X11_table {l : Launch} {D : va_G} {cs zs : Nat → Nat} {h0 : Nat} {a0 : Nat → Nat} {a1 : Nat → Nat} {i1 : Nat → Int32} {r1 : Nat → Nat → Int32} {x1 : Int32} {x2 : Int32} {q : Int32 × (Nat → Int32) × (Nat → Nat → Int32)} (hf : f_X11_table i1 r1 x1 x2 = some q) : Mi l yX11_table wlX11_table rmX11_table D cs zs [.ref h0, .int x1, .int x2] (W11 cs h0 a0  ++ W0 cs (a0 10) a1 i1 r1) q.1 (W11 cs h0 a0  ++ W0 cs (a0 10) a1 q.2.1 q.2.2) := by
  refine Mi.of RX11 (by decide) rfl (Nat.le_of_ble_eq_true rfl) (fun p e s m below meth c A C hP hD hS ls hl => ?_)
  generalize ([.ref h0, .int x1, .int x2] : List Value).toArray = args at C ⊢
  obtain ⟨hx, hb, hr, hml, hown, hts, hK, hA, hlocks, hZ⟩ := id C
  have hl : lv_has ls 3 [(0, .ref h0), (1, .int x1), (2, .int x2)] := hl
  rw [f_X11_table] at hf
  refine lv_iload_n hx hb dX11_table_0 rfl (lv_at hl 1 rfl) ?_
  refine lv_iconst (v := 2) hx hb dX11_table_1 (by decide) ?_
  refine lv_icmp_lt (tgt := 22) hx hb dX11_table_2 (by decide) (fun hc => ?_) (fun hc => ?_)
  · have hf := ite_t hf hc
    refine lv_bipush (v := (-2)) hx hb dX11_table_22 (by decide) ?_
    obtain rfl := Option.some.inj hf
    exact k_iret hx hb hr hlocks hK hP hD hS dX11_table_24
  · have hf := ite_f hf hc
    refine lv_iload_n hx hb dX11_table_5 rfl (lv_at hl 1 rfl) ?_
    refine lv_bipush (v := 10) hx hb dX11_table_6 (by decide) ?_
    refine lv_icmp_gt (tgt := 22) hx hb dX11_table_8 (by decide) (fun hc => ?_) (fun hc => ?_)
    · have hf := ite_t hf hc
      refine lv_bipush (v := (-2)) hx hb dX11_table_22 (by decide) ?_
      obtain rfl := Option.some.inj hf
      exact k_iret hx hb hr hlocks hK hP hD hS dX11_table_24
    · have hf := ite_f hf hc
      refine lv_iload_n hx hb dX11_table_11 rfl (lv_at hl 2 rfl) ?_
      refine lv_iconst (v := 2) hx hb dX11_table_12 (by decide) ?_
      refine lv_icmp_lt (tgt := 22) hx hb dX11_table_13 (by decide) (fun hc => ?_) (fun hc => ?_)
      · have hf := ite_t hf hc
        refine lv_bipush (v := (-2)) hx hb dX11_table_22 (by decide) ?_
        obtain rfl := Option.some.inj hf
        exact k_iret hx hb hr hlocks hK hP hD hS dX11_table_24
      · have hf := ite_f hf hc
        refine lv_iload_n hx hb dX11_table_16 rfl (lv_at hl 2 rfl) ?_
        refine lv_bipush (v := 10) hx hb dX11_table_17 (by decide) ?_
        refine lv_icmp_le (tgt := 25) hx hb dX11_table_19 (by decide) (fun hc => ?_) (fun hc => ?_)
        · have hf := ite_t hf hc
          refine lv_aload_n hx hb dX11_table_25 rfl (lv_at hl 0 rfl) ?_
          refine va_get (D := D) (ci := 11) (v := .ref (a0 10)) (C := RX11) (T := TX11) (N := 13) hx hb hts hiX11 hown hK hP 0 rfl rfl 10 (by decide) (hts _ flX11_81) (fun _ h9 => h9) rfl dX11_table_26 ?_
          refine lv_iload_n hx hb dX11_table_29 rfl (lv_at hl 1 rfl) ?_
          refine lv_iload_n hx hb dX11_table_30 rfl (lv_at hl 2 rfl) ?_
          obtain ⟨q2, hq2, hf⟩ := bd_s hf
          refine k_pVv (wr := W11 cs h0 a0 ) (ws2 := W11 cs h0 a0  ++ W0 cs (a0 10) a1 q2.1 q2.2) (As := [.int x1, .int x2]) (rest := []) hx hb hml hown hts hK hA hZ hl.1 hP hD hS (c_X0_clear (h0 := (a0 10)) (a0 := a1) hq2) (gVt mlX11_208 imX0_clear seX0_clear inX0 coX0_clear) rfl qnX0_clear rfl rfl ⟨Nat.le_of_ble_eq_true rfl, Nat.le_of_ble_eq_true rfl⟩ [1, 2, 3, 4, 5, 6, 7, 8, 9, 10, 11, 12, 13, 14, 15, 16] [0] [0, 1, 2, 3, 4, 5, 6, 7, 8, 9, 10, 11, 12, 13, 14, 15, 16] rfl rfl rfl (by decide) 0 0 rfl rfl rfl rfl rfl (Nat.le_of_ble_eq_true rfl) ⟨Nat.zero_le _, Nat.zero_le _⟩ dX11_table_31 (fun H locs hP hD hS => ?_)
          refine lv_iconst (v := 1) hx hb dX11_table_34 (by decide) ?_
          obtain rfl := Option.some.inj hf
          exact k_iret hx hb hr hlocks hK hP hD hS dX11_table_35
        · have hf := ite_f hf hc
          refine lv_bipush (v := (-2)) hx hb dX11_table_22 (by decide) ?_
          obtain rfl := Option.some.inj hf
          exact k_iret hx hb hr hlocks hK hP hD hS dX11_table_24
/-! MarbleFloor.part(III)I -/
abbrev wlX11_part : List Cond := Cond.code yX11_part cX11_part 4 (some .int) :: tbG
abbrev rmX11_part : Room := { frames := 1, cells := 0, slots := 0, locals := 25 }
theorem qnX11_part : yX11_part.cls = RX11 ∧ yX11_part.cls ≠ "java/lang/invoke/MethodHandle" ∧ yX11_part.cls ≠ "java/lang/invoke/VarHandle" ∧ (parseMethodDescriptor yX11_part.desc).map (fun d => d.parameters.length) = some 3 := by decide +kernel
def f_X11_part  (i1 : Nat → Int32) (r1 : Nat → Nat → Int32) (x1 : Int32) (x2 : Int32) (x3 : Int32) : Option (Int32 × (Nat → Int32) × (Nat → Nat → Int32)) := bd (f_X0_hasNoCell i1 r1 x1 x2) (fun q3 => if q3 = 0 then (if x3 < 0 then (some ((-2), i1, r1)) else (if x3 < 4 then (bd (f_X0_putPart i1 r1 x1 x2 x3) (fun q4 => some (q4.1, q4.2.1, q4.2.2))) else (some ((-2), i1, r1)))) else (some ((-2), i1, r1)))
set_option maxRecDepth 100000 in
set_option maxHeartbeats 4000000 in
theorem c_X11_part {l : Launch} {D : va_G} {cs zs : Nat → Nat} {h0 : Nat} {a0 : Nat → Nat} {a1 : Nat → Nat} {i1 : Nat → Int32} {r1 : Nat → Nat → Int32} {x1 : Int32} {x2 : Int32} {x3 : Int32} {q : Int32 × (Nat → Int32) × (Nat → Nat → Int32)} (hf : f_X11_part i1 r1 x1 x2 x3 = some q) : Mi l yX11_part wlX11_part rmX11_part D cs zs [.ref h0, .int x1, .int x2, .int x3] (W11 cs h0 a0  ++ W0 cs (a0 10) a1 i1 r1) q.1 (W11 cs h0 a0  ++ W0 cs (a0 10) a1 q.2.1 q.2.2) := by
  refine Mi.of RX11 (by decide) rfl (Nat.le_of_ble_eq_true rfl) (fun p e s m below meth c A C hP hD hS ls hl => ?_)
  generalize ([.ref h0, .int x1, .int x2, .int x3] : List Value).toArray = args at C ⊢
  obtain ⟨hx, hb, hr, hml, hown, hts, hK, hA, hlocks, hZ⟩ := id C
  have hl : lv_has ls 4 [(0, .ref h0), (1, .int x1), (2, .int x2), (3, .int x3)] := hl
  rw [f_X11_part] at hf
  refine lv_aload_n hx hb dX11_part_0 rfl (lv_at hl 0 rfl) ?_
  refine va_get (D := D) (ci := 11) (v := .ref (a0 10)) (C := RX11) (T := TX11) (N := 13) hx hb hts hiX11 hown hK hP 0 rfl rfl 10 (by decide) (hts _ flX11_81) (fun _ h9 => h9) rfl dX11_part_1 ?_
  refine lv_iload_n hx hb dX11_part_4 rfl (lv_at hl 1 rfl) ?_
  refine lv_iload_n hx hb dX11_part_5 rfl (lv_at hl 2 rfl) ?_
  obtain ⟨q3, hq3, hf⟩ := bd_s hf
  refine k_pVi (wr := W11 cs h0 a0 ) (ws2 := W11 cs h0 a0  ++ W0 cs (a0 10) a1 i1 r1) (As := [.int x1, .int x2]) (rest := []) hx hb hml hown hts hK hA hZ hl.1 hP hD hS (c_X0_hasNoCell (h0 := (a0 10)) (a0 := a1) hq3) (gVt mlX11_212 imX0_hasNoCell seX0_hasNoCell inX0 coX0_hasNoCell) rfl qnX0_hasNoCell rfl rfl ⟨Nat.le_of_ble_eq_true rfl, Nat.le_of_ble_eq_true rfl⟩ [1, 2, 3, 4, 5, 6, 7, 8, 9, 10, 11, 12, 13, 14, 15, 16] [0] [0, 1, 2, 3, 4, 5, 6, 7, 8, 9, 10, 11, 12, 13, 14, 15, 16] rfl rfl rfl (by decide) 0 0 rfl rfl rfl rfl rfl (Nat.le_of_ble_eq_true rfl) ⟨Nat.zero_le _, Nat.zero_le _⟩ dX11_part_6 (fun H locs hP hD hS => ?_)
  refine lv_if_ne (tgt := 21) hx hb dX11_part_9 (by decide) (fun hc => ?_) (fun hc => ?_)
  · have hf := ite_f hf hc
    refine lv_bipush (v := (-2)) hx hb dX11_part_21 (by decide) ?_
    obtain rfl := Option.some.inj hf
    exact k_iret hx hb hr hlocks hK hP hD hS dX11_part_23
  · have hf := ite_t hf hc
    refine lv_iload_n hx hb dX11_part_12 rfl (lv_at hl 3 rfl) ?_
    refine lv_if_lt (tgt := 21) hx hb dX11_part_13 (by decide) (fun hc => ?_) (fun hc => ?_)
    · have hf := ite_t hf hc
      refine lv_bipush (v := (-2)) hx hb dX11_part_21 (by decide) ?_
      obtain rfl := Option.some.inj hf
      exact k_iret hx hb hr hlocks hK hP hD hS dX11_part_23
    · have hf := ite_f hf hc
      refine lv_iload_n hx hb dX11_part_16 rfl (lv_at hl 3 rfl) ?_
      refine lv_iconst (v := 4) hx hb dX11_part_17 (by decide) ?_
      refine lv_icmp_lt (tgt := 24) hx hb dX11_part_18 (by decide) (fun hc => ?_) (fun hc => ?_)
      · have hf := ite_t hf hc
        refine lv_aload_n hx hb dX11_part_24 rfl (lv_at hl 0 rfl) ?_
        refine va_get (D := D) (ci := 11) (v := .ref (a0 10)) (C := RX11) (T := TX11) (N := 13) hx hb hts hiX11 hown hK hP 0 rfl rfl 10 (by decide) (hts _ flX11_81) (fun _ h9 => h9) rfl dX11_part_25 ?_
        refine lv_iload_n hx hb dX11_part_28 rfl (lv_at hl 1 rfl) ?_
        refine lv_iload_n hx hb dX11_part_29 rfl (lv_at hl 2 rfl) ?_
        refine lv_iload_n hx hb dX11_part_30 rfl (lv_at hl 3 rfl) ?_
        obtain ⟨q4, hq4, hf⟩ := bd_s hf
        refine k_pVi (wr := W11 cs h0 a0 ) (ws2 := W11 cs h0 a0  ++ W0 cs (a0 10) a1 q4.2.1 q4.2.2) (As := [.int x1, .int x2, .int x3]) (rest := []) hx hb hml hown hts hK hA hZ hl.1 hP hD hS (c_X0_putPart (h0 := (a0 10)) (a0 := a1) hq4) (gVt mlX11_216 imX0_putPart seX0_putPart inX0 coX0_putPart) rfl qnX0_putPart rfl rfl ⟨Nat.le_of_ble_eq_true rfl, Nat.le_of_ble_eq_true rfl⟩ [1, 2, 3, 4, 5, 6, 7, 8, 9, 10, 11, 12, 13, 14, 15, 16] [0] [0, 1, 2, 3, 4, 5, 6, 7, 8, 9, 10, 11, 12, 13, 14, 15, 16] rfl rfl rfl (by decide) 0 0 rfl rfl rfl rfl rfl (Nat.le_of_ble_eq_true rfl) ⟨Nat.zero_le _, Nat.zero_le _⟩ dX11_part_31 (fun H locs hP hD hS => ?_)
        obtain rfl := Option.some.inj hf
        exact k_iret hx hb hr hlocks hK hP hD hS dX11_part_34
      · have hf := ite_f hf hc
        refine lv_bipush (v := (-2)) hx hb dX11_part_21 (by decide) ?_
        obtain rfl := Option.some.inj hf
        exact k_iret hx hb hr hlocks hK hP hD hS dX11_part_23
/-! MarbleFloor.ball(IIIZ)I -/
abbrev wlX11_ball : List Cond := Cond.code yX11_ball cX11_ball 5 (some .int) :: tbG
abbrev rmX11_ball : Room := { frames := 1, cells := 0, slots := 0, locals := 25 }
theorem qnX11_ball : yX11_ball.cls = RX11 ∧ yX11_ball.cls ≠ "java/lang/invoke/MethodHandle" ∧ yX11_ball.cls ≠ "java/lang/invoke/VarHandle" ∧ (parseMethodDescriptor yX11_ball.desc).map (fun d => d.parameters.length) = some 4 := by decide +kernel
def f_X11_ball  (i1 : Nat → Int32) (r1 : Nat → Nat → Int32) (x1 : Int32) (x2 : Int32) (x3 : Int32) (x4 : Int32) : Option (Int32 × (Nat → Int32) × (Nat → Nat → Int32)) := bd (f_X0_hasNoCell i1 r1 x1 x2) (fun q3 => if q3 = 0 then (if x3 < 0 then (some ((-2), i1, r1)) else (if x3 < 4 then (bd (f_X0_putBall i1 r1 x1 x2 x3 x4) (fun q4 => some (q4.1, q4.2.1, q4.2.2))) else (some ((-2), i1, r1)))) else (some ((-2), i1, r1)))
set_option maxRecDepth 100000 in
set_option maxHeartbeats 4000000 in
theorem c_X11_ball {l : Launch} {D : va_G} {cs zs : Nat → Nat} {h0 : Nat} {a0 : Nat → Nat} {a1 : Nat → Nat} {i1 : Nat → Int32} {r1 : Nat → Nat → Int32} {x1 : Int32} {x2 : Int32} {x3 : Int32} {x4 : Int32} {q : Int32 × (Nat → Int32) × (Nat → Nat → Int32)} (hf : f_X11_ball i1 r1 x1 x2 x3 x4 = some q) : Mi l yX11_ball wlX11_ball rmX11_ball D cs zs [.ref h0, .int x1, .int x2, .int x3, .int x4] (W11 cs h0 a0  ++ W0 cs (a0 10) a1 i1 r1) q.1 (W11 cs h0 a0  ++ W0 cs (a0 10) a1 q.2.1 q.2.2) := by
  refine Mi.of RX11 (by decide) rfl (Nat.le_of_ble_eq_true rfl) (fun p e s m below meth c A C hP hD hS ls hl => ?_)
  generalize ([.ref h0, .int x1, .int x2, .int x3, .int x4] : List Value).toArray = args at C ⊢
  obtain ⟨hx, hb, hr, hml, hown, hts, hK, hA, hlocks, hZ⟩ := id C
  have hl : lv_has ls 5 [(0, .ref h0), (1, .int x1), (2, .int x2), (3, .int x3), (4, .int x4)] := hl
  rw [f_X11_ball] at hf
  refine lv_aload_n hx hb dX11_ball_0 rfl (lv_at hl 0 rfl) ?_
  refine va_get (D := D) (ci := 11) (v := .ref (a0 10)) (C := RX11) (T := TX11) (N := 13) hx hb hts hiX11 hown hK hP 0 rfl rfl 10 (by decide) (hts _ flX11_81) (fun _ h9 => h9) rfl dX11_ball_1 ?_
  refine lv_iload_n hx hb dX11_ball_4 rfl (lv_at hl 1 rfl) ?_
  refine lv_iload_n hx hb dX11_ball_5 rfl (lv_at hl 2 rfl) ?_
  obtain ⟨q3, hq3, hf⟩ := bd_s hf
  refine k_pVi (wr := W11 cs h0 a0 ) (ws2 := W11 cs h0 a0  ++ W0 cs (a0 10) a1 i1 r1) (As := [.int x1, .int x2]) (rest := []) hx hb hml hown hts hK hA hZ hl.1 hP hD hS (c_X0_hasNoCell (h0 := (a0 10)) (a0 := a1) hq3) (gVt mlX11_212 imX0_hasNoCell seX0_hasNoCell inX0 coX0_hasNoCell) rfl qnX0_hasNoCell rfl rfl ⟨Nat.le_of_ble_eq_true rfl, Nat.le_of_ble_eq_true rfl⟩ [1, 2, 3, 4, 5, 6, 7, 8, 9, 10, 11, 12, 13, 14, 15, 16] [0] [0, 1, 2, 3, 4, 5, 6, 7, 8, 9, 10, 11, 12, 13, 14, 15, 16] rfl rfl rfl (by decide) 0 0 rfl rfl rfl rfl rfl (Nat.le_of_ble_eq_true rfl) ⟨Nat.zero_le _, Nat.zero_le _⟩ dX11_ball_6 (fun H locs hP hD hS => ?_)
  refine lv_if_ne (tgt := 21) hx hb dX11_ball_9 (by decide) (fun hc => ?_) (fun hc => ?_)
  · have hf := ite_f hf hc
    refine lv_bipush (v := (-2)) hx hb dX11_ball_21 (by decide) ?_
    obtain rfl := Option.some.inj hf
    exact k_iret hx hb hr hlocks hK hP hD hS dX11_ball_23
  · have hf := ite_t hf hc
    refine lv_iload_n hx hb dX11_ball_12 rfl (lv_at hl 3 rfl) ?_
    refine lv_if_lt (tgt := 21) hx hb dX11_ball_13 (by decide) (fun hc => ?_) (fun hc => ?_)
    · have hf := ite_t hf hc
      refine lv_bipush (v := (-2)) hx hb dX11_ball_21 (by decide) ?_
      obtain rfl := Option.some.inj hf
      exact k_iret hx hb hr hlocks hK hP hD hS dX11_ball_23
    · have hf := ite_f hf hc
      refine lv_iload_n hx hb dX11_ball_16 rfl (lv_at hl 3 rfl) ?_
      refine lv_iconst (v := 4) hx hb dX11_ball_17 (by decide) ?_
      refine lv_icmp_lt (tgt := 24) hx hb dX11_ball_18 (by decide) (fun hc => ?_) (fun hc => ?_)
      · have hf := ite_t hf hc
        refine lv_aload_n hx hb dX11_ball_24 rfl (lv_at hl 0 rfl) ?_
        refine va_get (D := D) (ci := 11) (v := .ref (a0 10)) (C := RX11) (T := TX11) (N := 13) hx hb hts hiX11 hown hK hP 0 rfl rfl 10 (by decide) (hts _ flX11_81) (fun _ h9 => h9) rfl dX11_ball_25 ?_
        refine lv_iload_n hx hb dX11_ball_28 rfl (lv_at hl 1 rfl) ?_
        refine lv_iload_n hx hb dX11_ball_29 rfl (lv_at hl 2 rfl) ?_
        refine lv_iload_n hx hb dX11_ball_30 rfl (lv_at hl 3 rfl) ?_
        refine lv_iload hx hb dX11_ball_31 (lv_at hl 4 rfl) ?_
        obtain ⟨q4, hq4, hf⟩ := bd_s hf
        refine k_pVi (wr := W11 cs h0 a0 ) (ws2 := W11 cs h0 a0  ++ W0 cs (a0 10) a1 q4.2.1 q4.2.2) (As := [.int x1, .int x2, .int x3, .int x4]) (rest := []) hx hb hml hown hts hK hA hZ hl.1 hP hD hS (c_X0_putBall (h0 := (a0 10)) (a0 := a1) hq4) (gVt mlX11_220 imX0_putBall seX0_putBall inX0 coX0_putBall) rfl qnX0_putBall rfl rfl ⟨Nat.le_of_ble_eq_true rfl, Nat.le_of_ble_eq_true rfl⟩ [1, 2, 3, 4, 5, 6, 7, 8, 9, 10, 11, 12, 13, 14, 15, 16] [0] [0, 1, 2, 3, 4, 5, 6, 7, 8, 9, 10, 11, 12, 13, 14, 15, 16] rfl rfl rfl (by decide) 0 0 rfl rfl rfl rfl rfl (Nat.le_of_ble_eq_true rfl) ⟨Nat.zero_le _, Nat.zero_le _⟩ dX11_ball_33 (fun H locs hP hD hS => ?_)
        obtain rfl := Option.some.inj hf
        exact k_iret hx hb hr hlocks hK hP hD hS dX11_ball_36
      · have hf := ite_f hf hc
        refine lv_bipush (v := (-2)) hx hb dX11_ball_21 (by decide) ?_
        obtain rfl := Option.some.inj hf
        exact k_iret hx hb hr hlocks hK hP hD hS dX11_ball_23
/-! MarbleFloor.cell(II)I -/
abbrev wlX11_cell : List Cond := Cond.code yX11_cell cX11_cell 3 (some .int) :: tbG
abbrev rmX11_cell : Room := { frames := 1, cells := 0, slots := 0, locals := 24 }
theorem qnX11_cell : yX11_cell.cls = RX11 ∧ yX11_cell.cls ≠ "java/lang/invoke/MethodHandle" ∧ yX11_cell.cls ≠ "java/lang/invoke/VarHandle" ∧ (parseMethodDescriptor yX11_cell.desc).map (fun d => d.parameters.length) = some 2 := by decide +kernel
def f_X11_cell  (i1 : Nat → Int32) (r1 : Nat → Nat → Int32) (x1 : Int32) (x2 : Int32) : Option (Int32) := bd (f_X0_hasNoCell i1 r1 x1 x2) (fun q3 => if q3 = 0 then (bd (f_X0_ballsAt i1 r1 x1 x2) (fun q4 => some (q4))) else (some ((-2))))
set_option maxRecDepth 100000 in
set_option maxHeartbeats 4000000 in
theorem c_X11_cell {l : Launch} {D : va_G} {cs zs : Nat → Nat} {h0 : Nat} {a0 : Nat → Nat} {a1 : Nat → Nat} {i1 : Nat → Int32} {r1 : Nat → Nat → Int32} {x1 : Int32} {x2 : Int32} {q : Int32} (hf : f_X11_cell i1 r1 x1 x2 = some q) : Mi l yX11_cell wlX11_cell rmX11_cell D cs zs [.ref h0, .int x1, .int x2] (W11 cs h0 a0  ++ W0 cs (a0 10) a1 i1 r1) q (W11 cs h0 a0  ++ W0 cs (a0 10) a1 i1 r1) := by
  refine Mi.of RX11 (by decide) rfl (Nat.le_of_ble_eq_true rfl) (fun p e s m below meth c A C hP hD hS ls hl => ?_)
  generalize ([.ref h0, .int x1, .int x2] : List Value).toArray = args at C ⊢
  obtain ⟨hx, hb, hr, hml, hown, hts, hK, hA, hlocks, hZ⟩ := id C
  have hl : lv_has ls 3 [(0, .ref h0), (1, .int x1), (2, .int x2)] := hl
  rw [f_X11_cell] at hf
  refine lv_aload_n hx hb dX11_cell_0 rfl (lv_at hl 0 rfl) ?_
  refine va_get (D := D) (ci := 11) (v := .ref (a0 10)) (C := RX11) (T := TX11) (N := 13) hx hb hts hiX11 hown hK hP 0 rfl rfl 10 (by decide) (hts _ flX11_81) (fun _ h9 => h9) rfl dX11_cell_1 ?_
  refine lv_iload_n hx hb dX11_cell_4 rfl (lv_at hl 1 rfl) ?_
  refine lv_iload_n hx hb dX11_cell_5 rfl (lv_at hl 2 rfl) ?_
  obtain ⟨q3, hq3, hf⟩ := bd_s hf
  refine k_pVi (wr := W11 cs h0 a0 ) (ws2 := W11 cs h0 a0  ++ W0 cs (a0 10) a1 i1 r1) (As := [.int x1, .int x2]) (rest := []) hx hb hml hown hts hK hA hZ hl.1 hP hD hS (c_X0_hasNoCell (h0 := (a0 10)) (a0 := a1) hq3) (gVt mlX11_212 imX0_hasNoCell seX0_hasNoCell inX0 coX0_hasNoCell) rfl qnX0_hasNoCell rfl rfl ⟨Nat.le_of_ble_eq_true rfl, Nat.le_of_ble_eq_true rfl⟩ [1, 2, 3, 4, 5, 6, 7, 8, 9, 10, 11, 12, 13, 14, 15, 16] [0] [0, 1, 2, 3, 4, 5, 6, 7, 8, 9, 10, 11, 12, 13, 14, 15, 16] rfl rfl rfl (by decide) 0 0 rfl rfl rfl rfl rfl (Nat.le_of_ble_eq_true rfl) ⟨Nat.zero_le _, Nat.zero_le _⟩ dX11_cell_6 (fun H locs hP hD hS => ?_)
  refine lv_if_eq (tgt := 17) hx hb dX11_cell_9 (by decide) (fun hc => ?_) (fun hc => ?_)
  · have hf := ite_t hf hc
    refine lv_aload_n hx hb dX11_cell_17 rfl (lv_at hl 0 rfl) ?_
    refine va_get (D := D) (ci := 11) (v := .ref (a0 10)) (C := RX11) (T := TX11) (N := 13) hx hb hts hiX11 hown hK hP 0 rfl rfl 10 (by decide) (hts _ flX11_81) (fun _ h9 => h9) rfl dX11_cell_18 ?_
    refine lv_iload_n hx hb dX11_cell_21 rfl (lv_at hl 1 rfl) ?_
    refine lv_iload_n hx hb dX11_cell_22 rfl (lv_at hl 2 rfl) ?_
    obtain ⟨q4, hq4, hf⟩ := bd_s hf
    refine k_pVi (wr := W11 cs h0 a0 ) (ws2 := W11 cs h0 a0  ++ W0 cs (a0 10) a1 i1 r1) (As := [.int x1, .int x2]) (rest := []) hx hb hml hown hts hK hA hZ hl.1 hP hD hS (c_X0_ballsAt (h0 := (a0 10)) (a0 := a1) hq4) (gVt mlX11_224 imX0_ballsAt seX0_ballsAt inX0 coX0_ballsAt) rfl qnX0_ballsAt rfl rfl ⟨Nat.le_of_ble_eq_true rfl, Nat.le_of_ble_eq_true rfl⟩ [1, 2, 3, 4, 5, 6, 7, 8, 9, 10, 11, 12, 13, 14, 15, 16] [0] [0, 1, 2, 3, 4, 5, 6, 7, 8, 9, 10, 11, 12, 13, 14, 15, 16] rfl rfl rfl (by decide) 0 0 rfl rfl rfl rfl rfl (Nat.le_of_ble_eq_true rfl) ⟨Nat.zero_le _, Nat.zero_le _⟩ dX11_cell_23 (fun H locs hP hD hS => ?_)
    obtain rfl := Option.some.inj hf
    exact k_iret hx hb hr hlocks hK hP hD hS dX11_cell_26
  · have hf := ite_f hf hc
    refine lv_bipush (v := (-2)) hx hb dX11_cell_12 (by decide) ?_
    refine lv_goto (tgt := 26) hx hb dX11_cell_14 (by decide) ?_
    obtain rfl := Option.some.inj hf
    exact k_iret hx hb hr hlocks hK hP hD hS dX11_cell_26
/-! MarbleFloor.beat(I)I -/
abbrev wlX11_beat : List Cond := Cond.code yX11_beat cX11_beat 2 (some .int) :: tbG
abbrev rmX11_beat : Room := { frames := 4, cells := 0, slots := 0, locals := 96 }
theorem qnX11_beat : yX11_beat.cls = RX11 ∧ yX11_beat.cls ≠ "java/lang/invoke/MethodHandle" ∧ yX11_beat.cls ≠ "java/lang/invoke/VarHandle" ∧ (parseMethodDescriptor yX11_beat.desc).map (fun d => d.parameters.length) = some 1 := by decide +kernel
def f_X11_beat  (i1 : Nat → Int32) (r1 : Nat → Nat → Int32) (x1 : Int32) : Option (Int32 × (Nat → Int32) × (Nat → Nat → Int32)) := if x1 < 1 then (some ((-2), i1, r1)) else (if x1 ≤ 500 then (bd (f_X0_goOn i1 r1 x1) (fun q3 => bd (f_X0_balls q3.1 q3.2) (fun q4 => some (q4, q3.1, q3.2)))) else (some ((-2), i1, r1)))
set_option maxRecDepth 100000 in
set_option maxHeartbeats 4000000 in
theorem c_X11_beat {l : Launch} {D : va_G} {cs zs : Nat → Nat} {h0 : Nat} {a0 : Nat → Nat} {a1 : Nat → Nat} {i1 : Nat → Int32} {r1 : Nat → Nat → Int32} {x1 : Int32} {q : Int32 × (Nat → Int32) × (Nat → Nat → Int32)} (hf : f_X11_beat i1 r1 x1 = some q) : Mi l yX11_beat wlX11_beat rmX11_beat D cs zs [.ref h0, .int x1] (W11 cs h0 a0  ++ W0 cs (a0 10) a1 i1 r1) q.1 (W11 cs h0 a0  ++ W0 cs (a0 10) a1 q.2.1 q.2.2) := by
  refine Mi.of RX11 (by decide) rfl (Nat.le_of_ble_eq_true rfl) (fun p e s m below meth c A C hP hD hS ls hl => ?_)
  generalize ([.ref h0, .int x1] : List Value).toArray = args at C ⊢
  obtain ⟨hx, hb, hr, hml, hown, hts, hK, hA, hlocks, hZ⟩ := id C
  have hl : lv_has ls 2 [(0, .ref h0), (1, .int x1)] := hl
  rw [f_X11_beat] at hf
  refine lv_iload_n hx hb dX11_beat_0 rfl (lv_at hl 1 rfl) ?_
  refine lv_iconst (v := 1) hx hb dX11_beat_1 (by decide) ?_
  refine lv_icmp_lt (tgt := 12) hx hb dX11_beat_2 (by decide) (fun hc => ?_) (fun hc => ?_)
  · have hf := ite_t hf hc
    refine lv_bipush (v := (-2)) hx hb dX11_beat_12 (by decide) ?_
    obtain rfl := Option.some.inj hf
    exact k_iret hx hb hr hlocks hK hP hD hS dX11_beat_14
  · have hf := ite_f hf hc
    refine lv_iload_n hx hb dX11_beat_5 rfl (lv_at hl 1 rfl) ?_
    refine lv_sipush (v := 500) hx hb dX11_beat_6 (by decide) ?_
    refine lv_icmp_le (tgt := 15) hx hb dX11_beat_9 (by decide) (fun hc => ?_) (fun hc => ?_)
    · have hf := ite_t hf hc
      refine lv_aload_n hx hb dX11_beat_15 rfl (lv_at hl 0 rfl) ?_
      refine va_get (D := D) (ci := 11) (v := .ref (a0 10)) (C := RX11) (T := TX11) (N := 13) hx hb hts hiX11 hown hK hP 0 rfl rfl 10 (by decide) (hts _ flX11_81) (fun _ h9 => h9) rfl dX11_beat_16 ?_
      refine lv_iload_n hx hb dX11_beat_19 rfl (lv_at hl 1 rfl) ?_
      obtain ⟨q3, hq3, hf⟩ := bd_s hf
      refine k_pVv (wr := W11 cs h0 a0 ) (ws2 := W11 cs h0 a0  ++ W0 cs (a0 10) a1 q3.1 q3.2) (As := [.int x1]) (rest := []) hx hb hml hown hts hK hA hZ hl.1 hP hD hS (c_X0_goOn (h0 := (a0 10)) (a0 := a1) hq3) (gVt mlX11_227 imX0_goOn seX0_goOn inX0 coX0_goOn) rfl qnX0_goOn rfl rfl ⟨Nat.le_of_ble_eq_true rfl, Nat.le_of_ble_eq_true rfl⟩ [1, 2, 3, 4, 5, 6, 7, 8, 9, 10, 11, 12, 13, 14, 15, 16] [0] [0, 1, 2, 3, 4, 5, 6, 7, 8, 9, 10, 11, 12, 13, 14, 15, 16] rfl rfl rfl (by decide) 0 0 rfl rfl rfl rfl rfl (Nat.le_of_ble_eq_true rfl) ⟨Nat.zero_le _, Nat.zero_le _⟩ dX11_beat_20 (fun H locs hP hD hS => ?_)
      refine lv_aload_n hx hb dX11_beat_23 rfl (lv_at hl 0 rfl) ?_
      refine va_get (D := D) (ci := 11) (v := .ref (a0 10)) (C := RX11) (T := TX11) (N := 13) hx hb hts hiX11 hown hK hP 0 rfl rfl 10 (by decide) (hts _ flX11_81) (fun _ h9 => h9) rfl dX11_beat_24 ?_
      obtain ⟨q4, hq4, hf⟩ := bd_s hf
      refine k_pVi (wr := W11 cs h0 a0 ) (ws2 := W11 cs h0 a0  ++ W0 cs (a0 10) a1 q3.1 q3.2) (As := []) (rest := []) hx hb hml hown hts hK hA hZ hl.1 hP hD hS (c_X0_balls (h0 := (a0 10)) (a0 := a1) hq4) (gVt mlX11_231 imX0_balls seX0_balls inX0 coX0_balls) rfl qnX0_balls rfl rfl ⟨Nat.le_of_ble_eq_true rfl, Nat.le_of_ble_eq_true rfl⟩ [1, 2, 3, 4, 5, 6, 7, 8, 9, 10, 11, 12, 13, 14, 15, 16] [0] [0, 1, 2, 3, 4, 5, 6, 7, 8, 9, 10, 11, 12, 13, 14, 15, 16] rfl rfl rfl (by decide) 0 0 rfl rfl rfl rfl rfl (Nat.le_of_ble_eq_true rfl) ⟨Nat.zero_le _, Nat.zero_le _⟩ dX11_beat_27 (fun H locs hP hD hS => ?_)
      obtain rfl := Option.some.inj hf
      exact k_iret hx hb hr hlocks hK hP hD hS dX11_beat_30
    · have hf := ite_f hf hc
      refine lv_bipush (v := (-2)) hx hb dX11_beat_12 (by decide) ?_
      obtain rfl := Option.some.inj hf
      exact k_iret hx hb hr hlocks hK hP hD hS dX11_beat_14
/-! MarbleFloor.back(I)I -/
abbrev wlX11_back : List Cond := Cond.code yX11_back cX11_back 2 (some .int) :: tbG
abbrev rmX11_back : Room := { frames := 4, cells := 0, slots := 0, locals := 95 }
theorem qnX11_back : yX11_back.cls = RX11 ∧ yX11_back.cls ≠ "java/lang/invoke/MethodHandle" ∧ yX11_back.cls ≠ "java/lang/invoke/VarHandle" ∧ (parseMethodDescriptor yX11_back.desc).map (fun d => d.parameters.length) = some 1 := by decide +kernel
def f_X11_back  (i1 : Nat → Int32) (r1 : Nat → Nat → Int32) (x1 : Int32) : Option (Int32 × (Nat → Int32) × (Nat → Nat → Int32)) := if x1 < 1 then (some ((-2), i1, r1)) else (if x1 ≤ 500 then (bd (f_X0_undoable i1 r1) (fun q4 => if x1 ≤ q4 then (bd (f_X0_goBack i1 r1 x1) (fun q5 => bd (f_X0_balls q5.1 q5.2) (fun q6 => some (q6, q5.1, q5.2)))) else (some ((-4), i1, r1)))) else (some ((-2), i1, r1)))
set_option maxRecDepth 100000 in
set_option maxHeartbeats 4000000 in
theorem c_X11_back {l : Launch} {D : va_G} {cs zs : Nat → Nat} {h0 : Nat} {a0 : Nat → Nat} {a1 : Nat → Nat} {i1 : Nat → Int32} {r1 : Nat → Nat → Int32} {x1 : Int32} {q : Int32 × (Nat → Int32) × (Nat → Nat → Int32)} (hf : f_X11_back i1 r1 x1 = some q) : Mi l yX11_back wlX11_back rmX11_back D cs zs [.ref h0, .int x1] (W11 cs h0 a0  ++ W0 cs (a0 10) a1 i1 r1) q.1 (W11 cs h0 a0  ++ W0 cs (a0 10) a1 q.2.1 q.2.2) := by
  refine Mi.of RX11 (by decide) rfl (Nat.le_of_ble_eq_true rfl) (fun p e s m below meth c A C hP hD hS ls hl => ?_)
  generalize ([.ref h0, .int x1] : List Value).toArray = args at C ⊢
  obtain ⟨hx, hb, hr, hml, hown, hts, hK, hA, hlocks, hZ⟩ := id C
  have hl : lv_has ls 2 [(0, .ref h0), (1, .int x1)] := hl
  rw [f_X11_back] at hf
  refine lv_iload_n hx hb dX11_back_0 rfl (lv_at hl 1 rfl) ?_
  refine lv_iconst (v := 1) hx hb dX11_back_1 (by decide) ?_
  refine lv_icmp_lt (tgt := 12) hx hb dX11_back_2 (by decide) (fun hc => ?_) (fun hc => ?_)
  · have hf := ite_t hf hc
    refine lv_bipush (v := (-2)) hx hb dX11_back_12 (by decide) ?_
    obtain rfl := Option.some.inj hf
    exact k_iret hx hb hr hlocks hK hP hD hS dX11_back_14
  · have hf := ite_f hf hc
    refine lv_iload_n hx hb dX11_back_5 rfl (lv_at hl 1 rfl) ?_
    refine lv_sipush (v := 500) hx hb dX11_back_6 (by decide) ?_
    refine lv_icmp_le (tgt := 15) hx hb dX11_back_9 (by decide) (fun hc => ?_) (fun hc => ?_)
    · have hf := ite_t hf hc
      refine lv_iload_n hx hb dX11_back_15 rfl (lv_at hl 1 rfl) ?_
      refine lv_aload_n hx hb dX11_back_16 rfl (lv_at hl 0 rfl) ?_
      refine va_get (D := D) (ci := 11) (v := .ref (a0 10)) (C := RX11) (T := TX11) (N := 13) hx hb hts hiX11 hown hK hP 0 rfl rfl 10 (by decide) (hts _ flX11_81) (fun _ h9 => h9) rfl dX11_back_17 ?_
      obtain ⟨q4, hq4, hf⟩ := bd_s hf
      refine k_pVi (wr := W11 cs h0 a0 ) (ws2 := W11 cs h0 a0  ++ W0 cs (a0 10) a1 i1 r1) (As := []) (rest := [.int x1]) hx hb hml hown hts hK hA hZ hl.1 hP hD hS (c_X0_undoable (h0 := (a0 10)) (a0 := a1) hq4) (gVt mlX11_234 imX0_undoable seX0_undoable inX0 coX0_undoable) rfl qnX0_undoable rfl rfl ⟨Nat.le_of_ble_eq_true rfl, Nat.le_of_ble_eq_true rfl⟩ [1, 2, 3, 4, 5, 6, 7, 8, 9, 10, 11, 12, 13, 14, 15, 16] [0] [0, 1, 2, 3, 4, 5, 6, 7, 8, 9, 10, 11, 12, 13, 14, 15, 16] rfl rfl rfl (by decide) 0 0 rfl rfl rfl rfl rfl (Nat.le_of_ble_eq_true rfl) ⟨Nat.zero_le _, Nat.zero_le _⟩ dX11_back_20 (fun H locs hP hD hS => ?_)
      refine lv_icmp_le (tgt := 29) hx hb dX11_back_23 (by decide) (fun hc => ?_) (fun hc => ?_)
      · have hf := ite_t hf hc
        refine lv_aload_n hx hb dX11_back_29 rfl (lv_at hl 0 rfl) ?_
        refine va_get (D := D) (ci := 11) (v := .ref (a0 10)) (C := RX11) (T := TX11) (N := 13) hx hb hts hiX11 hown hK hP 0 rfl rfl 10 (by decide) (hts _ flX11_81) (fun _ h9 => h9) rfl dX11_back_30 ?_
        refine lv_iload_n hx hb dX11_back_33 rfl (lv_at hl 1 rfl) ?_
        obtain ⟨q5, hq5, hf⟩ := bd_s hf
        refine k_pVv (wr := W11 cs h0 a0 ) (ws2 := W11 cs h0 a0  ++ W0 cs (a0 10) a1 q5.1 q5.2) (As := [.int x1]) (rest := []) hx hb hml hown hts hK hA hZ hl.1 hP hD hS (c_X0_goBack (h0 := (a0 10)) (a0 := a1) hq5) (gVt mlX11_237 imX0_goBack seX0_goBack inX0 coX0_goBack) rfl qnX0_goBack rfl rfl ⟨Nat.le_of_ble_eq_true rfl, Nat.le_of_ble_eq_true rfl⟩ [1, 2, 3, 4, 5, 6, 7, 8, 9, 10, 11, 12, 13, 14, 15, 16] [0] [0, 1, 2, 3, 4, 5, 6, 7, 8, 9, 10, 11, 12, 13, 14, 15, 16] rfl rfl rfl (by decide) 0 0 rfl rfl rfl rfl rfl (Nat.le_of_ble_eq_true rfl) ⟨Nat.zero_le _, Nat.zero_le _⟩ dX11_back_34 (fun H locs hP hD hS => ?_)
        refine lv_aload_n hx hb dX11_back_37 rfl (lv_at hl 0 rfl) ?_
        refine va_get (D := D) (ci := 11) (v := .ref (a0 10)) (C := RX11) (T := TX11) (N := 13) hx hb hts hiX11 hown hK hP 0 rfl rfl 10 (by decide) (hts _ flX11_81) (fun _ h9 => h9) rfl dX11_back_38 ?_
        obtain ⟨q6, hq6, hf⟩ := bd_s hf
        refine k_pVi (wr := W11 cs h0 a0 ) (ws2 := W11 cs h0 a0  ++ W0 cs (a0 10) a1 q5.1 q5.2) (As := []) (rest := []) hx hb hml hown hts hK hA hZ hl.1 hP hD hS (c_X0_balls (h0 := (a0 10)) (a0 := a1) hq6) (gVt mlX11_231 imX0_balls seX0_balls inX0 coX0_balls) rfl qnX0_balls rfl rfl ⟨Nat.le_of_ble_eq_true rfl, Nat.le_of_ble_eq_true rfl⟩ [1, 2, 3, 4, 5, 6, 7, 8, 9, 10, 11, 12, 13, 14, 15, 16] [0] [0, 1, 2, 3, 4, 5, 6, 7, 8, 9, 10, 11, 12, 13, 14, 15, 16] rfl rfl rfl (by decide) 0 0 rfl rfl rfl rfl rfl (Nat.le_of_ble_eq_true rfl) ⟨Nat.zero_le _, Nat.zero_le _⟩ dX11_back_41 (fun H locs hP hD hS => ?_)
        obtain rfl := Option.some.inj hf
        exact k_iret hx hb hr hlocks hK hP hD hS dX11_back_44
      · have hf := ite_f hf hc
        refine lv_bipush (v := (-4)) hx hb dX11_back_26 (by decide) ?_
        obtain rfl := Option.some.inj hf
        exact k_iret hx hb hr hlocks hK hP hD hS dX11_back_28
    · have hf := ite_f hf hc
      refine lv_bipush (v := (-2)) hx hb dX11_back_12 (by decide) ?_
      obtain rfl := Option.some.inj hf
      exact k_iret hx hb hr hlocks hK hP hD hS dX11_back_14
/-! MarbleFloor.round()I -/
abbrev wlX11_round : List Cond := Cond.code yX11_round cX11_round 1 (some .int) :: tbG
abbrev rmX11_round : Room := { frames := 4, cells := 0, slots := 0, locals := 106 }
theorem qnX11_round : yX11_round.cls = RX11 ∧ yX11_round.cls ≠ "java/lang/invoke/MethodHandle" ∧ yX11_round.cls ≠ "java/lang/invoke/VarHandle" ∧ (parseMethodDescriptor yX11_round.desc).map (fun d => d.parameters.length) = some 0 := by decide +kernel
def f_X11_round  (i1 : Nat → Int32) (r1 : Nat → Nat → Int32)  : Option (Int32 × (Nat → Nat → Int32)) := bd (f_X0_beatsTillAsNow i1 r1) (fun q2 => some (q2.1, q2.2))
set_option maxRecDepth 100000 in
set_option maxHeartbeats 4000000 in
theorem c_X11_round {l : Launch} {D : va_G} {cs zs : Nat → Nat} {h0 : Nat} {a0 : Nat → Nat} {a1 : Nat → Nat} {i1 : Nat → Int32} {r1 : Nat → Nat → Int32}  {q : Int32 × (Nat → Nat → Int32)} (hf : f_X11_round i1 r1 = some q) : Mi l yX11_round wlX11_round rmX11_round D cs zs [.ref h0] (W11 cs h0 a0  ++ W0 cs (a0 10) a1 i1 r1) q.1 (W11 cs h0 a0  ++ W0 cs (a0 10) a1 i1 q.2) := by
  refine Mi.of RX11 (by decide) rfl (Nat.le_of_ble_eq_true rfl) (fun p e s m below meth c A C hP hD hS ls hl => ?_)
  generalize ([.ref h0] : List Value).toArray = args at C ⊢
  obtain ⟨hx, hb, hr, hml, hown, hts, hK, hA, hlocks, hZ⟩ := id C
  have hl : lv_has ls 1 [(0, .ref h0)] := hl
  rw [f_X11_round] at hf
  refine lv_aload_n hx hb dX11_round_0 rfl (lv_at hl 0 rfl) ?_
  refine va_get (D := D) (ci := 11) (v := .ref (a0 10)) (C := RX11) (T := TX11) (N := 13) hx hb hts hiX11 hown hK hP 0 rfl rfl 10 (by decide) (hts _ flX11_81) (fun _ h9 => h9) rfl dX11_round_1 ?_
  obtain ⟨q2, hq2, hf⟩ := bd_s hf
  refine k_pVi (wr := W11 cs h0 a0 ) (ws2 := W11 cs h0 a0  ++ W0 cs (a0 10) a1 i1 q2.2) (As := []) (rest := []) hx hb hml hown hts hK hA hZ hl.1 hP hD hS (c_X0_beatsTillAsNow (h0 := (a0 10)) (a0 := a1) hq2) (gVt mlX11_240 imX0_beatsTillAsNow seX0_beatsTillAsNow inX0 coX0_beatsTillAsNow) rfl qnX0_beatsTillAsNow rfl rfl ⟨Nat.le_of_ble_eq_true rfl, Nat.le_of_ble_eq_true rfl⟩ [1, 2, 3, 4, 5, 6, 7, 8, 9, 10, 11, 12, 13, 14, 15, 16] [0] [0, 1, 2, 3, 4, 5, 6, 7, 8, 9, 10, 11, 12, 13, 14, 15, 16] rfl rfl rfl (by decide) 0 0 rfl rfl rfl rfl rfl (Nat.le_of_ble_eq_true rfl) ⟨Nat.zero_le _, Nat.zero_le _⟩ dX11_round_4 (fun H locs hP hD hS => ?_)
  obtain rfl := Option.some.inj hf
  exact k_iret hx hb hr hlocks hK hP hD hS dX11_round_7
/-! MarbleFloor.move(I)I -/
abbrev wlX11_move : List Cond := Cond.code yX11_move cX11_move 2 (some .int) :: tbG
abbrev rmX11_move : Room := { frames := 1, cells := 0, slots := 0, locals := 21 }
theorem qnX11_move : yX11_move.cls = RX11 ∧ yX11_move.cls ≠ "java/lang/invoke/MethodHandle" ∧ yX11_move.cls ≠ "java/lang/invoke/VarHandle" ∧ (parseMethodDescriptor yX11_move.desc).map (fun d => d.parameters.length) = some 1 := by decide +kernel
def f_X11_move  (i1 : Nat → Int32) (r1 : Nat → Nat → Int32) (u1 : Nat → Nat) (x1 : Int32) : Option (Int32) := bd (f_X10_moveAt i1 r1 u1 x1) (fun q2 => some (q2))
set_option maxRecDepth 100000 in
set_option maxHeartbeats 4000000 in
theorem c_X11_move {l : Launch} {D : va_G} {cs zs : Nat → Nat} {h0 : Nat} {a0 : Nat → Nat} {a1 : Nat → Nat} {i1 : Nat → Int32} {r1 : Nat → Nat → Int32} {u1 : Nat → Nat} {x1 : Int32} {q : Int32} (hf : f_X11_move i1 r1 u1 x1 = some q) : Mi l yX11_move wlX11_move rmX11_move D cs zs [.ref h0, .int x1] (W11 cs h0 a0  ++ W10 cs (a0 11) a1 i1 r1 u1) q (W11 cs h0 a0  ++ W10 cs (a0 11) a1 i1 r1 u1) := by
  refine Mi.of RX11 (by decide) rfl (Nat.le_of_ble_eq_true rfl) (fun p e s m below meth c A C hP hD hS ls hl => ?_)
  generalize ([.ref h0, .int x1] : List Value).toArray = args at C ⊢
  obtain ⟨hx, hb, hr, hml, hown, hts, hK, hA, hlocks, hZ⟩ := id C
  have hl : lv_has ls 2 [(0, .ref h0), (1, .int x1)] := hl
  rw [f_X11_move] at hf
  refine lv_aload_n hx hb dX11_move_0 rfl (lv_at hl 0 rfl) ?_
  refine va_get (D := D) (ci := 11) (v := .ref (a0 11)) (C := RX11) (T := TX11) (N := 13) hx hb hts hiX11 hown hK hP 0 rfl rfl 11 (by decide) (hts _ flX11_88) (fun _ h9 => h9) rfl dX11_move_1 ?_
  refine lv_iload_n hx hb dX11_move_4 rfl (lv_at hl 1 rfl) ?_
  obtain ⟨q2, hq2, hf⟩ := bd_s hf
  refine k_pVi (wr := W11 cs h0 a0 ) (ws2 := W11 cs h0 a0  ++ W10 cs (a0 11) a1 i1 r1 u1) (As := [.int x1]) (rest := []) hx hb hml hown hts hK hA hZ hl.1 hP hD hS (c_X10_moveAt (h0 := (a0 11)) (a0 := a1) hq2) (gVt mlX11_246 imX10_moveAt seX10_moveAt inX10 coX10_moveAt) rfl qnX10_moveAt rfl rfl ⟨Nat.le_of_ble_eq_true rfl, Nat.le_of_ble_eq_true rfl⟩ [1, 2, 3, 4] [0] [0, 1, 2, 3, 4] rfl rfl rfl (by decide) 0 10 rfl rfl rfl rfl rfl (Nat.le_of_ble_eq_true rfl) ⟨Nat.zero_le _, Nat.zero_le _⟩ dX11_move_5 (fun H locs hP hD hS => ?_)
  obtain rfl := Option.some.inj hf
  exact k_iret hx hb hr hlocks hK hP hD hS dX11_move_8
/-! MarbleFloor.see(III)I -/
abbrev wlX11_see : List Cond := Cond.code yX11_see cX11_see 4 (some .int) :: tbG
abbrev rmX11_see : Room := { frames := 2, cells := 0, slots := 0, locals := 44 }
theorem qnX11_see : yX11_see.cls = RX11 ∧ yX11_see.cls ≠ "java/lang/invoke/MethodHandle" ∧ yX11_see.cls ≠ "java/lang/invoke/VarHandle" ∧ (parseMethodDescriptor yX11_see.desc).map (fun d => d.parameters.length) = some 3 := by decide +kernel
def f_X11_see  (i1 : Nat → Int32) (r1 : Nat → Nat → Int32) (u1 : Nat → Nat) (x1 : Int32) (x2 : Int32) (x3 : Int32) : Option (Int32 × (Nat → Int32) × (Nat → Nat → Int32)) := bd (f_X1_addSeen i1 r1 u1 x1 x2 x3) (fun q2 => some (q2.1, q2.2.1, q2.2.2))
set_option maxRecDepth 100000 in
set_option maxHeartbeats 4000000 in
theorem c_X11_see {l : Launch} {D : va_G} {cs zs : Nat → Nat} {h0 : Nat} {a0 : Nat → Nat} {a1 : Nat → Nat} {i1 : Nat → Int32} {r1 : Nat → Nat → Int32} {u1 : Nat → Nat} {x1 : Int32} {x2 : Int32} {x3 : Int32} {q : Int32 × (Nat → Int32) × (Nat → Nat → Int32)} (hf : f_X11_see i1 r1 u1 x1 x2 x3 = some q) : Mi l yX11_see wlX11_see rmX11_see D cs zs [.ref h0, .int x1, .int x2, .int x3] (W11 cs h0 a0  ++ W1 cs (a0 12) a1 i1 r1 u1) q.1 (W11 cs h0 a0  ++ W1 cs (a0 12) a1 q.2.1 q.2.2 u1) := by
  refine Mi.of RX11 (by decide) rfl (Nat.le_of_ble_eq_true rfl) (fun p e s m below meth c A C hP hD hS ls hl => ?_)
  generalize ([.ref h0, .int x1, .int x2, .int x3] : List Value).toArray = args at C ⊢
  obtain ⟨hx, hb, hr, hml, hown, hts, hK, hA, hlocks, hZ⟩ := id C
  have hl : lv_has ls 4 [(0, .ref h0), (1, .int x1), (2, .int x2), (3, .int x3)] := hl
  rw [f_X11_see] at hf
  refine lv_aload_n hx hb dX11_see_0 rfl (lv_at hl 0 rfl) ?_
  refine va_get (D := D) (ci := 11) (v := .ref (a0 12)) (C := RX11) (T := TX11) (N := 13) hx hb hts hiX11 hown hK hP 0 rfl rfl 12 (by decide) (hts _ flX11_95) (fun _ h9 => h9) rfl dX11_see_1 ?_
  refine lv_iload_n hx hb dX11_see_4 rfl (lv_at hl 1 rfl) ?_
  refine lv_iload_n hx hb dX11_see_5 rfl (lv_at hl 2 rfl) ?_
  refine lv_iload_n hx hb dX11_see_6 rfl (lv_at hl 3 rfl) ?_
  obtain ⟨q2, hq2, hf⟩ := bd_s hf
  refine k_pVi (wr := W11 cs h0 a0 ) (ws2 := W11 cs h0 a0  ++ W1 cs (a0 12) a1 q2.2.1 q2.2.2 u1) (As := [.int x1, .int x2, .int x3]) (rest := []) hx hb hml hown hts hK hA hZ hl.1 hP hD hS (c_X1_addSeen (h0 := (a0 12)) (a0 := a1) hq2) (gVt mlX11_253 imX1_addSeen seX1_addSeen inX1 coX1_addSeen) rfl qnX1_addSeen rfl rfl ⟨Nat.le_of_ble_eq_true rfl, Nat.le_of_ble_eq_true rfl⟩ [1, 2, 3, 4, 5, 6, 7, 8, 9, 10, 11] [0] [0, 1, 2, 3, 4, 5, 6, 7, 8, 9, 10, 11] rfl rfl rfl (by decide) 0 1 rfl rfl rfl rfl rfl (Nat.le_of_ble_eq_true rfl) ⟨Nat.zero_le _, Nat.zero_le _⟩ dX11_see_7 (fun H locs hP hD hS => ?_)
  obtain rfl := Option.some.inj hf
  exact k_iret hx hb hr hlocks hK hP hD hS dX11_see_10
/-! MarbleFloor.right(III)I -/
abbrev wlX11_right : List Cond := Cond.code yX11_right cX11_right 4 (some .int) :: tbG
abbrev rmX11_right : Room := { frames := 2, cells := 0, slots := 0, locals := 46 }
theorem qnX11_right : yX11_right.cls = RX11 ∧ yX11_right.cls ≠ "java/lang/invoke/MethodHandle" ∧ yX11_right.cls ≠ "java/lang/invoke/VarHandle" ∧ (parseMethodDescriptor yX11_right.desc).map (fun d => d.parameters.length) = some 3 := by decide +kernel
def f_X11_right  (i1 : Nat → Int32) (r1 : Nat → Nat → Int32) (u1 : Nat → Nat) (x1 : Int32) (x2 : Int32) (x3 : Int32) : Option (Int32 × (Nat → Int32) × (Nat → Nat → Int32)) := bd (f_X1_putRight i1 r1 u1 x1 x2 x3) (fun q2 => some (q2.1, q2.2.1, q2.2.2))
set_option maxRecDepth 100000 in
set_option maxHeartbeats 4000000 in
theorem c_X11_right {l : Launch} {D : va_G} {cs zs : Nat → Nat} {h0 : Nat} {a0 : Nat → Nat} {a1 : Nat → Nat} {i1 : Nat → Int32} {r1 : Nat → Nat → Int32} {u1 : Nat → Nat} {x1 : Int32} {x2 : Int32} {x3 : Int32} {q : Int32 × (Nat → Int32) × (Nat → Nat → Int32)} (hf : f_X11_right i1 r1 u1 x1 x2 x3 = some q) : Mi l yX11_right wlX11_right rmX11_right D cs zs [.ref h0, .int x1, .int x2, .int x3] (W11 cs h0 a0  ++ W1 cs (a0 12) a1 i1 r1 u1) q.1 (W11 cs h0 a0  ++ W1 cs (a0 12) a1 q.2.1 q.2.2 u1) := by
  refine Mi.of RX11 (by decide) rfl (Nat.le_of_ble_eq_true rfl) (fun p e s m below meth c A C hP hD hS ls hl => ?_)
  generalize ([.ref h0, .int x1, .int x2, .int x3] : List Value).toArray = args at C ⊢
  obtain ⟨hx, hb, hr, hml, hown, hts, hK, hA, hlocks, hZ⟩ := id C
  have hl : lv_has ls 4 [(0, .ref h0), (1, .int x1), (2, .int x2), (3, .int x3)] := hl
  rw [f_X11_right] at hf
  refine lv_aload_n hx hb dX11_right_0 rfl (lv_at hl 0 rfl) ?_
  refine va_get (D := D) (ci := 11) (v := .ref (a0 12)) (C := RX11) (T := TX11) (N := 13) hx hb hts hiX11 hown hK hP 0 rfl rfl 12 (by decide) (hts _ flX11_95) (fun _ h9 => h9) rfl dX11_right_1 ?_
  refine lv_iload_n hx hb dX11_right_4 rfl (lv_at hl 1 rfl) ?_
  refine lv_iload_n hx hb dX11_right_5 rfl (lv_at hl 2 rfl) ?_
  refine lv_iload_n hx hb dX11_right_6 rfl (lv_at hl 3 rfl) ?_
  obtain ⟨q2, hq2, hf⟩ := bd_s hf
  refine k_pVi (wr := W11 cs h0 a0 ) (ws2 := W11 cs h0 a0  ++ W1 cs (a0 12) a1 q2.2.1 q2.2.2 u1) (As := [.int x1, .int x2, .int x3]) (rest := []) hx hb hml hown hts hK hA hZ hl.1 hP hD hS (c_X1_putRight (h0 := (a0 12)) (a0 := a1) hq2) (gVt mlX11_256 imX1_putRight seX1_putRight inX1 coX1_putRight) rfl qnX1_putRight rfl rfl ⟨Nat.le_of_ble_eq_true rfl, Nat.le_of_ble_eq_true rfl⟩ [1, 2, 3, 4, 5, 6, 7, 8, 9, 10, 11] [0] [0, 1, 2, 3, 4, 5, 6, 7, 8, 9, 10, 11] rfl rfl rfl (by decide) 0 1 rfl rfl rfl rfl rfl (Nat.le_of_ble_eq_true rfl) ⟨Nat.zero_le _, Nat.zero_le _⟩ dX11_right_7 (fun H locs hP hD hS => ?_)
  obtain rfl := Option.some.inj hf
  exact k_iret hx hb hr hlocks hK hP hD hS dX11_right_10
/-! MarbleFloor.fit(I)J -/
abbrev wlX11_fit : List Cond := Cond.code yX11_fit cX11_fit 2 (some .long) :: tbG
abbrev rmX11_fit : Room := { frames := 2, cells := 0, slots := 0, locals := 51 }
theorem qnX11_fit : yX11_fit.cls = RX11 ∧ yX11_fit.cls ≠ "java/lang/invoke/MethodHandle" ∧ yX11_fit.cls ≠ "java/lang/invoke/VarHandle" ∧ (parseMethodDescriptor yX11_fit.desc).map (fun d => d.parameters.length) = some 1 := by decide +kernel
def f_X11_fit  (i1 : Nat → Int32) (r1 : Nat → Nat → Int32) (u1 : Nat → Nat) (x1 : Int32) : Option (Int64) := if x1 < 0 then (some ((-2))) else (if x1 ≤ 999 then (bd (f_X1_watching i1 r1 u1) (fun q3 => if q3 = 0 then (some ((-4))) else (bd (f_X1_fitting i1 r1 u1 x1) (fun q4 => some (q4))))) else (some ((-2))))
set_option maxRecDepth 100000 in
set_option maxHeartbeats 4000000 in
theorem c_X11_fit {l : Launch} {D : va_G} {cs zs : Nat → Nat} {h0 : Nat} {a0 : Nat → Nat} {a1 : Nat → Nat} {i1 : Nat → Int32} {r1 : Nat → Nat → Int32} {u1 : Nat → Nat} {x1 : Int32} {q : Int64} (hf : f_X11_fit i1 r1 u1 x1 = some q) : Ml l yX11_fit wlX11_fit rmX11_fit D cs zs [.ref h0, .int x1] (W11 cs h0 a0  ++ W1 cs (a0 12) a1 i1 r1 u1) q (W11 cs h0 a0  ++ W1 cs (a0 12) a1 i1 r1 u1) := by
  refine Ml.of RX11 (by decide) rfl (Nat.le_of_ble_eq_true rfl) (fun p e s m below meth c A C hP hD hS ls hl => ?_)
  generalize ([.ref h0, .int x1] : List Value).toArray = args at C ⊢
  obtain ⟨hx, hb, hr, hml, hown, hts, hK, hA, hlocks, hZ⟩ := id C
  have hl : lv_has ls 2 [(0, .ref h0), (1, .int x1)] := hl
  rw [f_X11_fit] at hf
  refine lv_iload_n hx hb dX11_fit_0 rfl (lv_at hl 1 rfl) ?_
  refine lv_if_lt (tgt := 11) hx hb dX11_fit_1 (by decide) (fun hc => ?_) (fun hc => ?_)
  · have hf := ite_t hf hc
    refine lv_ldc2 (v := (-2)) hx hb hown (hts _ kcX11_146) dX11_fit_11 ?_
    obtain rfl := Option.some.inj hf
    exact k_lret hx hb hr hlocks hK hP hD hS dX11_fit_14
  · have hf := ite_f hf hc
    refine lv_iload_n hx hb dX11_fit_4 rfl (lv_at hl 1 rfl) ?_
    refine lv_sipush (v := 999) hx hb dX11_fit_5 (by decide) ?_
    refine lv_icmp_le (tgt := 15) hx hb dX11_fit_8 (by decide) (fun hc => ?_) (fun hc => ?_)
    · have hf := ite_t hf hc
      refine lv_aload_n hx hb dX11_fit_15 rfl (lv_at hl 0 rfl) ?_
      refine va_get (D := D) (ci := 11) (v := .ref (a0 12)) (C := RX11) (T := TX11) (N := 13) hx hb hts hiX11 hown hK hP 0 rfl rfl 12 (by decide) (hts _ flX11_95) (fun _ h9 => h9) rfl dX11_fit_16 ?_
      obtain ⟨q3, hq3, hf⟩ := bd_s hf
      refine k_pVi (wr := W11 cs h0 a0 ) (ws2 := W11 cs h0 a0  ++ W1 cs (a0 12) a1 i1 r1 u1) (As := []) (rest := []) hx hb hml hown hts hK hA hZ hl.1 hP hD hS (c_X1_watching (h0 := (a0 12)) (a0 := a1) hq3) (gVt mlX11_259 imX1_watching seX1_watching inX1 coX1_watching) rfl qnX1_watching rfl rfl ⟨Nat.le_of_ble_eq_true rfl, Nat.le_of_ble_eq_true rfl⟩ [1, 2, 3, 4, 5, 6, 7, 8, 9, 10, 11] [0] [0, 1, 2, 3, 4, 5, 6, 7, 8, 9, 10, 11] rfl rfl rfl (by decide) 0 1 rfl rfl rfl rfl rfl (Nat.le_of_ble_eq_true rfl) ⟨Nat.zero_le _, Nat.zero_le _⟩ dX11_fit_19 (fun H locs hP hD hS => ?_)
      refine lv_if_eq (tgt := 36) hx hb dX11_fit_22 (by decide) (fun hc => ?_) (fun hc => ?_)
      · have hf := ite_t hf hc
        refine lv_ldc2 (v := (-4)) hx hb hown (hts _ kcX11_267) dX11_fit_36 ?_
        obtain rfl := Option.some.inj hf
        exact k_lret hx hb hr hlocks hK hP hD hS dX11_fit_39
      · have hf := ite_f hf hc
        refine lv_aload_n hx hb dX11_fit_25 rfl (lv_at hl 0 rfl) ?_
        refine va_get (D := D) (ci := 11) (v := .ref (a0 12)) (C := RX11) (T := TX11) (N := 13) hx hb hts hiX11 hown hK hP 0 rfl rfl 12 (by decide) (hts _ flX11_95) (fun _ h9 => h9) rfl dX11_fit_26 ?_
        refine lv_iload_n hx hb dX11_fit_29 rfl (lv_at hl 1 rfl) ?_
        obtain ⟨q4, hq4, hf⟩ := bd_s hf
        refine k_pVl (wr := W11 cs h0 a0 ) (ws2 := W11 cs h0 a0  ++ W1 cs (a0 12) a1 i1 r1 u1) (As := [.int x1]) (rest := []) hx hb hml hown hts hK hA hZ hl.1 hP hD hS (c_X1_fitting (h0 := (a0 12)) (a0 := a1) hq4) (gVt mlX11_263 imX1_fitting seX1_fitting inX1 coX1_fitting) rfl qnX1_fitting rfl rfl ⟨Nat.le_of_ble_eq_true rfl, Nat.le_of_ble_eq_true rfl⟩ [1, 2, 3, 4, 5, 6, 7, 8, 9, 10, 11] [0] [0, 1, 2, 3, 4, 5, 6, 7, 8, 9, 10, 11] rfl rfl rfl (by decide) 0 1 rfl rfl rfl rfl rfl (Nat.le_of_ble_eq_true rfl) ⟨Nat.zero_le _, Nat.zero_le _⟩ dX11_fit_30 (fun H locs hP hD hS => ?_)
        refine lv_goto (tgt := 39) hx hb dX11_fit_33 (by decide) ?_
        obtain rfl := Option.some.inj hf
        exact k_lret hx hb hr hlocks hK hP hD hS dX11_fit_39
    · have hf := ite_f hf hc
      refine lv_ldc2 (v := (-2)) hx hb hown (hts _ kcX11_146) dX11_fit_11 ?_
      obtain rfl := Option.some.inj hf
      exact k_lret hx hb hr hlocks hK hP hD hS dX11_fit_14
/-! MarbleFloor.look()I -/
abbrev wlX11_look : List Cond := Cond.code yX11_look cX11_look 1 (some .int) :: tbG
abbrev rmX11_look : Room := { frames := 3, cells := 0, slots := 0, locals := 77 }
theorem qnX11_look : yX11_look.cls = RX11 ∧ yX11_look.cls ≠ "java/lang/invoke/MethodHandle" ∧ yX11_look.cls ≠ "java/lang/invoke/VarHandle" ∧ (parseMethodDescriptor yX11_look.desc).map (fun d => d.parameters.length) = some 0 := by decide +kernel
def f_X11_look  (i1 : Nat → Int32) (r1 : Nat → Nat → Int32) (u1 : Nat → Nat)  : Option (Int32 × (Nat → Nat → Int32)) := bd (f_X1_watching i1 r1 u1) (fun q3 => if q3 = 0 then (some ((-4), r1)) else (bd (f_X1_bestRow i1 r1 u1) (fun q4 => some (q4.1, q4.2))))
set_option maxRecDepth 100000 in
set_option maxHeartbeats 4000000 in
theorem c_X11_look {l : Launch} {D : va_G} {cs zs : Nat → Nat} {h0 : Nat} {a0 : Nat → Nat} {a1 : Nat → Nat} {i1 : Nat → Int32} {r1 : Nat → Nat → Int32} {u1 : Nat → Nat}  {q : Int32 × (Nat → Nat → Int32)} (hf : f_X11_look i1 r1 u1 = some q) : Mi l yX11_look wlX11_look rmX11_look D cs zs [.ref h0] (W11 cs h0 a0  ++ W1 cs (a0 12) a1 i1 r1 u1) q.1 (W11 cs h0 a0  ++ W1 cs (a0 12) a1 i1 q.2 u1) := by
  refine Mi.of RX11 (by decide) rfl (Nat.le_of_ble_eq_true rfl) (fun p e s m below meth c A C hP hD hS ls hl => ?_)
  generalize ([.ref h0] : List Value).toArray = args at C ⊢
  obtain ⟨hx, hb, hr, hml, hown, hts, hK, hA, hlocks, hZ⟩ := id C
  have hl : lv_has ls 1 [(0, .ref h0)] := hl
  rw [f_X11_look] at hf
  refine lv_aload_n hx hb dX11_look_0 rfl (lv_at hl 0 rfl) ?_
  refine va_get (D := D) (ci := 11) (v := .ref (a0 12)) (C := RX11) (T := TX11) (N := 13) hx hb hts hiX11 hown hK hP 0 rfl rfl 12 (by decide) (hts _ flX11_95) (fun _ h9 => h9) rfl dX11_look_1 ?_
  obtain ⟨q3, hq3, hf⟩ := bd_s hf
  refine k_pVi (wr := W11 cs h0 a0 ) (ws2 := W11 cs h0 a0  ++ W1 cs (a0 12) a1 i1 r1 u1) (As := []) (rest := []) hx hb hml hown hts hK hA hZ hl.1 hP hD hS (c_X1_watching (h0 := (a0 12)) (a0 := a1) hq3) (gVt mlX11_259 imX1_watching seX1_watching inX1 coX1_watching) rfl qnX1_watching rfl rfl ⟨Nat.le_of_ble_eq_true rfl, Nat.le_of_ble_eq_true rfl⟩ [1, 2, 3, 4, 5, 6, 7, 8, 9, 10, 11] [0] [0, 1, 2, 3, 4, 5, 6, 7, 8, 9, 10, 11] rfl rfl rfl (by decide) 0 1 rfl rfl rfl rfl rfl (Nat.le_of_ble_eq_true rfl) ⟨Nat.zero_le _, Nat.zero_le _⟩ dX11_look_4 (fun H locs hP hD hS => ?_)
  refine lv_if_eq (tgt := 20) hx hb dX11_look_7 (by decide) (fun hc => ?_) (fun hc => ?_)
  · have hf := ite_t hf hc
    refine lv_bipush (v := (-4)) hx hb dX11_look_20 (by decide) ?_
    obtain rfl := Option.some.inj hf
    exact k_iret hx hb hr hlocks hK hP hD hS dX11_look_22
  · have hf := ite_f hf hc
    refine lv_aload_n hx hb dX11_look_10 rfl (lv_at hl 0 rfl) ?_
    refine va_get (D := D) (ci := 11) (v := .ref (a0 12)) (C := RX11) (T := TX11) (N := 13) hx hb hts hiX11 hown hK hP 0 rfl rfl 12 (by decide) (hts _ flX11_95) (fun _ h9 => h9) rfl dX11_look_11 ?_
    obtain ⟨q4, hq4, hf⟩ := bd_s hf
    refine k_pVi (wr := W11 cs h0 a0 ) (ws2 := W11 cs h0 a0  ++ W1 cs (a0 12) a1 i1 q4.2 u1) (As := []) (rest := []) hx hb hml hown hts hK hA hZ hl.1 hP hD hS (c_X1_bestRow (h0 := (a0 12)) (a0 := a1) hq4) (gVt mlX11_269 imX1_bestRow seX1_bestRow inX1 coX1_bestRow) rfl qnX1_bestRow rfl rfl ⟨Nat.le_of_ble_eq_true rfl, Nat.le_of_ble_eq_true rfl⟩ [1, 2, 3, 4, 5, 6, 7, 8, 9, 10, 11] [0] [0, 1, 2, 3, 4, 5, 6, 7, 8, 9, 10, 11] rfl rfl rfl (by decide) 0 1 rfl rfl rfl rfl rfl (Nat.le_of_ble_eq_true rfl) ⟨Nat.zero_le _, Nat.zero_le _⟩ dX11_look_14 (fun H locs hP hD hS => ?_)
    refine lv_goto (tgt := 22) hx hb dX11_look_17 (by decide) ?_
    obtain rfl := Option.some.inj hf
    exact k_iret hx hb hr hlocks hK hP hD hS dX11_look_22
/-! MarbleFloor.count(I)I -/
abbrev wlX11_count : List Cond := Cond.code yX11_count cX11_count 2 (some .int) :: tbG
abbrev rmX11_count : Room := { frames := 2, cells := 0, slots := 0, locals := 43 }
theorem qnX11_count : yX11_count.cls = RX11 ∧ yX11_count.cls ≠ "java/lang/invoke/MethodHandle" ∧ yX11_count.cls ≠ "java/lang/invoke/VarHandle" ∧ (parseMethodDescriptor yX11_count.desc).map (fun d => d.parameters.length) = some 1 := by decide +kernel
def f_X11_count  (i1 : Nat → Int32) (r1 : Nat → Nat → Int32) (l1 : Nat → Nat → Int64) (i2 : Nat → Int32) (r2 : Nat → Nat → Int32) (i3 : Nat → Int32) (r3 : Nat → Nat → Int32) (u3 : Nat → Nat) (i4 : Nat → Int32) (r4 : Nat → Nat → Int32) (l4 : Nat → Nat → Int64) (x1 : Int32) : Option (Int32) := if x1 = 0 then (bd (f_X5_procs i1 r1 l1) (fun q10 => some (q10))) else (if x1 = 1 then (bd (f_X0_heat i2 r2) (fun q11 => some (q11))) else (if x1 = 2 then (bd (f_X0_undoable i2 r2) (fun q12 => some (q12))) else (if x1 = 3 then (bd (f_X0_balls i2 r2) (fun q13 => some (q13))) else (if x1 = 4 then (bd (f_X0_wide i2 r2) (fun q14 => some (q14))) else (if x1 = 5 then (bd (f_X0_high i2 r2) (fun q15 => some (q15))) else (if x1 = 6 then (bd (f_X1_seen i3 r3 u3) (fun q16 => some (q16))) else (if x1 = 7 then (bd (f_X1_rights i3 r3 u3) (fun q17 => some (q17))) else (if x1 = 8 then (bd (f_X9_length i4 r4 l4) (fun q18 => some (q18))) else (some ((-1)))))))))))
set_option maxRecDepth 100000 in
set_option maxHeartbeats 4000000 in
theorem c_X11_count {l : Launch} {D : va_G} {cs zs : Nat → Nat} {h0 : Nat} {a0 : Nat → Nat} {a1 : Nat → Nat} {a2 : Nat → Nat} {a3 : Nat → Nat} {a4 : Nat → Nat} {i1 : Nat → Int32} {r1 : Nat → Nat → Int32} {l1 : Nat → Nat → Int64} {i2 : Nat → Int32} {r2 : Nat → Nat → Int32} {i3 : Nat → Int32} {r3 : Nat → Nat → Int32} {u3 : Nat → Nat} {i4 : Nat → Int32} {r4 : Nat → Nat → Int32} {l4 : Nat → Nat → Int64} {x1 : Int32} {q : Int32} (hf : f_X11_count i1 r1 l1 i2 r2 i3 r3 u3 i4 r4 l4 x1 = some q) : Mi l yX11_count wlX11_count rmX11_count D cs zs [.ref h0, .int x1] (W11 cs h0 a0  ++ (W5 cs (a0 6) a1 i1 r1 l1 ++ (W0 cs (a0 10) a2 i2 r2 ++ (W1 cs (a0 12) a3 i3 r3 u3 ++ W9 cs (a0 0) a4 i4 r4 l4)))) q (W11 cs h0 a0  ++ (W5 cs (a0 6) a1 i1 r1 l1 ++ (W0 cs (a0 10) a2 i2 r2 ++ (W1 cs (a0 12) a3 i3 r3 u3 ++ W9 cs (a0 0) a4 i4 r4 l4)))) := by
  refine Mi.of RX11 (by decide) rfl (Nat.le_of_ble_eq_true rfl) (fun p e s m below meth c A C hP hD hS ls hl => ?_)
  generalize ([.ref h0, .int x1] : List Value).toArray = args at C ⊢
  obtain ⟨hx, hb, hr, hml, hown, hts, hK, hA, hlocks, hZ⟩ := id C
  have hl : lv_has ls 2 [(0, .ref h0), (1, .int x1)] := hl
  rw [f_X11_count] at hf
  refine lv_iload_n hx hb dX11_count_0 rfl (lv_at hl 1 rfl) ?_
  by_cases hc0 : x1 = 0
  · have hf := ite_t hf hc0
    refine lv_tableIn (off := 51) (tgt := 52) hx hb dX11_count_1 (by rw [hc0]; decide) (by rw [hc0]; decide) (by rw [hc0]; rfl) (by decide) ?_
    refine lv_aload_n hx hb dX11_count_52 rfl (lv_at hl 0 rfl) ?_
    refine va_get (D := D) (ci := 11) (v := .ref (a0 6)) (C := RX11) (T := TX11) (N := 13) hx hb hts hiX11 hown hK hP 0 rfl rfl 6 (by decide) (hts _ flX11_53) (fun _ h9 => h9) rfl dX11_count_53 ?_
    obtain ⟨q10, hq10, hf⟩ := bd_s hf
    refine k_pVi (wr := W11 cs h0 a0  ++ W0 cs (a0 10) a2 i2 r2 ++ W1 cs (a0 12) a3 i3 r3 u3 ++ W9 cs (a0 0) a4 i4 r4 l4) (ws2 := W11 cs h0 a0  ++ (W5 cs (a0 6) a1 i1 r1 l1 ++ (W0 cs (a0 10) a2 i2 r2 ++ (W1 cs (a0 12) a3 i3 r3 u3 ++ W9 cs (a0 0) a4 i4 r4 l4)))) (As := []) (rest := []) hx hb hml hown hts hK hA hZ hl.1 hP hD hS (c_X5_procs (h0 := (a0 6)) (a0 := a1) hq10) (gVt mlX11_185 imX5_procs seX5_procs inX5 coX5_procs) rfl qnX5_procs rfl rfl ⟨Nat.le_of_ble_eq_true rfl, Nat.le_of_ble_eq_true rfl⟩ [1, 2, 3, 4, 5, 6, 7, 8, 9, 10, 11, 12, 13, 14] [0, 15, 16, 17, 18, 19, 20, 21, 22, 23, 24, 25, 26, 27, 28, 29, 30, 31, 32, 33, 34, 35, 36, 37, 38, 39, 40, 41, 42, 43, 44, 45, 46, 47] [0, 34, 35, 36, 37, 38, 39, 40, 41, 42, 43, 44, 45, 46, 47, 1, 2, 3, 4, 5, 6, 7, 8, 9, 10, 11, 12, 13, 14, 15, 16, 17, 18, 19, 20, 21, 22, 23, 24, 25, 26, 27, 28, 29, 30, 31, 32, 33] rfl rfl rfl (by decide) 0 5 rfl rfl rfl rfl rfl (Nat.le_of_ble_eq_true rfl) ⟨Nat.zero_le _, Nat.zero_le _⟩ dX11_count_56 (fun H locs hP hD hS => ?_)
    obtain rfl := Option.some.inj hf
    exact k_iret hx hb hr hlocks hK hP hD hS dX11_count_59
  · have hf := ite_f hf hc0
    by_cases hc1 : x1 = 1
    · have hf := ite_t hf hc1
      refine lv_tableIn (off := 59) (tgt := 60) hx hb dX11_count_1 (by rw [hc1]; decide) (by rw [hc1]; decide) (by rw [hc1]; rfl) (by decide) ?_
      refine lv_aload_n hx hb dX11_count_60 rfl (lv_at hl 0 rfl) ?_
      refine va_get (D := D) (ci := 11) (v := .ref (a0 10)) (C := RX11) (T := TX11) (N := 13) hx hb hts hiX11 hown hK hP 0 rfl rfl 10 (by decide) (hts _ flX11_81) (fun _ h9 => h9) rfl dX11_count_61 ?_
      obtain ⟨q11, hq11, hf⟩ := bd_s hf
      refine k_pVi (wr := W11 cs h0 a0  ++ W5 cs (a0 6) a1 i1 r1 l1 ++ W1 cs (a0 12) a3 i3 r3 u3 ++ W9 cs (a0 0) a4 i4 r4 l4) (ws2 := W11 cs h0 a0  ++ (W5 cs (a0 6) a1 i1 r1 l1 ++ (W0 cs (a0 10) a2 i2 r2 ++ (W1 cs (a0 12) a3 i3 r3 u3 ++ W9 cs (a0 0) a4 i4 r4 l4)))) (As := []) (rest := []) hx hb hml hown hts hK hA hZ hl.1 hP hD hS (c_X0_heat (h0 := (a0 10)) (a0 := a2) hq11) (gVt mlX11_272 imX0_heat seX0_heat inX0 coX0_heat) rfl qnX0_heat rfl rfl ⟨Nat.le_of_ble_eq_true rfl, Nat.le_of_ble_eq_true rfl⟩ [15, 16, 17, 18, 19, 20, 21, 22, 23, 24, 25, 26, 27, 28, 29, 30] [0, 1, 2, 3, 4, 5, 6, 7, 8, 9, 10, 11, 12, 13, 14, 31, 32, 33, 34, 35, 36, 37, 38, 39, 40, 41, 42, 43, 44, 45, 46, 47] [0, 1, 2, 3, 4, 5, 6, 7, 8, 9, 10, 11, 12, 13, 14, 32, 33, 34, 35, 36, 37, 38, 39, 40, 41, 42, 43, 44, 45, 46, 47, 15, 16, 17, 18, 19, 20, 21, 22, 23, 24, 25, 26, 27, 28, 29, 30, 31] rfl rfl rfl (by decide) 0 0 rfl rfl rfl rfl rfl (Nat.le_of_ble_eq_true rfl) ⟨Nat.zero_le _, Nat.zero_le _⟩ dX11_count_64 (fun H locs hP hD hS => ?_)
      obtain rfl := Option.some.inj hf
      exact k_iret hx hb hr hlocks hK hP hD hS dX11_count_67
    · have hf := ite_f hf hc1
      by_cases hc2 : x1 = 2
      · have hf := ite_t hf hc2
        refine lv_tableIn (off := 67) (tgt := 68) hx hb dX11_count_1 (by rw [hc2]; decide) (by rw [hc2]; decide) (by rw [hc2]; rfl) (by decide) ?_
        refine lv_aload_n hx hb dX11_count_68 rfl (lv_at hl 0 rfl) ?_
        refine va_get (D := D) (ci := 11) (v := .ref (a0 10)) (C := RX11) (T := TX11) (N := 13) hx hb hts hiX11 hown hK hP 0 rfl rfl 10 (by decide) (hts _ flX11_81) (fun _ h9 => h9) rfl dX11_count_69 ?_
        obtain ⟨q12, hq12, hf⟩ := bd_s hf
        refine k_pVi (wr := W11 cs h0 a0  ++ W5 cs (a0 6) a1 i1 r1 l1 ++ W1 cs (a0 12) a3 i3 r3 u3 ++ W9 cs (a0 0) a4 i4 r4 l4) (ws2 := W11 cs h0 a0  ++ (W5 cs (a0 6) a1 i1 r1 l1 ++ (W0 cs (a0 10) a2 i2 r2 ++ (W1 cs (a0 12) a3 i3 r3 u3 ++ W9 cs (a0 0) a4 i4 r4 l4)))) (As := []) (rest := []) hx hb hml hown hts hK hA hZ hl.1 hP hD hS (c_X0_undoable (h0 := (a0 10)) (a0 := a2) hq12) (gVt mlX11_234 imX0_undoable seX0_undoable inX0 coX0_undoable) rfl qnX0_undoable rfl rfl ⟨Nat.le_of_ble_eq_true rfl, Nat.le_of_ble_eq_true rfl⟩ [15, 16, 17, 18, 19, 20, 21, 22, 23, 24, 25, 26, 27, 28, 29, 30] [0, 1, 2, 3, 4, 5, 6, 7, 8, 9, 10, 11, 12, 13, 14, 31, 32, 33, 34, 35, 36, 37, 38, 39, 40, 41, 42, 43, 44, 45, 46, 47] [0, 1, 2, 3, 4, 5, 6, 7, 8, 9, 10, 11, 12, 13, 14, 32, 33, 34, 35, 36, 37, 38, 39, 40, 41, 42, 43, 44, 45, 46, 47, 15, 16, 17, 18, 19, 20, 21, 22, 23, 24, 25, 26, 27, 28, 29, 30, 31] rfl rfl rfl (by decide) 0 0 rfl rfl rfl rfl rfl (Nat.le_of_ble_eq_true rfl) ⟨Nat.zero_le _, Nat.zero_le _⟩ dX11_count_72 (fun H locs hP hD hS => ?_)
        obtain rfl := Option.some.inj hf
        exact k_iret hx hb hr hlocks hK hP hD hS dX11_count_75
      · have hf := ite_f hf hc2
        by_cases hc3 : x1 = 3
        · have hf := ite_t hf hc3
          refine lv_tableIn (off := 75) (tgt := 76) hx hb dX11_count_1 (by rw [hc3]; decide) (by rw [hc3]; decide) (by rw [hc3]; rfl) (by decide) ?_
          refine lv_aload_n hx hb dX11_count_76 rfl (lv_at hl 0 rfl) ?_
          refine va_get (D := D) (ci := 11) (v := .ref (a0 10)) (C := RX11) (T := TX11) (N := 13) hx hb hts hiX11 hown hK hP 0 rfl rfl 10 (by decide) (hts _ flX11_81) (fun _ h9 => h9) rfl dX11_count_77 ?_
          obtain ⟨q13, hq13, hf⟩ := bd_s hf
          refine k_pVi (wr := W11 cs h0 a0  ++ W5 cs (a0 6) a1 i1 r1 l1 ++ W1 cs (a0 12) a3 i3 r3 u3 ++ W9 cs (a0 0) a4 i4 r4 l4) (ws2 := W11 cs h0 a0  ++ (W5 cs (a0 6) a1 i1 r1 l1 ++ (W0 cs (a0 10) a2 i2 r2 ++ (W1 cs (a0 12) a3 i3 r3 u3 ++ W9 cs (a0 0) a4 i4 r4 l4)))) (As := []) (rest := []) hx hb hml hown hts hK hA hZ hl.1 hP hD hS (c_X0_balls (h0 := (a0 10)) (a0 := a2) hq13) (gVt mlX11_231 imX0_balls seX0_balls inX0 coX0_balls) rfl qnX0_balls rfl rfl ⟨Nat.le_of_ble_eq_true rfl, Nat.le_of_ble_eq_true rfl⟩ [15, 16, 17, 18, 19, 20, 21, 22, 23, 24, 25, 26, 27, 28, 29, 30] [0, 1, 2, 3, 4, 5, 6, 7, 8, 9, 10, 11, 12, 13, 14, 31, 32, 33, 34, 35, 36, 37, 38, 39, 40, 41, 42, 43, 44, 45, 46, 47] [0, 1, 2, 3, 4, 5, 6, 7, 8, 9, 10, 11, 12, 13, 14, 32, 33, 34, 35, 36, 37, 38, 39, 40, 41, 42, 43, 44, 45, 46, 47, 15, 16, 17, 18, 19, 20, 21, 22, 23, 24, 25, 26, 27, 28, 29, 30, 31] rfl rfl rfl (by decide) 0 0 rfl rfl rfl rfl rfl (Nat.le_of_ble_eq_true rfl) ⟨Nat.zero_le _, Nat.zero_le _⟩ dX11_count_80 (fun H locs hP hD hS => ?_)
          obtain rfl := Option.some.inj hf
          exact k_iret hx hb hr hlocks hK hP hD hS dX11_count_83
        · have hf := ite_f hf hc3
          by_cases hc4 : x1 = 4
          · have hf := ite_t hf hc4
            refine lv_tableIn (off := 83) (tgt := 84) hx hb dX11_count_1 (by rw [hc4]; decide) (by rw [hc4]; decide) (by rw [hc4]; rfl) (by decide) ?_
            refine lv_aload_n hx hb dX11_count_84 rfl (lv_at hl 0 rfl) ?_
            refine va_get (D := D) (ci := 11) (v := .ref (a0 10)) (C := RX11) (T := TX11) (N := 13) hx hb hts hiX11 hown hK hP 0 rfl rfl 10 (by decide) (hts _ flX11_81) (fun _ h9 => h9) rfl dX11_count_85 ?_
            obtain ⟨q14, hq14, hf⟩ := bd_s hf
            refine k_pVi (wr := W11 cs h0 a0  ++ W5 cs (a0 6) a1 i1 r1 l1 ++ W1 cs (a0 12) a3 i3 r3 u3 ++ W9 cs (a0 0) a4 i4 r4 l4) (ws2 := W11 cs h0 a0  ++ (W5 cs (a0 6) a1 i1 r1 l1 ++ (W0 cs (a0 10) a2 i2 r2 ++ (W1 cs (a0 12) a3 i3 r3 u3 ++ W9 cs (a0 0) a4 i4 r4 l4)))) (As := []) (rest := []) hx hb hml hown hts hK hA hZ hl.1 hP hD hS (c_X0_wide (h0 := (a0 10)) (a0 := a2) hq14) (gVt mlX11_275 imX0_wide seX0_wide inX0 coX0_wide) rfl qnX0_wide rfl rfl ⟨Nat.le_of_ble_eq_true rfl, Nat.le_of_ble_eq_true rfl⟩ [15, 16, 17, 18, 19, 20, 21, 22, 23, 24, 25, 26, 27, 28, 29, 30] [0, 1, 2, 3, 4, 5, 6, 7, 8, 9, 10, 11, 12, 13, 14, 31, 32, 33, 34, 35, 36, 37, 38, 39, 40, 41, 42, 43, 44, 45, 46, 47] [0, 1, 2, 3, 4, 5, 6, 7, 8, 9, 10, 11, 12, 13, 14, 32, 33, 34, 35, 36, 37, 38, 39, 40, 41, 42, 43, 44, 45, 46, 47, 15, 16, 17, 18, 19, 20, 21, 22, 23, 24, 25, 26, 27, 28, 29, 30, 31] rfl rfl rfl (by decide) 0 0 rfl rfl rfl rfl rfl (Nat.le_of_ble_eq_true rfl) ⟨Nat.zero_le _, Nat.zero_le _⟩ dX11_count_88 (fun H locs hP hD hS => ?_)
            obtain rfl := Option.some.inj hf
            exact k_iret hx hb hr hlocks hK hP hD hS dX11_count_91
          · have hf := ite_f hf hc4
            by_cases hc5 : x1 = 5
            · have hf := ite_t hf hc5
              refine lv_tableIn (off := 91) (tgt := 92) hx hb dX11_count_1 (by rw [hc5]; decide) (by rw [hc5]; decide) (by rw [hc5]; rfl) (by decide) ?_
              refine lv_aload_n hx hb dX11_count_92 rfl (lv_at hl 0 rfl) ?_
              refine va_get (D := D) (ci := 11) (v := .ref (a0 10)) (C := RX11) (T := TX11) (N := 13) hx hb hts hiX11 hown hK hP 0 rfl rfl 10 (by decide) (hts _ flX11_81) (fun _ h9 => h9) rfl dX11_count_93 ?_
              obtain ⟨q15, hq15, hf⟩ := bd_s hf
              refine k_pVi (wr := W11 cs h0 a0  ++ W5 cs (a0 6) a1 i1 r1 l1 ++ W1 cs (a0 12) a3 i3 r3 u3 ++ W9 cs (a0 0) a4 i4 r4 l4) (ws2 := W11 cs h0 a0  ++ (W5 cs (a0 6) a1 i1 r1 l1 ++ (W0 cs (a0 10) a2 i2 r2 ++ (W1 cs (a0 12) a3 i3 r3 u3 ++ W9 cs (a0 0) a4 i4 r4 l4)))) (As := []) (rest := []) hx hb hml hown hts hK hA hZ hl.1 hP hD hS (c_X0_high (h0 := (a0 10)) (a0 := a2) hq15) (gVt mlX11_278 imX0_high seX0_high inX0 coX0_high) rfl qnX0_high rfl rfl ⟨Nat.le_of_ble_eq_true rfl, Nat.le_of_ble_eq_true rfl⟩ [15, 16, 17, 18, 19, 20, 21, 22, 23, 24, 25, 26, 27, 28, 29, 30] [0, 1, 2, 3, 4, 5, 6, 7, 8, 9, 10, 11, 12, 13, 14, 31, 32, 33, 34, 35, 36, 37, 38, 39, 40, 41, 42, 43, 44, 45, 46, 47] [0, 1, 2, 3, 4, 5, 6, 7, 8, 9, 10, 11, 12, 13, 14, 32, 33, 34, 35, 36, 37, 38, 39, 40, 41, 42, 43, 44, 45, 46, 47, 15, 16, 17, 18, 19, 20, 21, 22, 23, 24, 25, 26, 27, 28, 29, 30, 31] rfl rfl rfl (by decide) 0 0 rfl rfl rfl rfl rfl (Nat.le_of_ble_eq_true rfl) ⟨Nat.zero_le _, Nat.zero_le _⟩ dX11_count_96 (fun H locs hP hD hS => ?_)
              obtain rfl := Option.some.inj hf
              exact k_iret hx hb hr hlocks hK hP hD hS dX11_count_99
            · have hf := ite_f hf hc5
              by_cases hc6 : x1 = 6
              · have hf := ite_t hf hc6
                refine lv_tableIn (off := 99) (tgt := 100) hx hb dX11_count_1 (by rw [hc6]; decide) (by rw [hc6]; decide) (by rw [hc6]; rfl) (by decide) ?_
                refine lv_aload_n hx hb dX11_count_100 rfl (lv_at hl 0 rfl) ?_
                refine va_get (D := D) (ci := 11) (v := .ref (a0 12)) (C := RX11) (T := TX11) (N := 13) hx hb hts hiX11 hown hK hP 0 rfl rfl 12 (by decide) (hts _ flX11_95) (fun _ h9 => h9) rfl dX11_count_101 ?_
                obtain ⟨q16, hq16, hf⟩ := bd_s hf
                refine k_pVi (wr := W11 cs h0 a0  ++ W5 cs (a0 6) a1 i1 r1 l1 ++ W0 cs (a0 10) a2 i2 r2 ++ W9 cs (a0 0) a4 i4 r4 l4) (ws2 := W11 cs h0 a0  ++ (W5 cs (a0 6) a1 i1 r1 l1 ++ (W0 cs (a0 10) a2 i2 r2 ++ (W1 cs (a0 12) a3 i3 r3 u3 ++ W9 cs (a0 0) a4 i4 r4 l4)))) (As := []) (rest := []) hx hb hml hown hts hK hA hZ hl.1 hP hD hS (c_X1_seen (h0 := (a0 12)) (a0 := a3) hq16) (gVt mlX11_281 imX1_seen seX1_seen inX1 coX1_seen) rfl qnX1_seen rfl rfl ⟨Nat.le_of_ble_eq_true rfl, Nat.le_of_ble_eq_true rfl⟩ [31, 32, 33, 34, 35, 36, 37, 38, 39, 40, 41] [0, 1, 2, 3, 4, 5, 6, 7, 8, 9, 10, 11, 12, 13, 14, 15, 16, 17, 18, 19, 20, 21, 22, 23, 24, 25, 26, 27, 28, 29, 30, 42, 43, 44, 45, 46, 47] [0, 1, 2, 3, 4, 5, 6, 7, 8, 9, 10, 11, 12, 13, 14, 15, 16, 17, 18, 19, 20, 21, 22, 23, 24, 25, 26, 27, 28, 29, 30, 37, 38, 39, 40, 41, 42, 43, 44, 45, 46, 47, 31, 32, 33, 34, 35, 36] rfl rfl rfl (by decide) 0 1 rfl rfl rfl rfl rfl (Nat.le_of_ble_eq_true rfl) ⟨Nat.zero_le _, Nat.zero_le _⟩ dX11_count_104 (fun H locs hP hD hS => ?_)
                obtain rfl := Option.some.inj hf
                exact k_iret hx hb hr hlocks hK hP hD hS dX11_count_107
              · have hf := ite_f hf hc6
                by_cases hc7 : x1 = 7
                · have hf := ite_t hf hc7
                  refine lv_tableIn (off := 107) (tgt := 108) hx hb dX11_count_1 (by rw [hc7]; decide) (by rw [hc7]; decide) (by rw [hc7]; rfl) (by decide) ?_
                  refine lv_aload_n hx hb dX11_count_108 rfl (lv_at hl 0 rfl) ?_
                  refine va_get (D := D) (ci := 11) (v := .ref (a0 12)) (C := RX11) (T := TX11) (N := 13) hx hb hts hiX11 hown hK hP 0 rfl rfl 12 (by decide) (hts _ flX11_95) (fun _ h9 => h9) rfl dX11_count_109 ?_
                  obtain ⟨q17, hq17, hf⟩ := bd_s hf
                  refine k_pVi (wr := W11 cs h0 a0  ++ W5 cs (a0 6) a1 i1 r1 l1 ++ W0 cs (a0 10) a2 i2 r2 ++ W9 cs (a0 0) a4 i4 r4 l4) (ws2 := W11 cs h0 a0  ++ (W5 cs (a0 6) a1 i1 r1 l1 ++ (W0 cs (a0 10) a2 i2 r2 ++ (W1 cs (a0 12) a3 i3 r3 u3 ++ W9 cs (a0 0) a4 i4 r4 l4)))) (As := []) (rest := []) hx hb hml hown hts hK hA hZ hl.1 hP hD hS (c_X1_rights (h0 := (a0 12)) (a0 := a3) hq17) (gVt mlX11_284 imX1_rights seX1_rights inX1 coX1_rights) rfl qnX1_rights rfl rfl ⟨Nat.le_of_ble_eq_true rfl, Nat.le_of_ble_eq_true rfl⟩ [31, 32, 33, 34, 35, 36, 37, 38, 39, 40, 41] [0, 1, 2, 3, 4, 5, 6, 7, 8, 9, 10, 11, 12, 13, 14, 15, 16, 17, 18, 19, 20, 21, 22, 23, 24, 25, 26, 27, 28, 29, 30, 42, 43, 44, 45, 46, 47] [0, 1, 2, 3, 4, 5, 6, 7, 8, 9, 10, 11, 12, 13, 14, 15, 16, 17, 18, 19, 20, 21, 22, 23, 24, 25, 26, 27, 28, 29, 30, 37, 38, 39, 40, 41, 42, 43, 44, 45, 46, 47, 31, 32, 33, 34, 35, 36] rfl rfl rfl (by decide) 0 1 rfl rfl rfl rfl rfl (Nat.le_of_ble_eq_true rfl) ⟨Nat.zero_le _, Nat.zero_le _⟩ dX11_count_112 (fun H locs hP hD hS => ?_)
                  obtain rfl := Option.some.inj hf
                  exact k_iret hx hb hr hlocks hK hP hD hS dX11_count_115
                · have hf := ite_f hf hc7
                  by_cases hc8 : x1 = 8
                  · have hf := ite_t hf hc8
                    refine lv_tableIn (off := 115) (tgt := 116) hx hb dX11_count_1 (by rw [hc8]; decide) (by rw [hc8]; decide) (by rw [hc8]; rfl) (by decide) ?_
                    refine lv_aload_n hx hb dX11_count_116 rfl (lv_at hl 0 rfl) ?_
                    refine va_get (D := D) (ci := 11) (v := .ref (a0 0)) (C := RX11) (T := TX11) (N := 13) hx hb hts hiX11 hown hK hP 0 rfl rfl 0 (by decide) (hts _ flX11_10) (fun _ h9 => h9) rfl dX11_count_117 ?_
                    obtain ⟨q18, hq18, hf⟩ := bd_s hf
                    refine k_pVi (wr := W11 cs h0 a0  ++ W5 cs (a0 6) a1 i1 r1 l1 ++ W0 cs (a0 10) a2 i2 r2 ++ W1 cs (a0 12) a3 i3 r3 u3) (ws2 := W11 cs h0 a0  ++ (W5 cs (a0 6) a1 i1 r1 l1 ++ (W0 cs (a0 10) a2 i2 r2 ++ (W1 cs (a0 12) a3 i3 r3 u3 ++ W9 cs (a0 0) a4 i4 r4 l4)))) (As := []) (rest := []) hx hb hml hown hts hK hA hZ hl.1 hP hD hS (c_X9_length (h0 := (a0 0)) (a0 := a4) hq18) (gVt mlX11_287 imX9_length seX9_length inX9 coX9_length) rfl qnX9_length rfl rfl ⟨Nat.le_of_ble_eq_true rfl, Nat.le_of_ble_eq_true rfl⟩ [42, 43, 44, 45, 46, 47] [0, 1, 2, 3, 4, 5, 6, 7, 8, 9, 10, 11, 12, 13, 14, 15, 16, 17, 18, 19, 20, 21, 22, 23, 24, 25, 26, 27, 28, 29, 30, 31, 32, 33, 34, 35, 36, 37, 38, 39, 40, 41] [0, 1, 2, 3, 4, 5, 6, 7, 8, 9, 10, 11, 12, 13, 14, 15, 16, 17, 18, 19, 20, 21, 22, 23, 24, 25, 26, 27, 28, 29, 30, 31, 32, 33, 34, 35, 36, 37, 38, 39, 40, 41, 42, 43, 44, 45, 46, 47] rfl rfl rfl (by decide) 0 9 rfl rfl rfl rfl rfl (Nat.le_of_ble_eq_true rfl) ⟨Nat.zero_le _, Nat.zero_le _⟩ dX11_count_120 (fun H locs hP hD hS => ?_)
                    obtain rfl := Option.some.inj hf
                    exact k_iret hx hb hr hlocks hK hP hD hS dX11_count_123
                  · have hf := ite_f hf hc8
                    have z0 := sw_ne (k := 0) (by decide) hc0
                    have z1 := sw_ne (k := 1) (by decide) hc1
                    have z2 := sw_ne (k := 2) (by decide) hc2
                    have z3 := sw_ne (k := 3) (by decide) hc3
                    have z4 := sw_ne (k := 4) (by decide) hc4
                    have z5 := sw_ne (k := 5) (by decide) hc5
                    have z6 := sw_ne (k := 6) (by decide) hc6
                    have z7 := sw_ne (k := 7) (by decide) hc7
                    have z8 := sw_ne (k := 8) (by decide) hc8
                    refine lv_tableOut (tgt := 124) hx hb dX11_count_1 (by omega) (by decide) ?_
                    refine lv_iconst (v := (-1)) hx hb dX11_count_124 (by decide) ?_
                    obtain rfl := Option.some.inj hf
                    exact k_iret hx hb hr hlocks hK hP hD hS dX11_count_125
/-! MarbleFloor.program()I -/
abbrev wlX11_program : List Cond := Cond.code yX11_program cX11_program 3 (some .int) :: tbG
abbrev rmX11_program : Room := { frames := 7, cells := 0, slots := 0, locals := 157 }
theorem qnX11_program : yX11_program.cls = RX11 ∧ yX11_program.cls ≠ "java/lang/invoke/MethodHandle" ∧ yX11_program.cls ≠ "java/lang/invoke/VarHandle" ∧ (parseMethodDescriptor yX11_program.desc).map (fun d => d.parameters.length) = some 0 := by decide +kernel
def f_X11_program  (i1 : Nat → Int32) (r1 : Nat → Nat → Int32) (i2 : Nat → Int32) (r2 : Nat → Nat → Int32) (l2 : Nat → Nat → Int64) (i3 : Nat → Int32) (r3 : Nat → Nat → Int32) (l3 : Nat → Nat → Int64) (i4 : Nat → Int32) (r4 : Nat → Nat → Int32) (l4 : Nat → Nat → Int64)  : Option (Int32 × (Nat → Int32) × (Nat → Nat → Int32) × (Nat → Int32) × (Nat → Nat → Int64) × (Nat → Nat → Int32) × (Nat → Int32) × (Nat → Nat → Int64) × (Nat → Nat → Int32) × Nat) := bd (f_X6_readInto i1 r1 i2 r2 l2 i3 r3 l3) (fun q4 => bd (f_X9_empty q4.2.2.2.1 q4.2.2.2.2.2.1 q4.2.2.2.2.1) (fun q5 => if q4.1 = 0 then (some ((-1), q4.2.1, q4.2.2.1, q5, q4.2.2.2.2.1, q4.2.2.2.2.2.1, q4.2.2.2.2.2.2.1, q4.2.2.2.2.2.2.2.1, q4.2.2.2.2.2.2.2.2, 1)) else (bd (f_X5_procs q4.2.2.2.2.2.2.1 q4.2.2.2.2.2.2.2.2 q4.2.2.2.2.2.2.2.1) (fun q6 => some (q6, q4.2.1, q4.2.2.1, q5, q4.2.2.2.2.1, q4.2.2.2.2.2.1, q4.2.2.2.2.2.2.1, q4.2.2.2.2.2.2.2.1, q4.2.2.2.2.2.2.2.2, 0)))))
set_option maxRecDepth 100000 in
set_option maxHeartbeats 4000000 in
theorem c_X11_program {l : Launch} {D : va_G} {cs zs : Nat → Nat} {h0 : Nat} {a0 : Nat → Nat} {a1 : Nat → Nat} {a2 : Nat → Nat} {a3 : Nat → Nat} {a4 : Nat → Nat} {i1 : Nat → Int32} {r1 : Nat → Nat → Int32} {i2 : Nat → Int32} {r2 : Nat → Nat → Int32} {l2 : Nat → Nat → Int64} {i3 : Nat → Int32} {r3 : Nat → Nat → Int32} {l3 : Nat → Nat → Int64} {i4 : Nat → Int32} {r4 : Nat → Nat → Int32} {l4 : Nat → Nat → Int64}  {q : Int32 × (Nat → Int32) × (Nat → Nat → Int32) × (Nat → Int32) × (Nat → Nat → Int64) × (Nat → Nat → Int32) × (Nat → Int32) × (Nat → Nat → Int64) × (Nat → Nat → Int32) × Nat} (hf : f_X11_program i1 r1 i2 r2 l2 i3 r3 l3 i4 r4 l4 = some q) : Mi l yX11_program wlX11_program rmX11_program D cs zs [.ref h0] (W11 cs h0 a0  ++ (W6 cs (a0 8) (va_up a1 0 (a0 0)) i1 r1 ++ (W9 cs (a0 0) a2 i2 r2 l2 ++ (W5 cs (a0 7) a3 i3 r3 l3 ++ W5 cs (a0 6) a4 i4 r4 l4)))) q.1 (W11 cs h0 (if q.2.2.2.2.2.2.2.2.2 = 0 then (va_up (va_up a0 6 (a0 7)) 7 (a0 6)) else a0)  ++ (W6 cs (a0 8) (va_up (va_up a1 0 (a0 0)) 3 (a0 7)) q.2.1 q.2.2.1 ++ (W9 cs (a0 0) a2 q.2.2.2.1 q.2.2.2.2.2.1 q.2.2.2.2.1 ++ (W5 cs (a0 7) a3 q.2.2.2.2.2.2.1 q.2.2.2.2.2.2.2.2.1 q.2.2.2.2.2.2.2.1 ++ W5 cs (a0 6) a4 i4 r4 l4)))) := by
  refine Mi.of RX11 (by decide) rfl (Nat.le_of_ble_eq_true rfl) (fun p e s m below meth c A C hP hD hS ls hl => ?_)
  generalize ([.ref h0] : List Value).toArray = args at C ⊢
  obtain ⟨hx, hb, hr, hml, hown, hts, hK, hA, hlocks, hZ⟩ := id C
  have hl : lv_has ls 3 [(0, .ref h0)] := hl
  rw [f_X11_program] at hf
  refine lv_aload_n hx hb dX11_program_0 rfl (lv_at hl 0 rfl) ?_
  refine va_get (D := D) (ci := 11) (v := .ref (a0 8)) (C := RX11) (T := TX11) (N := 13) hx hb hts hiX11 hown hK hP 0 rfl rfl 8 (by decide) (hts _ flX11_65) (fun _ h9 => h9) rfl dX11_program_1 ?_
  refine lv_aload_n hx hb dX11_program_4 rfl (lv_at hl 0 rfl) ?_
  refine va_get (D := D) (ci := 11) (v := .ref (a0 7)) (C := RX11) (T := TX11) (N := 13) hx hb hts hiX11 hown hK hP 0 rfl rfl 7 (by decide) (hts _ flX11_57) (fun _ h9 => h9) rfl dX11_program_5 ?_
  obtain ⟨q4, hq4, hf⟩ := bd_s hf
  refine k_pVi (wr := W11 cs h0 a0  ++ W5 cs (a0 6) a4 i4 r4 l4) (ws2 := W11 cs h0 a0  ++ (W6 cs (a0 8) (va_up (va_up a1 0 (a0 0)) 3 (a0 7)) q4.2.1 q4.2.2.1 ++ (W9 cs (a0 0) a2 q4.2.2.2.1 q4.2.2.2.2.2.1 q4.2.2.2.2.1 ++ (W5 cs (a0 7) a3 q4.2.2.2.2.2.2.1 q4.2.2.2.2.2.2.2.2 q4.2.2.2.2.2.2.2.1 ++ W5 cs (a0 6) a4 i4 r4 l4)))) (As := [.ref (a0 7)]) (rest := []) hx hb hml hown hts hK hA hZ hl.1 hP hD hS (c_X6_readInto (h0 := (a0 8)) (a0 := (va_up a1 0 (a0 0))) (a1 := a2) (h2 := (a0 7)) (a2 := a3) hq4) (gVt mlX11_182 imX6_readInto seX6_readInto inX6 coX6_readInto) rfl qnX6_readInto rfl rfl ⟨Nat.le_of_ble_eq_true rfl, Nat.le_of_ble_eq_true rfl⟩ [1, 2, 3, 4, 5, 6, 7, 8, 9, 10, 11, 12, 13, 14, 15, 16, 17, 18, 19, 20, 21, 22, 23] [0, 24, 25, 26, 27, 28, 29, 30, 31, 32, 33, 34, 35, 36, 37] [0, 15, 16, 17, 18, 19, 20, 21, 22, 23, 24, 25, 26, 27, 28, 29, 30, 31, 32, 33, 34, 35, 36, 37, 1, 2, 3, 4, 5, 6, 7, 8, 9, 10, 11, 12, 13, 14] rfl rfl rfl (by decide) 0 6 rfl rfl rfl rfl rfl (Nat.le_of_ble_eq_true rfl) ⟨Nat.zero_le _, Nat.zero_le _⟩ dX11_program_8 (fun H locs hP hD hS => ?_)
  refine lv_istore_n (lv' := [(1, .int q4.1), (0, .ref h0)]) hx hb dX11_program_11 rfl hl (by decide) rfl (fun ls hl => ?_)
  refine lv_aload_n hx hb dX11_program_12 rfl (lv_at hl 1 rfl) ?_
  refine va_get (D := D) (ci := 11) (v := .ref (a0 0)) (C := RX11) (T := TX11) (N := 13) hx hb hts hiX11 hown hK hP 0 rfl rfl 0 (by decide) (hts _ flX11_10) (fun _ h9 => h9) rfl dX11_program_13 ?_
  obtain ⟨q5, hq5, hf⟩ := bd_s hf
  refine k_pVv (wr := W11 cs h0 a0  ++ W6 cs (a0 8) (va_up (va_up a1 0 (a0 0)) 3 (a0 7)) q4.2.1 q4.2.2.1 ++ W5 cs (a0 7) a3 q4.2.2.2.2.2.2.1 q4.2.2.2.2.2.2.2.2 q4.2.2.2.2.2.2.2.1 ++ W5 cs (a0 6) a4 i4 r4 l4) (ws2 := W11 cs h0 a0  ++ (W6 cs (a0 8) (va_up (va_up a1 0 (a0 0)) 3 (a0 7)) q4.2.1 q4.2.2.1 ++ (W9 cs (a0 0) a2 q5 q4.2.2.2.2.2.1 q4.2.2.2.2.1 ++ (W5 cs (a0 7) a3 q4.2.2.2.2.2.2.1 q4.2.2.2.2.2.2.2.2 q4.2.2.2.2.2.2.2.1 ++ W5 cs (a0 6) a4 i4 r4 l4)))) (As := []) (rest := []) hx hb hml hown hts hK hA hZ hl.1 hP hD hS (c_X9_empty (h0 := (a0 0)) (a0 := a2) hq5) (gVt mlX11_111 imX9_empty seX9_empty inX9 coX9_empty) rfl qnX9_empty rfl rfl ⟨Nat.le_of_ble_eq_true rfl, Nat.le_of_ble_eq_true rfl⟩ [4, 5, 6, 7, 8, 9] [0, 1, 2, 3, 10, 11, 12, 13, 14, 15, 16, 17, 18, 19, 20, 21, 22, 23, 24, 25, 26, 27, 28, 29, 30, 31, 32, 33, 34, 35, 36, 37] [0, 1, 2, 3, 32, 33, 34, 35, 36, 37, 4, 5, 6, 7, 8, 9, 10, 11, 12, 13, 14, 15, 16, 17, 18, 19, 20, 21, 22, 23, 24, 25, 26, 27, 28, 29, 30, 31] rfl rfl rfl (by decide) 0 9 rfl rfl rfl rfl rfl (Nat.le_of_ble_eq_true rfl) ⟨Nat.zero_le _, Nat.zero_le _⟩ dX11_program_16 (fun H locs hP hD hS => ?_)
  refine lv_iload_n hx hb dX11_program_19 rfl (lv_at hl 0 rfl) ?_
  refine lv_if_ne (tgt := 25) hx hb dX11_program_20 (by decide) (fun hc => ?_) (fun hc => ?_)
  · have hf := ite_f hf hc
    refine lv_aload_n hx hb dX11_program_25 rfl (lv_at hl 1 rfl) ?_
    refine va_get (D := D) (ci := 11) (v := .ref (a0 6)) (C := RX11) (T := TX11) (N := 13) hx hb hts hiX11 hown hK hP 0 rfl rfl 6 (by decide) (hts _ flX11_53) (fun _ h9 => h9) rfl dX11_program_26 ?_
    refine lv_astore_n (lv' := [(2, .ref (a0 6)), (1, .int q4.1), (0, .ref h0)]) hx hb dX11_program_29 rfl hl (by decide) rfl (fun ls hl => ?_)
    refine lv_aload_n hx hb dX11_program_30 rfl (lv_at hl 2 rfl) ?_
    refine lv_aload_n hx hb dX11_program_31 rfl (lv_at hl 2 rfl) ?_
    refine va_get (D := D) (ci := 11) (v := .ref (a0 7)) (C := RX11) (T := TX11) (N := 13) hx hb hts hiX11 hown hK hP 0 rfl rfl 7 (by decide) (hts _ flX11_57) (fun _ h9 => h9) rfl dX11_program_32 ?_
    refine va_put (D := D) (ci := 11) (v := .ref (a0 7)) (ty := (tyX11 6)) (C := RX11) (T := TX11) (N := 13) hx hb hts hiX11 tyX11 tyX11_ok nmX11 hown hK hP hD hS 0 rfl rfl 6 (by decide) (hts _ flX11_53) (fun _ h9 => h9) rfl (tyX11_ok 6 (by decide)) rfl rfl (Nat.le_of_ble_eq_true rfl) dX11_program_35 (fun H locs hP hD hS => ?_)
    have hP : va_P D vwCl (W11 cs h0 (va_up a0 6 (a0 7))  ++ (W6 cs (a0 8) (va_up (va_up a1 0 (a0 0)) 3 (a0 7)) q4.2.1 q4.2.2.1 ++ (W9 cs (a0 0) a2 q5 q4.2.2.2.2.2.1 q4.2.2.2.2.1 ++ (W5 cs (a0 7) a3 q4.2.2.2.2.2.2.1 q4.2.2.2.2.2.2.2.2 q4.2.2.2.2.2.2.2.1 ++ W5 cs (a0 6) a4 i4 r4 l4)))) H := hP
    have hD : va_D A (W11 cs h0 (va_up a0 6 (a0 7))  ++ (W6 cs (a0 8) (va_up (va_up a1 0 (a0 0)) 3 (a0 7)) q4.2.1 q4.2.2.1 ++ (W9 cs (a0 0) a2 q5 q4.2.2.2.2.2.1 q4.2.2.2.2.1 ++ (W5 cs (a0 7) a3 q4.2.2.2.2.2.2.1 q4.2.2.2.2.2.2.2.2 q4.2.2.2.2.2.2.2.1 ++ W5 cs (a0 6) a4 i4 r4 l4)))) := hD
    refine lv_aload_n hx hb dX11_program_38 rfl (lv_at hl 2 rfl) ?_
    refine lv_aload_n hx hb dX11_program_39 rfl (lv_at hl 0 rfl) ?_
    refine va_put (D := D) (ci := 11) (v := .ref (a0 6)) (ty := (tyX11 7)) (C := RX11) (T := TX11) (N := 13) hx hb hts hiX11 tyX11 tyX11_ok nmX11 hown hK hP hD hS 0 rfl rfl 7 (by decide) (hts _ flX11_57) (fun _ h9 => h9) rfl (tyX11_ok 7 (by decide)) rfl rfl (Nat.le_of_ble_eq_true rfl) dX11_program_40 (fun H locs hP hD hS => ?_)
    have hP : va_P D vwCl (W11 cs h0 (va_up (va_up a0 6 (a0 7)) 7 (a0 6))  ++ (W6 cs (a0 8) (va_up (va_up a1 0 (a0 0)) 3 (a0 7)) q4.2.1 q4.2.2.1 ++ (W9 cs (a0 0) a2 q5 q4.2.2.2.2.2.1 q4.2.2.2.2.1 ++ (W5 cs (a0 7) a3 q4.2.2.2.2.2.2.1 q4.2.2.2.2.2.2.2.2 q4.2.2.2.2.2.2.2.1 ++ W5 cs (a0 6) a4 i4 r4 l4)))) H := hP
    have hD : va_D A (W11 cs h0 (va_up (va_up a0 6 (a0 7)) 7 (a0 6))  ++ (W6 cs (a0 8) (va_up (va_up a1 0 (a0 0)) 3 (a0 7)) q4.2.1 q4.2.2.1 ++ (W9 cs (a0 0) a2 q5 q4.2.2.2.2.2.1 q4.2.2.2.2.1 ++ (W5 cs (a0 7) a3 q4.2.2.2.2.2.2.1 q4.2.2.2.2.2.2.2.2 q4.2.2.2.2.2.2.2.1 ++ W5 cs (a0 6) a4 i4 r4 l4)))) := hD
    refine lv_aload_n hx hb dX11_program_43 rfl (lv_at hl 2 rfl) ?_
    refine va_get (D := D) (ci := 11) (v := .ref (a0 7)) (C := RX11) (T := TX11) (N := 13) hx hb hts hiX11 hown hK hP 0 rfl rfl 6 (by decide) (hts _ flX11_53) (fun _ h9 => h9) rfl dX11_program_44 ?_
    obtain ⟨q6, hq6, hf⟩ := bd_s hf
    refine k_pVi (wr := W11 cs h0 (va_up (va_up a0 6 (a0 7)) 7 (a0 6))  ++ W6 cs (a0 8) (va_up (va_up a1 0 (a0 0)) 3 (a0 7)) q4.2.1 q4.2.2.1 ++ W9 cs (a0 0) a2 q5 q4.2.2.2.2.2.1 q4.2.2.2.2.1 ++ W5 cs (a0 6) a4 i4 r4 l4) (ws2 := W11 cs h0 (va_up (va_up a0 6 (a0 7)) 7 (a0 6))  ++ (W6 cs (a0 8) (va_up (va_up a1 0 (a0 0)) 3 (a0 7)) q4.2.1 q4.2.2.1 ++ (W9 cs (a0 0) a2 q5 q4.2.2.2.2.2.1 q4.2.2.2.2.1 ++ (W5 cs (a0 7) a3 q4.2.2.2.2.2.2.1 q4.2.2.2.2.2.2.2.2 q4.2.2.2.2.2.2.2.1 ++ W5 cs (a0 6) a4 i4 r4 l4)))) (As := []) (rest := []) hx hb hml hown hts hK hA hZ hl.1 hP hD hS (c_X5_procs (h0 := (a0 7)) (a0 := a3) hq6) (gVt mlX11_185 imX5_procs seX5_procs inX5 coX5_procs) rfl qnX5_procs rfl rfl ⟨Nat.le_of_ble_eq_true rfl, Nat.le_of_ble_eq_true rfl⟩ [10, 11, 12, 13, 14, 15, 16, 17, 18, 19, 20, 21, 22, 23] [0, 1, 2, 3, 4, 5, 6, 7, 8, 9, 24, 25, 26, 27, 28, 29, 30, 31, 32, 33, 34, 35, 36, 37] [0, 1, 2, 3, 4, 5, 6, 7, 8, 9, 24, 25, 26, 27, 28, 29, 30, 31, 32, 33, 34, 35, 36, 37, 10, 11, 12, 13, 14, 15, 16, 17, 18, 19, 20, 21, 22, 23] rfl rfl rfl (by decide) 0 5 rfl rfl rfl rfl rfl (Nat.le_of_ble_eq_true rfl) ⟨Nat.zero_le _, Nat.zero_le _⟩ dX11_program_47 (fun H locs hP hD hS => ?_)
    obtain rfl := Option.some.inj hf
    exact k_iret hx hb hr hlocks hK hP hD hS dX11_program_50
  · have hf := ite_t hf hc
    refine lv_iconst (v := (-1)) hx hb dX11_program_23 (by decide) ?_
    obtain rfl := Option.some.inj hf
    exact k_iret hx hb hr hlocks hK hP hD hS dX11_program_24
/-! MarbleFloor.noFloor(I)Z -/
abbrev wlX11_noFloor : List Cond := Cond.code yX11_noFloor cX11_noFloor 1 (some .boolean) :: tbG
abbrev rmX11_noFloor : Room := { frames := 0, cells := 0, slots := 0, locals := 0 }
theorem qnX11_noFloor : yX11_noFloor.cls ≠ "java/lang/invoke/MethodHandle" ∧ yX11_noFloor.cls ≠ "java/lang/invoke/VarHandle" ∧ (parseMethodDescriptor yX11_noFloor.desc).map (fun d => d.parameters.length) = some 1 := by decide +kernel
def f_X11_noFloor   (x0 : Int32) : Option (Int32) := if x0 < 0 then (some (1)) else (if x0 < 6 then (some (0)) else (some (1)))
set_option maxRecDepth 100000 in
set_option maxHeartbeats 4000000 in
theorem c_X11_noFloor {l : Launch} {D : va_G} {cs zs : Nat → Nat}   {x0 : Int32} {q : Int32} (hf : f_X11_noFloor x0 = some q) : Mi l yX11_noFloor wlX11_noFloor rmX11_noFloor D cs zs [.int x0] (([] : va_W)) q (([] : va_W)) := by
  refine Mi.of RX11 (by decide) rfl (Nat.le_of_ble_eq_true rfl) (fun p e s m below meth c A C hP hD hS ls hl => ?_)
  generalize ([.int x0] : List Value).toArray = args at C ⊢
  obtain ⟨hx, hb, hr, hml, hown, hts, hK, hA, hlocks, hZ⟩ := id C
  have hl : lv_has ls 1 [(0, .int x0)] := hl
  rw [f_X11_noFloor] at hf
  refine lv_iload_n hx hb dX11_noFloor_0 rfl (lv_at hl 0 rfl) ?_
  refine lv_if_lt (tgt := 10) hx hb dX11_noFloor_1 (by decide) (fun hc => ?_) (fun hc => ?_)
  · have hf := ite_t hf hc
    refine lv_iconst (v := 1) hx hb dX11_noFloor_10 (by decide) ?_
    refine lv_goto (tgt := 15) hx hb dX11_noFloor_11 (by decide) ?_
    obtain rfl := Option.some.inj hf
    exact k_zret (r := 1) hx hb hr hlocks rfl hK hP hD hS dX11_noFloor_15
  · have hf := ite_f hf hc
    refine lv_iload_n hx hb dX11_noFloor_4 rfl (lv_at hl 0 rfl) ?_
    refine lv_bipush (v := 6) hx hb dX11_noFloor_5 (by decide) ?_
    refine lv_icmp_lt (tgt := 14) hx hb dX11_noFloor_7 (by decide) (fun hc => ?_) (fun hc => ?_)
    · have hf := ite_t hf hc
      refine lv_iconst (v := 0) hx hb dX11_noFloor_14 (by decide) ?_
      obtain rfl := Option.some.inj hf
      exact k_zret (r := 0) hx hb hr hlocks rfl hK hP hD hS dX11_noFloor_15
    · have hf := ite_f hf hc
      refine lv_iconst (v := 1) hx hb dX11_noFloor_10 (by decide) ?_
      refine lv_goto (tgt := 15) hx hb dX11_noFloor_11 (by decide) ?_
      obtain rfl := Option.some.inj hf
      exact k_zret (r := 1) hx hb hr hlocks rfl hK hP hD hS dX11_noFloor_15
