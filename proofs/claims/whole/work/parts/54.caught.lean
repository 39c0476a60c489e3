theorem st13_2_T {D : va_G} {A : Nat → Prop} {H : Heap} {cs : Nat → ClassId} {h : Nat} {a : Nat → Nat} {i : Nat → Int32} {r : Nat → Nat → Int32} {l : Nat → Nat → Int64} {v : Int32} {T : va_W} (hP : va_P D vwCl ((W13 cs h a i r l ++ T).set 0 (h, .inr (13, (fs13 a i).set 2 (.int v)))) H) (hD : va_D A ((W13 cs h a i r l ++ T).set 0 (h, .inr (13, (fs13 a i).set 2 (.int v))))) : va_P D vwCl (W13 cs h a (upd i 2 v) r l ++ T) H ∧ va_D A (W13 cs h a (upd i 2 v) r l ++ T) := ⟨hP, hD⟩
/-! MarbleFloorModel.floor(I)I -/
abbrev wlX13_floor : List Cond := Cond.codeWith yX13_floor cX13_floor 3 (some .int) [(15, 23, 26, 135)] :: tbG
abbrev rmX13_floor : Room := { frames := 7, cells := 0, slots := 0, locals := 153 }
theorem qnX13_floor : yX13_floor.cls = RX13 ∧ yX13_floor.cls ≠ "java/lang/invoke/MethodHandle" ∧ yX13_floor.cls ≠ "java/lang/invoke/VarHandle" ∧ (parseMethodDescriptor yX13_floor.desc).map (fun d => d.parameters.length) = some 1 := by decide +kernel
def f_X13_floor  (i0 : Nat → Int32) (r0 : Nat → Nat → Int32) (l0 : Nat → Nat → Int64) (f1 : List Value) (x1 : Int32) : Option (Int32 × (Nat → Int32) × (Nat → Nat → Int32)) := bd (f_X13_isFloor x1) (fun q5 => if q5 = 0 then (some ((-2), (upd i0 2 0), r0)) else (bd (f_X13_begin i0 r0 l0) (fun q6 => bt (f_X13_readFloor q6 r0 l0) (fun q7 => bd (f_X13_copyFloor q7.1 q7.2 l0 6 x1) (fun q8 => ck (inb x1 8) (some (q8 11 x1.toNatClampNeg, q7.1, q8)))) (fun t7 => some ((-1), t7.1, t7.2)))))
set_option maxRecDepth 100000 in
set_option maxHeartbeats 4000000 in
theorem c_X13_floor {l : Launch} {D : va_G} {cs zs : Nat → Nat} {h0 : Nat} {a0 : Nat → Nat} {a1 : Nat → Nat} {i0 : Nat → Int32} {r0 : Nat → Nat → Int32} {l0 : Nat → Nat → Int64} {f1 : List Value} {x1 : Int32} {q : Int32 × (Nat → Int32) × (Nat → Nat → Int32)} (hf : f_X13_floor i0 r0 l0 f1 x1 = some q) : Mi l yX13_floor wlX13_floor rmX13_floor D cs zs [.ref h0, .int x1] (W13 cs h0 a0 i0 r0 l0 ++ W12 cs (a0 0) a1 f1) q.1 (W13 cs h0 a0 q.2.1 q.2.2 l0 ++ W12 cs (a0 0) a1 f1) := by
  refine Mi.ofH RX13 (by decide) rfl (Nat.le_of_ble_eq_true rfl) (fun p e s m below meth c A C hT9 hP hD hS ls hl => ?_)
  generalize ([.ref h0, .int x1] : List Value).toArray = args at C ⊢
  obtain ⟨hx, hb, hr, hml, hown, hts, hK, hA, hlocks, hZ⟩ := id C
  have hl : lv_has ls 3 [(0, .ref h0), (1, .int x1)] := hl
  obtain ⟨xe, hx1, hx2, hx3, hx4, hx5⟩ := hT9
  rw [f_X13_floor] at hf
  refine lv_iload_n hx hb dX13_floor_0 rfl (lv_at hl 1 rfl) ?_
  obtain ⟨q5, hq5, hf⟩ := bd_s hf
  refine k_eSi (As := [.int x1]) (rest := []) hx hb hml hown hts hK hA hZ hl.1 hP hD hS (c_X13_isFloor  hq5) (gSt mlX13_290 stX13_isFloor inX13 coX13_isFloor) rfl qnX13_isFloor rfl rfl ⟨Nat.le_of_ble_eq_true rfl, Nat.le_of_ble_eq_true rfl⟩ rfl rfl (Nat.le_of_ble_eq_true rfl) ⟨Nat.zero_le _, Nat.zero_le _⟩ dX13_floor_1 (fun H locs hP hD hS => ?_)
  refine lv_if_ne (tgt := 15) hx hb dX13_floor_4 (by decide) (fun hc => ?_) (fun hc => ?_)
  · have hf := ite_f hf hc
    refine lv_aload_n hx hb dX13_floor_15 rfl (lv_at hl 0 rfl) ?_
    obtain ⟨q6, hq6, hf⟩ := bd_s hf
    refine k_pVv (wr := W12 cs (a0 0) a1 f1) (ws2 := W13 cs h0 a0 q6 r0 l0 ++ W12 cs (a0 0) a1 f1) (As := []) (rest := []) hx hb hml hown hts hK hA hZ hl.1 hP hD hS (c_X13_begin (h0 := h0) (a0 := a0) hq6) (gVt mlX13_293 imX13_begin seX13_begin inX13 coX13_begin) rfl qnX13_begin rfl rfl ⟨Nat.le_of_ble_eq_true rfl, Nat.le_of_ble_eq_true rfl⟩ [0, 1, 2, 3, 4, 5, 6, 7, 8, 9, 10, 11, 12, 13, 14, 15, 16, 17, 18, 19, 20, 21, 22, 23, 24, 25, 26, 27, 28, 29, 30, 31, 32, 33, 34, 35, 36, 37, 38, 39, 40, 41, 42, 43, 44, 45, 46, 47, 48, 49, 50, 51] [52] [1, 2, 3, 4, 5, 6, 7, 8, 9, 10, 11, 12, 13, 14, 15, 16, 17, 18, 19, 20, 21, 22, 23, 24, 25, 26, 27, 28, 29, 30, 31, 32, 33, 34, 35, 36, 37, 38, 39, 40, 41, 42, 43, 44, 45, 46, 47, 48, 49, 50, 51, 52, 0] rfl rfl rfl (by decide) 0 13 rfl rfl rfl rfl rfl (Nat.le_of_ble_eq_true rfl) ⟨Nat.zero_le _, Nat.zero_le _⟩ dX13_floor_16 (fun H locs hP hD hS => ?_)
    refine lv_aload_n hx hb dX13_floor_19 rfl (lv_at hl 0 rfl) ?_
    rcases (bt_s hf).symm with ⟨t7, hq7, hf⟩ | ⟨q7, hq7, hf⟩
    · refine k_pVc (wr := W12 cs (a0 0) a1 f1) (ws2 := W13 cs h0 a0 t7.1 t7.2 l0 ++ W12 cs (a0 0) a1 f1) (As := []) (rest := []) hx hb hml hown hts hK hA hZ hl.1 hP hD hS (t_X13_readFloor (h0 := h0) (a0 := a0) hq7) (gVt mlX13_296 imX13_readFloor seX13_readFloor inX13 coX13_readFloor) rfl qnX13_readFloor rfl rfl ⟨Nat.le_of_ble_eq_true rfl, Nat.le_of_ble_eq_true rfl⟩ [0, 1, 2, 3, 4, 5, 6, 7, 8, 9, 10, 11, 12, 13, 14, 15, 16, 17, 18, 19, 20, 21, 22, 23, 24, 25, 26, 27, 28, 29, 30, 31, 32, 33, 34, 35, 36, 37, 38, 39, 40, 41, 42, 43, 44, 45, 46, 47, 48, 49, 50, 51] [52] [1, 2, 3, 4, 5, 6, 7, 8, 9, 10, 11, 12, 13, 14, 15, 16, 17, 18, 19, 20, 21, 22, 23, 24, 25, 26, 27, 28, 29, 30, 31, 32, 33, 34, 35, 36, 37, 38, 39, 40, 41, 42, 43, 44, 45, 46, 47, 48, 49, 50, 51, 52, 0] rfl rfl rfl (by decide) 0 13 rfl rfl rfl rfl rfl (Nat.le_of_ble_eq_true rfl) ⟨Nat.zero_le _, Nat.zero_le _⟩ dX13_floor_20 hx1 (by simp only [covers, hx2, hx3]; decide) hx5 (by decide) hx4 (hts _ clX13_135) 52 12 rfl rfl rfl (fun H locs hP hD hS => ?_)
      refine lv_astore_n (lv' := [(2, .ref (a0 0)), (0, .ref h0), (1, .int x1)]) hx hb dX13_floor_26 rfl hl (by decide) rfl (fun ls hl => ?_)
      refine lv_iconst (v := (-1)) hx hb dX13_floor_27 (by decide) ?_
      obtain rfl := Option.some.inj hf
      exact k_iret hx hb hr hlocks hK hP hD hS dX13_floor_28
    refine k_pVv (wr := W12 cs (a0 0) a1 f1) (ws2 := W13 cs h0 a0 q7.1 q7.2 l0 ++ W12 cs (a0 0) a1 f1) (As := []) (rest := []) hx hb hml hown hts hK hA hZ hl.1 hP hD hS (c_X13_readFloor (h0 := h0) (a0 := a0) hq7) (gVt mlX13_296 imX13_readFloor seX13_readFloor inX13 coX13_readFloor) rfl qnX13_readFloor rfl rfl ⟨Nat.le_of_ble_eq_true rfl, Nat.le_of_ble_eq_true rfl⟩ [0, 1, 2, 3, 4, 5, 6, 7, 8, 9, 10, 11, 12, 13, 14, 15, 16, 17, 18, 19, 20, 21, 22, 23, 24, 25, 26, 27, 28, 29, 30, 31, 32, 33, 34, 35, 36, 37, 38, 39, 40, 41, 42, 43, 44, 45, 46, 47, 48, 49, 50, 51] [52] [1, 2, 3, 4, 5, 6, 7, 8, 9, 10, 11, 12, 13, 14, 15, 16, 17, 18, 19, 20, 21, 22, 23, 24, 25, 26, 27, 28, 29, 30, 31, 32, 33, 34, 35, 36, 37, 38, 39, 40, 41, 42, 43, 44, 45, 46, 47, 48, 49, 50, 51, 52, 0] rfl rfl rfl (by decide) 0 13 rfl rfl rfl rfl rfl (Nat.le_of_ble_eq_true rfl) ⟨Nat.zero_le _, Nat.zero_le _⟩ dX13_floor_20 (fun H locs hP hD hS => ?_)
    refine lv_goto (tgt := 29) hx hb dX13_floor_23 (by decide) ?_
    refine lv_aload_n hx hb dX13_floor_29 rfl (lv_at hl 0 rfl) ?_
    refine lv_bipush (v := 6) hx hb dX13_floor_30 (by decide) ?_
    refine lv_iload_n hx hb dX13_floor_32 rfl (lv_at hl 1 rfl) ?_
    obtain ⟨q8, hq8, hf⟩ := bd_s hf
    refine k_pVv (wr := W12 cs (a0 0) a1 f1) (ws2 := W13 cs h0 a0 q7.1 q8 l0 ++ W12 cs (a0 0) a1 f1) (As := [.int 6, .int x1]) (rest := []) hx hb hml hown hts hK hA hZ hl.1 hP hD hS (c_X13_copyFloor (h0 := h0) (a0 := a0) hq8) (gVt mlX13_299 imX13_copyFloor seX13_copyFloor inX13 coX13_copyFloor) rfl qnX13_copyFloor rfl rfl ⟨Nat.le_of_ble_eq_true rfl, Nat.le_of_ble_eq_true rfl⟩ [0, 1, 2, 3, 4, 5, 6, 7, 8, 9, 10, 11, 12, 13, 14, 15, 16, 17, 18, 19, 20, 21, 22, 23, 24, 25, 26, 27, 28, 29, 30, 31, 32, 33, 34, 35, 36, 37, 38, 39, 40, 41, 42, 43, 44, 45, 46, 47, 48, 49, 50, 51] [52] [1, 2, 3, 4, 5, 6, 7, 8, 9, 10, 11, 12, 13, 14, 15, 16, 17, 18, 19, 20, 21, 22, 23, 24, 25, 26, 27, 28, 29, 30, 31, 32, 33, 34, 35, 36, 37, 38, 39, 40, 41, 42, 43, 44, 45, 46, 47, 48, 49, 50, 51, 52, 0] rfl rfl rfl (by decide) 0 13 rfl rfl rfl rfl rfl (Nat.le_of_ble_eq_true rfl) ⟨Nat.zero_le _, Nat.zero_le _⟩ dX13_floor_33 (fun H locs hP hD hS => ?_)
    refine lv_aload_n hx hb dX13_floor_36 rfl (lv_at hl 0 rfl) ?_
    refine va_get (D := D) (ci := 13) (v := .ref (a0 11)) (C := RX13) (T := TX13) (N := 87) hx hb hts hiX13 hown hK hP 0 rfl rfl 11 (by decide) (hts _ flX13_86) (fun _ h9 => h9) rfl dX13_floor_37 ?_
    refine lv_iload_n hx hb dX13_floor_40 rfl (lv_at hl 1 rfl) ?_
    refine va_iald (f := q8 11) hx hb hK hP 3 0 rfl rfl (ck_in hf) dX13_floor_41 ?_
    have hf := ck_2 hf
    obtain rfl := Option.some.inj hf
    exact k_iret hx hb hr hlocks hK hP hD hS dX13_floor_42
  · have hf := ite_t hf hc
    refine lv_aload_n hx hb dX13_floor_7 rfl (lv_at hl 0 rfl) ?_
    refine lv_iconst (v := 0) hx hb dX13_floor_8 (by decide) ?_
    refine va_put (D := D) (ci := 13) (v := .int 0) (ty := .int) (C := RX13) (T := TX13) (N := 87) hx hb hts hiX13 tyX13 tyX13_ok nmX13 hown hK hP hD hS 0 rfl rfl 2 (by decide) (hts _ flX13_83) (fun _ h9 => h9) rfl (tyX13_ok 2 (by decide)) rfl rfl (Nat.le_of_ble_eq_true rfl) dX13_floor_9 (fun H locs hP hD hS => ?_)
    obtain ⟨hP, hD⟩ := st13_2_T hP hD
    refine lv_bipush (v := (-2)) hx hb dX13_floor_12 (by decide) ?_
    obtain rfl := Option.some.inj hf
    exact k_iret hx hb hr hlocks hK hP hD hS dX13_floor_14
/-! MarbleFloorModel.program()I -/
abbrev wlX13_program : List Cond := Cond.codeWith yX13_program cX13_program 2 (some .int) [(0, 8, 11, 135)] :: tbG
abbrev rmX13_program : Room := { frames := 60, cells := 0, slots := 0, locals := 1305 }
theorem qnX13_program : yX13_program.cls = RX13 ∧ yX13_program.cls ≠ "java/lang/invoke/MethodHandle" ∧ yX13_program.cls ≠ "java/lang/invoke/VarHandle" ∧ (parseMethodDescriptor yX13_program.desc).map (fun d => d.parameters.length) = some 0 := by decide +kernel
def f_X13_program  (i0 : Nat → Int32) (r0 : Nat → Nat → Int32) (l0 : Nat → Nat → Int64) (f1 : List Value)  : Option (Int32 × (Nat → Int32) × (Nat → Nat → Int64) × (Nat → Nat → Int32)) := bd (f_X13_begin i0 r0 l0) (fun q4 => bt (f_X13_readProgram q4 r0 l0) (fun q5 => bd (f_X13_takeProgram q5.1 q5.2.2 q5.2.1) (fun q6 => some (q6.1 46, q6.1, q5.2.1, q6.2))) (fun t5 => some ((-1), t5.1, t5.2.1, t5.2.2)))
set_option maxRecDepth 100000 in
set_option maxHeartbeats 4000000 in
theorem c_X13_program {l : Launch} {D : va_G} {cs zs : Nat → Nat} {h0 : Nat} {a0 : Nat → Nat} {a1 : Nat → Nat} {i0 : Nat → Int32} {r0 : Nat → Nat → Int32} {l0 : Nat → Nat → Int64} {f1 : List Value}  {q : Int32 × (Nat → Int32) × (Nat → Nat → Int64) × (Nat → Nat → Int32)} (hf : f_X13_program i0 r0 l0 f1 = some q) : Mi l yX13_program wlX13_program rmX13_program D cs zs [.ref h0] (W13 cs h0 a0 i0 r0 l0 ++ W12 cs (a0 0) a1 f1) q.1 (W13 cs h0 a0 q.2.1 q.2.2.2 q.2.2.1 ++ W12 cs (a0 0) a1 f1) := by
  refine Mi.ofH RX13 (by decide) rfl (Nat.le_of_ble_eq_true rfl) (fun p e s m below meth c A C hT9 hP hD hS ls hl => ?_)
  generalize ([.ref h0] : List Value).toArray = args at C ⊢
  obtain ⟨hx, hb, hr, hml, hown, hts, hK, hA, hlocks, hZ⟩ := id C
  have hl : lv_has ls 2 [(0, .ref h0)] := hl
  obtain ⟨xe, hx1, hx2, hx3, hx4, hx5⟩ := hT9
  rw [f_X13_program] at hf
  refine lv_aload_n hx hb dX13_program_0 rfl (lv_at hl 0 rfl) ?_
  obtain ⟨q4, hq4, hf⟩ := bd_s hf
  refine k_pVv (wr := W12 cs (a0 0) a1 f1) (ws2 := W13 cs h0 a0 q4 r0 l0 ++ W12 cs (a0 0) a1 f1) (As := []) (rest := []) hx hb hml hown hts hK hA hZ hl.1 hP hD hS (c_X13_begin (h0 := h0) (a0 := a0) hq4) (gVt mlX13_293 imX13_begin seX13_begin inX13 coX13_begin) rfl qnX13_begin rfl rfl ⟨Nat.le_of_ble_eq_true rfl, Nat.le_of_ble_eq_true rfl⟩ [0, 1, 2, 3, 4, 5, 6, 7, 8, 9, 10, 11, 12, 13, 14, 15, 16, 17, 18, 19, 20, 21, 22, 23, 24, 25, 26, 27, 28, 29, 30, 31, 32, 33, 34, 35, 36, 37, 38, 39, 40, 41, 42, 43, 44, 45, 46, 47, 48, 49, 50, 51] [52] [1, 2, 3, 4, 5, 6, 7, 8, 9, 10, 11, 12, 13, 14, 15, 16, 17, 18, 19, 20, 21, 22, 23, 24, 25, 26, 27, 28, 29, 30, 31, 32, 33, 34, 35, 36, 37, 38, 39, 40, 41, 42, 43, 44, 45, 46, 47, 48, 49, 50, 51, 52, 0] rfl rfl rfl (by decide) 0 13 rfl rfl rfl rfl rfl (Nat.le_of_ble_eq_true rfl) ⟨Nat.zero_le _, Nat.zero_le _⟩ dX13_program_1 (fun H locs hP hD hS => ?_)
  refine lv_aload_n hx hb dX13_program_4 rfl (lv_at hl 0 rfl) ?_
  rcases (bt_s hf).symm with ⟨t5, hq5, hf⟩ | ⟨q5, hq5, hf⟩
  · refine k_pVc (wr := W12 cs (a0 0) a1 f1) (ws2 := W13 cs h0 a0 t5.1 t5.2.2 t5.2.1 ++ W12 cs (a0 0) a1 f1) (As := []) (rest := []) hx hb hml hown hts hK hA hZ hl.1 hP hD hS (t_X13_readProgram (h0 := h0) (a0 := a0) hq5) (gVt mlX13_503 imX13_readProgram seX13_readProgram inX13 coX13_readProgram) rfl qnX13_readProgram rfl rfl ⟨Nat.le_of_ble_eq_true rfl, Nat.le_of_ble_eq_true rfl⟩ [0, 1, 2, 3, 4, 5, 6, 7, 8, 9, 10, 11, 12, 13, 14, 15, 16, 17, 18, 19, 20, 21, 22, 23, 24, 25, 26, 27, 28, 29, 30, 31, 32, 33, 34, 35, 36, 37, 38, 39, 40, 41, 42, 43, 44, 45, 46, 47, 48, 49, 50, 51] [52] [1, 2, 3, 4, 5, 6, 7, 8, 9, 10, 11, 12, 13, 14, 15, 16, 17, 18, 19, 20, 21, 22, 23, 24, 25, 26, 27, 28, 29, 30, 31, 32, 33, 34, 35, 36, 37, 38, 39, 40, 41, 42, 43, 44, 45, 46, 47, 48, 49, 50, 51, 52, 0] rfl rfl rfl (by decide) 0 13 rfl rfl rfl rfl rfl (Nat.le_of_ble_eq_true rfl) ⟨Nat.zero_le _, Nat.zero_le _⟩ dX13_program_5 hx1 (by simp only [covers, hx2, hx3]; decide) hx5 (by decide) hx4 (hts _ clX13_135) 52 12 rfl rfl rfl (fun H locs hP hD hS => ?_)
    refine lv_astore_n (lv' := [(1, .ref (a0 0)), (0, .ref h0)]) hx hb dX13_program_11 rfl hl (by decide) rfl (fun ls hl => ?_)
    refine lv_iconst (v := (-1)) hx hb dX13_program_12 (by decide) ?_
    obtain rfl := Option.some.inj hf
    exact k_iret hx hb hr hlocks hK hP hD hS dX13_program_13
  refine k_pVv (wr := W12 cs (a0 0) a1 f1) (ws2 := W13 cs h0 a0 q5.1 q5.2.2 q5.2.1 ++ W12 cs (a0 0) a1 f1) (As := []) (rest := []) hx hb hml hown hts hK hA hZ hl.1 hP hD hS (c_X13_readProgram (h0 := h0) (a0 := a0) hq5) (gVt mlX13_503 imX13_readProgram seX13_readProgram inX13 coX13_readProgram) rfl qnX13_readProgram rfl rfl ⟨Nat.le_of_ble_eq_true rfl, Nat.le_of_ble_eq_true rfl⟩ [0, 1, 2, 3, 4, 5, 6, 7, 8, 9, 10, 11, 12, 13, 14, 15, 16, 17, 18, 19, 20, 21, 22, 23, 24, 25, 26, 27, 28, 29, 30, 31, 32, 33, 34, 35, 36, 37, 38, 39, 40, 41, 42, 43, 44, 45, 46, 47, 48, 49, 50, 51] [52] [1, 2, 3, 4, 5, 6, 7, 8, 9, 10, 11, 12, 13, 14, 15, 16, 17, 18, 19, 20, 21, 22, 23, 24, 25, 26, 27, 28, 29, 30, 31, 32, 33, 34, 35, 36, 37, 38, 39, 40, 41, 42, 43, 44, 45, 46, 47, 48, 49, 50, 51, 52, 0] rfl rfl rfl (by decide) 0 13 rfl rfl rfl rfl rfl (Nat.le_of_ble_eq_true rfl) ⟨Nat.zero_le _, Nat.zero_le _⟩ dX13_program_5 (fun H locs hP hD hS => ?_)
  refine lv_goto (tgt := 14) hx hb dX13_program_8 (by decide) ?_
  refine lv_aload_n hx hb dX13_program_14 rfl (lv_at hl 0 rfl) ?_
  obtain ⟨q6, hq6, hf⟩ := bd_s hf
  refine k_pVv (wr := W12 cs (a0 0) a1 f1) (ws2 := W13 cs h0 a0 q6.1 q6.2 q5.2.1 ++ W12 cs (a0 0) a1 f1) (As := []) (rest := []) hx hb hml hown hts hK hA hZ hl.1 hP hD hS (c_X13_takeProgram (h0 := h0) (a0 := a0) hq6) (gVt mlX13_506 imX13_takeProgram seX13_takeProgram inX13 coX13_takeProgram) rfl qnX13_takeProgram rfl rfl ⟨Nat.le_of_ble_eq_true rfl, Nat.le_of_ble_eq_true rfl⟩ [0, 1, 2, 3, 4, 5, 6, 7, 8, 9, 10, 11, 12, 13, 14, 15, 16, 17, 18, 19, 20, 21, 22, 23, 24, 25, 26, 27, 28, 29, 30, 31, 32, 33, 34, 35, 36, 37, 38, 39, 40, 41, 42, 43, 44, 45, 46, 47, 48, 49, 50, 51] [52] [1, 2, 3, 4, 5, 6, 7, 8, 9, 10, 11, 12, 13, 14, 15, 16, 17, 18, 19, 20, 21, 22, 23, 24, 25, 26, 27, 28, 29, 30, 31, 32, 33, 34, 35, 36, 37, 38, 39, 40, 41, 42, 43, 44, 45, 46, 47, 48, 49, 50, 51, 52, 0] rfl rfl rfl (by decide) 0 13 rfl rfl rfl rfl rfl (Nat.le_of_ble_eq_true rfl) ⟨Nat.zero_le _, Nat.zero_le _⟩ dX13_program_15 (fun H locs hP hD hS => ?_)
  refine lv_aload_n hx hb dX13_program_18 rfl (lv_at hl 0 rfl) ?_
  refine va_get (D := D) (ci := 13) (v := .int (q6.1 46)) (C := RX13) (T := TX13) (N := 87) hx hb hts hiX13 hown hK hP 0 rfl rfl 46 (by decide) (hts _ flX13_497) (fun _ h9 => h9) rfl dX13_program_19 ?_
  obtain rfl := Option.some.inj hf
  exact k_iret hx hb hr hlocks hK hP hD hS dX13_program_22
