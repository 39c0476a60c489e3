theorem dvX9 : ∀ j, j < 12 → defaultValue (tyX9 j) = vp_V [.null, .null, .null, .null, .null, .int 0, .int 0, .int 0, .int 0, .int 0, .int 0, .int 0] j := by
  intro j hj
  match j, hj with
  | 0, _ => rfl
  | 1, _ => rfl
  | 2, _ => rfl
  | 3, _ => rfl
  | 4, _ => rfl
  | 5, _ => rfl
  | 6, _ => rfl
  | 7, _ => rfl
  | 8, _ => rfl
  | 9, _ => rfl
  | 10, _ => rfl
  | 11, _ => rfl
  | j + 12, hj => exact absurd hj (by omega)
theorem qnX9_init : yX9_init.cls ≠ "java/lang/invoke/MethodHandle" ∧ yX9_init.cls ≠ "java/lang/invoke/VarHandle" ∧ (parseMethodDescriptor yX9_init.desc).map (fun d => d.parameters.length) = some 0 := by decide +kernel
abbrev wlX9_init : List Cond := Cond.code yX9_init cX9_init 1 none :: tbG
abbrev rmX9_init : Room := { frames := 1, cells := 5, slots := 4504, locals := 20 }
set_option maxRecDepth 100000 in
set_option maxHeartbeats 8000000 in
theorem c_X9_init {l : Launch} {D : va_G} {cs zs : Nat → Nat} {h0 : Nat} : MN (S := Nat → Nat) l yX9_init wlX9_init rmX9_init D cs zs [.ref h0] [(h0, .inr (9, [.null, .null, .null, .null, .null, .int 0, .int 0, .int 0, .int 0, .int 0, .int 0, .int 0]))] (fun u => W9 cs h0 u (fun k => ([0, 0, 0, 0, 0, 0, 0, 0, 0, 0, 0, (-1)] : List Int32).getD k 0) (fun _ _ => 0) (fun _ _ => 0)) 5 4504 := by
  refine MN.of RX9 (by decide) rfl rfl (Nat.le_of_ble_eq_true rfl) (fun p e s m below meth c A C hin hX hP hD hS ls hl => ?_)
  generalize ([.ref h0] : List Value).toArray = args at C ⊢
  obtain ⟨hx, hb, hr, hml, hown, hts, hK, hA, hlocks, hZ⟩ := id C
  have hl : lv_has ls 1 [(0, .ref h0)] := hl
  refine lv_aload_n hx hb dX9_init_0 rfl (lv_at hl 0 rfl) ?_
  refine W.objInit hx hb hown (hts _ mlX9_5) (hts _ imoinit) (hts _ cooinit) rfl (by rw [hml]; exact hl.1) rfl dX9_init_1 (Nat.le_of_ble_eq_true rfl) (Nat.le_of_ble_eq_true rfl) ?_
  refine W.eq (g2 := F0 m 4 ls []) rfl ?_
  refine lv_aload_n hx hb dX9_init_4 rfl (lv_at hl 0 rfl) ?_
  refine lv_sipush (v := 900) hx hb dX9_init_5 (by decide) ?_
  refine k_newi (N := 900) hx hb hts hK hP hD hS hA (by decide) (by decide) (by decide) (Nat.le_of_ble_eq_true rfl) (Nat.le_of_ble_eq_true rfl) dX9_init_8 (fun b1 H hP hD hS => ?_)
  have hP : va_P D vwCl ([(h0, .inr (9, [.null, .null, .null, .null, .null, .int 0, .int 0, .int 0, .int 0, .int 0, .int 0, .int 0])), (b1, .inl (cs 0, 900, .inl (fun _ => 0)))]) H := hP
  have hD : va_D A ([(h0, .inr (9, [.null, .null, .null, .null, .null, .int 0, .int 0, .int 0, .int 0, .int 0, .int 0, .int 0])), (b1, .inl (cs 0, 900, .inl (fun _ => 0)))]) := hD
  refine va_putF (D := D) (ci := 9) (v := .ref b1) (ty := (tyX9 0)) (C := RX9) (T := TX9) (N := 12) hx hb hts hiX9 tyX9 tyX9_ok nmX9 hown hK hP hD hS 0 rfl rfl 0 (by decide) (hts _ flX9_11) (fun _ h9 => h9) rfl hin rfl (tyX9_ok 0 (by decide)) rfl rfl (Nat.le_of_ble_eq_true rfl) dX9_init_10 (fun H locs hP hD hS => ?_)
  have hP : va_P D vwCl ([(h0, .inr (9, [.ref b1, .null, .null, .null, .null, .int 0, .int 0, .int 0, .int 0, .int 0, .int 0, .int 0])), (b1, .inl (cs 0, 900, .inl (fun _ => 0)))]) H := hP
  have hD : va_D A ([(h0, .inr (9, [.ref b1, .null, .null, .null, .null, .int 0, .int 0, .int 0, .int 0, .int 0, .int 0, .int 0])), (b1, .inl (cs 0, 900, .inl (fun _ => 0)))]) := hD
  refine lv_aload_n hx hb dX9_init_13 rfl (lv_at hl 0 rfl) ?_
  refine lv_sipush (v := 901) hx hb dX9_init_14 (by decide) ?_
  refine k_newi (N := 901) hx hb hts hK hP hD hS hA (by decide) (by decide) (by decide) (Nat.le_of_ble_eq_true rfl) (Nat.le_of_ble_eq_true rfl) dX9_init_17 (fun b2 H hP hD hS => ?_)
  have hP : va_P D vwCl ([(h0, .inr (9, [.ref b1, .null, .null, .null, .null, .int 0, .int 0, .int 0, .int 0, .int 0, .int 0, .int 0])), (b1, .inl (cs 0, 900, .inl (fun _ => 0))), (b2, .inl (cs 0, 901, .inl (fun _ => 0)))]) H := hP
  have hD : va_D A ([(h0, .inr (9, [.ref b1, .null, .null, .null, .null, .int 0, .int 0, .int 0, .int 0, .int 0, .int 0, .int 0])), (b1, .inl (cs 0, 900, .inl (fun _ => 0))), (b2, .inl (cs 0, 901, .inl (fun _ => 0)))]) := hD
  refine va_putF (D := D) (ci := 9) (v := .ref b2) (ty := (tyX9 1)) (C := RX9) (T := TX9) (N := 12) hx hb hts hiX9 tyX9 tyX9_ok nmX9 hown hK hP hD hS 0 rfl rfl 1 (by decide) (hts _ flX9_15) (fun _ h9 => h9) rfl hin rfl (tyX9_ok 1 (by decide)) rfl rfl (Nat.le_of_ble_eq_true rfl) dX9_init_19 (fun H locs hP hD hS => ?_)
  have hP : va_P D vwCl ([(h0, .inr (9, [.ref b1, .ref b2, .null, .null, .null, .int 0, .int 0, .int 0, .int 0, .int 0, .int 0, .int 0])), (b1, .inl (cs 0, 900, .inl (fun _ => 0))), (b2, .inl (cs 0, 901, .inl (fun _ => 0)))]) H := hP
  have hD : va_D A ([(h0, .inr (9, [.ref b1, .ref b2, .null, .null, .null, .int 0, .int 0, .int 0, .int 0, .int 0, .int 0, .int 0])), (b1, .inl (cs 0, 900, .inl (fun _ => 0))), (b2, .inl (cs 0, 901, .inl (fun _ => 0)))]) := hD
  refine lv_aload_n hx hb dX9_init_22 rfl (lv_at hl 0 rfl) ?_
  refine lv_sipush (v := 901) hx hb dX9_init_23 (by decide) ?_
  refine k_newi (N := 901) hx hb hts hK hP hD hS hA (by decide) (by decide) (by decide) (Nat.le_of_ble_eq_true rfl) (Nat.le_of_ble_eq_true rfl) dX9_init_26 (fun b3 H hP hD hS => ?_)
  have hP : va_P D vwCl ([(h0, .inr (9, [.ref b1, .ref b2, .null, .null, .null, .int 0, .int 0, .int 0, .int 0, .int 0, .int 0, .int 0])), (b1, .inl (cs 0, 900, .inl (fun _ => 0))), (b2, .inl (cs 0, 901, .inl (fun _ => 0))), (b3, .inl (cs 0, 901, .inl (fun _ => 0)))]) H := hP
  have hD : va_D A ([(h0, .inr (9, [.ref b1, .ref b2, .null, .null, .null, .int 0, .int 0, .int 0, .int 0, .int 0, .int 0, .int 0])), (b1, .inl (cs 0, 900, .inl (fun _ => 0))), (b2, .inl (cs 0, 901, .inl (fun _ => 0))), (b3, .inl (cs 0, 901, .inl (fun _ => 0)))]) := hD
  refine va_putF (D := D) (ci := 9) (v := .ref b3) (ty := (tyX9 2)) (C := RX9) (T := TX9) (N := 12) hx hb hts hiX9 tyX9 tyX9_ok nmX9 hown hK hP hD hS 0 rfl rfl 2 (by decide) (hts _ flX9_18) (fun _ h9 => h9) rfl hin rfl (tyX9_ok 2 (by decide)) rfl rfl (Nat.le_of_ble_eq_true rfl) dX9_init_28 (fun H locs hP hD hS => ?_)
  have hP : va_P D vwCl ([(h0, .inr (9, [.ref b1, .ref b2, .ref b3, .null, .null, .int 0, .int 0, .int 0, .int 0, .int 0, .int 0, .int 0])), (b1, .inl (cs 0, 900, .inl (fun _ => 0))), (b2, .inl (cs 0, 901, .inl (fun _ => 0))), (b3, .inl (cs 0, 901, .inl (fun _ => 0)))]) H := hP
  have hD : va_D A ([(h0, .inr (9, [.ref b1, .ref b2, .ref b3, .null, .null, .int 0, .int 0, .int 0, .int 0, .int 0, .int 0, .int 0])), (b1, .inl (cs 0, 900, .inl (fun _ => 0))), (b2, .inl (cs 0, 901, .inl (fun _ => 0))), (b3, .inl (cs 0, 901, .inl (fun _ => 0)))]) := hD
  refine lv_aload_n hx hb dX9_init_31 rfl (lv_at hl 0 rfl) ?_
  refine lv_sipush (v := 901) hx hb dX9_init_32 (by decide) ?_
  refine k_newi (N := 901) hx hb hts hK hP hD hS hA (by decide) (by decide) (by decide) (Nat.le_of_ble_eq_true rfl) (Nat.le_of_ble_eq_true rfl) dX9_init_35 (fun b4 H hP hD hS => ?_)
  have hP : va_P D vwCl ([(h0, .inr (9, [.ref b1, .ref b2, .ref b3, .null, .null, .int 0, .int 0, .int 0, .int 0, .int 0, .int 0, .int 0])), (b1, .inl (cs 0, 900, .inl (fun _ => 0))), (b2, .inl (cs 0, 901, .inl (fun _ => 0))), (b3, .inl (cs 0, 901, .inl (fun _ => 0))), (b4, .inl (cs 0, 901, .inl (fun _ => 0)))]) H := hP
  have hD : va_D A ([(h0, .inr (9, [.ref b1, .ref b2, .ref b3, .null, .null, .int 0, .int 0, .int 0, .int 0, .int 0, .int 0, .int 0])), (b1, .inl (cs 0, 900, .inl (fun _ => 0))), (b2, .inl (cs 0, 901, .inl (fun _ => 0))), (b3, .inl (cs 0, 901, .inl (fun _ => 0))), (b4, .inl (cs 0, 901, .inl (fun _ => 0)))]) := hD
  refine va_putF (D := D) (ci := 9) (v := .ref b4) (ty := (tyX9 3)) (C := RX9) (T := TX9) (N := 12) hx hb hts hiX9 tyX9 tyX9_ok nmX9 hown hK hP hD hS 0 rfl rfl 3 (by decide) (hts _ flX9_21) (fun _ h9 => h9) rfl hin rfl (tyX9_ok 3 (by decide)) rfl rfl (Nat.le_of_ble_eq_true rfl) dX9_init_37 (fun H locs hP hD hS => ?_)
  have hP : va_P D vwCl ([(h0, .inr (9, [.ref b1, .ref b2, .ref b3, .ref b4, .null, .int 0, .int 0, .int 0, .int 0, .int 0, .int 0, .int 0])), (b1, .inl (cs 0, 900, .inl (fun _ => 0))), (b2, .inl (cs 0, 901, .inl (fun _ => 0))), (b3, .inl (cs 0, 901, .inl (fun _ => 0))), (b4, .inl (cs 0, 901, .inl (fun _ => 0)))]) H := hP
  have hD : va_D A ([(h0, .inr (9, [.ref b1, .ref b2, .ref b3, .ref b4, .null, .int 0, .int 0, .int 0, .int 0, .int 0, .int 0, .int 0])), (b1, .inl (cs 0, 900, .inl (fun _ => 0))), (b2, .inl (cs 0, 901, .inl (fun _ => 0))), (b3, .inl (cs 0, 901, .inl (fun _ => 0))), (b4, .inl (cs 0, 901, .inl (fun _ => 0)))]) := hD
  refine lv_aload_n hx hb dX9_init_40 rfl (lv_at hl 0 rfl) ?_
  refine lv_sipush (v := 901) hx hb dX9_init_41 (by decide) ?_
  refine k_newl (N := 901) hx hb hts hK hP hD hS hA (by decide) (by decide) (by decide) (Nat.le_of_ble_eq_true rfl) (Nat.le_of_ble_eq_true rfl) dX9_init_44 (fun b5 H hP hD hS => ?_)
  have hP : va_P D vwCl ([(h0, .inr (9, [.ref b1, .ref b2, .ref b3, .ref b4, .null, .int 0, .int 0, .int 0, .int 0, .int 0, .int 0, .int 0])), (b1, .inl (cs 0, 900, .inl (fun _ => 0))), (b2, .inl (cs 0, 901, .inl (fun _ => 0))), (b3, .inl (cs 0, 901, .inl (fun _ => 0))), (b4, .inl (cs 0, 901, .inl (fun _ => 0))), (b5, .inl (cs 1, 901, .inr (.inl (fun _ => 0))))]) H := hP
  have hD : va_D A ([(h0, .inr (9, [.ref b1, .ref b2, .ref b3, .ref b4, .null, .int 0, .int 0, .int 0, .int 0, .int 0, .int 0, .int 0])), (b1, .inl (cs 0, 900, .inl (fun _ => 0))), (b2, .inl (cs 0, 901, .inl (fun _ => 0))), (b3, .inl (cs 0, 901, .inl (fun _ => 0))), (b4, .inl (cs 0, 901, .inl (fun _ => 0))), (b5, .inl (cs 1, 901, .inr (.inl (fun _ => 0))))]) := hD
  refine va_putF (D := D) (ci := 9) (v := .ref b5) (ty := (tyX9 4)) (C := RX9) (T := TX9) (N := 12) hx hb hts hiX9 tyX9 tyX9_ok nmX9 hown hK hP hD hS 0 rfl rfl 4 (by decide) (hts _ flX9_24) (fun _ h9 => h9) rfl hin rfl (tyX9_ok 4 (by decide)) rfl rfl (Nat.le_of_ble_eq_true rfl) dX9_init_46 (fun H locs hP hD hS => ?_)
  have hP : va_P D vwCl ([(h0, .inr (9, [.ref b1, .ref b2, .ref b3, .ref b4, .ref b5, .int 0, .int 0, .int 0, .int 0, .int 0, .int 0, .int 0])), (b1, .inl (cs 0, 900, .inl (fun _ => 0))), (b2, .inl (cs 0, 901, .inl (fun _ => 0))), (b3, .inl (cs 0, 901, .inl (fun _ => 0))), (b4, .inl (cs 0, 901, .inl (fun _ => 0))), (b5, .inl (cs 1, 901, .inr (.inl (fun _ => 0))))]) H := hP
  have hD : va_D A ([(h0, .inr (9, [.ref b1, .ref b2, .ref b3, .ref b4, .ref b5, .int 0, .int 0, .int 0, .int 0, .int 0, .int 0, .int 0])), (b1, .inl (cs 0, 900, .inl (fun _ => 0))), (b2, .inl (cs 0, 901, .inl (fun _ => 0))), (b3, .inl (cs 0, 901, .inl (fun _ => 0))), (b4, .inl (cs 0, 901, .inl (fun _ => 0))), (b5, .inl (cs 1, 901, .inr (.inl (fun _ => 0))))]) := hD
  refine lv_aload_n hx hb dX9_init_49 rfl (lv_at hl 0 rfl) ?_
  refine lv_iconst (v := (-1)) hx hb dX9_init_50 (by decide) ?_
  refine va_put (D := D) (ci := 9) (v := .int (-1)) (ty := .int) (C := RX9) (T := TX9) (N := 12) hx hb hts hiX9 tyX9 tyX9_ok nmX9 hown hK hP hD hS 0 rfl rfl 11 (by decide) (hts _ flX9_28) (fun _ h9 => h9) rfl (tyX9_ok 11 (by decide)) rfl rfl (Nat.le_of_ble_eq_true rfl) dX9_init_51 (fun H locs hP hD hS => ?_)
  have hP : va_P D vwCl ([(h0, .inr (9, [.ref b1, .ref b2, .ref b3, .ref b4, .ref b5, .int 0, .int 0, .int 0, .int 0, .int 0, .int 0, .int (-1)])), (b1, .inl (cs 0, 900, .inl (fun _ => 0))), (b2, .inl (cs 0, 901, .inl (fun _ => 0))), (b3, .inl (cs 0, 901, .inl (fun _ => 0))), (b4, .inl (cs 0, 901, .inl (fun _ => 0))), (b5, .inl (cs 1, 901, .inr (.inl (fun _ => 0))))]) H := hP
  have hD : va_D A ([(h0, .inr (9, [.ref b1, .ref b2, .ref b3, .ref b4, .ref b5, .int 0, .int 0, .int 0, .int 0, .int 0, .int 0, .int (-1)])), (b1, .inl (cs 0, 900, .inl (fun _ => 0))), (b2, .inl (cs 0, 901, .inl (fun _ => 0))), (b3, .inl (cs 0, 901, .inl (fun _ => 0))), (b4, .inl (cs 0, 901, .inl (fun _ => 0))), (b5, .inl (cs 1, 901, .inr (.inl (fun _ => 0))))]) := hD
  have hP : va_P D vwCl (W9 cs h0 (fun k => ([b1, b2, b3, b4, b5, 0, 0, 0, 0, 0, 0, 0] : List Nat).getD k 0) (fun k => ([0, 0, 0, 0, 0, 0, 0, 0, 0, 0, 0, (-1)] : List Int32).getD k 0) (fun _ _ => 0) (fun _ _ => 0)) H := k_sub hP [0, 1, 2, 3, 4, 5] rfl
  have hD : va_D A (W9 cs h0 (fun k => ([b1, b2, b3, b4, b5, 0, 0, 0, 0, 0, 0, 0] : List Nat).getD k 0) (fun k => ([0, 0, 0, 0, 0, 0, 0, 0, 0, 0, 0, (-1)] : List Int32).getD k 0) (fun _ _ => 0) (fun _ _ => 0)) := hD.sub [0, 1, 2, 3, 4, 5] (by decide) rfl
  exact k_mono (k_vret hx hb hr hlocks hK hP hD hS dX9_init_54) (fun t ht => ⟨(fun k => ([b1, b2, b3, b4, b5, 0, 0, 0, 0, 0, 0, 0] : List Nat).getD k 0), ht⟩)
theorem dvX2 : ∀ j, j < 6 → defaultValue (tyX2 j) = vp_V [.null, .null, .null, .null, .int 0, .int 0] j := by
  intro j hj
  match j, hj with
  | 0, _ => rfl
  | 1, _ => rfl
  | 2, _ => rfl
  | 3, _ => rfl
  | 4, _ => rfl
  | 5, _ => rfl
  | j + 6, hj => exact absurd hj (by omega)
theorem qnX2_init : yX2_init.cls ≠ "java/lang/invoke/MethodHandle" ∧ yX2_init.cls ≠ "java/lang/invoke/VarHandle" ∧ (parseMethodDescriptor yX2_init.desc).map (fun d => d.parameters.length) = some 0 := by decide +kernel
abbrev wlX2_init : List Cond := Cond.code yX2_init cX2_init 1 none :: tbG
abbrev rmX2_init : Room := { frames := 1, cells := 4, slots := 160, locals := 20 }
set_option maxRecDepth 100000 in
set_option maxHeartbeats 8000000 in
theorem c_X2_init {l : Launch} {D : va_G} {cs zs : Nat → Nat} {h0 : Nat} : MN (S := Nat → Nat) l yX2_init wlX2_init rmX2_init D cs zs [.ref h0] [(h0, .inr (2, [.null, .null, .null, .null, .int 0, .int 0]))] (fun u => W2 cs h0 u (fun k => ([0, 0, 0, 0, 1, 0] : List Int32).getD k 0) (fun _ _ => 0)) 4 160 := by
  refine MN.of RX2 (by decide) rfl rfl (Nat.le_of_ble_eq_true rfl) (fun p e s m below meth c A C hin hX hP hD hS ls hl => ?_)
  generalize ([.ref h0] : List Value).toArray = args at C ⊢
  obtain ⟨hx, hb, hr, hml, hown, hts, hK, hA, hlocks, hZ⟩ := id C
  have hl : lv_has ls 1 [(0, .ref h0)] := hl
  refine lv_aload_n hx hb dX2_init_0 rfl (lv_at hl 0 rfl) ?_
  refine W.objInit hx hb hown (hts _ mlX2_3) (hts _ imoinit) (hts _ cooinit) rfl (by rw [hml]; exact hl.1) rfl dX2_init_1 (Nat.le_of_ble_eq_true rfl) (Nat.le_of_ble_eq_true rfl) ?_
  refine W.eq (g2 := F0 m 4 ls []) rfl ?_
  refine lv_aload_n hx hb dX2_init_4 rfl (lv_at hl 0 rfl) ?_
  refine lv_bipush (v := 40) hx hb dX2_init_5 (by decide) ?_
  refine k_newi (N := 40) hx hb hts hK hP hD hS hA (by decide) (by decide) (by decide) (Nat.le_of_ble_eq_true rfl) (Nat.le_of_ble_eq_true rfl) dX2_init_7 (fun b1 H hP hD hS => ?_)
  have hP : va_P D vwCl ([(h0, .inr (2, [.null, .null, .null, .null, .int 0, .int 0])), (b1, .inl (cs 0, 40, .inl (fun _ => 0)))]) H := hP
  have hD : va_D A ([(h0, .inr (2, [.null, .null, .null, .null, .int 0, .int 0])), (b1, .inl (cs 0, 40, .inl (fun _ => 0)))]) := hD
  refine va_putF (D := D) (ci := 2) (v := .ref b1) (ty := (tyX2 0)) (C := RX2) (T := TX2) (N := 6) hx hb hts hiX2 tyX2 tyX2_ok nmX2 hown hK hP hD hS 0 rfl rfl 0 (by decide) (hts _ flX2_9) (fun _ h9 => h9) rfl hin rfl (tyX2_ok 0 (by decide)) rfl rfl (Nat.le_of_ble_eq_true rfl) dX2_init_9 (fun H locs hP hD hS => ?_)
  have hP : va_P D vwCl ([(h0, .inr (2, [.ref b1, .null, .null, .null, .int 0, .int 0])), (b1, .inl (cs 0, 40, .inl (fun _ => 0)))]) H := hP
  have hD : va_D A ([(h0, .inr (2, [.ref b1, .null, .null, .null, .int 0, .int 0])), (b1, .inl (cs 0, 40, .inl (fun _ => 0)))]) := hD
  refine lv_aload_n hx hb dX2_init_12 rfl (lv_at hl 0 rfl) ?_
  refine lv_bipush (v := 40) hx hb dX2_init_13 (by decide) ?_
  refine k_newi (N := 40) hx hb hts hK hP hD hS hA (by decide) (by decide) (by decide) (Nat.le_of_ble_eq_true rfl) (Nat.le_of_ble_eq_true rfl) dX2_init_15 (fun b2 H hP hD hS => ?_)
  have hP : va_P D vwCl ([(h0, .inr (2, [.ref b1, .null, .null, .null, .int 0, .int 0])), (b1, .inl (cs 0, 40, .inl (fun _ => 0))), (b2, .inl (cs 0, 40, .inl (fun _ => 0)))]) H := hP
  have hD : va_D A ([(h0, .inr (2, [.ref b1, .null, .null, .null, .int 0, .int 0])), (b1, .inl (cs 0, 40, .inl (fun _ => 0))), (b2, .inl (cs 0, 40, .inl (fun _ => 0)))]) := hD
  refine va_putF (D := D) (ci := 2) (v := .ref b2) (ty := (tyX2 1)) (C := RX2) (T := TX2) (N := 6) hx hb hts hiX2 tyX2 tyX2_ok nmX2 hown hK hP hD hS 0 rfl rfl 1 (by decide) (hts _ flX2_15) (fun _ h9 => h9) rfl hin rfl (tyX2_ok 1 (by decide)) rfl rfl (Nat.le_of_ble_eq_true rfl) dX2_init_17 (fun H locs hP hD hS => ?_)
  have hP : va_P D vwCl ([(h0, .inr (2, [.ref b1, .ref b2, .null, .null, .int 0, .int 0])), (b1, .inl (cs 0, 40, .inl (fun _ => 0))), (b2, .inl (cs 0, 40, .inl (fun _ => 0)))]) H := hP
  have hD : va_D A ([(h0, .inr (2, [.ref b1, .ref b2, .null, .null, .int 0, .int 0])), (b1, .inl (cs 0, 40, .inl (fun _ => 0))), (b2, .inl (cs 0, 40, .inl (fun _ => 0)))]) := hD
  refine lv_aload_n hx hb dX2_init_20 rfl (lv_at hl 0 rfl) ?_
  refine lv_bipush (v := 40) hx hb dX2_init_21 (by decide) ?_
  refine k_newi (N := 40) hx hb hts hK hP hD hS hA (by decide) (by decide) (by decide) (Nat.le_of_ble_eq_true rfl) (Nat.le_of_ble_eq_true rfl) dX2_init_23 (fun b3 H hP hD hS => ?_)
  have hP : va_P D vwCl ([(h0, .inr (2, [.ref b1, .ref b2, .null, .null, .int 0, .int 0])), (b1, .inl (cs 0, 40, .inl (fun _ => 0))), (b2, .inl (cs 0, 40, .inl (fun _ => 0))), (b3, .inl (cs 0, 40, .inl (fun _ => 0)))]) H := hP
  have hD : va_D A ([(h0, .inr (2, [.ref b1, .ref b2, .null, .null, .int 0, .int 0])), (b1, .inl (cs 0, 40, .inl (fun _ => 0))), (b2, .inl (cs 0, 40, .inl (fun _ => 0))), (b3, .inl (cs 0, 40, .inl (fun _ => 0)))]) := hD
  refine va_putF (D := D) (ci := 2) (v := .ref b3) (ty := (tyX2 2)) (C := RX2) (T := TX2) (N := 6) hx hb hts hiX2 tyX2 tyX2_ok nmX2 hown hK hP hD hS 0 rfl rfl 2 (by decide) (hts _ flX2_18) (fun _ h9 => h9) rfl hin rfl (tyX2_ok 2 (by decide)) rfl rfl (Nat.le_of_ble_eq_true rfl) dX2_init_25 (fun H locs hP hD hS => ?_)
  have hP : va_P D vwCl ([(h0, .inr (2, [.ref b1, .ref b2, .ref b3, .null, .int 0, .int 0])), (b1, .inl (cs 0, 40, .inl (fun _ => 0))), (b2, .inl (cs 0, 40, .inl (fun _ => 0))), (b3, .inl (cs 0, 40, .inl (fun _ => 0)))]) H := hP
  have hD : va_D A ([(h0, .inr (2, [.ref b1, .ref b2, .ref b3, .null, .int 0, .int 0])), (b1, .inl (cs 0, 40, .inl (fun _ => 0))), (b2, .inl (cs 0, 40, .inl (fun _ => 0))), (b3, .inl (cs 0, 40, .inl (fun _ => 0)))]) := hD
  refine lv_aload_n hx hb dX2_init_28 rfl (lv_at hl 0 rfl) ?_
  refine lv_bipush (v := 40) hx hb dX2_init_29 (by decide) ?_
  refine k_newi (N := 40) hx hb hts hK hP hD hS hA (by decide) (by decide) (by decide) (Nat.le_of_ble_eq_true rfl) (Nat.le_of_ble_eq_true rfl) dX2_init_31 (fun b4 H hP hD hS => ?_)
  have hP : va_P D vwCl ([(h0, .inr (2, [.ref b1, .ref b2, .ref b3, .null, .int 0, .int 0])), (b1, .inl (cs 0, 40, .inl (fun _ => 0))), (b2, .inl (cs 0, 40, .inl (fun _ => 0))), (b3, .inl (cs 0, 40, .inl (fun _ => 0))), (b4, .inl (cs 0, 40, .inl (fun _ => 0)))]) H := hP
  have hD : va_D A ([(h0, .inr (2, [.ref b1, .ref b2, .ref b3, .null, .int 0, .int 0])), (b1, .inl (cs 0, 40, .inl (fun _ => 0))), (b2, .inl (cs 0, 40, .inl (fun _ => 0))), (b3, .inl (cs 0, 40, .inl (fun _ => 0))), (b4, .inl (cs 0, 40, .inl (fun _ => 0)))]) := hD
  refine va_putF (D := D) (ci := 2) (v := .ref b4) (ty := (tyX2 3)) (C := RX2) (T := TX2) (N := 6) hx hb hts hiX2 tyX2 tyX2_ok nmX2 hown hK hP hD hS 0 rfl rfl 3 (by decide) (hts _ flX2_21) (fun _ h9 => h9) rfl hin rfl (tyX2_ok 3 (by decide)) rfl rfl (Nat.le_of_ble_eq_true rfl) dX2_init_33 (fun H locs hP hD hS => ?_)
  have hP : va_P D vwCl ([(h0, .inr (2, [.ref b1, .ref b2, .ref b3, .ref b4, .int 0, .int 0])), (b1, .inl (cs 0, 40, .inl (fun _ => 0))), (b2, .inl (cs 0, 40, .inl (fun _ => 0))), (b3, .inl (cs 0, 40, .inl (fun _ => 0))), (b4, .inl (cs 0, 40, .inl (fun _ => 0)))]) H := hP
  have hD : va_D A ([(h0, .inr (2, [.ref b1, .ref b2, .ref b3, .ref b4, .int 0, .int 0])), (b1, .inl (cs 0, 40, .inl (fun _ => 0))), (b2, .inl (cs 0, 40, .inl (fun _ => 0))), (b3, .inl (cs 0, 40, .inl (fun _ => 0))), (b4, .inl (cs 0, 40, .inl (fun _ => 0)))]) := hD
  refine lv_aload_n hx hb dX2_init_36 rfl (lv_at hl 0 rfl) ?_
  refine lv_iconst (v := 1) hx hb dX2_init_37 (by decide) ?_
  refine va_put (D := D) (ci := 2) (v := .int 1) (ty := .int) (C := RX2) (T := TX2) (N := 6) hx hb hts hiX2 tyX2 tyX2_ok nmX2 hown hK hP hD hS 0 rfl rfl 4 (by decide) (hts _ flX2_24) (fun _ h9 => h9) rfl (tyX2_ok 4 (by decide)) rfl rfl (Nat.le_of_ble_eq_true rfl) dX2_init_38 (fun H locs hP hD hS => ?_)
  have hP : va_P D vwCl ([(h0, .inr (2, [.ref b1, .ref b2, .ref b3, .ref b4, .int 1, .int 0])), (b1, .inl (cs 0, 40, .inl (fun _ => 0))), (b2, .inl (cs 0, 40, .inl (fun _ => 0))), (b3, .inl (cs 0, 40, .inl (fun _ => 0))), (b4, .inl (cs 0, 40, .inl (fun _ => 0)))]) H := hP
  have hD : va_D A ([(h0, .inr (2, [.ref b1, .ref b2, .ref b3, .ref b4, .int 1, .int 0])), (b1, .inl (cs 0, 40, .inl (fun _ => 0))), (b2, .inl (cs 0, 40, .inl (fun _ => 0))), (b3, .inl (cs 0, 40, .inl (fun _ => 0))), (b4, .inl (cs 0, 40, .inl (fun _ => 0)))]) := hD
  have hP : va_P D vwCl (W2 cs h0 (fun k => ([b1, b2, b3, b4, 0, 0] : List Nat).getD k 0) (fun k => ([0, 0, 0, 0, 1, 0] : List Int32).getD k 0) (fun _ _ => 0)) H := k_sub hP [0, 1, 2, 3, 4] rfl
  have hD : va_D A (W2 cs h0 (fun k => ([b1, b2, b3, b4, 0, 0] : List Nat).getD k 0) (fun k => ([0, 0, 0, 0, 1, 0] : List Int32).getD k 0) (fun _ _ => 0)) := hD.sub [0, 1, 2, 3, 4] (by decide) rfl
  exact k_mono (k_vret hx hb hr hlocks hK hP hD hS dX2_init_41) (fun t ht => ⟨(fun k => ([b1, b2, b3, b4, 0, 0] : List Nat).getD k 0), ht⟩)
theorem dvX8 : ∀ j, j < 4 → defaultValue (tyX8 j) = vp_V [.null, .null, .null, .int 0] j := by
  intro j hj
  match j, hj with
  | 0, _ => rfl
  | 1, _ => rfl
  | 2, _ => rfl
  | 3, _ => rfl
  | j + 4, hj => exact absurd hj (by omega)
theorem qnX8_init : yX8_init.cls ≠ "java/lang/invoke/MethodHandle" ∧ yX8_init.cls ≠ "java/lang/invoke/VarHandle" ∧ (parseMethodDescriptor yX8_init.desc).map (fun d => d.parameters.length) = some 0 := by decide +kernel
abbrev wlX8_init : List Cond := Cond.code yX8_init cX8_init 1 none :: tbG
abbrev rmX8_init : Room := { frames := 1, cells := 3, slots := 336, locals := 20 }
set_option maxRecDepth 100000 in
set_option maxHeartbeats 8000000 in
theorem c_X8_init {l : Launch} {D : va_G} {cs zs : Nat → Nat} {h0 : Nat} : MN (S := Nat → Nat) l yX8_init wlX8_init rmX8_init D cs zs [.ref h0] [(h0, .inr (8, [.null, .null, .null, .int 0]))] (fun u => W8 cs h0 u (fun k => ([0, 0, 0, 0] : List Int32).getD k 0) (fun _ _ => 0)) 3 336 := by
  refine MN.of RX8 (by decide) rfl rfl (Nat.le_of_ble_eq_true rfl) (fun p e s m below meth c A C hin hX hP hD hS ls hl => ?_)
  generalize ([.ref h0] : List Value).toArray = args at C ⊢
  obtain ⟨hx, hb, hr, hml, hown, hts, hK, hA, hlocks, hZ⟩ := id C
  have hl : lv_has ls 1 [(0, .ref h0)] := hl
  refine lv_aload_n hx hb dX8_init_0 rfl (lv_at hl 0 rfl) ?_
  refine W.objInit hx hb hown (hts _ mlX8_3) (hts _ imoinit) (hts _ cooinit) rfl (by rw [hml]; exact hl.1) rfl dX8_init_1 (Nat.le_of_ble_eq_true rfl) (Nat.le_of_ble_eq_true rfl) ?_
  refine W.eq (g2 := F0 m 4 ls []) rfl ?_
  refine lv_aload_n hx hb dX8_init_4 rfl (lv_at hl 0 rfl) ?_
  refine lv_sipush (v := 256) hx hb dX8_init_5 (by decide) ?_
  refine k_newi (N := 256) hx hb hts hK hP hD hS hA (by decide) (by decide) (by decide) (Nat.le_of_ble_eq_true rfl) (Nat.le_of_ble_eq_true rfl) dX8_init_8 (fun b1 H hP hD hS => ?_)
  have hP : va_P D vwCl ([(h0, .inr (8, [.null, .null, .null, .int 0])), (b1, .inl (cs 0, 256, .inl (fun _ => 0)))]) H := hP
  have hD : va_D A ([(h0, .inr (8, [.null, .null, .null, .int 0])), (b1, .inl (cs 0, 256, .inl (fun _ => 0)))]) := hD
  refine va_putF (D := D) (ci := 8) (v := .ref b1) (ty := (tyX8 0)) (C := RX8) (T := TX8) (N := 4) hx hb hts hiX8 tyX8 tyX8_ok nmX8 hown hK hP hD hS 0 rfl rfl 0 (by decide) (hts _ flX8_9) (fun _ h9 => h9) rfl hin rfl (tyX8_ok 0 (by decide)) rfl rfl (Nat.le_of_ble_eq_true rfl) dX8_init_10 (fun H locs hP hD hS => ?_)
  have hP : va_P D vwCl ([(h0, .inr (8, [.ref b1, .null, .null, .int 0])), (b1, .inl (cs 0, 256, .inl (fun _ => 0)))]) H := hP
  have hD : va_D A ([(h0, .inr (8, [.ref b1, .null, .null, .int 0])), (b1, .inl (cs 0, 256, .inl (fun _ => 0)))]) := hD
  refine lv_aload_n hx hb dX8_init_13 rfl (lv_at hl 0 rfl) ?_
  refine lv_bipush (v := 40) hx hb dX8_init_14 (by decide) ?_
  refine k_newi (N := 40) hx hb hts hK hP hD hS hA (by decide) (by decide) (by decide) (Nat.le_of_ble_eq_true rfl) (Nat.le_of_ble_eq_true rfl) dX8_init_16 (fun b2 H hP hD hS => ?_)
  have hP : va_P D vwCl ([(h0, .inr (8, [.ref b1, .null, .null, .int 0])), (b1, .inl (cs 0, 256, .inl (fun _ => 0))), (b2, .inl (cs 0, 40, .inl (fun _ => 0)))]) H := hP
  have hD : va_D A ([(h0, .inr (8, [.ref b1, .null, .null, .int 0])), (b1, .inl (cs 0, 256, .inl (fun _ => 0))), (b2, .inl (cs 0, 40, .inl (fun _ => 0)))]) := hD
  refine va_putF (D := D) (ci := 8) (v := .ref b2) (ty := (tyX8 1)) (C := RX8) (T := TX8) (N := 4) hx hb hts hiX8 tyX8 tyX8_ok nmX8 hown hK hP hD hS 0 rfl rfl 1 (by decide) (hts _ flX8_15) (fun _ h9 => h9) rfl hin rfl (tyX8_ok 1 (by decide)) rfl rfl (Nat.le_of_ble_eq_true rfl) dX8_init_18 (fun H locs hP hD hS => ?_)
  have hP : va_P D vwCl ([(h0, .inr (8, [.ref b1, .ref b2, .null, .int 0])), (b1, .inl (cs 0, 256, .inl (fun _ => 0))), (b2, .inl (cs 0, 40, .inl (fun _ => 0)))]) H := hP
  have hD : va_D A ([(h0, .inr (8, [.ref b1, .ref b2, .null, .int 0])), (b1, .inl (cs 0, 256, .inl (fun _ => 0))), (b2, .inl (cs 0, 40, .inl (fun _ => 0)))]) := hD
  refine lv_aload_n hx hb dX8_init_21 rfl (lv_at hl 0 rfl) ?_
  refine lv_bipush (v := 40) hx hb dX8_init_22 (by decide) ?_
  refine k_newi (N := 40) hx hb hts hK hP hD hS hA (by decide) (by decide) (by decide) (Nat.le_of_ble_eq_true rfl) (Nat.le_of_ble_eq_true rfl) dX8_init_24 (fun b3 H hP hD hS => ?_)
  have hP : va_P D vwCl ([(h0, .inr (8, [.ref b1, .ref b2, .null, .int 0])), (b1, .inl (cs 0, 256, .inl (fun _ => 0))), (b2, .inl (cs 0, 40, .inl (fun _ => 0))), (b3, .inl (cs 0, 40, .inl (fun _ => 0)))]) H := hP
  have hD : va_D A ([(h0, .inr (8, [.ref b1, .ref b2, .null, .int 0])), (b1, .inl (cs 0, 256, .inl (fun _ => 0))), (b2, .inl (cs 0, 40, .inl (fun _ => 0))), (b3, .inl (cs 0, 40, .inl (fun _ => 0)))]) := hD
  refine va_putF (D := D) (ci := 8) (v := .ref b3) (ty := (tyX8 2)) (C := RX8) (T := TX8) (N := 4) hx hb hts hiX8 tyX8 tyX8_ok nmX8 hown hK hP hD hS 0 rfl rfl 2 (by decide) (hts _ flX8_18) (fun _ h9 => h9) rfl hin rfl (tyX8_ok 2 (by decide)) rfl rfl (Nat.le_of_ble_eq_true rfl) dX8_init_26 (fun H locs hP hD hS => ?_)
  have hP : va_P D vwCl ([(h0, .inr (8, [.ref b1, .ref b2, .ref b3, .int 0])), (b1, .inl (cs 0, 256, .inl (fun _ => 0))), (b2, .inl (cs 0, 40, .inl (fun _ => 0))), (b3, .inl (cs 0, 40, .inl (fun _ => 0)))]) H := hP
  have hD : va_D A ([(h0, .inr (8, [.ref b1, .ref b2, .ref b3, .int 0])), (b1, .inl (cs 0, 256, .inl (fun _ => 0))), (b2, .inl (cs 0, 40, .inl (fun _ => 0))), (b3, .inl (cs 0, 40, .inl (fun _ => 0)))]) := hD
  have hP : va_P D vwCl (W8 cs h0 (fun k => ([b1, b2, b3, 0] : List Nat).getD k 0) (fun k => ([0, 0, 0, 0] : List Int32).getD k 0) (fun _ _ => 0)) H := k_sub hP [0, 1, 2, 3] rfl
  have hD : va_D A (W8 cs h0 (fun k => ([b1, b2, b3, 0] : List Nat).getD k 0) (fun k => ([0, 0, 0, 0] : List Int32).getD k 0) (fun _ _ => 0)) := hD.sub [0, 1, 2, 3] (by decide) rfl
  exact k_mono (k_vret hx hb hr hlocks hK hP hD hS dX8_init_29) (fun t ht => ⟨(fun k => ([b1, b2, b3, 0] : List Nat).getD k 0), ht⟩)
theorem dvX7 : ∀ j, j < 13 → defaultValue (tyX7 j) = vp_V [.null, .null, .null, .null, .null, .null, .int 0, .int 0, .int 0, .int 0, .int 0, .int 0, .int 0] j := by
  intro j hj
  match j, hj with
  | 0, _ => rfl
  | 1, _ => rfl
  | 2, _ => rfl
  | 3, _ => rfl
  | 4, _ => rfl
  | 5, _ => rfl
  | 6, _ => rfl
  | 7, _ => rfl
  | 8, _ => rfl
  | 9, _ => rfl
  | 10, _ => rfl
  | 11, _ => rfl
  | 12, _ => rfl
  | j + 13, hj => exact absurd hj (by omega)
theorem qnX7_init : yX7_init.cls ≠ "java/lang/invoke/MethodHandle" ∧ yX7_init.cls ≠ "java/lang/invoke/VarHandle" ∧ (parseMethodDescriptor yX7_init.desc).map (fun d => d.parameters.length) = some 0 := by decide +kernel
abbrev wlX7_init : List Cond := Cond.code yX7_init cX7_init 1 none :: tbG
abbrev rmX7_init : Room := { frames := 1, cells := 6, slots := 84, locals := 20 }
set_option maxRecDepth 100000 in
set_option maxHeartbeats 8000000 in
theorem c_X7_init {l : Launch} {D : va_G} {cs zs : Nat → Nat} {h0 : Nat} : MN (S := Nat → Nat) l yX7_init wlX7_init rmX7_init D cs zs [.ref h0] [(h0, .inr (7, [.null, .null, .null, .null, .null, .null, .int 0, .int 0, .int 0, .int 0, .int 0, .int 0, .int 0]))] (fun u => W7 cs h0 u (fun k => ([0, 0, 0, 0, 0, 0, 0, (-1), 0, 0, 0, 0, 0] : List Int32).getD k 0) (fun _ _ => 0) (fun _ => 0)) 6 84 := by
  refine MN.of RX7 (by decide) rfl rfl (Nat.le_of_ble_eq_true rfl) (fun p e s m below meth c A C hin hX hP hD hS ls hl => ?_)
  generalize ([.ref h0] : List Value).toArray = args at C ⊢
  obtain ⟨hx, hb, hr, hml, hown, hts, hK, hA, hlocks, hZ⟩ := id C
  have hl : lv_has ls 1 [(0, .ref h0)] := hl
  refine lv_aload_n hx hb dX7_init_0 rfl (lv_at hl 0 rfl) ?_
  refine W.objInit hx hb hown (hts _ mlX7_3) (hts _ imoinit) (hts _ cooinit) rfl (by rw [hml]; exact hl.1) rfl dX7_init_1 (Nat.le_of_ble_eq_true rfl) (Nat.le_of_ble_eq_true rfl) ?_
  refine W.eq (g2 := F0 m 4 ls []) rfl ?_
  refine lv_aload_n hx hb dX7_init_4 rfl (lv_at hl 0 rfl) ?_
  refine va_gets hx hb hZ.1 hS hown (hts _ flX7_9) (fun _ h9 => h9) dX7_init_5 ?_
  refine va_tlen (v := 18) hx hb hZ.2.1 hS rfl dX7_init_8 ?_
  refine k_newi (N := 18) hx hb hts hK hP hD hS hA (by decide) (by decide) (by decide) (Nat.le_of_ble_eq_true rfl) (Nat.le_of_ble_eq_true rfl) dX7_init_9 (fun b1 H hP hD hS => ?_)
  have hP : va_P D vwCl ([(h0, .inr (7, [.null, .null, .null, .null, .null, .null, .int 0, .int 0, .int 0, .int 0, .int 0, .int 0, .int 0])), (b1, .inl (cs 0, 18, .inl (fun _ => 0)))]) H := hP
  have hD : va_D A ([(h0, .inr (7, [.null, .null, .null, .null, .null, .null, .int 0, .int 0, .int 0, .int 0, .int 0, .int 0, .int 0])), (b1, .inl (cs 0, 18, .inl (fun _ => 0)))]) := hD
  refine va_putF (D := D) (ci := 7) (v := .ref b1) (ty := (tyX7 0)) (C := RX7) (T := TX7) (N := 13) hx hb hts hiX7 tyX7 tyX7_ok nmX7 hown hK hP hD hS 0 rfl rfl 0 (by decide) (hts _ flX7_15) (fun _ h9 => h9) rfl hin rfl (tyX7_ok 0 (by decide)) rfl rfl (Nat.le_of_ble_eq_true rfl) dX7_init_11 (fun H locs hP hD hS => ?_)
  have hP : va_P D vwCl ([(h0, .inr (7, [.ref b1, .null, .null, .null, .null, .null, .int 0, .int 0, .int 0, .int 0, .int 0, .int 0, .int 0])), (b1, .inl (cs 0, 18, .inl (fun _ => 0)))]) H := hP
  have hD : va_D A ([(h0, .inr (7, [.ref b1, .null, .null, .null, .null, .null, .int 0, .int 0, .int 0, .int 0, .int 0, .int 0, .int 0])), (b1, .inl (cs 0, 18, .inl (fun _ => 0)))]) := hD
  refine lv_aload_n hx hb dX7_init_14 rfl (lv_at hl 0 rfl) ?_
  refine lv_bipush (v := 40) hx hb dX7_init_15 (by decide) ?_
  refine k_newi (N := 40) hx hb hts hK hP hD hS hA (by decide) (by decide) (by decide) (Nat.le_of_ble_eq_true rfl) (Nat.le_of_ble_eq_true rfl) dX7_init_17 (fun b2 H hP hD hS => ?_)
  have hP : va_P D vwCl ([(h0, .inr (7, [.ref b1, .null, .null, .null, .null, .null, .int 0, .int 0, .int 0, .int 0, .int 0, .int 0, .int 0])), (b1, .inl (cs 0, 18, .inl (fun _ => 0))), (b2, .inl (cs 0, 40, .inl (fun _ => 0)))]) H := hP
  have hD : va_D A ([(h0, .inr (7, [.ref b1, .null, .null, .null, .null, .null, .int 0, .int 0, .int 0, .int 0, .int 0, .int 0, .int 0])), (b1, .inl (cs 0, 18, .inl (fun _ => 0))), (b2, .inl (cs 0, 40, .inl (fun _ => 0)))]) := hD
  refine va_putF (D := D) (ci := 7) (v := .ref b2) (ty := (tyX7 1)) (C := RX7) (T := TX7) (N := 13) hx hb hts hiX7 tyX7 tyX7_ok nmX7 hown hK hP hD hS 0 rfl rfl 1 (by decide) (hts _ flX7_18) (fun _ h9 => h9) rfl hin rfl (tyX7_ok 1 (by decide)) rfl rfl (Nat.le_of_ble_eq_true rfl) dX7_init_19 (fun H locs hP hD hS => ?_)
  have hP : va_P D vwCl ([(h0, .inr (7, [.ref b1, .ref b2, .null, .null, .null, .null, .int 0, .int 0, .int 0, .int 0, .int 0, .int 0, .int 0])), (b1, .inl (cs 0, 18, .inl (fun _ => 0))), (b2, .inl (cs 0, 40, .inl (fun _ => 0)))]) H := hP
  have hD : va_D A ([(h0, .inr (7, [.ref b1, .ref b2, .null, .null, .null, .null, .int 0, .int 0, .int 0, .int 0, .int 0, .int 0, .int 0])), (b1, .inl (cs 0, 18, .inl (fun _ => 0))), (b2, .inl (cs 0, 40, .inl (fun _ => 0)))]) := hD
  refine lv_aload_n hx hb dX7_init_22 rfl (lv_at hl 0 rfl) ?_
  refine lv_bipush (v := 13) hx hb dX7_init_23 (by decide) ?_
  refine k_newi (N := 13) hx hb hts hK hP hD hS hA (by decide) (by decide) (by decide) (Nat.le_of_ble_eq_true rfl) (Nat.le_of_ble_eq_true rfl) dX7_init_25 (fun b3 H hP hD hS => ?_)
  have hP : va_P D vwCl ([(h0, .inr (7, [.ref b1, .ref b2, .null, .null, .null, .null, .int 0, .int 0, .int 0, .int 0, .int 0, .int 0, .int 0])), (b1, .inl (cs 0, 18, .inl (fun _ => 0))), (b2, .inl (cs 0, 40, .inl (fun _ => 0))), (b3, .inl (cs 0, 13, .inl (fun _ => 0)))]) H := hP
  have hD : va_D A ([(h0, .inr (7, [.ref b1, .ref b2, .null, .null, .null, .null, .int 0, .int 0, .int 0, .int 0, .int 0, .int 0, .int 0])), (b1, .inl (cs 0, 18, .inl (fun _ => 0))), (b2, .inl (cs 0, 40, .inl (fun _ => 0))), (b3, .inl (cs 0, 13, .inl (fun _ => 0)))]) := hD
  refine va_putF (D := D) (ci := 7) (v := .ref b3) (ty := (tyX7 2)) (C := RX7) (T := TX7) (N := 13) hx hb hts hiX7 tyX7 tyX7_ok nmX7 hown hK hP hD hS 0 rfl rfl 2 (by decide) (hts _ flX7_21) (fun _ h9 => h9) rfl hin rfl (tyX7_ok 2 (by decide)) rfl rfl (Nat.le_of_ble_eq_true rfl) dX7_init_27 (fun H locs hP hD hS => ?_)
  have hP : va_P D vwCl ([(h0, .inr (7, [.ref b1, .ref b2, .ref b3, .null, .null, .null, .int 0, .int 0, .int 0, .int 0, .int 0, .int 0, .int 0])), (b1, .inl (cs 0, 18, .inl (fun _ => 0))), (b2, .inl (cs 0, 40, .inl (fun _ => 0))), (b3, .inl (cs 0, 13, .inl (fun _ => 0)))]) H := hP
  have hD : va_D A ([(h0, .inr (7, [.ref b1, .ref b2, .ref b3, .null, .null, .null, .int 0, .int 0, .int 0, .int 0, .int 0, .int 0, .int 0])), (b1, .inl (cs 0, 18, .inl (fun _ => 0))), (b2, .inl (cs 0, 40, .inl (fun _ => 0))), (b3, .inl (cs 0, 13, .inl (fun _ => 0)))]) := hD
  refine lv_aload_n hx hb dX7_init_30 rfl (lv_at hl 0 rfl) ?_
  refine lv_bipush (v := 13) hx hb dX7_init_31 (by decide) ?_
  refine k_newi (N := 13) hx hb hts hK hP hD hS hA (by decide) (by decide) (by decide) (Nat.le_of_ble_eq_true rfl) (Nat.le_of_ble_eq_true rfl) dX7_init_33 (fun b4 H hP hD hS => ?_)
  have hP : va_P D vwCl ([(h0, .inr (7, [.ref b1, .ref b2, .ref b3, .null, .null, .null, .int 0, .int 0, .int 0, .int 0, .int 0, .int 0, .int 0])), (b1, .inl (cs 0, 18, .inl (fun _ => 0))), (b2, .inl (cs 0, 40, .inl (fun _ => 0))), (b3, .inl (cs 0, 13, .inl (fun _ => 0))), (b4, .inl (cs 0, 13, .inl (fun _ => 0)))]) H := hP
  have hD : va_D A ([(h0, .inr (7, [.ref b1, .ref b2, .ref b3, .null, .null, .null, .int 0, .int 0, .int 0, .int 0, .int 0, .int 0, .int 0])), (b1, .inl (cs 0, 18, .inl (fun _ => 0))), (b2, .inl (cs 0, 40, .inl (fun _ => 0))), (b3, .inl (cs 0, 13, .inl (fun _ => 0))), (b4, .inl (cs 0, 13, .inl (fun _ => 0)))]) := hD
  refine va_putF (D := D) (ci := 7) (v := .ref b4) (ty := (tyX7 3)) (C := RX7) (T := TX7) (N := 13) hx hb hts hiX7 tyX7 tyX7_ok nmX7 hown hK hP hD hS 0 rfl rfl 3 (by decide) (hts _ flX7_24) (fun _ h9 => h9) rfl hin rfl (tyX7_ok 3 (by decide)) rfl rfl (Nat.le_of_ble_eq_true rfl) dX7_init_35 (fun H locs hP hD hS => ?_)
  have hP : va_P D vwCl ([(h0, .inr (7, [.ref b1, .ref b2, .ref b3, .ref b4, .null, .null, .int 0, .int 0, .int 0, .int 0, .int 0, .int 0, .int 0])), (b1, .inl (cs 0, 18, .inl (fun _ => 0))), (b2, .inl (cs 0, 40, .inl (fun _ => 0))), (b3, .inl (cs 0, 13, .inl (fun _ => 0))), (b4, .inl (cs 0, 13, .inl (fun _ => 0)))]) H := hP
  have hD : va_D A ([(h0, .inr (7, [.ref b1, .ref b2, .ref b3, .ref b4, .null, .null, .int 0, .int 0, .int 0, .int 0, .int 0, .int 0, .int 0])), (b1, .inl (cs 0, 18, .inl (fun _ => 0))), (b2, .inl (cs 0, 40, .inl (fun _ => 0))), (b3, .inl (cs 0, 13, .inl (fun _ => 0))), (b4, .inl (cs 0, 13, .inl (fun _ => 0)))]) := hD
  refine lv_aload_n hx hb dX7_init_38 rfl (lv_at hl 0 rfl) ?_
  refine lv_iconst (v := 0) hx hb dX7_init_39 (by decide) ?_
  refine k_newi (N := 0) hx hb hts hK hP hD hS hA (by decide) (by decide) (by decide) (Nat.le_of_ble_eq_true rfl) (Nat.le_of_ble_eq_true rfl) dX7_init_40 (fun b5 H hP hD hS => ?_)
  have hP : va_P D vwCl ([(h0, .inr (7, [.ref b1, .ref b2, .ref b3, .ref b4, .null, .null, .int 0, .int 0, .int 0, .int 0, .int 0, .int 0, .int 0])), (b1, .inl (cs 0, 18, .inl (fun _ => 0))), (b2, .inl (cs 0, 40, .inl (fun _ => 0))), (b3, .inl (cs 0, 13, .inl (fun _ => 0))), (b4, .inl (cs 0, 13, .inl (fun _ => 0))), (b5, .inl (cs 0, 0, .inl (fun _ => 0)))]) H := hP
  have hD : va_D A ([(h0, .inr (7, [.ref b1, .ref b2, .ref b3, .ref b4, .null, .null, .int 0, .int 0, .int 0, .int 0, .int 0, .int 0, .int 0])), (b1, .inl (cs 0, 18, .inl (fun _ => 0))), (b2, .inl (cs 0, 40, .inl (fun _ => 0))), (b3, .inl (cs 0, 13, .inl (fun _ => 0))), (b4, .inl (cs 0, 13, .inl (fun _ => 0))), (b5, .inl (cs 0, 0, .inl (fun _ => 0)))]) := hD
  refine va_put (D := D) (ci := 7) (v := .ref b5) (ty := (tyX7 4)) (C := RX7) (T := TX7) (N := 13) hx hb hts hiX7 tyX7 tyX7_ok nmX7 hown hK hP hD hS 0 rfl rfl 4 (by decide) (hts _ flX7_27) (fun _ h9 => h9) rfl (tyX7_ok 4 (by decide)) rfl rfl (Nat.le_of_ble_eq_true rfl) dX7_init_42 (fun H locs hP hD hS => ?_)
  have hP : va_P D vwCl ([(h0, .inr (7, [.ref b1, .ref b2, .ref b3, .ref b4, .ref b5, .null, .int 0, .int 0, .int 0, .int 0, .int 0, .int 0, .int 0])), (b1, .inl (cs 0, 18, .inl (fun _ => 0))), (b2, .inl (cs 0, 40, .inl (fun _ => 0))), (b3, .inl (cs 0, 13, .inl (fun _ => 0))), (b4, .inl (cs 0, 13, .inl (fun _ => 0))), (b5, .inl (cs 0, 0, .inl (fun _ => 0)))]) H := hP
  have hD : va_D A ([(h0, .inr (7, [.ref b1, .ref b2, .ref b3, .ref b4, .ref b5, .null, .int 0, .int 0, .int 0, .int 0, .int 0, .int 0, .int 0])), (b1, .inl (cs 0, 18, .inl (fun _ => 0))), (b2, .inl (cs 0, 40, .inl (fun _ => 0))), (b3, .inl (cs 0, 13, .inl (fun _ => 0))), (b4, .inl (cs 0, 13, .inl (fun _ => 0))), (b5, .inl (cs 0, 0, .inl (fun _ => 0)))]) := hD
  refine lv_aload_n hx hb dX7_init_45 rfl (lv_at hl 0 rfl) ?_
  refine lv_iconst (v := 0) hx hb dX7_init_46 (by decide) ?_
  refine k_newi (N := 0) hx hb hts hK hP hD hS hA (by decide) (by decide) (by decide) (Nat.le_of_ble_eq_true rfl) (Nat.le_of_ble_eq_true rfl) dX7_init_47 (fun b6 H hP hD hS => ?_)
  have hP : va_P D vwCl ([(h0, .inr (7, [.ref b1, .ref b2, .ref b3, .ref b4, .ref b5, .null, .int 0, .int 0, .int 0, .int 0, .int 0, .int 0, .int 0])), (b1, .inl (cs 0, 18, .inl (fun _ => 0))), (b2, .inl (cs 0, 40, .inl (fun _ => 0))), (b3, .inl (cs 0, 13, .inl (fun _ => 0))), (b4, .inl (cs 0, 13, .inl (fun _ => 0))), (b5, .inl (cs 0, 0, .inl (fun _ => 0))), (b6, .inl (cs 0, 0, .inl (fun _ => 0)))]) H := hP
  have hD : va_D A ([(h0, .inr (7, [.ref b1, .ref b2, .ref b3, .ref b4, .ref b5, .null, .int 0, .int 0, .int 0, .int 0, .int 0, .int 0, .int 0])), (b1, .inl (cs 0, 18, .inl (fun _ => 0))), (b2, .inl (cs 0, 40, .inl (fun _ => 0))), (b3, .inl (cs 0, 13, .inl (fun _ => 0))), (b4, .inl (cs 0, 13, .inl (fun _ => 0))), (b5, .inl (cs 0, 0, .inl (fun _ => 0))), (b6, .inl (cs 0, 0, .inl (fun _ => 0)))]) := hD
  refine va_put (D := D) (ci := 7) (v := .ref b6) (ty := (tyX7 5)) (C := RX7) (T := TX7) (N := 13) hx hb hts hiX7 tyX7 tyX7_ok nmX7 hown hK hP hD hS 0 rfl rfl 5 (by decide) (hts _ flX7_30) (fun _ h9 => h9) rfl (tyX7_ok 5 (by decide)) rfl rfl (Nat.le_of_ble_eq_true rfl) dX7_init_49 (fun H locs hP hD hS => ?_)
  have hP : va_P D vwCl ([(h0, .inr (7, [.ref b1, .ref b2, .ref b3, .ref b4, .ref b5, .ref b6, .int 0, .int 0, .int 0, .int 0, .int 0, .int 0, .int 0])), (b1, .inl (cs 0, 18, .inl (fun _ => 0))), (b2, .inl (cs 0, 40, .inl (fun _ => 0))), (b3, .inl (cs 0, 13, .inl (fun _ => 0))), (b4, .inl (cs 0, 13, .inl (fun _ => 0))), (b5, .inl (cs 0, 0, .inl (fun _ => 0))), (b6, .inl (cs 0, 0, .inl (fun _ => 0)))]) H := hP
  have hD : va_D A ([(h0, .inr (7, [.ref b1, .ref b2, .ref b3, .ref b4, .ref b5, .ref b6, .int 0, .int 0, .int 0, .int 0, .int 0, .int 0, .int 0])), (b1, .inl (cs 0, 18, .inl (fun _ => 0))), (b2, .inl (cs 0, 40, .inl (fun _ => 0))), (b3, .inl (cs 0, 13, .inl (fun _ => 0))), (b4, .inl (cs 0, 13, .inl (fun _ => 0))), (b5, .inl (cs 0, 0, .inl (fun _ => 0))), (b6, .inl (cs 0, 0, .inl (fun _ => 0)))]) := hD
  refine lv_aload_n hx hb dX7_init_52 rfl (lv_at hl 0 rfl) ?_
  refine lv_iconst (v := (-1)) hx hb dX7_init_53 (by decide) ?_
  refine va_put (D := D) (ci := 7) (v := .int (-1)) (ty := .int) (C := RX7) (T := TX7) (N := 13) hx hb hts hiX7 tyX7 tyX7_ok nmX7 hown hK hP hD hS 0 rfl rfl 7 (by decide) (hts _ flX7_33) (fun _ h9 => h9) rfl (tyX7_ok 7 (by decide)) rfl rfl (Nat.le_of_ble_eq_true rfl) dX7_init_54 (fun H locs hP hD hS => ?_)
  have hP : va_P D vwCl ([(h0, .inr (7, [.ref b1, .ref b2, .ref b3, .ref b4, .ref b5, .ref b6, .int 0, .int (-1), .int 0, .int 0, .int 0, .int 0, .int 0])), (b1, .inl (cs 0, 18, .inl (fun _ => 0))), (b2, .inl (cs 0, 40, .inl (fun _ => 0))), (b3, .inl (cs 0, 13, .inl (fun _ => 0))), (b4, .inl (cs 0, 13, .inl (fun _ => 0))), (b5, .inl (cs 0, 0, .inl (fun _ => 0))), (b6, .inl (cs 0, 0, .inl (fun _ => 0)))]) H := hP
  have hD : va_D A ([(h0, .inr (7, [.ref b1, .ref b2, .ref b3, .ref b4, .ref b5, .ref b6, .int 0, .int (-1), .int 0, .int 0, .int 0, .int 0, .int 0])), (b1, .inl (cs 0, 18, .inl (fun _ => 0))), (b2, .inl (cs 0, 40, .inl (fun _ => 0))), (b3, .inl (cs 0, 13, .inl (fun _ => 0))), (b4, .inl (cs 0, 13, .inl (fun _ => 0))), (b5, .inl (cs 0, 0, .inl (fun _ => 0))), (b6, .inl (cs 0, 0, .inl (fun _ => 0)))]) := hD
  have hP : va_P D vwCl (W7 cs h0 (fun k => ([b1, b2, b3, b4, b5, b6, 0, 0, 0, 0, 0, 0, 0] : List Nat).getD k 0) (fun k => ([0, 0, 0, 0, 0, 0, 0, (-1), 0, 0, 0, 0, 0] : List Int32).getD k 0) (fun _ _ => 0) (fun _ => 0)) H := k_sub hP [0, 1, 2, 3, 4, 5, 6] rfl
  have hD : va_D A (W7 cs h0 (fun k => ([b1, b2, b3, b4, b5, b6, 0, 0, 0, 0, 0, 0, 0] : List Nat).getD k 0) (fun k => ([0, 0, 0, 0, 0, 0, 0, (-1), 0, 0, 0, 0, 0] : List Int32).getD k 0) (fun _ _ => 0) (fun _ => 0)) := hD.sub [0, 1, 2, 3, 4, 5, 6] (by decide) rfl
  exact k_mono (k_vret hx hb hr hlocks hK hP hD hS dX7_init_57) (fun t ht => ⟨(fun k => ([b1, b2, b3, b4, b5, b6, 0, 0, 0, 0, 0, 0, 0] : List Nat).getD k 0), ht⟩)
theorem dvX10 : ∀ j, j < 4 → defaultValue (tyX10 j) = vp_V [.null, .null, .null, .int 0] j := by
  intro j hj
  match j, hj with
  | 0, _ => rfl
  | 1, _ => rfl
  | 2, _ => rfl
  | 3, _ => rfl
  | j + 4, hj => exact absurd hj (by omega)
theorem qnX10_init : yX10_init.cls ≠ "java/lang/invoke/MethodHandle" ∧ yX10_init.cls ≠ "java/lang/invoke/VarHandle" ∧ (parseMethodDescriptor yX10_init.desc).map (fun d => d.parameters.length) = some 0 := by decide +kernel
abbrev wlX10_init : List Cond := Cond.code yX10_init cX10_init 1 none :: tbG
abbrev rmX10_init : Room := { frames := 1, cells := 3, slots := 0, locals := 20 }
set_option maxRecDepth 100000 in
set_option maxHeartbeats 8000000 in
theorem c_X10_init {l : Launch} {D : va_G} {cs zs : Nat → Nat} {h0 : Nat} : MN (S := Nat → Nat) l yX10_init wlX10_init rmX10_init D cs zs [.ref h0] [(h0, .inr (10, [.null, .null, .null, .int 0]))] (fun u => W10 cs h0 u (fun k => ([0, 0, 0, 0] : List Int32).getD k 0) (fun _ _ => 0) (fun _ => 0)) 3 0 := by
  refine MN.of RX10 (by decide) rfl rfl (Nat.le_of_ble_eq_true rfl) (fun p e s m below meth c A C hin hX hP hD hS ls hl => ?_)
  generalize ([.ref h0] : List Value).toArray = args at C ⊢
  obtain ⟨hx, hb, hr, hml, hown, hts, hK, hA, hlocks, hZ⟩ := id C
  have hl : lv_has ls 1 [(0, .ref h0)] := hl
  refine lv_aload_n hx hb dX10_init_0 rfl (lv_at hl 0 rfl) ?_
  refine W.objInit hx hb hown (hts _ mlX10_3) (hts _ imoinit) (hts _ cooinit) rfl (by rw [hml]; exact hl.1) rfl dX10_init_1 (Nat.le_of_ble_eq_true rfl) (Nat.le_of_ble_eq_true rfl) ?_
  refine W.eq (g2 := F0 m 4 ls []) rfl ?_
  refine lv_aload_n hx hb dX10_init_4 rfl (lv_at hl 0 rfl) ?_
  refine lv_iconst (v := 0) hx hb dX10_init_5 (by decide) ?_
  refine k_newi (N := 0) hx hb hts hK hP hD hS hA (by decide) (by decide) (by decide) (Nat.le_of_ble_eq_true rfl) (Nat.le_of_ble_eq_true rfl) dX10_init_6 (fun b1 H hP hD hS => ?_)
  have hP : va_P D vwCl ([(h0, .inr (10, [.null, .null, .null, .int 0])), (b1, .inl (cs 0, 0, .inl (fun _ => 0)))]) H := hP
  have hD : va_D A ([(h0, .inr (10, [.null, .null, .null, .int 0])), (b1, .inl (cs 0, 0, .inl (fun _ => 0)))]) := hD
  refine va_put (D := D) (ci := 10) (v := .ref b1) (ty := (tyX10 0)) (C := RX10) (T := TX10) (N := 4) hx hb hts hiX10 tyX10 tyX10_ok nmX10 hown hK hP hD hS 0 rfl rfl 0 (by decide) (hts _ flX10_9) (fun _ h9 => h9) rfl (tyX10_ok 0 (by decide)) rfl rfl (Nat.le_of_ble_eq_true rfl) dX10_init_8 (fun H locs hP hD hS => ?_)
  have hP : va_P D vwCl ([(h0, .inr (10, [.ref b1, .null, .null, .int 0])), (b1, .inl (cs 0, 0, .inl (fun _ => 0)))]) H := hP
  have hD : va_D A ([(h0, .inr (10, [.ref b1, .null, .null, .int 0])), (b1, .inl (cs 0, 0, .inl (fun _ => 0)))]) := hD
  refine lv_aload_n hx hb dX10_init_11 rfl (lv_at hl 0 rfl) ?_
  refine lv_iconst (v := 0) hx hb dX10_init_12 (by decide) ?_
  refine k_newi (N := 0) hx hb hts hK hP hD hS hA (by decide) (by decide) (by decide) (Nat.le_of_ble_eq_true rfl) (Nat.le_of_ble_eq_true rfl) dX10_init_13 (fun b2 H hP hD hS => ?_)
  have hP : va_P D vwCl ([(h0, .inr (10, [.ref b1, .null, .null, .int 0])), (b1, .inl (cs 0, 0, .inl (fun _ => 0))), (b2, .inl (cs 0, 0, .inl (fun _ => 0)))]) H := hP
  have hD : va_D A ([(h0, .inr (10, [.ref b1, .null, .null, .int 0])), (b1, .inl (cs 0, 0, .inl (fun _ => 0))), (b2, .inl (cs 0, 0, .inl (fun _ => 0)))]) := hD
  refine va_put (D := D) (ci := 10) (v := .ref b2) (ty := (tyX10 1)) (C := RX10) (T := TX10) (N := 4) hx hb hts hiX10 tyX10 tyX10_ok nmX10 hown hK hP hD hS 0 rfl rfl 1 (by decide) (hts _ flX10_15) (fun _ h9 => h9) rfl (tyX10_ok 1 (by decide)) rfl rfl (Nat.le_of_ble_eq_true rfl) dX10_init_15 (fun H locs hP hD hS => ?_)
  have hP : va_P D vwCl ([(h0, .inr (10, [.ref b1, .ref b2, .null, .int 0])), (b1, .inl (cs 0, 0, .inl (fun _ => 0))), (b2, .inl (cs 0, 0, .inl (fun _ => 0)))]) H := hP
  have hD : va_D A ([(h0, .inr (10, [.ref b1, .ref b2, .null, .int 0])), (b1, .inl (cs 0, 0, .inl (fun _ => 0))), (b2, .inl (cs 0, 0, .inl (fun _ => 0)))]) := hD
  refine lv_aload_n hx hb dX10_init_18 rfl (lv_at hl 0 rfl) ?_
  refine lv_iconst (v := 0) hx hb dX10_init_19 (by decide) ?_
  refine k_newi (N := 0) hx hb hts hK hP hD hS hA (by decide) (by decide) (by decide) (Nat.le_of_ble_eq_true rfl) (Nat.le_of_ble_eq_true rfl) dX10_init_20 (fun b3 H hP hD hS => ?_)
  have hP : va_P D vwCl ([(h0, .inr (10, [.ref b1, .ref b2, .null, .int 0])), (b1, .inl (cs 0, 0, .inl (fun _ => 0))), (b2, .inl (cs 0, 0, .inl (fun _ => 0))), (b3, .inl (cs 0, 0, .inl (fun _ => 0)))]) H := hP
  have hD : va_D A ([(h0, .inr (10, [.ref b1, .ref b2, .null, .int 0])), (b1, .inl (cs 0, 0, .inl (fun _ => 0))), (b2, .inl (cs 0, 0, .inl (fun _ => 0))), (b3, .inl (cs 0, 0, .inl (fun _ => 0)))]) := hD
  refine va_put (D := D) (ci := 10) (v := .ref b3) (ty := (tyX10 2)) (C := RX10) (T := TX10) (N := 4) hx hb hts hiX10 tyX10 tyX10_ok nmX10 hown hK hP hD hS 0 rfl rfl 2 (by decide) (hts _ flX10_18) (fun _ h9 => h9) rfl (tyX10_ok 2 (by decide)) rfl rfl (Nat.le_of_ble_eq_true rfl) dX10_init_22 (fun H locs hP hD hS => ?_)
  have hP : va_P D vwCl ([(h0, .inr (10, [.ref b1, .ref b2, .ref b3, .int 0])), (b1, .inl (cs 0, 0, .inl (fun _ => 0))), (b2, .inl (cs 0, 0, .inl (fun _ => 0))), (b3, .inl (cs 0, 0, .inl (fun _ => 0)))]) H := hP
  have hD : va_D A ([(h0, .inr (10, [.ref b1, .ref b2, .ref b3, .int 0])), (b1, .inl (cs 0, 0, .inl (fun _ => 0))), (b2, .inl (cs 0, 0, .inl (fun _ => 0))), (b3, .inl (cs 0, 0, .inl (fun _ => 0)))]) := hD
  have hP : va_P D vwCl (W10 cs h0 (fun k => ([b1, b2, b3, 0] : List Nat).getD k 0) (fun k => ([0, 0, 0, 0] : List Int32).getD k 0) (fun _ _ => 0) (fun _ => 0)) H := k_sub hP [0, 1, 2, 3] rfl
  have hD : va_D A (W10 cs h0 (fun k => ([b1, b2, b3, 0] : List Nat).getD k 0) (fun k => ([0, 0, 0, 0] : List Int32).getD k 0) (fun _ _ => 0) (fun _ => 0)) := hD.sub [0, 1, 2, 3] (by decide) rfl
  exact k_mono (k_vret hx hb hr hlocks hK hP hD hS dX10_init_25) (fun t ht => ⟨(fun k => ([b1, b2, b3, 0] : List Nat).getD k 0), ht⟩)
theorem dvX1 : ∀ j, j < 16 → defaultValue (tyX1 j) = vp_V [.null, .null, .null, .null, .null, .null, .null, .null, .null, .null, .int 0, .int 0, .int 0, .int 0, .int 0, .int 0] j := by
  intro j hj
  match j, hj with
  | 0, _ => rfl
  | 1, _ => rfl
  | 2, _ => rfl
  | 3, _ => rfl
  | 4, _ => rfl
  | 5, _ => rfl
  | 6, _ => rfl
  | 7, _ => rfl
  | 8, _ => rfl
  | 9, _ => rfl
  | 10, _ => rfl
  | 11, _ => rfl
  | 12, _ => rfl
  | 13, _ => rfl
  | 14, _ => rfl
  | 15, _ => rfl
  | j + 16, hj => exact absurd hj (by omega)
theorem qnX1_init : yX1_init.cls ≠ "java/lang/invoke/MethodHandle" ∧ yX1_init.cls ≠ "java/lang/invoke/VarHandle" ∧ (parseMethodDescriptor yX1_init.desc).map (fun d => d.parameters.length) = some 0 := by decide +kernel
abbrev wlX1_init : List Cond := Cond.code yX1_init cX1_init 1 none :: tbG
abbrev rmX1_init : Room := { frames := 1, cells := 10, slots := 888, locals := 20 }
set_option maxRecDepth 100000 in
set_option maxHeartbeats 8000000 in
theorem c_X1_init {l : Launch} {D : va_G} {cs zs : Nat → Nat} {h0 : Nat} : MN (S := Nat → Nat) l yX1_init wlX1_init rmX1_init D cs zs [.ref h0] [(h0, .inr (1, [.null, .null, .null, .null, .null, .null, .null, .null, .null, .null, .int 0, .int 0, .int 0, .int 0, .int 0, .int 0]))] (fun u => W1 cs h0 u (fun k => ([0, 0, 0, 0, 0, 0, 0, 0, 0, 0, 0, 0, 256, 0, 0, 0] : List Int32).getD k 0) (fun _ _ => 0) (fun _ => 0)) 10 888 := by
  refine MN.of RX1 (by decide) rfl rfl (Nat.le_of_ble_eq_true rfl) (fun p e s m below meth c A C hin hX hP hD hS ls hl => ?_)
  generalize ([.ref h0] : List Value).toArray = args at C ⊢
  obtain ⟨hx, hb, hr, hml, hown, hts, hK, hA, hlocks, hZ⟩ := id C
  have hl : lv_has ls 1 [(0, .ref h0)] := hl
  refine lv_aload_n hx hb dX1_init_0 rfl (lv_at hl 0 rfl) ?_
  refine W.objInit hx hb hown (hts _ mlX1_3) (hts _ imoinit) (hts _ cooinit) rfl (by rw [hml]; exact hl.1) rfl dX1_init_1 (Nat.le_of_ble_eq_true rfl) (Nat.le_of_ble_eq_true rfl) ?_
  refine W.eq (g2 := F0 m 4 ls []) rfl ?_
  refine lv_aload_n hx hb dX1_init_4 rfl (lv_at hl 0 rfl) ?_
  refine lv_bipush (v := 20) hx hb dX1_init_5 (by decide) ?_
  refine k_newi (N := 20) hx hb hts hK hP hD hS hA (by decide) (by decide) (by decide) (Nat.le_of_ble_eq_true rfl) (Nat.le_of_ble_eq_true rfl) dX1_init_7 (fun b1 H hP hD hS => ?_)
  have hP : va_P D vwCl ([(h0, .inr (1, [.null, .null, .null, .null, .null, .null, .null, .null, .null, .null, .int 0, .int 0, .int 0, .int 0, .int 0, .int 0])), (b1, .inl (cs 0, 20, .inl (fun _ => 0)))]) H := hP
  have hD : va_D A ([(h0, .inr (1, [.null, .null, .null, .null, .null, .null, .null, .null, .null, .null, .int 0, .int 0, .int 0, .int 0, .int 0, .int 0])), (b1, .inl (cs 0, 20, .inl (fun _ => 0)))]) := hD
  refine va_putF (D := D) (ci := 1) (v := .ref b1) (ty := (tyX1 0)) (C := RX1) (T := TX1) (N := 16) hx hb hts hiX1 tyX1 tyX1_ok nmX1 hown hK hP hD hS 0 rfl rfl 0 (by decide) (hts _ flX1_11) (fun _ h9 => h9) rfl hin rfl (tyX1_ok 0 (by decide)) rfl rfl (Nat.le_of_ble_eq_true rfl) dX1_init_9 (fun H locs hP hD hS => ?_)
  have hP : va_P D vwCl ([(h0, .inr (1, [.ref b1, .null, .null, .null, .null, .null, .null, .null, .null, .null, .int 0, .int 0, .int 0, .int 0, .int 0, .int 0])), (b1, .inl (cs 0, 20, .inl (fun _ => 0)))]) H := hP
  have hD : va_D A ([(h0, .inr (1, [.ref b1, .null, .null, .null, .null, .null, .null, .null, .null, .null, .int 0, .int 0, .int 0, .int 0, .int 0, .int 0])), (b1, .inl (cs 0, 20, .inl (fun _ => 0)))]) := hD
  refine lv_aload_n hx hb dX1_init_12 rfl (lv_at hl 0 rfl) ?_
  refine lv_bipush (v := 20) hx hb dX1_init_13 (by decide) ?_
  refine k_newi (N := 20) hx hb hts hK hP hD hS hA (by decide) (by decide) (by decide) (Nat.le_of_ble_eq_true rfl) (Nat.le_of_ble_eq_true rfl) dX1_init_15 (fun b2 H hP hD hS => ?_)
  have hP : va_P D vwCl ([(h0, .inr (1, [.ref b1, .null, .null, .null, .null, .null, .null, .null, .null, .null, .int 0, .int 0, .int 0, .int 0, .int 0, .int 0])), (b1, .inl (cs 0, 20, .inl (fun _ => 0))), (b2, .inl (cs 0, 20, .inl (fun _ => 0)))]) H := hP
  have hD : va_D A ([(h0, .inr (1, [.ref b1, .null, .null, .null, .null, .null, .null, .null, .null, .null, .int 0, .int 0, .int 0, .int 0, .int 0, .int 0])), (b1, .inl (cs 0, 20, .inl (fun _ => 0))), (b2, .inl (cs 0, 20, .inl (fun _ => 0)))]) := hD
  refine va_putF (D := D) (ci := 1) (v := .ref b2) (ty := (tyX1 1)) (C := RX1) (T := TX1) (N := 16) hx hb hts hiX1 tyX1 tyX1_ok nmX1 hown hK hP hD hS 0 rfl rfl 1 (by decide) (hts _ flX1_15) (fun _ h9 => h9) rfl hin rfl (tyX1_ok 1 (by decide)) rfl rfl (Nat.le_of_ble_eq_true rfl) dX1_init_17 (fun H locs hP hD hS => ?_)
  have hP : va_P D vwCl ([(h0, .inr (1, [.ref b1, .ref b2, .null, .null, .null, .null, .null, .null, .null, .null, .int 0, .int 0, .int 0, .int 0, .int 0, .int 0])), (b1, .inl (cs 0, 20, .inl (fun _ => 0))), (b2, .inl (cs 0, 20, .inl (fun _ => 0)))]) H := hP
  have hD : va_D A ([(h0, .inr (1, [.ref b1, .ref b2, .null, .null, .null, .null, .null, .null, .null, .null, .int 0, .int 0, .int 0, .int 0, .int 0, .int 0])), (b1, .inl (cs 0, 20, .inl (fun _ => 0))), (b2, .inl (cs 0, 20, .inl (fun _ => 0)))]) := hD
  refine lv_aload_n hx hb dX1_init_20 rfl (lv_at hl 0 rfl) ?_
  refine lv_bipush (v := 20) hx hb dX1_init_21 (by decide) ?_
  refine k_newi (N := 20) hx hb hts hK hP hD hS hA (by decide) (by decide) (by decide) (Nat.le_of_ble_eq_true rfl) (Nat.le_of_ble_eq_true rfl) dX1_init_23 (fun b3 H hP hD hS => ?_)
  have hP : va_P D vwCl ([(h0, .inr (1, [.ref b1, .ref b2, .null, .null, .null, .null, .null, .null, .null, .null, .int 0, .int 0, .int 0, .int 0, .int 0, .int 0])), (b1, .inl (cs 0, 20, .inl (fun _ => 0))), (b2, .inl (cs 0, 20, .inl (fun _ => 0))), (b3, .inl (cs 0, 20, .inl (fun _ => 0)))]) H := hP
  have hD : va_D A ([(h0, .inr (1, [.ref b1, .ref b2, .null, .null, .null, .null, .null, .null, .null, .null, .int 0, .int 0, .int 0, .int 0, .int 0, .int 0])), (b1, .inl (cs 0, 20, .inl (fun _ => 0))), (b2, .inl (cs 0, 20, .inl (fun _ => 0))), (b3, .inl (cs 0, 20, .inl (fun _ => 0)))]) := hD
  refine va_putF (D := D) (ci := 1) (v := .ref b3) (ty := (tyX1 2)) (C := RX1) (T := TX1) (N := 16) hx hb hts hiX1 tyX1 tyX1_ok nmX1 hown hK hP hD hS 0 rfl rfl 2 (by decide) (hts _ flX1_18) (fun _ h9 => h9) rfl hin rfl (tyX1_ok 2 (by decide)) rfl rfl (Nat.le_of_ble_eq_true rfl) dX1_init_25 (fun H locs hP hD hS => ?_)
  have hP : va_P D vwCl ([(h0, .inr (1, [.ref b1, .ref b2, .ref b3, .null, .null, .null, .null, .null, .null, .null, .int 0, .int 0, .int 0, .int 0, .int 0, .int 0])), (b1, .inl (cs 0, 20, .inl (fun _ => 0))), (b2, .inl (cs 0, 20, .inl (fun _ => 0))), (b3, .inl (cs 0, 20, .inl (fun _ => 0)))]) H := hP
  have hD : va_D A ([(h0, .inr (1, [.ref b1, .ref b2, .ref b3, .null, .null, .null, .null, .null, .null, .null, .int 0, .int 0, .int 0, .int 0, .int 0, .int 0])), (b1, .inl (cs 0, 20, .inl (fun _ => 0))), (b2, .inl (cs 0, 20, .inl (fun _ => 0))), (b3, .inl (cs 0, 20, .inl (fun _ => 0)))]) := hD
  refine lv_aload_n hx hb dX1_init_28 rfl (lv_at hl 0 rfl) ?_
  refine lv_bipush (v := 20) hx hb dX1_init_29 (by decide) ?_
  refine k_newi (N := 20) hx hb hts hK hP hD hS hA (by decide) (by decide) (by decide) (Nat.le_of_ble_eq_true rfl) (Nat.le_of_ble_eq_true rfl) dX1_init_31 (fun b4 H hP hD hS => ?_)
  have hP : va_P D vwCl ([(h0, .inr (1, [.ref b1, .ref b2, .ref b3, .null, .null, .null, .null, .null, .null, .null, .int 0, .int 0, .int 0, .int 0, .int 0, .int 0])), (b1, .inl (cs 0, 20, .inl (fun _ => 0))), (b2, .inl (cs 0, 20, .inl (fun _ => 0))), (b3, .inl (cs 0, 20, .inl (fun _ => 0))), (b4, .inl (cs 0, 20, .inl (fun _ => 0)))]) H := hP
  have hD : va_D A ([(h0, .inr (1, [.ref b1, .ref b2, .ref b3, .null, .null, .null, .null, .null, .null, .null, .int 0, .int 0, .int 0, .int 0, .int 0, .int 0])), (b1, .inl (cs 0, 20, .inl (fun _ => 0))), (b2, .inl (cs 0, 20, .inl (fun _ => 0))), (b3, .inl (cs 0, 20, .inl (fun _ => 0))), (b4, .inl (cs 0, 20, .inl (fun _ => 0)))]) := hD
  refine va_putF (D := D) (ci := 1) (v := .ref b4) (ty := (tyX1 3)) (C := RX1) (T := TX1) (N := 16) hx hb hts hiX1 tyX1 tyX1_ok nmX1 hown hK hP hD hS 0 rfl rfl 3 (by decide) (hts _ flX1_21) (fun _ h9 => h9) rfl hin rfl (tyX1_ok 3 (by decide)) rfl rfl (Nat.le_of_ble_eq_true rfl) dX1_init_33 (fun H locs hP hD hS => ?_)
  have hP : va_P D vwCl ([(h0, .inr (1, [.ref b1, .ref b2, .ref b3, .ref b4, .null, .null, .null, .null, .null, .null, .int 0, .int 0, .int 0, .int 0, .int 0, .int 0])), (b1, .inl (cs 0, 20, .inl (fun _ => 0))), (b2, .inl (cs 0, 20, .inl (fun _ => 0))), (b3, .inl (cs 0, 20, .inl (fun _ => 0))), (b4, .inl (cs 0, 20, .inl (fun _ => 0)))]) H := hP
  have hD : va_D A ([(h0, .inr (1, [.ref b1, .ref b2, .ref b3, .ref b4, .null, .null, .null, .null, .null, .null, .int 0, .int 0, .int 0, .int 0, .int 0, .int 0])), (b1, .inl (cs 0, 20, .inl (fun _ => 0))), (b2, .inl (cs 0, 20, .inl (fun _ => 0))), (b3, .inl (cs 0, 20, .inl (fun _ => 0))), (b4, .inl (cs 0, 20, .inl (fun _ => 0)))]) := hD
  refine lv_aload_n hx hb dX1_init_36 rfl (lv_at hl 0 rfl) ?_
  refine lv_bipush (v := 20) hx hb dX1_init_37 (by decide) ?_
  refine k_newi (N := 20) hx hb hts hK hP hD hS hA (by decide) (by decide) (by decide) (Nat.le_of_ble_eq_true rfl) (Nat.le_of_ble_eq_true rfl) dX1_init_39 (fun b5 H hP hD hS => ?_)
  have hP : va_P D vwCl ([(h0, .inr (1, [.ref b1, .ref b2, .ref b3, .ref b4, .null, .null, .null, .null, .null, .null, .int 0, .int 0, .int 0, .int 0, .int 0, .int 0])), (b1, .inl (cs 0, 20, .inl (fun _ => 0))), (b2, .inl (cs 0, 20, .inl (fun _ => 0))), (b3, .inl (cs 0, 20, .inl (fun _ => 0))), (b4, .inl (cs 0, 20, .inl (fun _ => 0))), (b5, .inl (cs 0, 20, .inl (fun _ => 0)))]) H := hP
  have hD : va_D A ([(h0, .inr (1, [.ref b1, .ref b2, .ref b3, .ref b4, .null, .null, .null, .null, .null, .null, .int 0, .int 0, .int 0, .int 0, .int 0, .int 0])), (b1, .inl (cs 0, 20, .inl (fun _ => 0))), (b2, .inl (cs 0, 20, .inl (fun _ => 0))), (b3, .inl (cs 0, 20, .inl (fun _ => 0))), (b4, .inl (cs 0, 20, .inl (fun _ => 0))), (b5, .inl (cs 0, 20, .inl (fun _ => 0)))]) := hD
  refine va_putF (D := D) (ci := 1) (v := .ref b5) (ty := (tyX1 4)) (C := RX1) (T := TX1) (N := 16) hx hb hts hiX1 tyX1 tyX1_ok nmX1 hown hK hP hD hS 0 rfl rfl 4 (by decide) (hts _ flX1_24) (fun _ h9 => h9) rfl hin rfl (tyX1_ok 4 (by decide)) rfl rfl (Nat.le_of_ble_eq_true rfl) dX1_init_41 (fun H locs hP hD hS => ?_)
  have hP : va_P D vwCl ([(h0, .inr (1, [.ref b1, .ref b2, .ref b3, .ref b4, .ref b5, .null, .null, .null, .null, .null, .int 0, .int 0, .int 0, .int 0, .int 0, .int 0])), (b1, .inl (cs 0, 20, .inl (fun _ => 0))), (b2, .inl (cs 0, 20, .inl (fun _ => 0))), (b3, .inl (cs 0, 20, .inl (fun _ => 0))), (b4, .inl (cs 0, 20, .inl (fun _ => 0))), (b5, .inl (cs 0, 20, .inl (fun _ => 0)))]) H := hP
  have hD : va_D A ([(h0, .inr (1, [.ref b1, .ref b2, .ref b3, .ref b4, .ref b5, .null, .null, .null, .null, .null, .int 0, .int 0, .int 0, .int 0, .int 0, .int 0])), (b1, .inl (cs 0, 20, .inl (fun _ => 0))), (b2, .inl (cs 0, 20, .inl (fun _ => 0))), (b3, .inl (cs 0, 20, .inl (fun _ => 0))), (b4, .inl (cs 0, 20, .inl (fun _ => 0))), (b5, .inl (cs 0, 20, .inl (fun _ => 0)))]) := hD
  refine lv_aload_n hx hb dX1_init_44 rfl (lv_at hl 0 rfl) ?_
  refine lv_bipush (v := 20) hx hb dX1_init_45 (by decide) ?_
  refine k_newi (N := 20) hx hb hts hK hP hD hS hA (by decide) (by decide) (by decide) (Nat.le_of_ble_eq_true rfl) (Nat.le_of_ble_eq_true rfl) dX1_init_47 (fun b6 H hP hD hS => ?_)
  have hP : va_P D vwCl ([(h0, .inr (1, [.ref b1, .ref b2, .ref b3, .ref b4, .ref b5, .null, .null, .null, .null, .null, .int 0, .int 0, .int 0, .int 0, .int 0, .int 0])), (b1, .inl (cs 0, 20, .inl (fun _ => 0))), (b2, .inl (cs 0, 20, .inl (fun _ => 0))), (b3, .inl (cs 0, 20, .inl (fun _ => 0))), (b4, .inl (cs 0, 20, .inl (fun _ => 0))), (b5, .inl (cs 0, 20, .inl (fun _ => 0))), (b6, .inl (cs 0, 20, .inl (fun _ => 0)))]) H := hP
  have hD : va_D A ([(h0, .inr (1, [.ref b1, .ref b2, .ref b3, .ref b4, .ref b5, .null, .null, .null, .null, .null, .int 0, .int 0, .int 0, .int 0, .int 0, .int 0])), (b1, .inl (cs 0, 20, .inl (fun _ => 0))), (b2, .inl (cs 0, 20, .inl (fun _ => 0))), (b3, .inl (cs 0, 20, .inl (fun _ => 0))), (b4, .inl (cs 0, 20, .inl (fun _ => 0))), (b5, .inl (cs 0, 20, .inl (fun _ => 0))), (b6, .inl (cs 0, 20, .inl (fun _ => 0)))]) := hD
  refine va_putF (D := D) (ci := 1) (v := .ref b6) (ty := (tyX1 5)) (C := RX1) (T := TX1) (N := 16) hx hb hts hiX1 tyX1 tyX1_ok nmX1 hown hK hP hD hS 0 rfl rfl 5 (by decide) (hts _ flX1_27) (fun _ h9 => h9) rfl hin rfl (tyX1_ok 5 (by decide)) rfl rfl (Nat.le_of_ble_eq_true rfl) dX1_init_49 (fun H locs hP hD hS => ?_)
  have hP : va_P D vwCl ([(h0, .inr (1, [.ref b1, .ref b2, .ref b3, .ref b4, .ref b5, .ref b6, .null, .null, .null, .null, .int 0, .int 0, .int 0, .int 0, .int 0, .int 0])), (b1, .inl (cs 0, 20, .inl (fun _ => 0))), (b2, .inl (cs 0, 20, .inl (fun _ => 0))), (b3, .inl (cs 0, 20, .inl (fun _ => 0))), (b4, .inl (cs 0, 20, .inl (fun _ => 0))), (b5, .inl (cs 0, 20, .inl (fun _ => 0))), (b6, .inl (cs 0, 20, .inl (fun _ => 0)))]) H := hP
  have hD : va_D A ([(h0, .inr (1, [.ref b1, .ref b2, .ref b3, .ref b4, .ref b5, .ref b6, .null, .null, .null, .null, .int 0, .int 0, .int 0, .int 0, .int 0, .int 0])), (b1, .inl (cs 0, 20, .inl (fun _ => 0))), (b2, .inl (cs 0, 20, .inl (fun _ => 0))), (b3, .inl (cs 0, 20, .inl (fun _ => 0))), (b4, .inl (cs 0, 20, .inl (fun _ => 0))), (b5, .inl (cs 0, 20, .inl (fun _ => 0))), (b6, .inl (cs 0, 20, .inl (fun _ => 0)))]) := hD
  refine lv_aload_n hx hb dX1_init_52 rfl (lv_at hl 0 rfl) ?_
  refine lv_sipush (v := 256) hx hb dX1_init_53 (by decide) ?_
  refine k_newi (N := 256) hx hb hts hK hP hD hS hA (by decide) (by decide) (by decide) (Nat.le_of_ble_eq_true rfl) (Nat.le_of_ble_eq_true rfl) dX1_init_56 (fun b7 H hP hD hS => ?_)
  have hP : va_P D vwCl ([(h0, .inr (1, [.ref b1, .ref b2, .ref b3, .ref b4, .ref b5, .ref b6, .null, .null, .null, .null, .int 0, .int 0, .int 0, .int 0, .int 0, .int 0])), (b1, .inl (cs 0, 20, .inl (fun _ => 0))), (b2, .inl (cs 0, 20, .inl (fun _ => 0))), (b3, .inl (cs 0, 20, .inl (fun _ => 0))), (b4, .inl (cs 0, 20, .inl (fun _ => 0))), (b5, .inl (cs 0, 20, .inl (fun _ => 0))), (b6, .inl (cs 0, 20, .inl (fun _ => 0))), (b7, .inl (cs 0, 256, .inl (fun _ => 0)))]) H := hP
  have hD : va_D A ([(h0, .inr (1, [.ref b1, .ref b2, .ref b3, .ref b4, .ref b5, .ref b6, .null, .null, .null, .null, .int 0, .int 0, .int 0, .int 0, .int 0, .int 0])), (b1, .inl (cs 0, 20, .inl (fun _ => 0))), (b2, .inl (cs 0, 20, .inl (fun _ => 0))), (b3, .inl (cs 0, 20, .inl (fun _ => 0))), (b4, .inl (cs 0, 20, .inl (fun _ => 0))), (b5, .inl (cs 0, 20, .inl (fun _ => 0))), (b6, .inl (cs 0, 20, .inl (fun _ => 0))), (b7, .inl (cs 0, 256, .inl (fun _ => 0)))]) := hD
  refine va_putF (D := D) (ci := 1) (v := .ref b7) (ty := (tyX1 6)) (C := RX1) (T := TX1) (N := 16) hx hb hts hiX1 tyX1 tyX1_ok nmX1 hown hK hP hD hS 0 rfl rfl 6 (by decide) (hts _ flX1_30) (fun _ h9 => h9) rfl hin rfl (tyX1_ok 6 (by decide)) rfl rfl (Nat.le_of_ble_eq_true rfl) dX1_init_58 (fun H locs hP hD hS => ?_)
  have hP : va_P D vwCl ([(h0, .inr (1, [.ref b1, .ref b2, .ref b3, .ref b4, .ref b5, .ref b6, .ref b7, .null, .null, .null, .int 0, .int 0, .int 0, .int 0, .int 0, .int 0])), (b1, .inl (cs 0, 20, .inl (fun _ => 0))), (b2, .inl (cs 0, 20, .inl (fun _ => 0))), (b3, .inl (cs 0, 20, .inl (fun _ => 0))), (b4, .inl (cs 0, 20, .inl (fun _ => 0))), (b5, .inl (cs 0, 20, .inl (fun _ => 0))), (b6, .inl (cs 0, 20, .inl (fun _ => 0))), (b7, .inl (cs 0, 256, .inl (fun _ => 0)))]) H := hP
  have hD : va_D A ([(h0, .inr (1, [.ref b1, .ref b2, .ref b3, .ref b4, .ref b5, .ref b6, .ref b7, .null, .null, .null, .int 0, .int 0, .int 0, .int 0, .int 0, .int 0])), (b1, .inl (cs 0, 20, .inl (fun _ => 0))), (b2, .inl (cs 0, 20, .inl (fun _ => 0))), (b3, .inl (cs 0, 20, .inl (fun _ => 0))), (b4, .inl (cs 0, 20, .inl (fun _ => 0))), (b5, .inl (cs 0, 20, .inl (fun _ => 0))), (b6, .inl (cs 0, 20, .inl (fun _ => 0))), (b7, .inl (cs 0, 256, .inl (fun _ => 0)))]) := hD
  refine lv_aload_n hx hb dX1_init_61 rfl (lv_at hl 0 rfl) ?_
  refine lv_sipush (v := 256) hx hb dX1_init_62 (by decide) ?_
  refine k_newi (N := 256) hx hb hts hK hP hD hS hA (by decide) (by decide) (by decide) (Nat.le_of_ble_eq_true rfl) (Nat.le_of_ble_eq_true rfl) dX1_init_65 (fun b8 H hP hD hS => ?_)
  have hP : va_P D vwCl ([(h0, .inr (1, [.ref b1, .ref b2, .ref b3, .ref b4, .ref b5, .ref b6, .ref b7, .null, .null, .null, .int 0, .int 0, .int 0, .int 0, .int 0, .int 0])), (b1, .inl (cs 0, 20, .inl (fun _ => 0))), (b2, .inl (cs 0, 20, .inl (fun _ => 0))), (b3, .inl (cs 0, 20, .inl (fun _ => 0))), (b4, .inl (cs 0, 20, .inl (fun _ => 0))), (b5, .inl (cs 0, 20, .inl (fun _ => 0))), (b6, .inl (cs 0, 20, .inl (fun _ => 0))), (b7, .inl (cs 0, 256, .inl (fun _ => 0))), (b8, .inl (cs 0, 256, .inl (fun _ => 0)))]) H := hP
  have hD : va_D A ([(h0, .inr (1, [.ref b1, .ref b2, .ref b3, .ref b4, .ref b5, .ref b6, .ref b7, .null, .null, .null, .int 0, .int 0, .int 0, .int 0, .int 0, .int 0])), (b1, .inl (cs 0, 20, .inl (fun _ => 0))), (b2, .inl (cs 0, 20, .inl (fun _ => 0))), (b3, .inl (cs 0, 20, .inl (fun _ => 0))), (b4, .inl (cs 0, 20, .inl (fun _ => 0))), (b5, .inl (cs 0, 20, .inl (fun _ => 0))), (b6, .inl (cs 0, 20, .inl (fun _ => 0))), (b7, .inl (cs 0, 256, .inl (fun _ => 0))), (b8, .inl (cs 0, 256, .inl (fun _ => 0)))]) := hD
  refine va_putF (D := D) (ci := 1) (v := .ref b8) (ty := (tyX1 7)) (C := RX1) (T := TX1) (N := 16) hx hb hts hiX1 tyX1 tyX1_ok nmX1 hown hK hP hD hS 0 rfl rfl 7 (by decide) (hts _ flX1_33) (fun _ h9 => h9) rfl hin rfl (tyX1_ok 7 (by decide)) rfl rfl (Nat.le_of_ble_eq_true rfl) dX1_init_67 (fun H locs hP hD hS => ?_)
  have hP : va_P D vwCl ([(h0, .inr (1, [.ref b1, .ref b2, .ref b3, .ref b4, .ref b5, .ref b6, .ref b7, .ref b8, .null, .null, .int 0, .int 0, .int 0, .int 0, .int 0, .int 0])), (b1, .inl (cs 0, 20, .inl (fun _ => 0))), (b2, .inl (cs 0, 20, .inl (fun _ => 0))), (b3, .inl (cs 0, 20, .inl (fun _ => 0))), (b4, .inl (cs 0, 20, .inl (fun _ => 0))), (b5, .inl (cs 0, 20, .inl (fun _ => 0))), (b6, .inl (cs 0, 20, .inl (fun _ => 0))), (b7, .inl (cs 0, 256, .inl (fun _ => 0))), (b8, .inl (cs 0, 256, .inl (fun _ => 0)))]) H := hP
  have hD : va_D A ([(h0, .inr (1, [.ref b1, .ref b2, .ref b3, .ref b4, .ref b5, .ref b6, .ref b7, .ref b8, .null, .null, .int 0, .int 0, .int 0, .int 0, .int 0, .int 0])), (b1, .inl (cs 0, 20, .inl (fun _ => 0))), (b2, .inl (cs 0, 20, .inl (fun _ => 0))), (b3, .inl (cs 0, 20, .inl (fun _ => 0))), (b4, .inl (cs 0, 20, .inl (fun _ => 0))), (b5, .inl (cs 0, 20, .inl (fun _ => 0))), (b6, .inl (cs 0, 20, .inl (fun _ => 0))), (b7, .inl (cs 0, 256, .inl (fun _ => 0))), (b8, .inl (cs 0, 256, .inl (fun _ => 0)))]) := hD
  refine lv_aload_n hx hb dX1_init_70 rfl (lv_at hl 0 rfl) ?_
  refine lv_sipush (v := 256) hx hb dX1_init_71 (by decide) ?_
  refine k_newi (N := 256) hx hb hts hK hP hD hS hA (by decide) (by decide) (by decide) (Nat.le_of_ble_eq_true rfl) (Nat.le_of_ble_eq_true rfl) dX1_init_74 (fun b9 H hP hD hS => ?_)
  have hP : va_P D vwCl ([(h0, .inr (1, [.ref b1, .ref b2, .ref b3, .ref b4, .ref b5, .ref b6, .ref b7, .ref b8, .null, .null, .int 0, .int 0, .int 0, .int 0, .int 0, .int 0])), (b1, .inl (cs 0, 20, .inl (fun _ => 0))), (b2, .inl (cs 0, 20, .inl (fun _ => 0))), (b3, .inl (cs 0, 20, .inl (fun _ => 0))), (b4, .inl (cs 0, 20, .inl (fun _ => 0))), (b5, .inl (cs 0, 20, .inl (fun _ => 0))), (b6, .inl (cs 0, 20, .inl (fun _ => 0))), (b7, .inl (cs 0, 256, .inl (fun _ => 0))), (b8, .inl (cs 0, 256, .inl (fun _ => 0))), (b9, .inl (cs 0, 256, .inl (fun _ => 0)))]) H := hP
  have hD : va_D A ([(h0, .inr (1, [.ref b1, .ref b2, .ref b3, .ref b4, .ref b5, .ref b6, .ref b7, .ref b8, .null, .null, .int 0, .int 0, .int 0, .int 0, .int 0, .int 0])), (b1, .inl (cs 0, 20, .inl (fun _ => 0))), (b2, .inl (cs 0, 20, .inl (fun _ => 0))), (b3, .inl (cs 0, 20, .inl (fun _ => 0))), (b4, .inl (cs 0, 20, .inl (fun _ => 0))), (b5, .inl (cs 0, 20, .inl (fun _ => 0))), (b6, .inl (cs 0, 20, .inl (fun _ => 0))), (b7, .inl (cs 0, 256, .inl (fun _ => 0))), (b8, .inl (cs 0, 256, .inl (fun _ => 0))), (b9, .inl (cs 0, 256, .inl (fun _ => 0)))]) := hD
  refine va_putF (D := D) (ci := 1) (v := .ref b9) (ty := (tyX1 8)) (C := RX1) (T := TX1) (N := 16) hx hb hts hiX1 tyX1 tyX1_ok nmX1 hown hK hP hD hS 0 rfl rfl 8 (by decide) (hts _ flX1_36) (fun _ h9 => h9) rfl hin rfl (tyX1_ok 8 (by decide)) rfl rfl (Nat.le_of_ble_eq_true rfl) dX1_init_76 (fun H locs hP hD hS => ?_)
  have hP : va_P D vwCl ([(h0, .inr (1, [.ref b1, .ref b2, .ref b3, .ref b4, .ref b5, .ref b6, .ref b7, .ref b8, .ref b9, .null, .int 0, .int 0, .int 0, .int 0, .int 0, .int 0])), (b1, .inl (cs 0, 20, .inl (fun _ => 0))), (b2, .inl (cs 0, 20, .inl (fun _ => 0))), (b3, .inl (cs 0, 20, .inl (fun _ => 0))), (b4, .inl (cs 0, 20, .inl (fun _ => 0))), (b5, .inl (cs 0, 20, .inl (fun _ => 0))), (b6, .inl (cs 0, 20, .inl (fun _ => 0))), (b7, .inl (cs 0, 256, .inl (fun _ => 0))), (b8, .inl (cs 0, 256, .inl (fun _ => 0))), (b9, .inl (cs 0, 256, .inl (fun _ => 0)))]) H := hP
  have hD : va_D A ([(h0, .inr (1, [.ref b1, .ref b2, .ref b3, .ref b4, .ref b5, .ref b6, .ref b7, .ref b8, .ref b9, .null, .int 0, .int 0, .int 0, .int 0, .int 0, .int 0])), (b1, .inl (cs 0, 20, .inl (fun _ => 0))), (b2, .inl (cs 0, 20, .inl (fun _ => 0))), (b3, .inl (cs 0, 20, .inl (fun _ => 0))), (b4, .inl (cs 0, 20, .inl (fun _ => 0))), (b5, .inl (cs 0, 20, .inl (fun _ => 0))), (b6, .inl (cs 0, 20, .inl (fun _ => 0))), (b7, .inl (cs 0, 256, .inl (fun _ => 0))), (b8, .inl (cs 0, 256, .inl (fun _ => 0))), (b9, .inl (cs 0, 256, .inl (fun _ => 0)))]) := hD
  refine lv_aload_n hx hb dX1_init_79 rfl (lv_at hl 0 rfl) ?_
  refine lv_iconst (v := 0) hx hb dX1_init_80 (by decide) ?_
  refine k_newi (N := 0) hx hb hts hK hP hD hS hA (by decide) (by decide) (by decide) (Nat.le_of_ble_eq_true rfl) (Nat.le_of_ble_eq_true rfl) dX1_init_81 (fun b10 H hP hD hS => ?_)
  have hP : va_P D vwCl ([(h0, .inr (1, [.ref b1, .ref b2, .ref b3, .ref b4, .ref b5, .ref b6, .ref b7, .ref b8, .ref b9, .null, .int 0, .int 0, .int 0, .int 0, .int 0, .int 0])), (b1, .inl (cs 0, 20, .inl (fun _ => 0))), (b2, .inl (cs 0, 20, .inl (fun _ => 0))), (b3, .inl (cs 0, 20, .inl (fun _ => 0))), (b4, .inl (cs 0, 20, .inl (fun _ => 0))), (b5, .inl (cs 0, 20, .inl (fun _ => 0))), (b6, .inl (cs 0, 20, .inl (fun _ => 0))), (b7, .inl (cs 0, 256, .inl (fun _ => 0))), (b8, .inl (cs 0, 256, .inl (fun _ => 0))), (b9, .inl (cs 0, 256, .inl (fun _ => 0))), (b10, .inl (cs 0, 0, .inl (fun _ => 0)))]) H := hP
  have hD : va_D A ([(h0, .inr (1, [.ref b1, .ref b2, .ref b3, .ref b4, .ref b5, .ref b6, .ref b7, .ref b8, .ref b9, .null, .int 0, .int 0, .int 0, .int 0, .int 0, .int 0])), (b1, .inl (cs 0, 20, .inl (fun _ => 0))), (b2, .inl (cs 0, 20, .inl (fun _ => 0))), (b3, .inl (cs 0, 20, .inl (fun _ => 0))), (b4, .inl (cs 0, 20, .inl (fun _ => 0))), (b5, .inl (cs 0, 20, .inl (fun _ => 0))), (b6, .inl (cs 0, 20, .inl (fun _ => 0))), (b7, .inl (cs 0, 256, .inl (fun _ => 0))), (b8, .inl (cs 0, 256, .inl (fun _ => 0))), (b9, .inl (cs 0, 256, .inl (fun _ => 0))), (b10, .inl (cs 0, 0, .inl (fun _ => 0)))]) := hD
  refine va_put (D := D) (ci := 1) (v := .ref b10) (ty := (tyX1 9)) (C := RX1) (T := TX1) (N := 16) hx hb hts hiX1 tyX1 tyX1_ok nmX1 hown hK hP hD hS 0 rfl rfl 9 (by decide) (hts _ flX1_39) (fun _ h9 => h9) rfl (tyX1_ok 9 (by decide)) rfl rfl (Nat.le_of_ble_eq_true rfl) dX1_init_83 (fun H locs hP hD hS => ?_)
  have hP : va_P D vwCl ([(h0, .inr (1, [.ref b1, .ref b2, .ref b3, .ref b4, .ref b5, .ref b6, .ref b7, .ref b8, .ref b9, .ref b10, .int 0, .int 0, .int 0, .int 0, .int 0, .int 0])), (b1, .inl (cs 0, 20, .inl (fun _ => 0))), (b2, .inl (cs 0, 20, .inl (fun _ => 0))), (b3, .inl (cs 0, 20, .inl (fun _ => 0))), (b4, .inl (cs 0, 20, .inl (fun _ => 0))), (b5, .inl (cs 0, 20, .inl (fun _ => 0))), (b6, .inl (cs 0, 20, .inl (fun _ => 0))), (b7, .inl (cs 0, 256, .inl (fun _ => 0))), (b8, .inl (cs 0, 256, .inl (fun _ => 0))), (b9, .inl (cs 0, 256, .inl (fun _ => 0))), (b10, .inl (cs 0, 0, .inl (fun _ => 0)))]) H := hP
  have hD : va_D A ([(h0, .inr (1, [.ref b1, .ref b2, .ref b3, .ref b4, .ref b5, .ref b6, .ref b7, .ref b8, .ref b9, .ref b10, .int 0, .int 0, .int 0, .int 0, .int 0, .int 0])), (b1, .inl (cs 0, 20, .inl (fun _ => 0))), (b2, .inl (cs 0, 20, .inl (fun _ => 0))), (b3, .inl (cs 0, 20, .inl (fun _ => 0))), (b4, .inl (cs 0, 20, .inl (fun _ => 0))), (b5, .inl (cs 0, 20, .inl (fun _ => 0))), (b6, .inl (cs 0, 20, .inl (fun _ => 0))), (b7, .inl (cs 0, 256, .inl (fun _ => 0))), (b8, .inl (cs 0, 256, .inl (fun _ => 0))), (b9, .inl (cs 0, 256, .inl (fun _ => 0))), (b10, .inl (cs 0, 0, .inl (fun _ => 0)))]) := hD
  refine lv_aload_n hx hb dX1_init_86 rfl (lv_at hl 0 rfl) ?_
  refine lv_sipush (v := 256) hx hb dX1_init_87 (by decide) ?_
  refine va_put (D := D) (ci := 1) (v := .int 256) (ty := .int) (C := RX1) (T := TX1) (N := 16) hx hb hts hiX1 tyX1 tyX1_ok nmX1 hown hK hP hD hS 0 rfl rfl 12 (by decide) (hts _ flX1_42) (fun _ h9 => h9) rfl (tyX1_ok 12 (by decide)) rfl rfl (Nat.le_of_ble_eq_true rfl) dX1_init_90 (fun H locs hP hD hS => ?_)
  have hP : va_P D vwCl ([(h0, .inr (1, [.ref b1, .ref b2, .ref b3, .ref b4, .ref b5, .ref b6, .ref b7, .ref b8, .ref b9, .ref b10, .int 0, .int 0, .int 256, .int 0, .int 0, .int 0])), (b1, .inl (cs 0, 20, .inl (fun _ => 0))), (b2, .inl (cs 0, 20, .inl (fun _ => 0))), (b3, .inl (cs 0, 20, .inl (fun _ => 0))), (b4, .inl (cs 0, 20, .inl (fun _ => 0))), (b5, .inl (cs 0, 20, .inl (fun _ => 0))), (b6, .inl (cs 0, 20, .inl (fun _ => 0))), (b7, .inl (cs 0, 256, .inl (fun _ => 0))), (b8, .inl (cs 0, 256, .inl (fun _ => 0))), (b9, .inl (cs 0, 256, .inl (fun _ => 0))), (b10, .inl (cs 0, 0, .inl (fun _ => 0)))]) H := hP
  have hD : va_D A ([(h0, .inr (1, [.ref b1, .ref b2, .ref b3, .ref b4, .ref b5, .ref b6, .ref b7, .ref b8, .ref b9, .ref b10, .int 0, .int 0, .int 256, .int 0, .int 0, .int 0])), (b1, .inl (cs 0, 20, .inl (fun _ => 0))), (b2, .inl (cs 0, 20, .inl (fun _ => 0))), (b3, .inl (cs 0, 20, .inl (fun _ => 0))), (b4, .inl (cs 0, 20, .inl (fun _ => 0))), (b5, .inl (cs 0, 20, .inl (fun _ => 0))), (b6, .inl (cs 0, 20, .inl (fun _ => 0))), (b7, .inl (cs 0, 256, .inl (fun _ => 0))), (b8, .inl (cs 0, 256, .inl (fun _ => 0))), (b9, .inl (cs 0, 256, .inl (fun _ => 0))), (b10, .inl (cs 0, 0, .inl (fun _ => 0)))]) := hD
  have hP : va_P D vwCl (W1 cs h0 (fun k => ([b1, b2, b3, b4, b5, b6, b7, b8, b9, b10, 0, 0, 0, 0, 0, 0] : List Nat).getD k 0) (fun k => ([0, 0, 0, 0, 0, 0, 0, 0, 0, 0, 0, 0, 256, 0, 0, 0] : List Int32).getD k 0) (fun _ _ => 0) (fun _ => 0)) H := k_sub hP [0, 1, 2, 3, 4, 5, 6, 7, 8, 9, 10] rfl
  have hD : va_D A (W1 cs h0 (fun k => ([b1, b2, b3, b4, b5, b6, b7, b8, b9, b10, 0, 0, 0, 0, 0, 0] : List Nat).getD k 0) (fun k => ([0, 0, 0, 0, 0, 0, 0, 0, 0, 0, 0, 0, 256, 0, 0, 0] : List Int32).getD k 0) (fun _ _ => 0) (fun _ => 0)) := hD.sub [0, 1, 2, 3, 4, 5, 6, 7, 8, 9, 10] (by decide) rfl
  exact k_mono (k_vret hx hb hr hlocks hK hP hD hS dX1_init_93) (fun t ht => ⟨(fun k => ([b1, b2, b3, b4, b5, b6, b7, b8, b9, b10, 0, 0, 0, 0, 0, 0] : List Nat).getD k 0), ht⟩)
theorem dvX3 : ∀ j, j < 1 → defaultValue (tyX3 j) = vp_V [.null] j := by
  intro j hj
  match j, hj with
  | 0, _ => rfl
  | j + 1, hj => exact absurd hj (by omega)
theorem qnX3_init : yX3_init.cls ≠ "java/lang/invoke/MethodHandle" ∧ yX3_init.cls ≠ "java/lang/invoke/VarHandle" ∧ (parseMethodDescriptor yX3_init.desc).map (fun d => d.parameters.length) = some 1 := by decide +kernel
abbrev wlX3_init : List Cond := Cond.code yX3_init cX3_init 2 none :: tbG
abbrev rmX3_init : Room := { frames := 1, cells := 0, slots := 0, locals := 20 }
set_option maxRecDepth 100000 in
set_option maxHeartbeats 8000000 in
theorem c_X3_init {l : Launch} {D : va_G} {cs zs : Nat → Nat} {h0 : Nat} {h1 : Nat} : MN (S := Nat → Nat) l yX3_init wlX3_init rmX3_init D cs zs [.ref h0, .ref h1] [(h0, .inr (3, [.null]))] (fun u => W3 cs h0 (va_up u 0 h1) ) 0 0 := by
  refine MN.of RX3 (by decide) rfl rfl (Nat.le_of_ble_eq_true rfl) (fun p e s m below meth c A C hin hX hP hD hS ls hl => ?_)
  generalize ([.ref h0, .ref h1] : List Value).toArray = args at C ⊢
  obtain ⟨hx, hb, hr, hml, hown, hts, hK, hA, hlocks, hZ⟩ := id C
  have hl : lv_has ls 2 [(0, .ref h0), (1, .ref h1)] := hl
  refine lv_aload_n hx hb dX3_init_0 rfl (lv_at hl 0 rfl) ?_
  refine W.objInit hx hb hown (hts _ mlX3_3) (hts _ imoinit) (hts _ cooinit) rfl (by rw [hml]; exact hl.1) rfl dX3_init_1 (Nat.le_of_ble_eq_true rfl) (Nat.le_of_ble_eq_true rfl) ?_
  refine W.eq (g2 := F0 m 4 ls []) rfl ?_
  refine lv_aload_n hx hb dX3_init_4 rfl (lv_at hl 0 rfl) ?_
  refine lv_aload_n hx hb dX3_init_5 rfl (lv_at hl 1 rfl) ?_
  refine va_putF (D := D) (ci := 3) (v := .ref h1) (ty := (tyX3 0)) (C := RX3) (T := TX3) (N := 1) hx hb hts hiX3 tyX3 tyX3_ok nmX3 hown hK hP hD hS 0 rfl rfl 0 (by decide) (hts _ flX3_9) (fun _ h9 => h9) rfl hin rfl (tyX3_ok 0 (by decide)) rfl rfl (Nat.le_of_ble_eq_true rfl) dX3_init_6 (fun H locs hP hD hS => ?_)
  have hP : va_P D vwCl ([(h0, .inr (3, [.ref h1]))]) H := hP
  have hD : va_D A ([(h0, .inr (3, [.ref h1]))]) := hD
  have hP : va_P D vwCl (W3 cs h0 (va_up (fun k => ([h1] : List Nat).getD k 0) 0 h1) ) H := k_sub hP [0] rfl
  have hD : va_D A (W3 cs h0 (va_up (fun k => ([h1] : List Nat).getD k 0) 0 h1) ) := hD.sub [0] (by decide) rfl
  exact k_mono (k_vret hx hb hr hlocks hK hP hD hS dX3_init_9) (fun t ht => ⟨(fun k => ([h1] : List Nat).getD k 0), ht⟩)
theorem dvX4 : ∀ j, j < 13 → defaultValue (tyX4 j) = vp_V [.null, .null, .null, .null, .null, .null, .int 0, .int 0, .int 0, .int 0, .int 0, .int 0, .int 0] j := by
  intro j hj
  match j, hj with
  | 0, _ => rfl
  | 1, _ => rfl
  | 2, _ => rfl
  | 3, _ => rfl
  | 4, _ => rfl
  | 5, _ => rfl
  | 6, _ => rfl
  | 7, _ => rfl
  | 8, _ => rfl
  | 9, _ => rfl
  | 10, _ => rfl
  | 11, _ => rfl
  | 12, _ => rfl
  | j + 13, hj => exact absurd hj (by omega)
theorem qnX4_init : yX4_init.cls ≠ "java/lang/invoke/MethodHandle" ∧ yX4_init.cls ≠ "java/lang/invoke/VarHandle" ∧ (parseMethodDescriptor yX4_init.desc).map (fun d => d.parameters.length) = some 1 := by decide +kernel
abbrev wlX4_init : List Cond := Cond.code yX4_init cX4_init 2 none :: tbG
abbrev rmX4_init : Room := { frames := 1, cells := 5, slots := 104, locals := 20 }
set_option maxRecDepth 100000 in
set_option maxHeartbeats 8000000 in
theorem c_X4_init {l : Launch} {D : va_G} {cs zs : Nat → Nat} {h0 : Nat} {h1 : Nat} : MN (S := Nat → Nat) l yX4_init wlX4_init rmX4_init D cs zs [.ref h0, .ref h1] [(h0, .inr (4, [.null, .null, .null, .null, .null, .null, .int 0, .int 0, .int 0, .int 0, .int 0, .int 0, .int 0]))] (fun u => W4 cs h0 (va_up u 5 h1) (fun k => ([0, 0, 0, 0, 0, 0, 0, 0, 0, 0, 0, 0, 0] : List Int32).getD k 0) (fun _ _ => 0)) 5 104 := by
  refine MN.of RX4 (by decide) rfl rfl (Nat.le_of_ble_eq_true rfl) (fun p e s m below meth c A C hin hX hP hD hS ls hl => ?_)
  generalize ([.ref h0, .ref h1] : List Value).toArray = args at C ⊢
  obtain ⟨hx, hb, hr, hml, hown, hts, hK, hA, hlocks, hZ⟩ := id C
  have hl : lv_has ls 2 [(0, .ref h0), (1, .ref h1)] := hl
  refine lv_aload_n hx hb dX4_init_0 rfl (lv_at hl 0 rfl) ?_
  refine W.objInit hx hb hown (hts _ mlX4_3) (hts _ imoinit) (hts _ cooinit) rfl (by rw [hml]; exact hl.1) rfl dX4_init_1 (Nat.le_of_ble_eq_true rfl) (Nat.le_of_ble_eq_true rfl) ?_
  refine W.eq (g2 := F0 m 4 ls []) rfl ?_
  refine lv_aload_n hx hb dX4_init_4 rfl (lv_at hl 0 rfl) ?_
  refine lv_bipush (v := 20) hx hb dX4_init_5 (by decide) ?_
  refine k_newi (N := 20) hx hb hts hK hP hD hS hA (by decide) (by decide) (by decide) (Nat.le_of_ble_eq_true rfl) (Nat.le_of_ble_eq_true rfl) dX4_init_7 (fun b1 H hP hD hS => ?_)
  have hP : va_P D vwCl ([(h0, .inr (4, [.null, .null, .null, .null, .null, .null, .int 0, .int 0, .int 0, .int 0, .int 0, .int 0, .int 0])), (b1, .inl (cs 0, 20, .inl (fun _ => 0)))]) H := hP
  have hD : va_D A ([(h0, .inr (4, [.null, .null, .null, .null, .null, .null, .int 0, .int 0, .int 0, .int 0, .int 0, .int 0, .int 0])), (b1, .inl (cs 0, 20, .inl (fun _ => 0)))]) := hD
  refine va_putF (D := D) (ci := 4) (v := .ref b1) (ty := (tyX4 0)) (C := RX4) (T := TX4) (N := 13) hx hb hts hiX4 tyX4 tyX4_ok nmX4 hown hK hP hD hS 0 rfl rfl 0 (by decide) (hts _ flX4_9) (fun _ h9 => h9) rfl hin rfl (tyX4_ok 0 (by decide)) rfl rfl (Nat.le_of_ble_eq_true rfl) dX4_init_9 (fun H locs hP hD hS => ?_)
  have hP : va_P D vwCl ([(h0, .inr (4, [.ref b1, .null, .null, .null, .null, .null, .int 0, .int 0, .int 0, .int 0, .int 0, .int 0, .int 0])), (b1, .inl (cs 0, 20, .inl (fun _ => 0)))]) H := hP
  have hD : va_D A ([(h0, .inr (4, [.ref b1, .null, .null, .null, .null, .null, .int 0, .int 0, .int 0, .int 0, .int 0, .int 0, .int 0])), (b1, .inl (cs 0, 20, .inl (fun _ => 0)))]) := hD
  refine lv_aload_n hx hb dX4_init_12 rfl (lv_at hl 0 rfl) ?_
  refine lv_bipush (v := 20) hx hb dX4_init_13 (by decide) ?_
  refine k_newi (N := 20) hx hb hts hK hP hD hS hA (by decide) (by decide) (by decide) (Nat.le_of_ble_eq_true rfl) (Nat.le_of_ble_eq_true rfl) dX4_init_15 (fun b2 H hP hD hS => ?_)
  have hP : va_P D vwCl ([(h0, .inr (4, [.ref b1, .null, .null, .null, .null, .null, .int 0, .int 0, .int 0, .int 0, .int 0, .int 0, .int 0])), (b1, .inl (cs 0, 20, .inl (fun _ => 0))), (b2, .inl (cs 0, 20, .inl (fun _ => 0)))]) H := hP
  have hD : va_D A ([(h0, .inr (4, [.ref b1, .null, .null, .null, .null, .null, .int 0, .int 0, .int 0, .int 0, .int 0, .int 0, .int 0])), (b1, .inl (cs 0, 20, .inl (fun _ => 0))), (b2, .inl (cs 0, 20, .inl (fun _ => 0)))]) := hD
  refine va_putF (D := D) (ci := 4) (v := .ref b2) (ty := (tyX4 1)) (C := RX4) (T := TX4) (N := 13) hx hb hts hiX4 tyX4 tyX4_ok nmX4 hown hK hP hD hS 0 rfl rfl 1 (by decide) (hts _ flX4_15) (fun _ h9 => h9) rfl hin rfl (tyX4_ok 1 (by decide)) rfl rfl (Nat.le_of_ble_eq_true rfl) dX4_init_17 (fun H locs hP hD hS => ?_)
  have hP : va_P D vwCl ([(h0, .inr (4, [.ref b1, .ref b2, .null, .null, .null, .null, .int 0, .int 0, .int 0, .int 0, .int 0, .int 0, .int 0])), (b1, .inl (cs 0, 20, .inl (fun _ => 0))), (b2, .inl (cs 0, 20, .inl (fun _ => 0)))]) H := hP
  have hD : va_D A ([(h0, .inr (4, [.ref b1, .ref b2, .null, .null, .null, .null, .int 0, .int 0, .int 0, .int 0, .int 0, .int 0, .int 0])), (b1, .inl (cs 0, 20, .inl (fun _ => 0))), (b2, .inl (cs 0, 20, .inl (fun _ => 0)))]) := hD
  refine lv_aload_n hx hb dX4_init_20 rfl (lv_at hl 0 rfl) ?_
  refine lv_bipush (v := 24) hx hb dX4_init_21 (by decide) ?_
  refine k_newi (N := 24) hx hb hts hK hP hD hS hA (by decide) (by decide) (by decide) (Nat.le_of_ble_eq_true rfl) (Nat.le_of_ble_eq_true rfl) dX4_init_23 (fun b3 H hP hD hS => ?_)
  have hP : va_P D vwCl ([(h0, .inr (4, [.ref b1, .ref b2, .null, .null, .null, .null, .int 0, .int 0, .int 0, .int 0, .int 0, .int 0, .int 0])), (b1, .inl (cs 0, 20, .inl (fun _ => 0))), (b2, .inl (cs 0, 20, .inl (fun _ => 0))), (b3, .inl (cs 0, 24, .inl (fun _ => 0)))]) H := hP
  have hD : va_D A ([(h0, .inr (4, [.ref b1, .ref b2, .null, .null, .null, .null, .int 0, .int 0, .int 0, .int 0, .int 0, .int 0, .int 0])), (b1, .inl (cs 0, 20, .inl (fun _ => 0))), (b2, .inl (cs 0, 20, .inl (fun _ => 0))), (b3, .inl (cs 0, 24, .inl (fun _ => 0)))]) := hD
  refine va_putF (D := D) (ci := 4) (v := .ref b3) (ty := (tyX4 2)) (C := RX4) (T := TX4) (N := 13) hx hb hts hiX4 tyX4 tyX4_ok nmX4 hown hK hP hD hS 0 rfl rfl 2 (by decide) (hts _ flX4_18) (fun _ h9 => h9) rfl hin rfl (tyX4_ok 2 (by decide)) rfl rfl (Nat.le_of_ble_eq_true rfl) dX4_init_25 (fun H locs hP hD hS => ?_)
  have hP : va_P D vwCl ([(h0, .inr (4, [.ref b1, .ref b2, .ref b3, .null, .null, .null, .int 0, .int 0, .int 0, .int 0, .int 0, .int 0, .int 0])), (b1, .inl (cs 0, 20, .inl (fun _ => 0))), (b2, .inl (cs 0, 20, .inl (fun _ => 0))), (b3, .inl (cs 0, 24, .inl (fun _ => 0)))]) H := hP
  have hD : va_D A ([(h0, .inr (4, [.ref b1, .ref b2, .ref b3, .null, .null, .null, .int 0, .int 0, .int 0, .int 0, .int 0, .int 0, .int 0])), (b1, .inl (cs 0, 20, .inl (fun _ => 0))), (b2, .inl (cs 0, 20, .inl (fun _ => 0))), (b3, .inl (cs 0, 24, .inl (fun _ => 0)))]) := hD
  refine lv_aload_n hx hb dX4_init_28 rfl (lv_at hl 0 rfl) ?_
  refine lv_bipush (v := 20) hx hb dX4_init_29 (by decide) ?_
  refine k_newi (N := 20) hx hb hts hK hP hD hS hA (by decide) (by decide) (by decide) (Nat.le_of_ble_eq_true rfl) (Nat.le_of_ble_eq_true rfl) dX4_init_31 (fun b4 H hP hD hS => ?_)
  have hP : va_P D vwCl ([(h0, .inr (4, [.ref b1, .ref b2, .ref b3, .null, .null, .null, .int 0, .int 0, .int 0, .int 0, .int 0, .int 0, .int 0])), (b1, .inl (cs 0, 20, .inl (fun _ => 0))), (b2, .inl (cs 0, 20, .inl (fun _ => 0))), (b3, .inl (cs 0, 24, .inl (fun _ => 0))), (b4, .inl (cs 0, 20, .inl (fun _ => 0)))]) H := hP
  have hD : va_D A ([(h0, .inr (4, [.ref b1, .ref b2, .ref b3, .null, .null, .null, .int 0, .int 0, .int 0, .int 0, .int 0, .int 0, .int 0])), (b1, .inl (cs 0, 20, .inl (fun _ => 0))), (b2, .inl (cs 0, 20, .inl (fun _ => 0))), (b3, .inl (cs 0, 24, .inl (fun _ => 0))), (b4, .inl (cs 0, 20, .inl (fun _ => 0)))]) := hD
  refine va_putF (D := D) (ci := 4) (v := .ref b4) (ty := (tyX4 3)) (C := RX4) (T := TX4) (N := 13) hx hb hts hiX4 tyX4 tyX4_ok nmX4 hown hK hP hD hS 0 rfl rfl 3 (by decide) (hts _ flX4_21) (fun _ h9 => h9) rfl hin rfl (tyX4_ok 3 (by decide)) rfl rfl (Nat.le_of_ble_eq_true rfl) dX4_init_33 (fun H locs hP hD hS => ?_)
  have hP : va_P D vwCl ([(h0, .inr (4, [.ref b1, .ref b2, .ref b3, .ref b4, .null, .null, .int 0, .int 0, .int 0, .int 0, .int 0, .int 0, .int 0])), (b1, .inl (cs 0, 20, .inl (fun _ => 0))), (b2, .inl (cs 0, 20, .inl (fun _ => 0))), (b3, .inl (cs 0, 24, .inl (fun _ => 0))), (b4, .inl (cs 0, 20, .inl (fun _ => 0)))]) H := hP
  have hD : va_D A ([(h0, .inr (4, [.ref b1, .ref b2, .ref b3, .ref b4, .null, .null, .int 0, .int 0, .int 0, .int 0, .int 0, .int 0, .int 0])), (b1, .inl (cs 0, 20, .inl (fun _ => 0))), (b2, .inl (cs 0, 20, .inl (fun _ => 0))), (b3, .inl (cs 0, 24, .inl (fun _ => 0))), (b4, .inl (cs 0, 20, .inl (fun _ => 0)))]) := hD
  refine lv_aload_n hx hb dX4_init_36 rfl (lv_at hl 0 rfl) ?_
  refine lv_bipush (v := 20) hx hb dX4_init_37 (by decide) ?_
  refine k_newz (N := 20) hx hb hts hK hP hD hS hA (by decide) (by decide) (by decide) (Nat.le_of_ble_eq_true rfl) (Nat.le_of_ble_eq_true rfl) dX4_init_39 (fun b5 H hP hD hS => ?_)
  have hP : va_P D vwCl ([(h0, .inr (4, [.ref b1, .ref b2, .ref b3, .ref b4, .null, .null, .int 0, .int 0, .int 0, .int 0, .int 0, .int 0, .int 0])), (b1, .inl (cs 0, 20, .inl (fun _ => 0))), (b2, .inl (cs 0, 20, .inl (fun _ => 0))), (b3, .inl (cs 0, 24, .inl (fun _ => 0))), (b4, .inl (cs 0, 20, .inl (fun _ => 0))), (b5, .inl (cs 2, 20, .inl (fun _ => 0)))]) H := hP
  have hD : va_D A ([(h0, .inr (4, [.ref b1, .ref b2, .ref b3, .ref b4, .null, .null, .int 0, .int 0, .int 0, .int 0, .int 0, .int 0, .int 0])), (b1, .inl (cs 0, 20, .inl (fun _ => 0))), (b2, .inl (cs 0, 20, .inl (fun _ => 0))), (b3, .inl (cs 0, 24, .inl (fun _ => 0))), (b4, .inl (cs 0, 20, .inl (fun _ => 0))), (b5, .inl (cs 2, 20, .inl (fun _ => 0)))]) := hD
  refine va_putF (D := D) (ci := 4) (v := .ref b5) (ty := (tyX4 4)) (C := RX4) (T := TX4) (N := 13) hx hb hts hiX4 tyX4 tyX4_ok nmX4 hown hK hP hD hS 0 rfl rfl 4 (by decide) (hts _ flX4_24) (fun _ h9 => h9) rfl hin rfl (tyX4_ok 4 (by decide)) rfl rfl (Nat.le_of_ble_eq_true rfl) dX4_init_41 (fun H locs hP hD hS => ?_)
  have hP : va_P D vwCl ([(h0, .inr (4, [.ref b1, .ref b2, .ref b3, .ref b4, .ref b5, .null, .int 0, .int 0, .int 0, .int 0, .int 0, .int 0, .int 0])), (b1, .inl (cs 0, 20, .inl (fun _ => 0))), (b2, .inl (cs 0, 20, .inl (fun _ => 0))), (b3, .inl (cs 0, 24, .inl (fun _ => 0))), (b4, .inl (cs 0, 20, .inl (fun _ => 0))), (b5, .inl (cs 2, 20, .inl (fun _ => 0)))]) H := hP
  have hD : va_D A ([(h0, .inr (4, [.ref b1, .ref b2, .ref b3, .ref b4, .ref b5, .null, .int 0, .int 0, .int 0, .int 0, .int 0, .int 0, .int 0])), (b1, .inl (cs 0, 20, .inl (fun _ => 0))), (b2, .inl (cs 0, 20, .inl (fun _ => 0))), (b3, .inl (cs 0, 24, .inl (fun _ => 0))), (b4, .inl (cs 0, 20, .inl (fun _ => 0))), (b5, .inl (cs 2, 20, .inl (fun _ => 0)))]) := hD
  refine lv_aload_n hx hb dX4_init_44 rfl (lv_at hl 0 rfl) ?_
  refine lv_aload_n hx hb dX4_init_45 rfl (lv_at hl 1 rfl) ?_
  refine va_put (D := D) (ci := 4) (v := .ref h1) (ty := (tyX4 5)) (C := RX4) (T := TX4) (N := 13) hx hb hts hiX4 tyX4 tyX4_ok nmX4 hown hK hP hD hS 0 rfl rfl 5 (by decide) (hts _ flX4_28) (fun _ h9 => h9) rfl (tyX4_ok 5 (by decide)) rfl rfl (Nat.le_of_ble_eq_true rfl) dX4_init_46 (fun H locs hP hD hS => ?_)
  have hP : va_P D vwCl ([(h0, .inr (4, [.ref b1, .ref b2, .ref b3, .ref b4, .ref b5, .ref h1, .int 0, .int 0, .int 0, .int 0, .int 0, .int 0, .int 0])), (b1, .inl (cs 0, 20, .inl (fun _ => 0))), (b2, .inl (cs 0, 20, .inl (fun _ => 0))), (b3, .inl (cs 0, 24, .inl (fun _ => 0))), (b4, .inl (cs 0, 20, .inl (fun _ => 0))), (b5, .inl (cs 2, 20, .inl (fun _ => 0)))]) H := hP
  have hD : va_D A ([(h0, .inr (4, [.ref b1, .ref b2, .ref b3, .ref b4, .ref b5, .ref h1, .int 0, .int 0, .int 0, .int 0, .int 0, .int 0, .int 0])), (b1, .inl (cs 0, 20, .inl (fun _ => 0))), (b2, .inl (cs 0, 20, .inl (fun _ => 0))), (b3, .inl (cs 0, 24, .inl (fun _ => 0))), (b4, .inl (cs 0, 20, .inl (fun _ => 0))), (b5, .inl (cs 2, 20, .inl (fun _ => 0)))]) := hD
  have hP : va_P D vwCl (W4 cs h0 (va_up (fun k => ([b1, b2, b3, b4, b5, h1, 0, 0, 0, 0, 0, 0, 0] : List Nat).getD k 0) 5 h1) (fun k => ([0, 0, 0, 0, 0, 0, 0, 0, 0, 0, 0, 0, 0] : List Int32).getD k 0) (fun _ _ => 0)) H := k_sub hP [0, 1, 2, 3, 4, 5] rfl
  have hD : va_D A (W4 cs h0 (va_up (fun k => ([b1, b2, b3, b4, b5, h1, 0, 0, 0, 0, 0, 0, 0] : List Nat).getD k 0) 5 h1) (fun k => ([0, 0, 0, 0, 0, 0, 0, 0, 0, 0, 0, 0, 0] : List Int32).getD k 0) (fun _ _ => 0)) := hD.sub [0, 1, 2, 3, 4, 5] (by decide) rfl
  exact k_mono (k_vret hx hb hr hlocks hK hP hD hS dX4_init_49) (fun t ht => ⟨(fun k => ([b1, b2, b3, b4, b5, h1, 0, 0, 0, 0, 0, 0, 0] : List Nat).getD k 0), ht⟩)
theorem dvX6 : ∀ j, j < 9 → defaultValue (tyX6 j) = vp_V [.null, .null, .null, .null, .int 0, .int 0, .int 0, .int 0, .int 0] j := by
  intro j hj
  match j, hj with
  | 0, _ => rfl
  | 1, _ => rfl
  | 2, _ => rfl
  | 3, _ => rfl
  | 4, _ => rfl
  | 5, _ => rfl
  | 6, _ => rfl
  | 7, _ => rfl
  | 8, _ => rfl
  | j + 9, hj => exact absurd hj (by omega)
theorem qnX6_init : yX6_init.cls ≠ "java/lang/invoke/MethodHandle" ∧ yX6_init.cls ≠ "java/lang/invoke/VarHandle" ∧ (parseMethodDescriptor yX6_init.desc).map (fun d => d.parameters.length) = some 2 := by decide +kernel
abbrev wlX6_init : List Cond := Cond.code yX6_init cX6_init 3 none :: tbG
abbrev rmX6_init : Room := { frames := 1, cells := 2, slots := 13, locals := 20 }
set_option maxRecDepth 100000 in
set_option maxHeartbeats 8000000 in
theorem c_X6_init {l : Launch} {D : va_G} {cs zs : Nat → Nat} {h0 : Nat} {h1 : Nat} {h2 : Nat} : MN (S := Nat → Nat) l yX6_init wlX6_init rmX6_init D cs zs [.ref h0, .ref h1, .ref h2] [(h0, .inr (6, [.null, .null, .null, .null, .int 0, .int 0, .int 0, .int 0, .int 0]))] (fun u => W6 cs h0 (va_up (va_up u 0 h1) 3 h2) (fun k => ([0, 0, 0, 0, 0, 0, 0, 0, 0] : List Int32).getD k 0) (fun _ _ => 0)) 2 13 := by
  refine MN.of RX6 (by decide) rfl rfl (Nat.le_of_ble_eq_true rfl) (fun p e s m below meth c A C hin hX hP hD hS ls hl => ?_)
  generalize ([.ref h0, .ref h1, .ref h2] : List Value).toArray = args at C ⊢
  obtain ⟨hx, hb, hr, hml, hown, hts, hK, hA, hlocks, hZ⟩ := id C
  have hl : lv_has ls 3 [(0, .ref h0), (1, .ref h1), (2, .ref h2)] := hl
  refine lv_aload_n hx hb dX6_init_0 rfl (lv_at hl 0 rfl) ?_
  refine W.objInit hx hb hown (hts _ mlX6_3) (hts _ imoinit) (hts _ cooinit) rfl (by rw [hml]; exact hl.1) rfl dX6_init_1 (Nat.le_of_ble_eq_true rfl) (Nat.le_of_ble_eq_true rfl) ?_
  refine W.eq (g2 := F0 m 4 ls []) rfl ?_
  refine lv_aload_n hx hb dX6_init_4 rfl (lv_at hl 0 rfl) ?_
  refine lv_bipush (v := 6) hx hb dX6_init_5 (by decide) ?_
  refine k_newi (N := 6) hx hb hts hK hP hD hS hA (by decide) (by decide) (by decide) (Nat.le_of_ble_eq_true rfl) (Nat.le_of_ble_eq_true rfl) dX6_init_7 (fun b1 H hP hD hS => ?_)
  have hP : va_P D vwCl ([(h0, .inr (6, [.null, .null, .null, .null, .int 0, .int 0, .int 0, .int 0, .int 0])), (b1, .inl (cs 0, 6, .inl (fun _ => 0)))]) H := hP
  have hD : va_D A ([(h0, .inr (6, [.null, .null, .null, .null, .int 0, .int 0, .int 0, .int 0, .int 0])), (b1, .inl (cs 0, 6, .inl (fun _ => 0)))]) := hD
  refine va_putF (D := D) (ci := 6) (v := .ref b1) (ty := (tyX6 1)) (C := RX6) (T := TX6) (N := 9) hx hb hts hiX6 tyX6 tyX6_ok nmX6 hown hK hP hD hS 0 rfl rfl 1 (by decide) (hts _ flX6_9) (fun _ h9 => h9) rfl hin rfl (tyX6_ok 1 (by decide)) rfl rfl (Nat.le_of_ble_eq_true rfl) dX6_init_9 (fun H locs hP hD hS => ?_)
  have hP : va_P D vwCl ([(h0, .inr (6, [.null, .ref b1, .null, .null, .int 0, .int 0, .int 0, .int 0, .int 0])), (b1, .inl (cs 0, 6, .inl (fun _ => 0)))]) H := hP
  have hD : va_D A ([(h0, .inr (6, [.null, .ref b1, .null, .null, .int 0, .int 0, .int 0, .int 0, .int 0])), (b1, .inl (cs 0, 6, .inl (fun _ => 0)))]) := hD
  refine lv_aload_n hx hb dX6_init_12 rfl (lv_at hl 0 rfl) ?_
  refine lv_bipush (v := 7) hx hb dX6_init_13 (by decide) ?_
  refine k_newi (N := 7) hx hb hts hK hP hD hS hA (by decide) (by decide) (by decide) (Nat.le_of_ble_eq_true rfl) (Nat.le_of_ble_eq_true rfl) dX6_init_15 (fun b2 H hP hD hS => ?_)
  have hP : va_P D vwCl ([(h0, .inr (6, [.null, .ref b1, .null, .null, .int 0, .int 0, .int 0, .int 0, .int 0])), (b1, .inl (cs 0, 6, .inl (fun _ => 0))), (b2, .inl (cs 0, 7, .inl (fun _ => 0)))]) H := hP
  have hD : va_D A ([(h0, .inr (6, [.null, .ref b1, .null, .null, .int 0, .int 0, .int 0, .int 0, .int 0])), (b1, .inl (cs 0, 6, .inl (fun _ => 0))), (b2, .inl (cs 0, 7, .inl (fun _ => 0)))]) := hD
  refine va_putF (D := D) (ci := 6) (v := .ref b2) (ty := (tyX6 2)) (C := RX6) (T := TX6) (N := 9) hx hb hts hiX6 tyX6 tyX6_ok nmX6 hown hK hP hD hS 0 rfl rfl 2 (by decide) (hts _ flX6_15) (fun _ h9 => h9) rfl hin rfl (tyX6_ok 2 (by decide)) rfl rfl (Nat.le_of_ble_eq_true rfl) dX6_init_17 (fun H locs hP hD hS => ?_)
  have hP : va_P D vwCl ([(h0, .inr (6, [.null, .ref b1, .ref b2, .null, .int 0, .int 0, .int 0, .int 0, .int 0])), (b1, .inl (cs 0, 6, .inl (fun _ => 0))), (b2, .inl (cs 0, 7, .inl (fun _ => 0)))]) H := hP
  have hD : va_D A ([(h0, .inr (6, [.null, .ref b1, .ref b2, .null, .int 0, .int 0, .int 0, .int 0, .int 0])), (b1, .inl (cs 0, 6, .inl (fun _ => 0))), (b2, .inl (cs 0, 7, .inl (fun _ => 0)))]) := hD
  refine lv_aload_n hx hb dX6_init_20 rfl (lv_at hl 0 rfl) ?_
  refine lv_aload_n hx hb dX6_init_21 rfl (lv_at hl 1 rfl) ?_
  refine va_putF (D := D) (ci := 6) (v := .ref h1) (ty := (tyX6 0)) (C := RX6) (T := TX6) (N := 9) hx hb hts hiX6 tyX6 tyX6_ok nmX6 hown hK hP hD hS 0 rfl rfl 0 (by decide) (hts _ flX6_18) (fun _ h9 => h9) rfl hin rfl (tyX6_ok 0 (by decide)) rfl rfl (Nat.le_of_ble_eq_true rfl) dX6_init_22 (fun H locs hP hD hS => ?_)
  have hP : va_P D vwCl ([(h0, .inr (6, [.ref h1, .ref b1, .ref b2, .null, .int 0, .int 0, .int 0, .int 0, .int 0])), (b1, .inl (cs 0, 6, .inl (fun _ => 0))), (b2, .inl (cs 0, 7, .inl (fun _ => 0)))]) H := hP
  have hD : va_D A ([(h0, .inr (6, [.ref h1, .ref b1, .ref b2, .null, .int 0, .int 0, .int 0, .int 0, .int 0])), (b1, .inl (cs 0, 6, .inl (fun _ => 0))), (b2, .inl (cs 0, 7, .inl (fun _ => 0)))]) := hD
  refine lv_aload_n hx hb dX6_init_25 rfl (lv_at hl 0 rfl) ?_
  refine lv_aload_n hx hb dX6_init_26 rfl (lv_at hl 2 rfl) ?_
  refine va_put (D := D) (ci := 6) (v := .ref h2) (ty := (tyX6 3)) (C := RX6) (T := TX6) (N := 9) hx hb hts hiX6 tyX6 tyX6_ok nmX6 hown hK hP hD hS 0 rfl rfl 3 (by decide) (hts _ flX6_22) (fun _ h9 => h9) rfl (tyX6_ok 3 (by decide)) rfl rfl (Nat.le_of_ble_eq_true rfl) dX6_init_27 (fun H locs hP hD hS => ?_)
  have hP : va_P D vwCl ([(h0, .inr (6, [.ref h1, .ref b1, .ref b2, .ref h2, .int 0, .int 0, .int 0, .int 0, .int 0])), (b1, .inl (cs 0, 6, .inl (fun _ => 0))), (b2, .inl (cs 0, 7, .inl (fun _ => 0)))]) H := hP
  have hD : va_D A ([(h0, .inr (6, [.ref h1, .ref b1, .ref b2, .ref h2, .int 0, .int 0, .int 0, .int 0, .int 0])), (b1, .inl (cs 0, 6, .inl (fun _ => 0))), (b2, .inl (cs 0, 7, .inl (fun _ => 0)))]) := hD
  have hP : va_P D vwCl (W6 cs h0 (va_up (va_up (fun k => ([h1, b1, b2, h2, 0, 0, 0, 0, 0] : List Nat).getD k 0) 0 h1) 3 h2) (fun k => ([0, 0, 0, 0, 0, 0, 0, 0, 0] : List Int32).getD k 0) (fun _ _ => 0)) H := k_sub hP [0, 1, 2] rfl
  have hD : va_D A (W6 cs h0 (va_up (va_up (fun k => ([h1, b1, b2, h2, 0, 0, 0, 0, 0] : List Nat).getD k 0) 0 h1) 3 h2) (fun k => ([0, 0, 0, 0, 0, 0, 0, 0, 0] : List Int32).getD k 0) (fun _ _ => 0)) := hD.sub [0, 1, 2] (by decide) rfl
  exact k_mono (k_vret hx hb hr hlocks hK hP hD hS dX6_init_30) (fun t ht => ⟨(fun k => ([h1, b1, b2, h2, 0, 0, 0, 0, 0] : List Nat).getD k 0), ht⟩)
theorem dvX5 : ∀ j, j < 16 → defaultValue (tyX5 j) = vp_V [.null, .null, .null, .null, .null, .null, .null, .null, .null, .null, .null, .null, .null, .int 0, .int 0, .int 0] j := by
  intro j hj
  match j, hj with
  | 0, _ => rfl
  | 1, _ => rfl
  | 2, _ => rfl
  | 3, _ => rfl
  | 4, _ => rfl
  | 5, _ => rfl
  | 6, _ => rfl
  | 7, _ => rfl
  | 8, _ => rfl
  | 9, _ => rfl
  | 10, _ => rfl
  | 11, _ => rfl
  | 12, _ => rfl
  | 13, _ => rfl
  | 14, _ => rfl
  | 15, _ => rfl
  | j + 16, hj => exact absurd hj (by omega)
theorem qnX5_init : yX5_init.cls ≠ "java/lang/invoke/MethodHandle" ∧ yX5_init.cls ≠ "java/lang/invoke/VarHandle" ∧ (parseMethodDescriptor yX5_init.desc).map (fun d => d.parameters.length) = some 0 := by decide +kernel
abbrev wlX5_init : List Cond := Cond.code yX5_init cX5_init 1 none :: tbG
abbrev rmX5_init : Room := { frames := 2, cells := 13, slots := 1818, locals := 43 }
set_option maxRecDepth 100000 in
set_option maxHeartbeats 8000000 in
theorem c_X5_init {l : Launch} {D : va_G} {cs zs : Nat → Nat} {h0 : Nat} {q : (Nat → Int32) × (Nat → Nat → Int32)} (hf : f_X5_clear (fun k => ([0, 0, 0, 0, 0, 0, 0, 0, 0, 0, 0, 0, 0, 0, 0, 0] : List Int32).getD k 0) (fun _ _ => 0) (fun _ _ => 0) = some q) : MN (S := Nat → Nat) l yX5_init wlX5_init rmX5_init D cs zs [.ref h0] [(h0, .inr (5, [.null, .null, .null, .null, .null, .null, .null, .null, .null, .null, .null, .null, .null, .int 0, .int 0, .int 0]))] (fun u => W5 cs h0 u q.1 q.2 (fun _ _ => 0)) 13 1818 := by
  refine MN.of RX5 (by decide) rfl rfl (Nat.le_of_ble_eq_true rfl) (fun p e s m below meth c A C hin hX hP hD hS ls hl => ?_)
  generalize ([.ref h0] : List Value).toArray = args at C ⊢
  obtain ⟨hx, hb, hr, hml, hown, hts, hK, hA, hlocks, hZ⟩ := id C
  have hl : lv_has ls 1 [(0, .ref h0)] := hl
  refine lv_aload_n hx hb dX5_init_0 rfl (lv_at hl 0 rfl) ?_
  refine W.objInit hx hb hown (hts _ mlX5_3) (hts _ imoinit) (hts _ cooinit) rfl (by rw [hml]; exact hl.1) rfl dX5_init_1 (Nat.le_of_ble_eq_true rfl) (Nat.le_of_ble_eq_true rfl) ?_
  refine W.eq (g2 := F0 m 4 ls []) rfl ?_
  refine lv_aload_n hx hb dX5_init_4 rfl (lv_at hl 0 rfl) ?_
  refine lv_bipush (v := 60) hx hb dX5_init_5 (by decide) ?_
  refine k_newi (N := 60) hx hb hts hK hP hD hS hA (by decide) (by decide) (by decide) (Nat.le_of_ble_eq_true rfl) (Nat.le_of_ble_eq_true rfl) dX5_init_7 (fun b1 H hP hD hS => ?_)
  have hP : va_P D vwCl ([(h0, .inr (5, [.null, .null, .null, .null, .null, .null, .null, .null, .null, .null, .null, .null, .null, .int 0, .int 0, .int 0])), (b1, .inl (cs 0, 60, .inl (fun _ => 0)))]) H := hP
  have hD : va_D A ([(h0, .inr (5, [.null, .null, .null, .null, .null, .null, .null, .null, .null, .null, .null, .null, .null, .int 0, .int 0, .int 0])), (b1, .inl (cs 0, 60, .inl (fun _ => 0)))]) := hD
  refine va_putF (D := D) (ci := 5) (v := .ref b1) (ty := (tyX5 0)) (C := RX5) (T := TX5) (N := 16) hx hb hts hiX5 tyX5 tyX5_ok nmX5 hown hK hP hD hS 0 rfl rfl 0 (by decide) (hts _ flX5_9) (fun _ h9 => h9) rfl hin rfl (tyX5_ok 0 (by decide)) rfl rfl (Nat.le_of_ble_eq_true rfl) dX5_init_9 (fun H locs hP hD hS => ?_)
  have hP : va_P D vwCl ([(h0, .inr (5, [.ref b1, .null, .null, .null, .null, .null, .null, .null, .null, .null, .null, .null, .null, .int 0, .int 0, .int 0])), (b1, .inl (cs 0, 60, .inl (fun _ => 0)))]) H := hP
  have hD : va_D A ([(h0, .inr (5, [.ref b1, .null, .null, .null, .null, .null, .null, .null, .null, .null, .null, .null, .null, .int 0, .int 0, .int 0])), (b1, .inl (cs 0, 60, .inl (fun _ => 0)))]) := hD
  refine lv_aload_n hx hb dX5_init_12 rfl (lv_at hl 0 rfl) ?_
  refine lv_bipush (v := 60) hx hb dX5_init_13 (by decide) ?_
  refine k_newi (N := 60) hx hb hts hK hP hD hS hA (by decide) (by decide) (by decide) (Nat.le_of_ble_eq_true rfl) (Nat.le_of_ble_eq_true rfl) dX5_init_15 (fun b2 H hP hD hS => ?_)
  have hP : va_P D vwCl ([(h0, .inr (5, [.ref b1, .null, .null, .null, .null, .null, .null, .null, .null, .null, .null, .null, .null, .int 0, .int 0, .int 0])), (b1, .inl (cs 0, 60, .inl (fun _ => 0))), (b2, .inl (cs 0, 60, .inl (fun _ => 0)))]) H := hP
  have hD : va_D A ([(h0, .inr (5, [.ref b1, .null, .null, .null, .null, .null, .null, .null, .null, .null, .null, .null, .null, .int 0, .int 0, .int 0])), (b1, .inl (cs 0, 60, .inl (fun _ => 0))), (b2, .inl (cs 0, 60, .inl (fun _ => 0)))]) := hD
  refine va_putF (D := D) (ci := 5) (v := .ref b2) (ty := (tyX5 1)) (C := RX5) (T := TX5) (N := 16) hx hb hts hiX5 tyX5 tyX5_ok nmX5 hown hK hP hD hS 0 rfl rfl 1 (by decide) (hts _ flX5_15) (fun _ h9 => h9) rfl hin rfl (tyX5_ok 1 (by decide)) rfl rfl (Nat.le_of_ble_eq_true rfl) dX5_init_17 (fun H locs hP hD hS => ?_)
  have hP : va_P D vwCl ([(h0, .inr (5, [.ref b1, .ref b2, .null, .null, .null, .null, .null, .null, .null, .null, .null, .null, .null, .int 0, .int 0, .int 0])), (b1, .inl (cs 0, 60, .inl (fun _ => 0))), (b2, .inl (cs 0, 60, .inl (fun _ => 0)))]) H := hP
  have hD : va_D A ([(h0, .inr (5, [.ref b1, .ref b2, .null, .null, .null, .null, .null, .null, .null, .null, .null, .null, .null, .int 0, .int 0, .int 0])), (b1, .inl (cs 0, 60, .inl (fun _ => 0))), (b2, .inl (cs 0, 60, .inl (fun _ => 0)))]) := hD
  refine lv_aload_n hx hb dX5_init_20 rfl (lv_at hl 0 rfl) ?_
  refine lv_bipush (v := 60) hx hb dX5_init_21 (by decide) ?_
  refine k_newi (N := 60) hx hb hts hK hP hD hS hA (by decide) (by decide) (by decide) (Nat.le_of_ble_eq_true rfl) (Nat.le_of_ble_eq_true rfl) dX5_init_23 (fun b3 H hP hD hS => ?_)
  have hP : va_P D vwCl ([(h0, .inr (5, [.ref b1, .ref b2, .null, .null, .null, .null, .null, .null, .null, .null, .null, .null, .null, .int 0, .int 0, .int 0])), (b1, .inl (cs 0, 60, .inl (fun _ => 0))), (b2, .inl (cs 0, 60, .inl (fun _ => 0))), (b3, .inl (cs 0, 60, .inl (fun _ => 0)))]) H := hP
  have hD : va_D A ([(h0, .inr (5, [.ref b1, .ref b2, .null, .null, .null, .null, .null, .null, .null, .null, .null, .null, .null, .int 0, .int 0, .int 0])), (b1, .inl (cs 0, 60, .inl (fun _ => 0))), (b2, .inl (cs 0, 60, .inl (fun _ => 0))), (b3, .inl (cs 0, 60, .inl (fun _ => 0)))]) := hD
  refine va_putF (D := D) (ci := 5) (v := .ref b3) (ty := (tyX5 2)) (C := RX5) (T := TX5) (N := 16) hx hb hts hiX5 tyX5 tyX5_ok nmX5 hown hK hP hD hS 0 rfl rfl 2 (by decide) (hts _ flX5_18) (fun _ h9 => h9) rfl hin rfl (tyX5_ok 2 (by decide)) rfl rfl (Nat.le_of_ble_eq_true rfl) dX5_init_25 (fun H locs hP hD hS => ?_)
  have hP : va_P D vwCl ([(h0, .inr (5, [.ref b1, .ref b2, .ref b3, .null, .null, .null, .null, .null, .null, .null, .null, .null, .null, .int 0, .int 0, .int 0])), (b1, .inl (cs 0, 60, .inl (fun _ => 0))), (b2, .inl (cs 0, 60, .inl (fun _ => 0))), (b3, .inl (cs 0, 60, .inl (fun _ => 0)))]) H := hP
  have hD : va_D A ([(h0, .inr (5, [.ref b1, .ref b2, .ref b3, .null, .null, .null, .null, .null, .null, .null, .null, .null, .null, .int 0, .int 0, .int 0])), (b1, .inl (cs 0, 60, .inl (fun _ => 0))), (b2, .inl (cs 0, 60, .inl (fun _ => 0))), (b3, .inl (cs 0, 60, .inl (fun _ => 0)))]) := hD
  refine lv_aload_n hx hb dX5_init_28 rfl (lv_at hl 0 rfl) ?_
  refine lv_bipush (v := 60) hx hb dX5_init_29 (by decide) ?_
  refine k_newi (N := 60) hx hb hts hK hP hD hS hA (by decide) (by decide) (by decide) (Nat.le_of_ble_eq_true rfl) (Nat.le_of_ble_eq_true rfl) dX5_init_31 (fun b4 H hP hD hS => ?_)
  have hP : va_P D vwCl ([(h0, .inr (5, [.ref b1, .ref b2, .ref b3, .null, .null, .null, .null, .null, .null, .null, .null, .null, .null, .int 0, .int 0, .int 0])), (b1, .inl (cs 0, 60, .inl (fun _ => 0))), (b2, .inl (cs 0, 60, .inl (fun _ => 0))), (b3, .inl (cs 0, 60, .inl (fun _ => 0))), (b4, .inl (cs 0, 60, .inl (fun _ => 0)))]) H := hP
  have hD : va_D A ([(h0, .inr (5, [.ref b1, .ref b2, .ref b3, .null, .null, .null, .null, .null, .null, .null, .null, .null, .null, .int 0, .int 0, .int 0])), (b1, .inl (cs 0, 60, .inl (fun _ => 0))), (b2, .inl (cs 0, 60, .inl (fun _ => 0))), (b3, .inl (cs 0, 60, .inl (fun _ => 0))), (b4, .inl (cs 0, 60, .inl (fun _ => 0)))]) := hD
  refine va_putF (D := D) (ci := 5) (v := .ref b4) (ty := (tyX5 3)) (C := RX5) (T := TX5) (N := 16) hx hb hts hiX5 tyX5 tyX5_ok nmX5 hown hK hP hD hS 0 rfl rfl 3 (by decide) (hts _ flX5_21) (fun _ h9 => h9) rfl hin rfl (tyX5_ok 3 (by decide)) rfl rfl (Nat.le_of_ble_eq_true rfl) dX5_init_33 (fun H locs hP hD hS => ?_)
  have hP : va_P D vwCl ([(h0, .inr (5, [.ref b1, .ref b2, .ref b3, .ref b4, .null, .null, .null, .null, .null, .null, .null, .null, .null, .int 0, .int 0, .int 0])), (b1, .inl (cs 0, 60, .inl (fun _ => 0))), (b2, .inl (cs 0, 60, .inl (fun _ => 0))), (b3, .inl (cs 0, 60, .inl (fun _ => 0))), (b4, .inl (cs 0, 60, .inl (fun _ => 0)))]) H := hP
  have hD : va_D A ([(h0, .inr (5, [.ref b1, .ref b2, .ref b3, .ref b4, .null, .null, .null, .null, .null, .null, .null, .null, .null, .int 0, .int 0, .int 0])), (b1, .inl (cs 0, 60, .inl (fun _ => 0))), (b2, .inl (cs 0, 60, .inl (fun _ => 0))), (b3, .inl (cs 0, 60, .inl (fun _ => 0))), (b4, .inl (cs 0, 60, .inl (fun _ => 0)))]) := hD
  refine lv_aload_n hx hb dX5_init_36 rfl (lv_at hl 0 rfl) ?_
  refine lv_bipush (v := 60) hx hb dX5_init_37 (by decide) ?_
  refine k_newi (N := 60) hx hb hts hK hP hD hS hA (by decide) (by decide) (by decide) (Nat.le_of_ble_eq_true rfl) (Nat.le_of_ble_eq_true rfl) dX5_init_39 (fun b5 H hP hD hS => ?_)
  have hP : va_P D vwCl ([(h0, .inr (5, [.ref b1, .ref b2, .ref b3, .ref b4, .null, .null, .null, .null, .null, .null, .null, .null, .null, .int 0, .int 0, .int 0])), (b1, .inl (cs 0, 60, .inl (fun _ => 0))), (b2, .inl (cs 0, 60, .inl (fun _ => 0))), (b3, .inl (cs 0, 60, .inl (fun _ => 0))), (b4, .inl (cs 0, 60, .inl (fun _ => 0))), (b5, .inl (cs 0, 60, .inl (fun _ => 0)))]) H := hP
  have hD : va_D A ([(h0, .inr (5, [.ref b1, .ref b2, .ref b3, .ref b4, .null, .null, .null, .null, .null, .null, .null, .null, .null, .int 0, .int 0, .int 0])), (b1, .inl (cs 0, 60, .inl (fun _ => 0))), (b2, .inl (cs 0, 60, .inl (fun _ => 0))), (b3, .inl (cs 0, 60, .inl (fun _ => 0))), (b4, .inl (cs 0, 60, .inl (fun _ => 0))), (b5, .inl (cs 0, 60, .inl (fun _ => 0)))]) := hD
  refine va_putF (D := D) (ci := 5) (v := .ref b5) (ty := (tyX5 4)) (C := RX5) (T := TX5) (N := 16) hx hb hts hiX5 tyX5 tyX5_ok nmX5 hown hK hP hD hS 0 rfl rfl 4 (by decide) (hts _ flX5_24) (fun _ h9 => h9) rfl hin rfl (tyX5_ok 4 (by decide)) rfl rfl (Nat.le_of_ble_eq_true rfl) dX5_init_41 (fun H locs hP hD hS => ?_)
  have hP : va_P D vwCl ([(h0, .inr (5, [.ref b1, .ref b2, .ref b3, .ref b4, .ref b5, .null, .null, .null, .null, .null, .null, .null, .null, .int 0, .int 0, .int 0])), (b1, .inl (cs 0, 60, .inl (fun _ => 0))), (b2, .inl (cs 0, 60, .inl (fun _ => 0))), (b3, .inl (cs 0, 60, .inl (fun _ => 0))), (b4, .inl (cs 0, 60, .inl (fun _ => 0))), (b5, .inl (cs 0, 60, .inl (fun _ => 0)))]) H := hP
  have hD : va_D A ([(h0, .inr (5, [.ref b1, .ref b2, .ref b3, .ref b4, .ref b5, .null, .null, .null, .null, .null, .null, .null, .null, .int 0, .int 0, .int 0])), (b1, .inl (cs 0, 60, .inl (fun _ => 0))), (b2, .inl (cs 0, 60, .inl (fun _ => 0))), (b3, .inl (cs 0, 60, .inl (fun _ => 0))), (b4, .inl (cs 0, 60, .inl (fun _ => 0))), (b5, .inl (cs 0, 60, .inl (fun _ => 0)))]) := hD
  refine lv_aload_n hx hb dX5_init_44 rfl (lv_at hl 0 rfl) ?_
  refine lv_bipush (v := 60) hx hb dX5_init_45 (by decide) ?_
  refine k_newi (N := 60) hx hb hts hK hP hD hS hA (by decide) (by decide) (by decide) (Nat.le_of_ble_eq_true rfl) (Nat.le_of_ble_eq_true rfl) dX5_init_47 (fun b6 H hP hD hS => ?_)
  have hP : va_P D vwCl ([(h0, .inr (5, [.ref b1, .ref b2, .ref b3, .ref b4, .ref b5, .null, .null, .null, .null, .null, .null, .null, .null, .int 0, .int 0, .int 0])), (b1, .inl (cs 0, 60, .inl (fun _ => 0))), (b2, .inl (cs 0, 60, .inl (fun _ => 0))), (b3, .inl (cs 0, 60, .inl (fun _ => 0))), (b4, .inl (cs 0, 60, .inl (fun _ => 0))), (b5, .inl (cs 0, 60, .inl (fun _ => 0))), (b6, .inl (cs 0, 60, .inl (fun _ => 0)))]) H := hP
  have hD : va_D A ([(h0, .inr (5, [.ref b1, .ref b2, .ref b3, .ref b4, .ref b5, .null, .null, .null, .null, .null, .null, .null, .null, .int 0, .int 0, .int 0])), (b1, .inl (cs 0, 60, .inl (fun _ => 0))), (b2, .inl (cs 0, 60, .inl (fun _ => 0))), (b3, .inl (cs 0, 60, .inl (fun _ => 0))), (b4, .inl (cs 0, 60, .inl (fun _ => 0))), (b5, .inl (cs 0, 60, .inl (fun _ => 0))), (b6, .inl (cs 0, 60, .inl (fun _ => 0)))]) := hD
  refine va_putF (D := D) (ci := 5) (v := .ref b6) (ty := (tyX5 5)) (C := RX5) (T := TX5) (N := 16) hx hb hts hiX5 tyX5 tyX5_ok nmX5 hown hK hP hD hS 0 rfl rfl 5 (by decide) (hts _ flX5_27) (fun _ h9 => h9) rfl hin rfl (tyX5_ok 5 (by decide)) rfl rfl (Nat.le_of_ble_eq_true rfl) dX5_init_49 (fun H locs hP hD hS => ?_)
  have hP : va_P D vwCl ([(h0, .inr (5, [.ref b1, .ref b2, .ref b3, .ref b4, .ref b5, .ref b6, .null, .null, .null, .null, .null, .null, .null, .int 0, .int 0, .int 0])), (b1, .inl (cs 0, 60, .inl (fun _ => 0))), (b2, .inl (cs 0, 60, .inl (fun _ => 0))), (b3, .inl (cs 0, 60, .inl (fun _ => 0))), (b4, .inl (cs 0, 60, .inl (fun _ => 0))), (b5, .inl (cs 0, 60, .inl (fun _ => 0))), (b6, .inl (cs 0, 60, .inl (fun _ => 0)))]) H := hP
  have hD : va_D A ([(h0, .inr (5, [.ref b1, .ref b2, .ref b3, .ref b4, .ref b5, .ref b6, .null, .null, .null, .null, .null, .null, .null, .int 0, .int 0, .int 0])), (b1, .inl (cs 0, 60, .inl (fun _ => 0))), (b2, .inl (cs 0, 60, .inl (fun _ => 0))), (b3, .inl (cs 0, 60, .inl (fun _ => 0))), (b4, .inl (cs 0, 60, .inl (fun _ => 0))), (b5, .inl (cs 0, 60, .inl (fun _ => 0))), (b6, .inl (cs 0, 60, .inl (fun _ => 0)))]) := hD
  refine lv_aload_n hx hb dX5_init_52 rfl (lv_at hl 0 rfl) ?_
  refine lv_bipush (v := 60) hx hb dX5_init_53 (by decide) ?_
  refine k_newl (N := 60) hx hb hts hK hP hD hS hA (by decide) (by decide) (by decide) (Nat.le_of_ble_eq_true rfl) (Nat.le_of_ble_eq_true rfl) dX5_init_55 (fun b7 H hP hD hS => ?_)
  have hP : va_P D vwCl ([(h0, .inr (5, [.ref b1, .ref b2, .ref b3, .ref b4, .ref b5, .ref b6, .null, .null, .null, .null, .null, .null, .null, .int 0, .int 0, .int 0])), (b1, .inl (cs 0, 60, .inl (fun _ => 0))), (b2, .inl (cs 0, 60, .inl (fun _ => 0))), (b3, .inl (cs 0, 60, .inl (fun _ => 0))), (b4, .inl (cs 0, 60, .inl (fun _ => 0))), (b5, .inl (cs 0, 60, .inl (fun _ => 0))), (b6, .inl (cs 0, 60, .inl (fun _ => 0))), (b7, .inl (cs 1, 60, .inr (.inl (fun _ => 0))))]) H := hP
  have hD : va_D A ([(h0, .inr (5, [.ref b1, .ref b2, .ref b3, .ref b4, .ref b5, .ref b6, .null, .null, .null, .null, .null, .null, .null, .int 0, .int 0, .int 0])), (b1, .inl (cs 0, 60, .inl (fun _ => 0))), (b2, .inl (cs 0, 60, .inl (fun _ => 0))), (b3, .inl (cs 0, 60, .inl (fun _ => 0))), (b4, .inl (cs 0, 60, .inl (fun _ => 0))), (b5, .inl (cs 0, 60, .inl (fun _ => 0))), (b6, .inl (cs 0, 60, .inl (fun _ => 0))), (b7, .inl (cs 1, 60, .inr (.inl (fun _ => 0))))]) := hD
  refine va_putF (D := D) (ci := 5) (v := .ref b7) (ty := (tyX5 6)) (C := RX5) (T := TX5) (N := 16) hx hb hts hiX5 tyX5 tyX5_ok nmX5 hown hK hP hD hS 0 rfl rfl 6 (by decide) (hts _ flX5_30) (fun _ h9 => h9) rfl hin rfl (tyX5_ok 6 (by decide)) rfl rfl (Nat.le_of_ble_eq_true rfl) dX5_init_57 (fun H locs hP hD hS => ?_)
  have hP : va_P D vwCl ([(h0, .inr (5, [.ref b1, .ref b2, .ref b3, .ref b4, .ref b5, .ref b6, .ref b7, .null, .null, .null, .null, .null, .null, .int 0, .int 0, .int 0])), (b1, .inl (cs 0, 60, .inl (fun _ => 0))), (b2, .inl (cs 0, 60, .inl (fun _ => 0))), (b3, .inl (cs 0, 60, .inl (fun _ => 0))), (b4, .inl (cs 0, 60, .inl (fun _ => 0))), (b5, .inl (cs 0, 60, .inl (fun _ => 0))), (b6, .inl (cs 0, 60, .inl (fun _ => 0))), (b7, .inl (cs 1, 60, .inr (.inl (fun _ => 0))))]) H := hP
  have hD : va_D A ([(h0, .inr (5, [.ref b1, .ref b2, .ref b3, .ref b4, .ref b5, .ref b6, .ref b7, .null, .null, .null, .null, .null, .null, .int 0, .int 0, .int 0])), (b1, .inl (cs 0, 60, .inl (fun _ => 0))), (b2, .inl (cs 0, 60, .inl (fun _ => 0))), (b3, .inl (cs 0, 60, .inl (fun _ => 0))), (b4, .inl (cs 0, 60, .inl (fun _ => 0))), (b5, .inl (cs 0, 60, .inl (fun _ => 0))), (b6, .inl (cs 0, 60, .inl (fun _ => 0))), (b7, .inl (cs 1, 60, .inr (.inl (fun _ => 0))))]) := hD
  refine lv_aload_n hx hb dX5_init_60 rfl (lv_at hl 0 rfl) ?_
  refine lv_bipush (v := 120) hx hb dX5_init_61 (by decide) ?_
  refine k_newi (N := 120) hx hb hts hK hP hD hS hA (by decide) (by decide) (by decide) (Nat.le_of_ble_eq_true rfl) (Nat.le_of_ble_eq_true rfl) dX5_init_63 (fun b8 H hP hD hS => ?_)
  have hP : va_P D vwCl ([(h0, .inr (5, [.ref b1, .ref b2, .ref b3, .ref b4, .ref b5, .ref b6, .ref b7, .null, .null, .null, .null, .null, .null, .int 0, .int 0, .int 0])), (b1, .inl (cs 0, 60, .inl (fun _ => 0))), (b2, .inl (cs 0, 60, .inl (fun _ => 0))), (b3, .inl (cs 0, 60, .inl (fun _ => 0))), (b4, .inl (cs 0, 60, .inl (fun _ => 0))), (b5, .inl (cs 0, 60, .inl (fun _ => 0))), (b6, .inl (cs 0, 60, .inl (fun _ => 0))), (b7, .inl (cs 1, 60, .inr (.inl (fun _ => 0)))), (b8, .inl (cs 0, 120, .inl (fun _ => 0)))]) H := hP
  have hD : va_D A ([(h0, .inr (5, [.ref b1, .ref b2, .ref b3, .ref b4, .ref b5, .ref b6, .ref b7, .null, .null, .null, .null, .null, .null, .int 0, .int 0, .int 0])), (b1, .inl (cs 0, 60, .inl (fun _ => 0))), (b2, .inl (cs 0, 60, .inl (fun _ => 0))), (b3, .inl (cs 0, 60, .inl (fun _ => 0))), (b4, .inl (cs 0, 60, .inl (fun _ => 0))), (b5, .inl (cs 0, 60, .inl (fun _ => 0))), (b6, .inl (cs 0, 60, .inl (fun _ => 0))), (b7, .inl (cs 1, 60, .inr (.inl (fun _ => 0)))), (b8, .inl (cs 0, 120, .inl (fun _ => 0)))]) := hD
  refine va_putF (D := D) (ci := 5) (v := .ref b8) (ty := (tyX5 7)) (C := RX5) (T := TX5) (N := 16) hx hb hts hiX5 tyX5 tyX5_ok nmX5 hown hK hP hD hS 0 rfl rfl 7 (by decide) (hts _ flX5_34) (fun _ h9 => h9) rfl hin rfl (tyX5_ok 7 (by decide)) rfl rfl (Nat.le_of_ble_eq_true rfl) dX5_init_65 (fun H locs hP hD hS => ?_)
  have hP : va_P D vwCl ([(h0, .inr (5, [.ref b1, .ref b2, .ref b3, .ref b4, .ref b5, .ref b6, .ref b7, .ref b8, .null, .null, .null, .null, .null, .int 0, .int 0, .int 0])), (b1, .inl (cs 0, 60, .inl (fun _ => 0))), (b2, .inl (cs 0, 60, .inl (fun _ => 0))), (b3, .inl (cs 0, 60, .inl (fun _ => 0))), (b4, .inl (cs 0, 60, .inl (fun _ => 0))), (b5, .inl (cs 0, 60, .inl (fun _ => 0))), (b6, .inl (cs 0, 60, .inl (fun _ => 0))), (b7, .inl (cs 1, 60, .inr (.inl (fun _ => 0)))), (b8, .inl (cs 0, 120, .inl (fun _ => 0)))]) H := hP
  have hD : va_D A ([(h0, .inr (5, [.ref b1, .ref b2, .ref b3, .ref b4, .ref b5, .ref b6, .ref b7, .ref b8, .null, .null, .null, .null, .null, .int 0, .int 0, .int 0])), (b1, .inl (cs 0, 60, .inl (fun _ => 0))), (b2, .inl (cs 0, 60, .inl (fun _ => 0))), (b3, .inl (cs 0, 60, .inl (fun _ => 0))), (b4, .inl (cs 0, 60, .inl (fun _ => 0))), (b5, .inl (cs 0, 60, .inl (fun _ => 0))), (b6, .inl (cs 0, 60, .inl (fun _ => 0))), (b7, .inl (cs 1, 60, .inr (.inl (fun _ => 0)))), (b8, .inl (cs 0, 120, .inl (fun _ => 0)))]) := hD
  refine lv_aload_n hx hb dX5_init_68 rfl (lv_at hl 0 rfl) ?_
  refine lv_bipush (v := 120) hx hb dX5_init_69 (by decide) ?_
  refine k_newi (N := 120) hx hb hts hK hP hD hS hA (by decide) (by decide) (by decide) (Nat.le_of_ble_eq_true rfl) (Nat.le_of_ble_eq_true rfl) dX5_init_71 (fun b9 H hP hD hS => ?_)
  have hP : va_P D vwCl ([(h0, .inr (5, [.ref b1, .ref b2, .ref b3, .ref b4, .ref b5, .ref b6, .ref b7, .ref b8, .null, .null, .null, .null, .null, .int 0, .int 0, .int 0])), (b1, .inl (cs 0, 60, .inl (fun _ => 0))), (b2, .inl (cs 0, 60, .inl (fun _ => 0))), (b3, .inl (cs 0, 60, .inl (fun _ => 0))), (b4, .inl (cs 0, 60, .inl (fun _ => 0))), (b5, .inl (cs 0, 60, .inl (fun _ => 0))), (b6, .inl (cs 0, 60, .inl (fun _ => 0))), (b7, .inl (cs 1, 60, .inr (.inl (fun _ => 0)))), (b8, .inl (cs 0, 120, .inl (fun _ => 0))), (b9, .inl (cs 0, 120, .inl (fun _ => 0)))]) H := hP
  have hD : va_D A ([(h0, .inr (5, [.ref b1, .ref b2, .ref b3, .ref b4, .ref b5, .ref b6, .ref b7, .ref b8, .null, .null, .null, .null, .null, .int 0, .int 0, .int 0])), (b1, .inl (cs 0, 60, .inl (fun _ => 0))), (b2, .inl (cs 0, 60, .inl (fun _ => 0))), (b3, .inl (cs 0, 60, .inl (fun _ => 0))), (b4, .inl (cs 0, 60, .inl (fun _ => 0))), (b5, .inl (cs 0, 60, .inl (fun _ => 0))), (b6, .inl (cs 0, 60, .inl (fun _ => 0))), (b7, .inl (cs 1, 60, .inr (.inl (fun _ => 0)))), (b8, .inl (cs 0, 120, .inl (fun _ => 0))), (b9, .inl (cs 0, 120, .inl (fun _ => 0)))]) := hD
  refine va_putF (D := D) (ci := 5) (v := .ref b9) (ty := (tyX5 8)) (C := RX5) (T := TX5) (N := 16) hx hb hts hiX5 tyX5 tyX5_ok nmX5 hown hK hP hD hS 0 rfl rfl 8 (by decide) (hts _ flX5_37) (fun _ h9 => h9) rfl hin rfl (tyX5_ok 8 (by decide)) rfl rfl (Nat.le_of_ble_eq_true rfl) dX5_init_73 (fun H locs hP hD hS => ?_)
  have hP : va_P D vwCl ([(h0, .inr (5, [.ref b1, .ref b2, .ref b3, .ref b4, .ref b5, .ref b6, .ref b7, .ref b8, .ref b9, .null, .null, .null, .null, .int 0, .int 0, .int 0])), (b1, .inl (cs 0, 60, .inl (fun _ => 0))), (b2, .inl (cs 0, 60, .inl (fun _ => 0))), (b3, .inl (cs 0, 60, .inl (fun _ => 0))), (b4, .inl (cs 0, 60, .inl (fun _ => 0))), (b5, .inl (cs 0, 60, .inl (fun _ => 0))), (b6, .inl (cs 0, 60, .inl (fun _ => 0))), (b7, .inl (cs 1, 60, .inr (.inl (fun _ => 0)))), (b8, .inl (cs 0, 120, .inl (fun _ => 0))), (b9, .inl (cs 0, 120, .inl (fun _ => 0)))]) H := hP
  have hD : va_D A ([(h0, .inr (5, [.ref b1, .ref b2, .ref b3, .ref b4, .ref b5, .ref b6, .ref b7, .ref b8, .ref b9, .null, .null, .null, .null, .int 0, .int 0, .int 0])), (b1, .inl (cs 0, 60, .inl (fun _ => 0))), (b2, .inl (cs 0, 60, .inl (fun _ => 0))), (b3, .inl (cs 0, 60, .inl (fun _ => 0))), (b4, .inl (cs 0, 60, .inl (fun _ => 0))), (b5, .inl (cs 0, 60, .inl (fun _ => 0))), (b6, .inl (cs 0, 60, .inl (fun _ => 0))), (b7, .inl (cs 1, 60, .inr (.inl (fun _ => 0)))), (b8, .inl (cs 0, 120, .inl (fun _ => 0))), (b9, .inl (cs 0, 120, .inl (fun _ => 0)))]) := hD
  refine lv_aload_n hx hb dX5_init_76 rfl (lv_at hl 0 rfl) ?_
  refine lv_bipush (v := 126) hx hb dX5_init_77 (by decide) ?_
  refine k_newi (N := 126) hx hb hts hK hP hD hS hA (by decide) (by decide) (by decide) (Nat.le_of_ble_eq_true rfl) (Nat.le_of_ble_eq_true rfl) dX5_init_79 (fun b10 H hP hD hS => ?_)
  have hP : va_P D vwCl ([(h0, .inr (5, [.ref b1, .ref b2, .ref b3, .ref b4, .ref b5, .ref b6, .ref b7, .ref b8, .ref b9, .null, .null, .null, .null, .int 0, .int 0, .int 0])), (b1, .inl (cs 0, 60, .inl (fun _ => 0))), (b2, .inl (cs 0, 60, .inl (fun _ => 0))), (b3, .inl (cs 0, 60, .inl (fun _ => 0))), (b4, .inl (cs 0, 60, .inl (fun _ => 0))), (b5, .inl (cs 0, 60, .inl (fun _ => 0))), (b6, .inl (cs 0, 60, .inl (fun _ => 0))), (b7, .inl (cs 1, 60, .inr (.inl (fun _ => 0)))), (b8, .inl (cs 0, 120, .inl (fun _ => 0))), (b9, .inl (cs 0, 120, .inl (fun _ => 0))), (b10, .inl (cs 0, 126, .inl (fun _ => 0)))]) H := hP
  have hD : va_D A ([(h0, .inr (5, [.ref b1, .ref b2, .ref b3, .ref b4, .ref b5, .ref b6, .ref b7, .ref b8, .ref b9, .null, .null, .null, .null, .int 0, .int 0, .int 0])), (b1, .inl (cs 0, 60, .inl (fun _ => 0))), (b2, .inl (cs 0, 60, .inl (fun _ => 0))), (b3, .inl (cs 0, 60, .inl (fun _ => 0))), (b4, .inl (cs 0, 60, .inl (fun _ => 0))), (b5, .inl (cs 0, 60, .inl (fun _ => 0))), (b6, .inl (cs 0, 60, .inl (fun _ => 0))), (b7, .inl (cs 1, 60, .inr (.inl (fun _ => 0)))), (b8, .inl (cs 0, 120, .inl (fun _ => 0))), (b9, .inl (cs 0, 120, .inl (fun _ => 0))), (b10, .inl (cs 0, 126, .inl (fun _ => 0)))]) := hD
  refine va_putF (D := D) (ci := 5) (v := .ref b10) (ty := (tyX5 9)) (C := RX5) (T := TX5) (N := 16) hx hb hts hiX5 tyX5 tyX5_ok nmX5 hown hK hP hD hS 0 rfl rfl 9 (by decide) (hts _ flX5_40) (fun _ h9 => h9) rfl hin rfl (tyX5_ok 9 (by decide)) rfl rfl (Nat.le_of_ble_eq_true rfl) dX5_init_81 (fun H locs hP hD hS => ?_)
  have hP : va_P D vwCl ([(h0, .inr (5, [.ref b1, .ref b2, .ref b3, .ref b4, .ref b5, .ref b6, .ref b7, .ref b8, .ref b9, .ref b10, .null, .null, .null, .int 0, .int 0, .int 0])), (b1, .inl (cs 0, 60, .inl (fun _ => 0))), (b2, .inl (cs 0, 60, .inl (fun _ => 0))), (b3, .inl (cs 0, 60, .inl (fun _ => 0))), (b4, .inl (cs 0, 60, .inl (fun _ => 0))), (b5, .inl (cs 0, 60, .inl (fun _ => 0))), (b6, .inl (cs 0, 60, .inl (fun _ => 0))), (b7, .inl (cs 1, 60, .inr (.inl (fun _ => 0)))), (b8, .inl (cs 0, 120, .inl (fun _ => 0))), (b9, .inl (cs 0, 120, .inl (fun _ => 0))), (b10, .inl (cs 0, 126, .inl (fun _ => 0)))]) H := hP
  have hD : va_D A ([(h0, .inr (5, [.ref b1, .ref b2, .ref b3, .ref b4, .ref b5, .ref b6, .ref b7, .ref b8, .ref b9, .ref b10, .null, .null, .null, .int 0, .int 0, .int 0])), (b1, .inl (cs 0, 60, .inl (fun _ => 0))), (b2, .inl (cs 0, 60, .inl (fun _ => 0))), (b3, .inl (cs 0, 60, .inl (fun _ => 0))), (b4, .inl (cs 0, 60, .inl (fun _ => 0))), (b5, .inl (cs 0, 60, .inl (fun _ => 0))), (b6, .inl (cs 0, 60, .inl (fun _ => 0))), (b7, .inl (cs 1, 60, .inr (.inl (fun _ => 0)))), (b8, .inl (cs 0, 120, .inl (fun _ => 0))), (b9, .inl (cs 0, 120, .inl (fun _ => 0))), (b10, .inl (cs 0, 126, .inl (fun _ => 0)))]) := hD
  refine lv_aload_n hx hb dX5_init_84 rfl (lv_at hl 0 rfl) ?_
  refine lv_bipush (v := 126) hx hb dX5_init_85 (by decide) ?_
  refine k_newi (N := 126) hx hb hts hK hP hD hS hA (by decide) (by decide) (by decide) (Nat.le_of_ble_eq_true rfl) (Nat.le_of_ble_eq_true rfl) dX5_init_87 (fun b11 H hP hD hS => ?_)
  have hP : va_P D vwCl ([(h0, .inr (5, [.ref b1, .ref b2, .ref b3, .ref b4, .ref b5, .ref b6, .ref b7, .ref b8, .ref b9, .ref b10, .null, .null, .null, .int 0, .int 0, .int 0])), (b1, .inl (cs 0, 60, .inl (fun _ => 0))), (b2, .inl (cs 0, 60, .inl (fun _ => 0))), (b3, .inl (cs 0, 60, .inl (fun _ => 0))), (b4, .inl (cs 0, 60, .inl (fun _ => 0))), (b5, .inl (cs 0, 60, .inl (fun _ => 0))), (b6, .inl (cs 0, 60, .inl (fun _ => 0))), (b7, .inl (cs 1, 60, .inr (.inl (fun _ => 0)))), (b8, .inl (cs 0, 120, .inl (fun _ => 0))), (b9, .inl (cs 0, 120, .inl (fun _ => 0))), (b10, .inl (cs 0, 126, .inl (fun _ => 0))), (b11, .inl (cs 0, 126, .inl (fun _ => 0)))]) H := hP
  have hD : va_D A ([(h0, .inr (5, [.ref b1, .ref b2, .ref b3, .ref b4, .ref b5, .ref b6, .ref b7, .ref b8, .ref b9, .ref b10, .null, .null, .null, .int 0, .int 0, .int 0])), (b1, .inl (cs 0, 60, .inl (fun _ => 0))), (b2, .inl (cs 0, 60, .inl (fun _ => 0))), (b3, .inl (cs 0, 60, .inl (fun _ => 0))), (b4, .inl (cs 0, 60, .inl (fun _ => 0))), (b5, .inl (cs 0, 60, .inl (fun _ => 0))), (b6, .inl (cs 0, 60, .inl (fun _ => 0))), (b7, .inl (cs 1, 60, .inr (.inl (fun _ => 0)))), (b8, .inl (cs 0, 120, .inl (fun _ => 0))), (b9, .inl (cs 0, 120, .inl (fun _ => 0))), (b10, .inl (cs 0, 126, .inl (fun _ => 0))), (b11, .inl (cs 0, 126, .inl (fun _ => 0)))]) := hD
  refine va_putF (D := D) (ci := 5) (v := .ref b11) (ty := (tyX5 10)) (C := RX5) (T := TX5) (N := 16) hx hb hts hiX5 tyX5 tyX5_ok nmX5 hown hK hP hD hS 0 rfl rfl 10 (by decide) (hts _ flX5_43) (fun _ h9 => h9) rfl hin rfl (tyX5_ok 10 (by decide)) rfl rfl (Nat.le_of_ble_eq_true rfl) dX5_init_89 (fun H locs hP hD hS => ?_)
  have hP : va_P D vwCl ([(h0, .inr (5, [.ref b1, .ref b2, .ref b3, .ref b4, .ref b5, .ref b6, .ref b7, .ref b8, .ref b9, .ref b10, .ref b11, .null, .null, .int 0, .int 0, .int 0])), (b1, .inl (cs 0, 60, .inl (fun _ => 0))), (b2, .inl (cs 0, 60, .inl (fun _ => 0))), (b3, .inl (cs 0, 60, .inl (fun _ => 0))), (b4, .inl (cs 0, 60, .inl (fun _ => 0))), (b5, .inl (cs 0, 60, .inl (fun _ => 0))), (b6, .inl (cs 0, 60, .inl (fun _ => 0))), (b7, .inl (cs 1, 60, .inr (.inl (fun _ => 0)))), (b8, .inl (cs 0, 120, .inl (fun _ => 0))), (b9, .inl (cs 0, 120, .inl (fun _ => 0))), (b10, .inl (cs 0, 126, .inl (fun _ => 0))), (b11, .inl (cs 0, 126, .inl (fun _ => 0)))]) H := hP
  have hD : va_D A ([(h0, .inr (5, [.ref b1, .ref b2, .ref b3, .ref b4, .ref b5, .ref b6, .ref b7, .ref b8, .ref b9, .ref b10, .ref b11, .null, .null, .int 0, .int 0, .int 0])), (b1, .inl (cs 0, 60, .inl (fun _ => 0))), (b2, .inl (cs 0, 60, .inl (fun _ => 0))), (b3, .inl (cs 0, 60, .inl (fun _ => 0))), (b4, .inl (cs 0, 60, .inl (fun _ => 0))), (b5, .inl (cs 0, 60, .inl (fun _ => 0))), (b6, .inl (cs 0, 60, .inl (fun _ => 0))), (b7, .inl (cs 1, 60, .inr (.inl (fun _ => 0)))), (b8, .inl (cs 0, 120, .inl (fun _ => 0))), (b9, .inl (cs 0, 120, .inl (fun _ => 0))), (b10, .inl (cs 0, 126, .inl (fun _ => 0))), (b11, .inl (cs 0, 126, .inl (fun _ => 0)))]) := hD
  refine lv_aload_n hx hb dX5_init_92 rfl (lv_at hl 0 rfl) ?_
  refine lv_bipush (v := 6) hx hb dX5_init_93 (by decide) ?_
  refine k_newl (N := 6) hx hb hts hK hP hD hS hA (by decide) (by decide) (by decide) (Nat.le_of_ble_eq_true rfl) (Nat.le_of_ble_eq_true rfl) dX5_init_95 (fun b12 H hP hD hS => ?_)
  have hP : va_P D vwCl ([(h0, .inr (5, [.ref b1, .ref b2, .ref b3, .ref b4, .ref b5, .ref b6, .ref b7, .ref b8, .ref b9, .ref b10, .ref b11, .null, .null, .int 0, .int 0, .int 0])), (b1, .inl (cs 0, 60, .inl (fun _ => 0))), (b2, .inl (cs 0, 60, .inl (fun _ => 0))), (b3, .inl (cs 0, 60, .inl (fun _ => 0))), (b4, .inl (cs 0, 60, .inl (fun _ => 0))), (b5, .inl (cs 0, 60, .inl (fun _ => 0))), (b6, .inl (cs 0, 60, .inl (fun _ => 0))), (b7, .inl (cs 1, 60, .inr (.inl (fun _ => 0)))), (b8, .inl (cs 0, 120, .inl (fun _ => 0))), (b9, .inl (cs 0, 120, .inl (fun _ => 0))), (b10, .inl (cs 0, 126, .inl (fun _ => 0))), (b11, .inl (cs 0, 126, .inl (fun _ => 0))), (b12, .inl (cs 1, 6, .inr (.inl (fun _ => 0))))]) H := hP
  have hD : va_D A ([(h0, .inr (5, [.ref b1, .ref b2, .ref b3, .ref b4, .ref b5, .ref b6, .ref b7, .ref b8, .ref b9, .ref b10, .ref b11, .null, .null, .int 0, .int 0, .int 0])), (b1, .inl (cs 0, 60, .inl (fun _ => 0))), (b2, .inl (cs 0, 60, .inl (fun _ => 0))), (b3, .inl (cs 0, 60, .inl (fun _ => 0))), (b4, .inl (cs 0, 60, .inl (fun _ => 0))), (b5, .inl (cs 0, 60, .inl (fun _ => 0))), (b6, .inl (cs 0, 60, .inl (fun _ => 0))), (b7, .inl (cs 1, 60, .inr (.inl (fun _ => 0)))), (b8, .inl (cs 0, 120, .inl (fun _ => 0))), (b9, .inl (cs 0, 120, .inl (fun _ => 0))), (b10, .inl (cs 0, 126, .inl (fun _ => 0))), (b11, .inl (cs 0, 126, .inl (fun _ => 0))), (b12, .inl (cs 1, 6, .inr (.inl (fun _ => 0))))]) := hD
  refine va_putF (D := D) (ci := 5) (v := .ref b12) (ty := (tyX5 11)) (C := RX5) (T := TX5) (N := 16) hx hb hts hiX5 tyX5 tyX5_ok nmX5 hown hK hP hD hS 0 rfl rfl 11 (by decide) (hts _ flX5_46) (fun _ h9 => h9) rfl hin rfl (tyX5_ok 11 (by decide)) rfl rfl (Nat.le_of_ble_eq_true rfl) dX5_init_97 (fun H locs hP hD hS => ?_)
  have hP : va_P D vwCl ([(h0, .inr (5, [.ref b1, .ref b2, .ref b3, .ref b4, .ref b5, .ref b6, .ref b7, .ref b8, .ref b9, .ref b10, .ref b11, .ref b12, .null, .int 0, .int 0, .int 0])), (b1, .inl (cs 0, 60, .inl (fun _ => 0))), (b2, .inl (cs 0, 60, .inl (fun _ => 0))), (b3, .inl (cs 0, 60, .inl (fun _ => 0))), (b4, .inl (cs 0, 60, .inl (fun _ => 0))), (b5, .inl (cs 0, 60, .inl (fun _ => 0))), (b6, .inl (cs 0, 60, .inl (fun _ => 0))), (b7, .inl (cs 1, 60, .inr (.inl (fun _ => 0)))), (b8, .inl (cs 0, 120, .inl (fun _ => 0))), (b9, .inl (cs 0, 120, .inl (fun _ => 0))), (b10, .inl (cs 0, 126, .inl (fun _ => 0))), (b11, .inl (cs 0, 126, .inl (fun _ => 0))), (b12, .inl (cs 1, 6, .inr (.inl (fun _ => 0))))]) H := hP
  have hD : va_D A ([(h0, .inr (5, [.ref b1, .ref b2, .ref b3, .ref b4, .ref b5, .ref b6, .ref b7, .ref b8, .ref b9, .ref b10, .ref b11, .ref b12, .null, .int 0, .int 0, .int 0])), (b1, .inl (cs 0, 60, .inl (fun _ => 0))), (b2, .inl (cs 0, 60, .inl (fun _ => 0))), (b3, .inl (cs 0, 60, .inl (fun _ => 0))), (b4, .inl (cs 0, 60, .inl (fun _ => 0))), (b5, .inl (cs 0, 60, .inl (fun _ => 0))), (b6, .inl (cs 0, 60, .inl (fun _ => 0))), (b7, .inl (cs 1, 60, .inr (.inl (fun _ => 0)))), (b8, .inl (cs 0, 120, .inl (fun _ => 0))), (b9, .inl (cs 0, 120, .inl (fun _ => 0))), (b10, .inl (cs 0, 126, .inl (fun _ => 0))), (b11, .inl (cs 0, 126, .inl (fun _ => 0))), (b12, .inl (cs 1, 6, .inr (.inl (fun _ => 0))))]) := hD
  refine lv_aload_n hx hb dX5_init_100 rfl (lv_at hl 0 rfl) ?_
  refine lv_sipush (v := 900) hx hb dX5_init_101 (by decide) ?_
  refine k_newi (N := 900) hx hb hts hK hP hD hS hA (by decide) (by decide) (by decide) (Nat.le_of_ble_eq_true rfl) (Nat.le_of_ble_eq_true rfl) dX5_init_104 (fun b13 H hP hD hS => ?_)
  have hP : va_P D vwCl ([(h0, .inr (5, [.ref b1, .ref b2, .ref b3, .ref b4, .ref b5, .ref b6, .ref b7, .ref b8, .ref b9, .ref b10, .ref b11, .ref b12, .null, .int 0, .int 0, .int 0])), (b1, .inl (cs 0, 60, .inl (fun _ => 0))), (b2, .inl (cs 0, 60, .inl (fun _ => 0))), (b3, .inl (cs 0, 60, .inl (fun _ => 0))), (b4, .inl (cs 0, 60, .inl (fun _ => 0))), (b5, .inl (cs 0, 60, .inl (fun _ => 0))), (b6, .inl (cs 0, 60, .inl (fun _ => 0))), (b7, .inl (cs 1, 60, .inr (.inl (fun _ => 0)))), (b8, .inl (cs 0, 120, .inl (fun _ => 0))), (b9, .inl (cs 0, 120, .inl (fun _ => 0))), (b10, .inl (cs 0, 126, .inl (fun _ => 0))), (b11, .inl (cs 0, 126, .inl (fun _ => 0))), (b12, .inl (cs 1, 6, .inr (.inl (fun _ => 0)))), (b13, .inl (cs 0, 900, .inl (fun _ => 0)))]) H := hP
  have hD : va_D A ([(h0, .inr (5, [.ref b1, .ref b2, .ref b3, .ref b4, .ref b5, .ref b6, .ref b7, .ref b8, .ref b9, .ref b10, .ref b11, .ref b12, .null, .int 0, .int 0, .int 0])), (b1, .inl (cs 0, 60, .inl (fun _ => 0))), (b2, .inl (cs 0, 60, .inl (fun _ => 0))), (b3, .inl (cs 0, 60, .inl (fun _ => 0))), (b4, .inl (cs 0, 60, .inl (fun _ => 0))), (b5, .inl (cs 0, 60, .inl (fun _ => 0))), (b6, .inl (cs 0, 60, .inl (fun _ => 0))), (b7, .inl (cs 1, 60, .inr (.inl (fun _ => 0)))), (b8, .inl (cs 0, 120, .inl (fun _ => 0))), (b9, .inl (cs 0, 120, .inl (fun _ => 0))), (b10, .inl (cs 0, 126, .inl (fun _ => 0))), (b11, .inl (cs 0, 126, .inl (fun _ => 0))), (b12, .inl (cs 1, 6, .inr (.inl (fun _ => 0)))), (b13, .inl (cs 0, 900, .inl (fun _ => 0)))]) := hD
  refine va_putF (D := D) (ci := 5) (v := .ref b13) (ty := (tyX5 12)) (C := RX5) (T := TX5) (N := 16) hx hb hts hiX5 tyX5 tyX5_ok nmX5 hown hK hP hD hS 0 rfl rfl 12 (by decide) (hts _ flX5_51) (fun _ h9 => h9) rfl hin rfl (tyX5_ok 12 (by decide)) rfl rfl (Nat.le_of_ble_eq_true rfl) dX5_init_106 (fun H locs hP hD hS => ?_)
  have hP : va_P D vwCl ([(h0, .inr (5, [.ref b1, .ref b2, .ref b3, .ref b4, .ref b5, .ref b6, .ref b7, .ref b8, .ref b9, .ref b10, .ref b11, .ref b12, .ref b13, .int 0, .int 0, .int 0])), (b1, .inl (cs 0, 60, .inl (fun _ => 0))), (b2, .inl (cs 0, 60, .inl (fun _ => 0))), (b3, .inl (cs 0, 60, .inl (fun _ => 0))), (b4, .inl (cs 0, 60, .inl (fun _ => 0))), (b5, .inl (cs 0, 60, .inl (fun _ => 0))), (b6, .inl (cs 0, 60, .inl (fun _ => 0))), (b7, .inl (cs 1, 60, .inr (.inl (fun _ => 0)))), (b8, .inl (cs 0, 120, .inl (fun _ => 0))), (b9, .inl (cs 0, 120, .inl (fun _ => 0))), (b10, .inl (cs 0, 126, .inl (fun _ => 0))), (b11, .inl (cs 0, 126, .inl (fun _ => 0))), (b12, .inl (cs 1, 6, .inr (.inl (fun _ => 0)))), (b13, .inl (cs 0, 900, .inl (fun _ => 0)))]) H := hP
  have hD : va_D A ([(h0, .inr (5, [.ref b1, .ref b2, .ref b3, .ref b4, .ref b5, .ref b6, .ref b7, .ref b8, .ref b9, .ref b10, .ref b11, .ref b12, .ref b13, .int 0, .int 0, .int 0])), (b1, .inl (cs 0, 60, .inl (fun _ => 0))), (b2, .inl (cs 0, 60, .inl (fun _ => 0))), (b3, .inl (cs 0, 60, .inl (fun _ => 0))), (b4, .inl (cs 0, 60, .inl (fun _ => 0))), (b5, .inl (cs 0, 60, .inl (fun _ => 0))), (b6, .inl (cs 0, 60, .inl (fun _ => 0))), (b7, .inl (cs 1, 60, .inr (.inl (fun _ => 0)))), (b8, .inl (cs 0, 120, .inl (fun _ => 0))), (b9, .inl (cs 0, 120, .inl (fun _ => 0))), (b10, .inl (cs 0, 126, .inl (fun _ => 0))), (b11, .inl (cs 0, 126, .inl (fun _ => 0))), (b12, .inl (cs 1, 6, .inr (.inl (fun _ => 0)))), (b13, .inl (cs 0, 900, .inl (fun _ => 0)))]) := hD
  refine lv_aload_n hx hb dX5_init_109 rfl (lv_at hl 0 rfl) ?_
  have hP : va_P D vwCl (W5 cs h0 (fun k => ([b1, b2, b3, b4, b5, b6, b7, b8, b9, b10, b11, b12, b13, 0, 0, 0] : List Nat).getD k 0) (fun k => ([0, 0, 0, 0, 0, 0, 0, 0, 0, 0, 0, 0, 0, 0, 0, 0] : List Int32).getD k 0) (fun _ _ => 0) (fun _ _ => 0)) H := k_sub hP [0, 1, 2, 3, 4, 5, 6, 7, 8, 9, 10, 11, 12, 13] rfl
  have hD : va_D A (W5 cs h0 (fun k => ([b1, b2, b3, b4, b5, b6, b7, b8, b9, b10, b11, b12, b13, 0, 0, 0] : List Nat).getD k 0) (fun k => ([0, 0, 0, 0, 0, 0, 0, 0, 0, 0, 0, 0, 0, 0, 0, 0] : List Int32).getD k 0) (fun _ _ => 0) (fun _ _ => 0)) := hD.sub [0, 1, 2, 3, 4, 5, 6, 7, 8, 9, 10, 11, 12, 13] (by decide) rfl
  refine k_sVv (ws2 := W5 cs h0 (fun k => ([b1, b2, b3, b4, b5, b6, b7, b8, b9, b10, b11, b12, b13, 0, 0, 0] : List Nat).getD k 0) q.1 q.2 (fun _ _ => 0)) (As := []) (rest := []) hx hb hml hown hts hK hA hZ hl.1 hP hD hS (c_X5_clear (h0 := h0) (a0 := (fun k => ([b1, b2, b3, b4, b5, b6, b7, b8, b9, b10, b11, b12, b13, 0, 0, 0] : List Nat).getD k 0)) hf) (gVt mlX5_54 imX5_clear seX5_clear inX5 coX5_clear) rfl qnX5_clear rfl rfl ⟨Nat.le_of_ble_eq_true rfl, Nat.le_of_ble_eq_true rfl⟩ 0 5 rfl rfl rfl rfl rfl (Nat.le_of_ble_eq_true rfl) ⟨Nat.le_of_ble_eq_true rfl, Nat.le_of_ble_eq_true rfl⟩ dX5_init_110 (fun H locs hP hD hS => ?_)
  exact k_mono (k_vret hx hb hr hlocks hK hP hD hS dX5_init_113) (fun t ht => ⟨(fun k => ([b1, b2, b3, b4, b5, b6, b7, b8, b9, b10, b11, b12, b13, 0, 0, 0] : List Nat).getD k 0), ht⟩)
