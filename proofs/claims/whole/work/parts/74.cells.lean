theorem clX0_11 : (Cond.classLink "MarbleFloor$Cells" (11 : Nat) "[[I") ∈ tbG := inG (List.mem_append_right _ (List.mem_append_right _ (List.mem_append_left _ (List.mem_of_getElem? (i := 91) rfl)))) rfl
theorem dvX0 : ∀ j, j < 7 → defaultValue (tyX0 j) = vp_V [.null, .null, .null, .int 0, .int 0, .int 0, .int 0] j := by
  intro j hj
  match j, hj with
  | 0, _ => rfl
  | 1, _ => rfl
  | 2, _ => rfl
  | 3, _ => rfl
  | 4, _ => rfl
  | 5, _ => rfl
  | 6, _ => rfl
  | j + 7, hj => exact absurd hj (by omega)
theorem qnX0_init : yX0_init.cls ≠ "java/lang/invoke/MethodHandle" ∧ yX0_init.cls ≠ "java/lang/invoke/VarHandle" ∧ (parseMethodDescriptor yX0_init.desc).map (fun d => d.parameters.length) = some 0 := by decide +kernel
abbrev wlX0_init : List Cond := Cond.code yX0_init cX0_init 1 none :: tbG
abbrev rmX0_init : Room := { frames := 2, cells := 15, slots := 132, locals := 46 }
set_option maxRecDepth 100000 in
set_option maxHeartbeats 8000000 in
theorem c_X0_init {l : Launch} {D : va_G} {cs zs : Nat → Nat} {h0 : Nat} {q : (Nat → Int32) × (Nat → Nat → Int32)} (hf : f_X0_clear (fun _ => 0) (fun _ _ => 0) 4 4 = some q) : MN (S := Nat → Nat) l yX0_init wlX0_init rmX0_init D cs zs [.ref h0] [(h0, .inr (0, [.null, .null, .null, .int 0, .int 0, .int 0, .int 0]))] (fun u => W0 cs h0 u q.1 q.2) 15 132 := by
  refine MN.of RX0 (by decide) rfl rfl (Nat.le_of_ble_eq_true rfl) (fun p e s m below meth c A C hin hX hP hD hS ls hl => ?_)
  generalize ([.ref h0] : List Value).toArray = args at C ⊢
  obtain ⟨hx, hb, hr, hml, hown, hts, hK, hA, hlocks, hZ⟩ := id C
  have hl : lv_has ls 1 [(0, .ref h0)] := hl
  refine lv_aload_n hx hb dX0_init_0 rfl (lv_at hl 0 rfl) ?_
  refine W.objInit hx hb hown (hts _ mlX0_3) (hts _ imoinit) (hts _ cooinit) rfl (by rw [hml]; exact hl.1) rfl dX0_init_1 (Nat.le_of_ble_eq_true rfl) (Nat.le_of_ble_eq_true rfl) ?_
  refine W.eq (g2 := F0 m 4 ls []) rfl ?_
  refine lv_aload_n hx hb dX0_init_4 rfl (lv_at hl 0 rfl) ?_
  refine lv_iconst (v := 4) hx hb dX0_init_5 (by decide) ?_
  refine lv_bipush (v := 10) hx hb dX0_init_6 (by decide) ?_
  refine k_mna hx hb hown (hts _ clX0_11) hts hX.2.1 hK hP hD hS hA (Nat.le_of_ble_eq_true rfl) (Nat.le_of_ble_eq_true rfl) dX0_init_8 (fun q0 r0 H hP hD hS => ?_)
  refine va_putF (D := D) (ci := 0) (v := .ref q0) (ty := (tyX0 0)) (C := RX0) (T := TX0) (N := 7) hx hb hts hiX0 tyX0 tyX0_ok nmX0 hown hK hP hD hS 0 rfl rfl 0 (by decide) (hts _ flX0_13) (fun _ h9 => h9) rfl hin rfl (tyX0_ok 0 (by decide)) rfl rfl (Nat.le_of_ble_eq_true rfl) dX0_init_12 (fun H locs hP hD hS => ?_)
  have hP : va_P D vwCl ([(h0, .inr (0, [.ref q0, .null, .null, .int 0, .int 0, .int 0, .int 0]))] ++ rows4 cs q0 r0) H := hP
  have hD : va_D A ([(h0, .inr (0, [.ref q0, .null, .null, .int 0, .int 0, .int 0, .int 0]))] ++ rows4 cs q0 r0) := hD
  refine lv_aload_n hx hb dX0_init_15 rfl (lv_at hl 0 rfl) ?_
  refine lv_iconst (v := 4) hx hb dX0_init_16 (by decide) ?_
  refine lv_bipush (v := 10) hx hb dX0_init_17 (by decide) ?_
  refine k_mna hx hb hown (hts _ clX0_11) hts hX.2.1 hK hP hD hS hA (Nat.le_of_ble_eq_true rfl) (Nat.le_of_ble_eq_true rfl) dX0_init_19 (fun q1 r1 H hP hD hS => ?_)
  refine va_putF (D := D) (ci := 0) (v := .ref q1) (ty := (tyX0 1)) (C := RX0) (T := TX0) (N := 7) hx hb hts hiX0 tyX0 tyX0_ok nmX0 hown hK hP hD hS 0 rfl rfl 1 (by decide) (hts _ flX0_16) (fun _ h9 => h9) rfl hin rfl (tyX0_ok 1 (by decide)) rfl rfl (Nat.le_of_ble_eq_true rfl) dX0_init_23 (fun H locs hP hD hS => ?_)
  have hP : va_P D vwCl ([(h0, .inr (0, [.ref q0, .ref q1, .null, .int 0, .int 0, .int 0, .int 0]))] ++ rows4 cs q0 r0 ++ rows4 cs q1 r1) H := hP
  have hD : va_D A ([(h0, .inr (0, [.ref q0, .ref q1, .null, .int 0, .int 0, .int 0, .int 0]))] ++ rows4 cs q0 r0 ++ rows4 cs q1 r1) := hD
  refine lv_aload_n hx hb dX0_init_26 rfl (lv_at hl 0 rfl) ?_
  refine lv_iconst (v := 4) hx hb dX0_init_27 (by decide) ?_
  refine lv_bipush (v := 10) hx hb dX0_init_28 (by decide) ?_
  refine k_mna hx hb hown (hts _ clX0_11) hts hX.2.1 hK hP hD hS hA (Nat.le_of_ble_eq_true rfl) (Nat.le_of_ble_eq_true rfl) dX0_init_30 (fun q2 r2 H hP hD hS => ?_)
  refine va_putF (D := D) (ci := 0) (v := .ref q2) (ty := (tyX0 2)) (C := RX0) (T := TX0) (N := 7) hx hb hts hiX0 tyX0 tyX0_ok nmX0 hown hK hP hD hS 0 rfl rfl 2 (by decide) (hts _ flX0_19) (fun _ h9 => h9) rfl hin rfl (tyX0_ok 2 (by decide)) rfl rfl (Nat.le_of_ble_eq_true rfl) dX0_init_34 (fun H locs hP hD hS => ?_)
  have hP : va_P D vwCl ([(h0, .inr (0, [.ref q0, .ref q1, .ref q2, .int 0, .int 0, .int 0, .int 0]))] ++ rows4 cs q0 r0 ++ rows4 cs q1 r1 ++ rows4 cs q2 r2) H := hP
  have hD : va_D A ([(h0, .inr (0, [.ref q0, .ref q1, .ref q2, .int 0, .int 0, .int 0, .int 0]))] ++ rows4 cs q0 r0 ++ rows4 cs q1 r1 ++ rows4 cs q2 r2) := hD
  obtain ⟨hP, hD⟩ := W0_of hP hD
  refine lv_aload_n hx hb dX0_init_37 rfl (lv_at hl 0 rfl) ?_
  refine lv_iconst (v := 4) hx hb dX0_init_38 (by decide) ?_
  refine lv_iconst (v := 4) hx hb dX0_init_39 (by decide) ?_
  refine k_sVv (ws2 := W0 cs h0 (adr0 q0 q1 q2 r0 r1 r2) q.1 q.2) (As := [.int 4, .int 4]) (rest := []) hx hb hml hown hts hK hA hZ hl.1 hP hD hS (c_X0_clear (h0 := h0) (a0 := (adr0 q0 q1 q2 r0 r1 r2)) hf) (gVt mlX0_22 imX0_clear seX0_clear inX0 coX0_clear) rfl qnX0_clear rfl rfl ⟨Nat.le_of_ble_eq_true rfl, Nat.le_of_ble_eq_true rfl⟩ 0 0 rfl rfl rfl rfl rfl (Nat.le_of_ble_eq_true rfl) ⟨Nat.le_of_ble_eq_true rfl, Nat.le_of_ble_eq_true rfl⟩ dX0_init_40 (fun H locs hP hD hS => ?_)
  exact k_mono (k_vret hx hb hr hlocks hK hP hD hS dX0_init_43) (fun t ht => ⟨(adr0 q0 q1 q2 r0 r1 r2), ht⟩)
