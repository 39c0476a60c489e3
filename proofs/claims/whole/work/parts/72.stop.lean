abbrev yTh : MethodName := ({ cls := "java/lang/Throwable", name := "<init>", desc := "(Ljava/lang/String;Ljava/lang/Throwable;ZZ)V" } : Jvm.MethodName)
abbrev yEx : MethodName := ({ cls := "java/lang/Exception", name := "<init>", desc := "(Ljava/lang/String;Ljava/lang/Throwable;ZZ)V" } : Jvm.MethodName)
abbrev cTh : ByteArray := prog_24_method_5_code
abbrev cEx : ByteArray := prog_16_method_5_code
theorem coTh : (Cond.code ({ cls := "java/lang/Throwable", name := "<init>", desc := "(Ljava/lang/String;Ljava/lang/Throwable;ZZ)V" } : Jvm.MethodName) prog_24_method_5_code (5 : Nat) (Option.none : Option Jvm.ClassFile.FieldType)) ∈ tbG := inG (List.mem_append_right _ (List.mem_append_right _ (List.mem_append_right _ (List.mem_append_right _ (List.mem_append_right _ (List.mem_append_right _ (List.mem_append_left _ (List.mem_of_getElem? (i := 203) rfl)))))))) rfl
theorem coEx : (Cond.code ({ cls := "java/lang/Exception", name := "<init>", desc := "(Ljava/lang/String;Ljava/lang/Throwable;ZZ)V" } : Jvm.MethodName) prog_16_method_5_code (5 : Nat) (Option.none : Option Jvm.ClassFile.FieldType)) ∈ tbG := inG (List.mem_append_right _ (List.mem_append_right _ (List.mem_append_right _ (List.mem_append_right _ (List.mem_append_right _ (List.mem_append_right _ (List.mem_append_left _ (List.mem_of_getElem? (i := 200) rfl)))))))) rfl
theorem imTh : (Cond.instanceMethod ({ cls := "java/lang/Throwable", name := "<init>", desc := "(Ljava/lang/String;Ljava/lang/Throwable;ZZ)V" } : Jvm.MethodName)) ∈ tbG := inG (List.mem_append_right _ (List.mem_append_right _ (List.mem_append_right _ (List.mem_append_right _ (List.mem_append_right _ (List.mem_append_right _ (List.mem_append_left _ (List.mem_of_getElem? (i := 202) rfl)))))))) rfl
theorem imEx : (Cond.instanceMethod ({ cls := "java/lang/Exception", name := "<init>", desc := "(Ljava/lang/String;Ljava/lang/Throwable;ZZ)V" } : Jvm.MethodName)) ∈ tbG := inG (List.mem_append_right _ (List.mem_append_right _ (List.mem_append_right _ (List.mem_append_right _ (List.mem_append_right _ (List.mem_append_right _ (List.mem_append_left _ (List.mem_of_getElem? (i := 199) rfl)))))))) rfl
theorem mlEx16 : (Cond.methodLink "java/lang/Exception" (16 : Nat) ({ cls := "java/lang/Throwable", name := "<init>", desc := "(Ljava/lang/String;Ljava/lang/Throwable;ZZ)V" } : Jvm.MethodName)) ∈ tbG := inG (List.mem_append_right _ (List.mem_append_right _ (List.mem_append_right _ (List.mem_append_right _ (List.mem_append_right _ (List.mem_append_right _ (List.mem_append_left _ (List.mem_of_getElem? (i := 201) rfl)))))))) rfl
theorem mlX12_1 : (Cond.methodLink "MarbleFloorModel$Stop" (1 : Nat) ({ cls := "java/lang/Exception", name := "<init>", desc := "(Ljava/lang/String;Ljava/lang/Throwable;ZZ)V" } : Jvm.MethodName)) ∈ tbG := inG (List.mem_append_right _ (List.mem_append_right _ (List.mem_append_right _ (List.mem_append_right _ (List.mem_append_right _ (List.mem_append_right _ (List.mem_append_left _ (List.mem_of_getElem? (i := 198) rfl)))))))) rfl
theorem inTh : (Cond.initialized "java/lang/Throwable") ∈ tbG := inG (List.mem_append_right _ (List.mem_append_left _ (List.mem_of_getElem? (i := 15) rfl))) rfl
theorem inEx : (Cond.initialized "java/lang/Exception") ∈ tbG := inG (List.mem_append_right _ (List.mem_append_left _ (List.mem_of_getElem? (i := 16) rfl))) rfl
theorem mlTh1 : (Cond.methodLink "java/lang/Throwable" (1 : Nat) ({ cls := "java/lang/Object", name := "<init>", desc := "()V" } : Jvm.MethodName)) ∈ tbG := inG (List.mem_append_right _ (List.mem_append_right _ (List.mem_append_right _ (List.mem_append_right _ (List.mem_append_right _ (List.mem_append_right _ (List.mem_append_left _ (List.mem_of_getElem? (i := 181) rfl)))))))) rfl
theorem flTh7 : (Cond.fieldLink "java/lang/Throwable" (7 : Nat) "java/lang/Throwable" "cause" "Ljava/lang/Throwable;") ∈ tbG := inG (List.mem_append_right _ (List.mem_append_right _ (List.mem_append_right _ (List.mem_append_right _ (List.mem_append_right _ (List.mem_append_right _ (List.mem_append_left _ (List.mem_of_getElem? (i := 206) rfl)))))))) rfl
theorem flTh17 : (Cond.fieldLink "java/lang/Throwable" (17 : Nat) "java/lang/Throwable" "stackTrace" "[Ljava/lang/StackTraceElement;") ∈ tbG := inG (List.mem_append_right _ (List.mem_append_right _ (List.mem_append_right _ (List.mem_append_right _ (List.mem_append_right _ (List.mem_append_right _ (List.mem_append_left _ (List.mem_of_getElem? (i := 207) rfl)))))))) rfl
theorem flTh24 : (Cond.fieldLink "java/lang/Throwable" (24 : Nat) "java/lang/Throwable" "suppressedExceptions" "Ljava/util/List;") ∈ tbG := inG (List.mem_append_right _ (List.mem_append_right _ (List.mem_append_right _ (List.mem_append_right _ (List.mem_append_right _ (List.mem_append_right _ (List.mem_append_left _ (List.mem_of_getElem? (i := 208) rfl)))))))) rfl
theorem flTh31 : (Cond.fieldLink "java/lang/Throwable" (31 : Nat) "java/lang/Throwable" "detailMessage" "Ljava/lang/String;") ∈ tbG := inG (List.mem_append_right _ (List.mem_append_right _ (List.mem_append_right _ (List.mem_append_right _ (List.mem_append_right _ (List.mem_append_right _ (List.mem_append_left _ (List.mem_of_getElem? (i := 205) rfl)))))))) rfl
theorem flTh13 : (Cond.fieldLink "java/lang/Throwable" (13 : Nat) "java/lang/Throwable" "UNASSIGNED_STACK" "[Ljava/lang/StackTraceElement;") ∈ tbG := inG (List.mem_append_right _ (List.mem_append_right _ (List.mem_append_right _ (List.mem_append_right _ (List.mem_append_right _ (List.mem_append_right _ (List.mem_append_left _ (List.mem_of_getElem? (i := 182) rfl)))))))) rfl
theorem flTh20 : (Cond.fieldLink "java/lang/Throwable" (20 : Nat) "java/lang/Throwable" "SUPPRESSED_SENTINEL" "Ljava/util/List;") ∈ tbG := inG (List.mem_append_right _ (List.mem_append_right _ (List.mem_append_right _ (List.mem_append_right _ (List.mem_append_right _ (List.mem_append_right _ (List.mem_append_left _ (List.mem_of_getElem? (i := 184) rfl)))))))) rfl
theorem dEx_0 : decode cEx 0 = .ok (.aload_n 0, 1) := by decide +kernel
theorem dEx_1 : decode cEx 1 = .ok (.aload_n 1, 1) := by decide +kernel
theorem dEx_2 : decode cEx 2 = .ok (.aload_n 2, 1) := by decide +kernel
theorem dEx_3 : decode cEx 3 = .ok (.iload_n 3, 1) := by decide +kernel
theorem dEx_4 : decode cEx 4 = .ok (.iload 4, 2) := by decide +kernel
theorem dEx_6 : decode cEx 6 = .ok (.invokespecial 16, 3) := by decide +kernel
theorem dEx_9 : decode cEx 9 = .ok (.return_, 1) := by decide +kernel
theorem dTh_0 : decode cTh 0 = .ok (.aload_n 0, 1) := by decide +kernel
theorem dTh_1 : decode cTh 1 = .ok (.invokespecial 1, 3) := by decide +kernel
theorem dTh_4 : decode cTh 4 = .ok (.aload_n 0, 1) := by decide +kernel
theorem dTh_5 : decode cTh 5 = .ok (.aload_n 0, 1) := by decide +kernel
theorem dTh_6 : decode cTh 6 = .ok (.putfield 7, 3) := by decide +kernel
theorem dTh_9 : decode cTh 9 = .ok (.aload_n 0, 1) := by decide +kernel
theorem dTh_10 : decode cTh 10 = .ok (.getstatic 13, 3) := by decide +kernel
theorem dTh_13 : decode cTh 13 = .ok (.putfield 17, 3) := by decide +kernel
theorem dTh_16 : decode cTh 16 = .ok (.aload_n 0, 1) := by decide +kernel
theorem dTh_17 : decode cTh 17 = .ok (.getstatic 20, 3) := by decide +kernel
theorem dTh_20 : decode cTh 20 = .ok (.putfield 24, 3) := by decide +kernel
theorem dTh_23 : decode cTh 23 = .ok (.iload 4, 2) := by decide +kernel
theorem dTh_25 : decode cTh 25 = .ok (.ifCond .eq 11, 3) := by decide +kernel
theorem dTh_36 : decode cTh 36 = .ok (.aload_n 0, 1) := by decide +kernel
theorem dTh_37 : decode cTh 37 = .ok (.aconst_null, 1) := by decide +kernel
theorem dTh_38 : decode cTh 38 = .ok (.putfield 17, 3) := by decide +kernel
theorem dTh_41 : decode cTh 41 = .ok (.aload_n 0, 1) := by decide +kernel
theorem dTh_42 : decode cTh 42 = .ok (.aload_n 1, 1) := by decide +kernel
theorem dTh_43 : decode cTh 43 = .ok (.putfield 31, 3) := by decide +kernel
theorem dTh_46 : decode cTh 46 = .ok (.aload_n 0, 1) := by decide +kernel
theorem dTh_47 : decode cTh 47 = .ok (.aload_n 2, 1) := by decide +kernel
theorem dTh_48 : decode cTh 48 = .ok (.putfield 7, 3) := by decide +kernel
theorem dTh_51 : decode cTh 51 = .ok (.iload_n 3, 1) := by decide +kernel
theorem dTh_52 : decode cTh 52 = .ok (.ifCond .ne 8, 3) := by decide +kernel
theorem dTh_55 : decode cTh 55 = .ok (.aload_n 0, 1) := by decide +kernel
theorem dTh_56 : decode cTh 56 = .ok (.aconst_null, 1) := by decide +kernel
theorem dTh_57 : decode cTh 57 = .ok (.putfield 24, 3) := by decide +kernel
theorem dTh_60 : decode cTh 60 = .ok (.return_, 1) := by decide +kernel
theorem qnTh : yTh.cls ≠ "java/lang/invoke/MethodHandle" ∧ yTh.cls ≠ "java/lang/invoke/VarHandle" ∧ (parseMethodDescriptor yTh.desc).map (fun d => d.parameters.length) = some 4 := by decide +kernel
theorem qnEx : yEx.cls ≠ "java/lang/invoke/MethodHandle" ∧ yEx.cls ≠ "java/lang/invoke/VarHandle" ∧ (parseMethodDescriptor yEx.desc).map (fun d => d.parameters.length) = some 4 := by decide +kernel
theorem Zq_val {C n d : String} {A : Nat → Prop} {U : State} {H : Heap} (h : va_Zq C n d A U H) : ∃ v : Value, (narrow (tyX12 1) v = v ∧ fits (tyX12 1) v = true ∧ narrow (tyX12 2) v = v ∧ fits (tyX12 2) v = true) ∧ va_Z C n d v A U H := by
  rcases h with h | ⟨t, h⟩
  · exact ⟨.null, ⟨rfl, rfl, rfl, rfl⟩, h⟩
  · exact ⟨.ref t, ⟨rfl, rfl, rfl, rfl⟩, h⟩
abbrev wlTh : List Cond := Cond.code yTh cTh 5 none :: tbG
abbrev rmTh : Room := { frames := 1, cells := 0, slots := 0, locals := 20 }
set_option maxRecDepth 100000 in
set_option maxHeartbeats 8000000 in
theorem c_Th {l : Launch} {D : va_G} {cs zs : Nat → Nat} {h0 : Nat} : MN (S := List Value) l yTh wlTh rmTh D cs zs [.ref h0, .null, .null, .int 0, .int 0] [(h0, .inr (12, [.null, .null, .null, .null, .null, .int 0]))] (fun f => W12 cs h0 (fun _ => 0) f) 0 0 := by
  refine MN.of "java/lang/Throwable" (by decide) rfl rfl (Nat.le_of_ble_eq_true rfl) (fun p e s m below meth c A C hin hX hP hD hS ls hl => ?_)
  generalize ([.ref h0, .null, .null, .int 0, .int 0] : List Value).toArray = args at C ⊢
  obtain ⟨hx, hb, hr, hml, hown, hts, hK, hA, hlocks, hZ⟩ := id C
  have hl : lv_has ls 5 [(0, .ref h0), (1, .null), (2, .null), (3, .int 0), (4, .int 0)] := hl
  refine lv_aload_n hx hb dTh_0 rfl (lv_at hl 0 rfl) ?_
  refine W.objInit hx hb hown (hts _ mlTh1) (hts _ imoinit) (hts _ cooinit) rfl (by rw [hml]; exact hl.1) rfl dTh_1 (Nat.le_of_ble_eq_true rfl) (Nat.le_of_ble_eq_true rfl) ?_
  refine W.eq (g2 := F0 m 4 ls []) rfl ?_
  refine lv_aload_n hx hb dTh_4 rfl (lv_at hl 0 rfl) ?_
  refine lv_aload_n hx hb dTh_5 rfl (lv_at hl 0 rfl) ?_
  refine va_put (D := D) (ci := 12) (v := .ref h0) (ty := (tyX12 0)) (C := RX12) (T := TX12) (N := 6) hx hb hts hiX12 tyX12 tyX12_ok nmX12 hown hK hP hD hS 0 rfl rfl 0 (by decide) (hts _ flTh7) (fun _ h9 => h9) rfl (tyX12_ok 0 (by decide)) rfl rfl (Nat.le_of_ble_eq_true rfl) dTh_6 (fun H locs hP hD hS => ?_)
  have hP : va_P D vwCl [(h0, .inr (12, [.ref h0, .null, .null, .null, .null, .int 0]))] H := hP
  have hD : va_D A [(h0, .inr (12, [.ref h0, .null, .null, .null, .null, .int 0]))] := hD
  refine lv_aload_n hx hb dTh_9 rfl (lv_at hl 0 rfl) ?_
  obtain ⟨v1, hv1, hg1⟩ := Zq_val hX.2.2.1
  refine va_gets hx hb hg1 hS hown (hts _ flTh13) (fun _ h9 => h9) dTh_10 ?_
  refine va_put (D := D) (ci := 12) (v := v1) (ty := (tyX12 1)) (C := RX12) (T := TX12) (N := 6) hx hb hts hiX12 tyX12 tyX12_ok nmX12 hown hK hP hD hS 0 rfl rfl 1 (by decide) (hts _ flTh17) (fun _ h9 => h9) rfl (tyX12_ok 1 (by decide)) hv1.1 hv1.2.1 (Nat.le_of_ble_eq_true rfl) dTh_13 (fun H locs hP hD hS => ?_)
  have hP : va_P D vwCl [(h0, .inr (12, [.ref h0, v1, .null, .null, .null, .int 0]))] H := hP
  have hD : va_D A [(h0, .inr (12, [.ref h0, v1, .null, .null, .null, .int 0]))] := hD
  refine lv_aload_n hx hb dTh_16 rfl (lv_at hl 0 rfl) ?_
  obtain ⟨v2, hv2, hg2⟩ := Zq_val hX.2.2.2
  refine va_gets hx hb hg2 hS hown (hts _ flTh20) (fun _ h9 => h9) dTh_17 ?_
  refine va_put (D := D) (ci := 12) (v := v2) (ty := (tyX12 2)) (C := RX12) (T := TX12) (N := 6) hx hb hts hiX12 tyX12 tyX12_ok nmX12 hown hK hP hD hS 0 rfl rfl 2 (by decide) (hts _ flTh24) (fun _ h9 => h9) rfl (tyX12_ok 2 (by decide)) hv2.2.2.1 hv2.2.2.2 (Nat.le_of_ble_eq_true rfl) dTh_20 (fun H locs hP hD hS => ?_)
  have hP : va_P D vwCl [(h0, .inr (12, [.ref h0, v1, v2, .null, .null, .int 0]))] H := hP
  have hD : va_D A [(h0, .inr (12, [.ref h0, v1, v2, .null, .null, .int 0]))] := hD
  refine lv_iload hx hb dTh_23 (lv_at hl 4 rfl) ?_
  refine lv_if_eq (tgt := 36) hx hb dTh_25 (by decide) (fun hc => ?_) (fun hc => absurd rfl hc)
  refine lv_aload_n hx hb dTh_36 rfl (lv_at hl 0 rfl) ?_
  refine lv_null hx hb dTh_37 ?_
  refine va_put (D := D) (ci := 12) (v := .null) (ty := (tyX12 1)) (C := RX12) (T := TX12) (N := 6) hx hb hts hiX12 tyX12 tyX12_ok nmX12 hown hK hP hD hS 0 rfl rfl 1 (by decide) (hts _ flTh17) (fun _ h9 => h9) rfl (tyX12_ok 1 (by decide)) rfl rfl (Nat.le_of_ble_eq_true rfl) dTh_38 (fun H locs hP hD hS => ?_)
  have hP : va_P D vwCl [(h0, .inr (12, [.ref h0, .null, v2, .null, .null, .int 0]))] H := hP
  have hD : va_D A [(h0, .inr (12, [.ref h0, .null, v2, .null, .null, .int 0]))] := hD
  refine lv_aload_n hx hb dTh_41 rfl (lv_at hl 0 rfl) ?_
  refine lv_aload_nN hx hb dTh_42 rfl (lv_at hl 1 rfl) ?_
  refine va_put (D := D) (ci := 12) (v := .null) (ty := (tyX12 3)) (C := RX12) (T := TX12) (N := 6) hx hb hts hiX12 tyX12 tyX12_ok nmX12 hown hK hP hD hS 0 rfl rfl 3 (by decide) (hts _ flTh31) (fun _ h9 => h9) rfl (tyX12_ok 3 (by decide)) rfl rfl (Nat.le_of_ble_eq_true rfl) dTh_43 (fun H locs hP hD hS => ?_)
  have hP : va_P D vwCl [(h0, .inr (12, [.ref h0, .null, v2, .null, .null, .int 0]))] H := hP
  have hD : va_D A [(h0, .inr (12, [.ref h0, .null, v2, .null, .null, .int 0]))] := hD
  refine lv_aload_n hx hb dTh_46 rfl (lv_at hl 0 rfl) ?_
  refine lv_aload_nN hx hb dTh_47 rfl (lv_at hl 2 rfl) ?_
  refine va_put (D := D) (ci := 12) (v := .null) (ty := (tyX12 0)) (C := RX12) (T := TX12) (N := 6) hx hb hts hiX12 tyX12 tyX12_ok nmX12 hown hK hP hD hS 0 rfl rfl 0 (by decide) (hts _ flTh7) (fun _ h9 => h9) rfl (tyX12_ok 0 (by decide)) rfl rfl (Nat.le_of_ble_eq_true rfl) dTh_48 (fun H locs hP hD hS => ?_)
  have hP : va_P D vwCl [(h0, .inr (12, [.null, .null, v2, .null, .null, .int 0]))] H := hP
  have hD : va_D A [(h0, .inr (12, [.null, .null, v2, .null, .null, .int 0]))] := hD
  refine lv_iload_n hx hb dTh_51 rfl (lv_at hl 3 rfl) ?_
  refine lv_if_ne (tgt := 60) hx hb dTh_52 (by decide) (fun hc => absurd rfl hc) (fun _ => ?_)
  refine lv_aload_n hx hb dTh_55 rfl (lv_at hl 0 rfl) ?_
  refine lv_null hx hb dTh_56 ?_
  refine va_put (D := D) (ci := 12) (v := .null) (ty := (tyX12 2)) (C := RX12) (T := TX12) (N := 6) hx hb hts hiX12 tyX12 tyX12_ok nmX12 hown hK hP hD hS 0 rfl rfl 2 (by decide) (hts _ flTh24) (fun _ h9 => h9) rfl (tyX12_ok 2 (by decide)) rfl rfl (Nat.le_of_ble_eq_true rfl) dTh_57 (fun H locs hP hD hS => ?_)
  have hP : va_P D vwCl [(h0, .inr (12, [.null, .null, .null, .null, .null, .int 0]))] H := hP
  have hD : va_D A [(h0, .inr (12, [.null, .null, .null, .null, .null, .int 0]))] := hD
  exact k_mono (k_vret hx hb hr hlocks hK hP hD hS dTh_60) (fun t ht => ⟨[.null, .null, .null, .null, .null, .int 0], ht⟩)
abbrev wlEx : List Cond := Cond.code yEx cEx 5 none :: tbG
abbrev rmEx : Room := { frames := 2, cells := 0, slots := 0, locals := 50 }
set_option maxRecDepth 100000 in
set_option maxHeartbeats 8000000 in
theorem c_Ex {l : Launch} {D : va_G} {cs zs : Nat → Nat} {h0 : Nat} : MN (S := List Value) l yEx wlEx rmEx D cs zs [.ref h0, .null, .null, .int 0, .int 0] [(h0, .inr (12, [.null, .null, .null, .null, .null, .int 0]))] (fun f => W12 cs h0 (fun _ => 0) f) 0 0 := by
  refine MN.of "java/lang/Exception" (by decide) rfl rfl (Nat.le_of_ble_eq_true rfl) (fun p e s m below meth c A C hin hX hP hD hS ls hl => ?_)
  generalize ([.ref h0, .null, .null, .int 0, .int 0] : List Value).toArray = args at C ⊢
  obtain ⟨hx, hb, hr, hml, hown, hts, hK, hA, hlocks, hZ⟩ := id C
  have hl : lv_has ls 5 [(0, .ref h0), (1, .null), (2, .null), (3, .int 0), (4, .int 0)] := hl
  refine lv_aload_n hx hb dEx_0 rfl (lv_at hl 0 rfl) ?_
  refine lv_aload_nN hx hb dEx_1 rfl (lv_at hl 1 rfl) ?_
  refine lv_aload_nN hx hb dEx_2 rfl (lv_at hl 2 rfl) ?_
  refine lv_iload_n hx hb dEx_3 rfl (lv_at hl 3 rfl) ?_
  refine lv_iload hx hb dEx_4 (lv_at hl 4 rfl) ?_
  refine k_iN (X := []) (As := [.null, .null, .int 0, .int 0]) (rest := []) hx hb hml hown hts hK hA hZ hX hl.1 hP hD hS (c_Th (h0 := h0)) (gIt coTh) rfl inTh mlEx16 imTh rfl qnTh rfl rfl ⟨Nat.le_of_ble_eq_true rfl, Nat.le_of_ble_eq_true rfl⟩ rfl rfl (Nat.le_of_ble_eq_true rfl) ⟨Nat.le_of_ble_eq_true rfl, Nat.le_of_ble_eq_true rfl⟩ dEx_6 (fun f H locs hP hD hS => ?_)
  exact k_mono (k_vret hx hb hr hlocks hK hP hD hS dEx_9) (fun t ht => ⟨f, ht⟩)
theorem dvX12 : ∀ j, j < 6 → defaultValue (tyX12 j) = vp_V [.null, .null, .null, .null, .null, .int 0] j := by
  intro j hj
  match j, hj with
  | 0, _ => rfl
  | 1, _ => rfl
  | 2, _ => rfl
  | 3, _ => rfl
  | 4, _ => rfl
  | 5, _ => rfl
  | j + 6, hj => exact absurd hj (by omega)
theorem qnX12_init : yX12_init.cls ≠ "java/lang/invoke/MethodHandle" ∧ yX12_init.cls ≠ "java/lang/invoke/VarHandle" ∧ (parseMethodDescriptor yX12_init.desc).map (fun d => d.parameters.length) = some 0 := by decide +kernel
abbrev wlX12_init : List Cond := Cond.code yX12_init cX12_init 1 none :: tbG
abbrev rmX12_init : Room := { frames := 3, cells := 0, slots := 0, locals := 80 }
set_option maxRecDepth 100000 in
set_option maxHeartbeats 8000000 in
theorem c_X12_init {l : Launch} {D : va_G} {cs zs : Nat → Nat} {h0 : Nat} : MN (S := List Value) l yX12_init wlX12_init rmX12_init D cs zs [.ref h0] [(h0, .inr (12, [.null, .null, .null, .null, .null, .int 0]))] (fun f => W12 cs h0 (fun _ => 0) f) 0 0 := by
  refine MN.of "MarbleFloorModel$Stop" (by decide) rfl rfl (Nat.le_of_ble_eq_true rfl) (fun p e s m below meth c A C hin hX hP hD hS ls hl => ?_)
  generalize ([.ref h0] : List Value).toArray = args at C ⊢
  obtain ⟨hx, hb, hr, hml, hown, hts, hK, hA, hlocks, hZ⟩ := id C
  have hl : lv_has ls 1 [(0, .ref h0)] := hl
  refine lv_aload_n hx hb dX12_init_0 rfl (lv_at hl 0 rfl) ?_
  refine lv_null hx hb dX12_init_1 ?_
  refine lv_null hx hb dX12_init_2 ?_
  refine lv_iconst (v := 0) hx hb dX12_init_3 (by decide) ?_
  refine lv_iconst (v := 0) hx hb dX12_init_4 (by decide) ?_
  refine k_iN (X := []) (As := [.null, .null, .int 0, .int 0]) (rest := []) hx hb hml hown hts hK hA hZ hX hl.1 hP hD hS (c_Ex (h0 := h0)) (gIt coEx) rfl inEx mlX12_1 imEx rfl qnEx rfl rfl ⟨Nat.le_of_ble_eq_true rfl, Nat.le_of_ble_eq_true rfl⟩ rfl rfl (Nat.le_of_ble_eq_true rfl) ⟨Nat.le_of_ble_eq_true rfl, Nat.le_of_ble_eq_true rfl⟩ dX12_init_5 (fun f H locs hP hD hS => ?_)
  exact k_mono (k_vret hx hb hr hlocks hK hP hD hS dX12_init_8) (fun t ht => ⟨f, ht⟩)
