/-! MarbleFloorModel.readFactor()V -/
abbrev wlX13_readTerms : List Cond := Cond.code yX13_readTerms cX13_readTerms 2 none :: tbG
abbrev rmX13_readTerms (d : Nat) : Room := { frames := 7 + 2 * d, cells := 0, slots := 0, locals := 149 + 42 * d }
theorem qnX13_readTerms : yX13_readTerms.cls = RX13 ∧ yX13_readTerms.cls ≠ "java/lang/invoke/MethodHandle" ∧ yX13_readTerms.cls ≠ "java/lang/invoke/VarHandle" ∧ (parseMethodDescriptor yX13_readTerms.desc).map (fun d => d.parameters.length) = some 0 := by decide +kernel
abbrev wlX13_readFactor : List Cond := Cond.code yX13_readFactor cX13_readFactor 2 none :: tbG
abbrev rmX13_readFactor (d : Nat) : Room := { frames := 7 + 2 * d + 1, cells := 0, slots := 0, locals := 149 + 42 * d + 21 }
theorem qnX13_readFactor : yX13_readFactor.cls = RX13 ∧ yX13_readFactor.cls ≠ "java/lang/invoke/MethodHandle" ∧ yX13_readFactor.cls ≠ "java/lang/invoke/VarHandle" ∧ (parseMethodDescriptor yX13_readFactor.desc).map (fun d => d.parameters.length) = some 0 := by decide +kernel
def f_X13_readFactor_24 (F : (Nat → Int32) → (Nat → Nat → Int32) → (Nat → Nat → Int64) → Option (((Nat → Int32) × (Nat → Nat → Int32)) ⊕ ((Nat → Int32) × (Nat → Nat → Int32)))) (l0 : Nat → Nat → Int64)  (i0 : Nat → Int32) (r0 : Nat → Nat → Int32) (y0 : Int32) : Option (((Nat → Int32) × (Nat → Nat → Int32)) ⊕ ((Nat → Int32) × (Nat → Nat → Int32))) := bt (f_X13_need i0 r0 l0 y0 4) (fun q17 => bd (f_X13_scan (upd q17 55 ((q17 55) + 1)) r0 l0) (fun q18 => bt (F q18 r0 l0) (fun q19 => bt (f_X13_sign q19.1 q19.2 l0 41) (fun q20 => some (.inl ((upd q20 55 ((q20 55) - 1)), q19.2))) (fun t20 => some (.inr (t20, q19.2)))) (fun t19 => some (.inr (t19.1, t19.2))))) (fun t17 => some (.inr (t17, r0)))
set_option maxRecDepth 100000 in
set_option maxHeartbeats 4000000 in
theorem w_X13_readFactor_24 {p : Program} {l : Launch} {e : Env} {s : State} {m : MethodId} {args : Array Value} {below : List Frame} {meth : Method} {c : Code} {A : Nat → Prop} {D : va_G} {cs zs : Nat → Nat} {h0 : Nat} {a0 : Nat → Nat} {l0 : Nat → Nat → Int64} {q : ((Nat → Int32) × (Nat → Nat → Int32)) ⊕ ((Nat → Int32) × (Nat → Nat → Int32))} (C : Cx p s m args meth c A D cs zs cX13_readFactor 2 none RX13) (hne : NoH c) {d : Nat} {F : (Nat → Int32) → (Nat → Nat → Int32) → (Nat → Nat → Int64) → Option (((Nat → Int32) × (Nat → Nat → Int32)) ⊕ ((Nat → Int32) × (Nat → Nat → Int32)))} (hF : (∀ {i0 : Nat → Int32} {r0 : Nat → Nat → Int32} {l0 : Nat → Nat → Int64}  {q : (Nat → Int32) × (Nat → Nat → Int32)}, F i0 r0 l0 = some (.inl q) → Mv l yX13_readTerms wlX13_readTerms (rmX13_readTerms d) D cs zs [.ref h0] (W13 cs h0 a0 i0 r0 l0) (W13 cs h0 a0 q.1 q.2 l0)) ∧ (∀ {i0 : Nat → Int32} {r0 : Nat → Nat → Int32} {l0 : Nat → Nat → Int64}  {t : (Nat → Int32) × (Nat → Nat → Int32)}, F i0 r0 l0 = some (.inr t) → MT l yX13_readTerms wlX13_readTerms (rmX13_readTerms d) D cs zs [.ref h0] (W13 cs h0 a0 i0 r0 l0) (a0 0) (W13 cs h0 a0 t.1 t.2 l0)))  : ∀ (i0 : Nat → Int32) (r0 : Nat → Nat → Int32) (y0 : Int32) (H : Heap) (locs : List Loc) (ls : Array Slot), f_X13_readFactor_24 F l0 i0 r0 y0 = some q → va_P D vwCl (W13 cs h0 a0 i0 r0 l0) H → va_D A (W13 cs h0 a0 i0 r0 l0) → va_S A s.heap H locs → lv_has ls 2 [(0, .ref h0)] → W p l e (rmX13_readFactor d) s m args below meth c H locs 0 0 (Sum.elim (fun q => MQ below (Qv D cs A (W13 cs h0 a0 q.1 q.2 l0)) args s 0 0 A) (fun t => MQT below D cs A (a0 0) (W13 cs h0 a0 t.1 t.2 l0) args s) q) (F0 m 24 ls [.int y0, .ref h0]) := by
  obtain ⟨hx, hb, hr, hml, hown, hts, hK, hA, hlocks, hZ⟩ := id C
  intro i0 r0 y0 H locs ls hf hP hD hS hl
  rw [f_X13_readFactor_24] at hf
  refine lv_iconst (v := 4) hx hb dX13_readFactor_24 (by decide) ?_
  rcases (bt_s hf).symm with ⟨t17, hq17, hf⟩ | ⟨q17, hq17, hf⟩
  · obtain rfl := Option.some.inj hf
    exact k_sVt (R := rmX13_readFactor d) (ws2 := W13 cs h0 a0 t17 r0 l0) (As := [.int y0, .int 4]) (rest := []) hx hb hml hown hts hK hA hZ hl.1 hP hD hS (t_X13_need (h0 := h0) (a0 := a0) hq17) (gVt mlX13_60 imX13_need seX13_need inX13 coX13_need) rfl qnX13_need rfl rfl ⟨by show 1 + 1 ≤ 7 + 2 * d + 1; omega, by show 8 + (3 + 11) + (21) ≤ 149 + 42 * d + 21; omega⟩ 0 13 rfl rfl rfl rfl rfl (Nat.le_of_ble_eq_true rfl) dX13_readFactor_25 hlocks hne
  refine k_sVv (ws2 := W13 cs h0 a0 q17 r0 l0) (As := [.int y0, .int 4]) (rest := []) hx hb hml hown hts hK hA hZ hl.1 hP hD hS (c_X13_need (h0 := h0) (a0 := a0) hq17) (gVt mlX13_60 imX13_need seX13_need inX13 coX13_need) rfl qnX13_need rfl rfl ⟨by show 1 + 1 ≤ 7 + 2 * d + 1; omega, by show 8 + (3 + 11) + (21) ≤ 149 + 42 * d + 21; omega⟩ 0 13 rfl rfl rfl rfl rfl (Nat.le_of_ble_eq_true rfl) ⟨Nat.zero_le _, Nat.zero_le _⟩ dX13_readFactor_25 (fun H locs hP hD hS => ?_)
  refine lv_aload_n hx hb dX13_readFactor_28 rfl (lv_at hl 0 rfl) ?_
  refine lv_dup hx hb dX13_readFactor_29 rfl ?_
  refine va_get (D := D) (ci := 13) (v := .int (q17 55)) (C := RX13) (T := TX13) (N := 87) hx hb hts hiX13 hown hK hP 0 rfl rfl 55 (by decide) (hts _ flX13_396) (fun _ h9 => h9) rfl dX13_readFactor_30 ?_
  refine lv_iconst (v := 1) hx hb dX13_readFactor_33 (by decide) ?_
  refine lv_iadd hx hb dX13_readFactor_34 ?_
  refine va_put (D := D) (ci := 13) (v := .int ((q17 55) + 1)) (ty := .int) (C := RX13) (T := TX13) (N := 87) hx hb hts hiX13 tyX13 tyX13_ok nmX13 hown hK hP hD hS 0 rfl rfl 55 (by decide) (hts _ flX13_396) (fun _ h9 => h9) rfl (tyX13_ok 55 (by decide)) rfl rfl (Nat.le_of_ble_eq_true rfl) dX13_readFactor_35 (fun H locs hP hD hS => ?_)
  obtain ⟨hP, hD⟩ := st13_55 hP hD
  refine lv_aload_n hx hb dX13_readFactor_38 rfl (lv_at hl 0 rfl) ?_
  obtain ⟨q18, hq18, hf⟩ := bd_s hf
  refine k_sVv (ws2 := W13 cs h0 a0 q18 r0 l0) (As := []) (rest := []) hx hb hml hown hts hK hA hZ hl.1 hP hD hS (c_X13_scan (h0 := h0) (a0 := a0) hq18) (gVt mlX13_72 imX13_scan seX13_scan inX13 coX13_scan) rfl qnX13_scan rfl rfl ⟨by show 1 + 1 ≤ 7 + 2 * d + 1; omega, by show 8 + (2 + 11) + (21) ≤ 149 + 42 * d + 21; omega⟩ 0 13 rfl rfl rfl rfl rfl (Nat.le_of_ble_eq_true rfl) ⟨Nat.zero_le _, Nat.zero_le _⟩ dX13_readFactor_39 (fun H locs hP hD hS => ?_)
  refine lv_aload_n hx hb dX13_readFactor_42 rfl (lv_at hl 0 rfl) ?_
  rcases (bt_s hf).symm with ⟨t19, hq19, hf⟩ | ⟨q19, hq19, hf⟩
  · obtain rfl := Option.some.inj hf
    exact k_sVt (R := rmX13_readFactor d) (ws2 := W13 cs h0 a0 t19.1 t19.2 l0) (As := []) (rest := []) hx hb hml hown hts hK hA hZ hl.1 hP hD hS (hF.2 hq19) (gVt mlX13_399 imX13_readTerms seX13_readTerms inX13 coX13_readTerms) rfl qnX13_readTerms rfl rfl ⟨by show 7 + 2 * d + 1 ≤ 7 + 2 * d + 1; omega, by show 8 + (2 + 11) + (149 + 42 * d) ≤ 149 + 42 * d + 21; omega⟩ 0 13 rfl rfl rfl rfl rfl (Nat.le_of_ble_eq_true rfl) dX13_readFactor_43 hlocks hne
  refine k_sVv (ws2 := W13 cs h0 a0 q19.1 q19.2 l0) (As := []) (rest := []) hx hb hml hown hts hK hA hZ hl.1 hP hD hS (hF.1 hq19) (gVt mlX13_399 imX13_readTerms seX13_readTerms inX13 coX13_readTerms) rfl qnX13_readTerms rfl rfl ⟨by show 7 + 2 * d + 1 ≤ 7 + 2 * d + 1; omega, by show 8 + (2 + 11) + (149 + 42 * d) ≤ 149 + 42 * d + 21; omega⟩ 0 13 rfl rfl rfl rfl rfl (Nat.le_of_ble_eq_true rfl) ⟨Nat.zero_le _, Nat.zero_le _⟩ dX13_readFactor_43 (fun H locs hP hD hS => ?_)
  refine lv_aload_n hx hb dX13_readFactor_46 rfl (lv_at hl 0 rfl) ?_
  refine lv_bipush (v := 41) hx hb dX13_readFactor_47 (by decide) ?_
  rcases (bt_s hf).symm with ⟨t20, hq20, hf⟩ | ⟨q20, hq20, hf⟩
  · obtain rfl := Option.some.inj hf
    exact k_sVt (R := rmX13_readFactor d) (ws2 := W13 cs h0 a0 t20 q19.2 l0) (As := [.int 41]) (rest := []) hx hb hml hown hts hK hA hZ hl.1 hP hD hS (t_X13_sign (h0 := h0) (a0 := a0) hq20) (gVt mlX13_111 imX13_sign seX13_sign inX13 coX13_sign) rfl qnX13_sign rfl rfl ⟨by show 2 + 1 ≤ 7 + 2 * d + 1; omega, by show 8 + (2 + 11) + (43) ≤ 149 + 42 * d + 21; omega⟩ 0 13 rfl rfl rfl rfl rfl (Nat.le_of_ble_eq_true rfl) dX13_readFactor_49 hlocks hne
  refine k_sVv (ws2 := W13 cs h0 a0 q20 q19.2 l0) (As := [.int 41]) (rest := []) hx hb hml hown hts hK hA hZ hl.1 hP hD hS (c_X13_sign (h0 := h0) (a0 := a0) hq20) (gVt mlX13_111 imX13_sign seX13_sign inX13 coX13_sign) rfl qnX13_sign rfl rfl ⟨by show 2 + 1 ≤ 7 + 2 * d + 1; omega, by show 8 + (2 + 11) + (43) ≤ 149 + 42 * d + 21; omega⟩ 0 13 rfl rfl rfl rfl rfl (Nat.le_of_ble_eq_true rfl) ⟨Nat.zero_le _, Nat.zero_le _⟩ dX13_readFactor_49 (fun H locs hP hD hS => ?_)
  refine lv_aload_n hx hb dX13_readFactor_52 rfl (lv_at hl 0 rfl) ?_
  refine lv_dup hx hb dX13_readFactor_53 rfl ?_
  refine va_get (D := D) (ci := 13) (v := .int (q20 55)) (C := RX13) (T := TX13) (N := 87) hx hb hts hiX13 hown hK hP 0 rfl rfl 55 (by decide) (hts _ flX13_396) (fun _ h9 => h9) rfl dX13_readFactor_54 ?_
  refine lv_iconst (v := 1) hx hb dX13_readFactor_57 (by decide) ?_
  refine lv_isub hx hb dX13_readFactor_58 ?_
  refine va_put (D := D) (ci := 13) (v := .int ((q20 55) - 1)) (ty := .int) (C := RX13) (T := TX13) (N := 87) hx hb hts hiX13 tyX13 tyX13_ok nmX13 hown hK hP hD hS 0 rfl rfl 55 (by decide) (hts _ flX13_396) (fun _ h9 => h9) rfl (tyX13_ok 55 (by decide)) rfl rfl (Nat.le_of_ble_eq_true rfl) dX13_readFactor_59 (fun H locs hP hD hS => ?_)
  obtain ⟨hP, hD⟩ := st13_55 hP hD
  obtain rfl := Option.some.inj hf
  exact k_vret hx hb hr hlocks hK hP hD hS dX13_readFactor_62
def f_X13_readFactor_111 (F : (Nat → Int32) → (Nat → Nat → Int32) → (Nat → Nat → Int64) → Option (((Nat → Int32) × (Nat → Nat → Int32)) ⊕ ((Nat → Int32) × (Nat → Nat → Int32)))) (l0 : Nat → Nat → Int64)  (i0 : Nat → Int32) (r0 : Nat → Nat → Int32) (y0 : Int32) : Option (((Nat → Int32) × (Nat → Nat → Int32)) ⊕ ((Nat → Int32) × (Nat → Nat → Int32))) := bt (f_X13_need i0 r0 l0 y0 4) (fun q21 => bd (f_X13_mark (upd q21 54 ((q21 54) + 1)) r0 l0 0 (q21 7) 0) (fun q22 => bd (f_X13_scan q22.1 q22.2 l0) (fun q23 => some (.inl (q23, q22.2))))) (fun t21 => some (.inr (t21, r0)))
set_option maxRecDepth 100000 in
set_option maxHeartbeats 4000000 in
theorem w_X13_readFactor_111 {p : Program} {l : Launch} {e : Env} {s : State} {m : MethodId} {args : Array Value} {below : List Frame} {meth : Method} {c : Code} {A : Nat → Prop} {D : va_G} {cs zs : Nat → Nat} {h0 : Nat} {a0 : Nat → Nat} {l0 : Nat → Nat → Int64} {q : ((Nat → Int32) × (Nat → Nat → Int32)) ⊕ ((Nat → Int32) × (Nat → Nat → Int32))} (C : Cx p s m args meth c A D cs zs cX13_readFactor 2 none RX13) (hne : NoH c) {d : Nat} {F : (Nat → Int32) → (Nat → Nat → Int32) → (Nat → Nat → Int64) → Option (((Nat → Int32) × (Nat → Nat → Int32)) ⊕ ((Nat → Int32) × (Nat → Nat → Int32)))} (hF : (∀ {i0 : Nat → Int32} {r0 : Nat → Nat → Int32} {l0 : Nat → Nat → Int64}  {q : (Nat → Int32) × (Nat → Nat → Int32)}, F i0 r0 l0 = some (.inl q) → Mv l yX13_readTerms wlX13_readTerms (rmX13_readTerms d) D cs zs [.ref h0] (W13 cs h0 a0 i0 r0 l0) (W13 cs h0 a0 q.1 q.2 l0)) ∧ (∀ {i0 : Nat → Int32} {r0 : Nat → Nat → Int32} {l0 : Nat → Nat → Int64}  {t : (Nat → Int32) × (Nat → Nat → Int32)}, F i0 r0 l0 = some (.inr t) → MT l yX13_readTerms wlX13_readTerms (rmX13_readTerms d) D cs zs [.ref h0] (W13 cs h0 a0 i0 r0 l0) (a0 0) (W13 cs h0 a0 t.1 t.2 l0)))  : ∀ (i0 : Nat → Int32) (r0 : Nat → Nat → Int32) (y0 : Int32) (H : Heap) (locs : List Loc) (ls : Array Slot), f_X13_readFactor_111 F l0 i0 r0 y0 = some q → va_P D vwCl (W13 cs h0 a0 i0 r0 l0) H → va_D A (W13 cs h0 a0 i0 r0 l0) → va_S A s.heap H locs → lv_has ls 2 [(0, .ref h0)] → W p l e (rmX13_readFactor d) s m args below meth c H locs 0 0 (Sum.elim (fun q => MQ below (Qv D cs A (W13 cs h0 a0 q.1 q.2 l0)) args s 0 0 A) (fun t => MQT below D cs A (a0 0) (W13 cs h0 a0 t.1 t.2 l0) args s) q) (F0 m 111 ls [.int y0, .ref h0]) := by
  obtain ⟨hx, hb, hr, hml, hown, hts, hK, hA, hlocks, hZ⟩ := id C
  intro i0 r0 y0 H locs ls hf hP hD hS hl
  rw [f_X13_readFactor_111] at hf
  refine lv_iconst (v := 4) hx hb dX13_readFactor_111 (by decide) ?_
  rcases (bt_s hf).symm with ⟨t21, hq21, hf⟩ | ⟨q21, hq21, hf⟩
  · obtain rfl := Option.some.inj hf
    exact k_sVt (R := rmX13_readFactor d) (ws2 := W13 cs h0 a0 t21 r0 l0) (As := [.int y0, .int 4]) (rest := []) hx hb hml hown hts hK hA hZ hl.1 hP hD hS (t_X13_need (h0 := h0) (a0 := a0) hq21) (gVt mlX13_60 imX13_need seX13_need inX13 coX13_need) rfl qnX13_need rfl rfl ⟨by show 1 + 1 ≤ 7 + 2 * d + 1; omega, by show 8 + (3 + 11) + (21) ≤ 149 + 42 * d + 21; omega⟩ 0 13 rfl rfl rfl rfl rfl (Nat.le_of_ble_eq_true rfl) dX13_readFactor_112 hlocks hne
  refine k_sVv (ws2 := W13 cs h0 a0 q21 r0 l0) (As := [.int y0, .int 4]) (rest := []) hx hb hml hown hts hK hA hZ hl.1 hP hD hS (c_X13_need (h0 := h0) (a0 := a0) hq21) (gVt mlX13_60 imX13_need seX13_need inX13 coX13_need) rfl qnX13_need rfl rfl ⟨by show 1 + 1 ≤ 7 + 2 * d + 1; omega, by show 8 + (3 + 11) + (21) ≤ 149 + 42 * d + 21; omega⟩ 0 13 rfl rfl rfl rfl rfl (Nat.le_of_ble_eq_true rfl) ⟨Nat.zero_le _, Nat.zero_le _⟩ dX13_readFactor_112 (fun H locs hP hD hS => ?_)
  refine lv_aload_n hx hb dX13_readFactor_115 rfl (lv_at hl 0 rfl) ?_
  refine lv_dup hx hb dX13_readFactor_116 rfl ?_
  refine va_get (D := D) (ci := 13) (v := .int (q21 54)) (C := RX13) (T := TX13) (N := 87) hx hb hts hiX13 hown hK hP 0 rfl rfl 54 (by decide) (hts _ flX13_402) (fun _ h9 => h9) rfl dX13_readFactor_117 ?_
  refine lv_iconst (v := 1) hx hb dX13_readFactor_120 (by decide) ?_
  refine lv_iadd hx hb dX13_readFactor_121 ?_
  refine va_put (D := D) (ci := 13) (v := .int ((q21 54) + 1)) (ty := .int) (C := RX13) (T := TX13) (N := 87) hx hb hts hiX13 tyX13 tyX13_ok nmX13 hown hK hP hD hS 0 rfl rfl 54 (by decide) (hts _ flX13_402) (fun _ h9 => h9) rfl (tyX13_ok 54 (by decide)) rfl rfl (Nat.le_of_ble_eq_true rfl) dX13_readFactor_122 (fun H locs hP hD hS => ?_)
  obtain ⟨hP, hD⟩ := st13_54 hP hD
  refine lv_aload_n hx hb dX13_readFactor_125 rfl (lv_at hl 0 rfl) ?_
  refine lv_iconst (v := 0) hx hb dX13_readFactor_126 (by decide) ?_
  refine lv_aload_n hx hb dX13_readFactor_127 rfl (lv_at hl 0 rfl) ?_
  refine va_get (D := D) (ci := 13) (v := .int (q21 7)) (C := RX13) (T := TX13) (N := 87) hx hb hts hiX13 hown hK hP 0 rfl rfl 7 (by decide) (hts _ flX13_41) (fun _ h9 => h9) rfl dX13_readFactor_128 ?_
  refine lv_iconst (v := 0) hx hb dX13_readFactor_131 (by decide) ?_
  obtain ⟨q22, hq22, hf⟩ := bd_s hf
  refine k_sVv (ws2 := W13 cs h0 a0 q22.1 q22.2 l0) (As := [.int 0, .int (q21 7), .int 0]) (rest := []) hx hb hml hown hts hK hA hZ hl.1 hP hD hS (c_X13_mark (h0 := h0) (a0 := a0) hq22) (gVt mlX13_405 imX13_mark seX13_mark inX13 coX13_mark) rfl qnX13_mark rfl rfl ⟨by show 0 + 1 ≤ 7 + 2 * d + 1; omega, by show 8 + (5 + 11) + (0) ≤ 149 + 42 * d + 21; omega⟩ 0 13 rfl rfl rfl rfl rfl (Nat.le_of_ble_eq_true rfl) ⟨Nat.zero_le _, Nat.zero_le _⟩ dX13_readFactor_132 (fun H locs hP hD hS => ?_)
  refine lv_aload_n hx hb dX13_readFactor_135 rfl (lv_at hl 0 rfl) ?_
  obtain ⟨q23, hq23, hf⟩ := bd_s hf
  refine k_sVv (ws2 := W13 cs h0 a0 q23 q22.2 l0) (As := []) (rest := []) hx hb hml hown hts hK hA hZ hl.1 hP hD hS (c_X13_scan (h0 := h0) (a0 := a0) hq23) (gVt mlX13_72 imX13_scan seX13_scan inX13 coX13_scan) rfl qnX13_scan rfl rfl ⟨by show 1 + 1 ≤ 7 + 2 * d + 1; omega, by show 8 + (2 + 11) + (21) ≤ 149 + 42 * d + 21; omega⟩ 0 13 rfl rfl rfl rfl rfl (Nat.le_of_ble_eq_true rfl) ⟨Nat.zero_le _, Nat.zero_le _⟩ dX13_readFactor_136 (fun H locs hP hD hS => ?_)
  obtain rfl := Option.some.inj hf
  exact k_vret hx hb hr hlocks hK hP hD hS dX13_readFactor_139
def f_X13_readFactor_226 (F : (Nat → Int32) → (Nat → Nat → Int32) → (Nat → Nat → Int64) → Option (((Nat → Int32) × (Nat → Nat → Int32)) ⊕ ((Nat → Int32) × (Nat → Nat → Int32)))) (l0 : Nat → Nat → Int64)  (i0 : Nat → Int32) (r0 : Nat → Nat → Int32) (y0 : Int32) : Option (((Nat → Int32) × (Nat → Nat → Int32)) ⊕ ((Nat → Int32) × (Nat → Nat → Int32))) := bt (f_X13_need i0 r0 l0 y0 4) (fun q24 => bt (f_X13_readVar (upd q24 54 ((q24 54) + 1)) r0 l0 (q24 53)) (fun q25 => bd (f_X13_mark q25 r0 l0 1 (q25 56) (q25 57)) (fun q26 => some (.inl (q26.1, q26.2)))) (fun t25 => some (.inr (t25, r0)))) (fun t24 => some (.inr (t24, r0)))
set_option maxRecDepth 100000 in
set_option maxHeartbeats 4000000 in
theorem w_X13_readFactor_226 {p : Program} {l : Launch} {e : Env} {s : State} {m : MethodId} {args : Array Value} {below : List Frame} {meth : Method} {c : Code} {A : Nat → Prop} {D : va_G} {cs zs : Nat → Nat} {h0 : Nat} {a0 : Nat → Nat} {l0 : Nat → Nat → Int64} {q : ((Nat → Int32) × (Nat → Nat → Int32)) ⊕ ((Nat → Int32) × (Nat → Nat → Int32))} (C : Cx p s m args meth c A D cs zs cX13_readFactor 2 none RX13) (hne : NoH c) {d : Nat} {F : (Nat → Int32) → (Nat → Nat → Int32) → (Nat → Nat → Int64) → Option (((Nat → Int32) × (Nat → Nat → Int32)) ⊕ ((Nat → Int32) × (Nat → Nat → Int32)))} (hF : (∀ {i0 : Nat → Int32} {r0 : Nat → Nat → Int32} {l0 : Nat → Nat → Int64}  {q : (Nat → Int32) × (Nat → Nat → Int32)}, F i0 r0 l0 = some (.inl q) → Mv l yX13_readTerms wlX13_readTerms (rmX13_readTerms d) D cs zs [.ref h0] (W13 cs h0 a0 i0 r0 l0) (W13 cs h0 a0 q.1 q.2 l0)) ∧ (∀ {i0 : Nat → Int32} {r0 : Nat → Nat → Int32} {l0 : Nat → Nat → Int64}  {t : (Nat → Int32) × (Nat → Nat → Int32)}, F i0 r0 l0 = some (.inr t) → MT l yX13_readTerms wlX13_readTerms (rmX13_readTerms d) D cs zs [.ref h0] (W13 cs h0 a0 i0 r0 l0) (a0 0) (W13 cs h0 a0 t.1 t.2 l0)))  : ∀ (i0 : Nat → Int32) (r0 : Nat → Nat → Int32) (y0 : Int32) (H : Heap) (locs : List Loc) (ls : Array Slot), f_X13_readFactor_226 F l0 i0 r0 y0 = some q → va_P D vwCl (W13 cs h0 a0 i0 r0 l0) H → va_D A (W13 cs h0 a0 i0 r0 l0) → va_S A s.heap H locs → lv_has ls 2 [(0, .ref h0)] → W p l e (rmX13_readFactor d) s m args below meth c H locs 0 0 (Sum.elim (fun q => MQ below (Qv D cs A (W13 cs h0 a0 q.1 q.2 l0)) args s 0 0 A) (fun t => MQT below D cs A (a0 0) (W13 cs h0 a0 t.1 t.2 l0) args s) q) (F0 m 226 ls [.int y0, .ref h0]) := by
  obtain ⟨hx, hb, hr, hml, hown, hts, hK, hA, hlocks, hZ⟩ := id C
  intro i0 r0 y0 H locs ls hf hP hD hS hl
  rw [f_X13_readFactor_226] at hf
  refine lv_iconst (v := 4) hx hb dX13_readFactor_226 (by decide) ?_
  rcases (bt_s hf).symm with ⟨t24, hq24, hf⟩ | ⟨q24, hq24, hf⟩
  · obtain rfl := Option.some.inj hf
    exact k_sVt (R := rmX13_readFactor d) (ws2 := W13 cs h0 a0 t24 r0 l0) (As := [.int y0, .int 4]) (rest := []) hx hb hml hown hts hK hA hZ hl.1 hP hD hS (t_X13_need (h0 := h0) (a0 := a0) hq24) (gVt mlX13_60 imX13_need seX13_need inX13 coX13_need) rfl qnX13_need rfl rfl ⟨by show 1 + 1 ≤ 7 + 2 * d + 1; omega, by show 8 + (3 + 11) + (21) ≤ 149 + 42 * d + 21; omega⟩ 0 13 rfl rfl rfl rfl rfl (Nat.le_of_ble_eq_true rfl) dX13_readFactor_227 hlocks hne
  refine k_sVv (ws2 := W13 cs h0 a0 q24 r0 l0) (As := [.int y0, .int 4]) (rest := []) hx hb hml hown hts hK hA hZ hl.1 hP hD hS (c_X13_need (h0 := h0) (a0 := a0) hq24) (gVt mlX13_60 imX13_need seX13_need inX13 coX13_need) rfl qnX13_need rfl rfl ⟨by show 1 + 1 ≤ 7 + 2 * d + 1; omega, by show 8 + (3 + 11) + (21) ≤ 149 + 42 * d + 21; omega⟩ 0 13 rfl rfl rfl rfl rfl (Nat.le_of_ble_eq_true rfl) ⟨Nat.zero_le _, Nat.zero_le _⟩ dX13_readFactor_227 (fun H locs hP hD hS => ?_)
  refine lv_aload_n hx hb dX13_readFactor_230 rfl (lv_at hl 0 rfl) ?_
  refine lv_dup hx hb dX13_readFactor_231 rfl ?_
  refine va_get (D := D) (ci := 13) (v := .int (q24 54)) (C := RX13) (T := TX13) (N := 87) hx hb hts hiX13 hown hK hP 0 rfl rfl 54 (by decide) (hts _ flX13_402) (fun _ h9 => h9) rfl dX13_readFactor_232 ?_
  refine lv_iconst (v := 1) hx hb dX13_readFactor_235 (by decide) ?_
  refine lv_iadd hx hb dX13_readFactor_236 ?_
  refine va_put (D := D) (ci := 13) (v := .int ((q24 54) + 1)) (ty := .int) (C := RX13) (T := TX13) (N := 87) hx hb hts hiX13 tyX13 tyX13_ok nmX13 hown hK hP hD hS 0 rfl rfl 54 (by decide) (hts _ flX13_402) (fun _ h9 => h9) rfl (tyX13_ok 54 (by decide)) rfl rfl (Nat.le_of_ble_eq_true rfl) dX13_readFactor_237 (fun H locs hP hD hS => ?_)
  obtain ⟨hP, hD⟩ := st13_54 hP hD
  refine lv_aload_n hx hb dX13_readFactor_240 rfl (lv_at hl 0 rfl) ?_
  refine lv_aload_n hx hb dX13_readFactor_241 rfl (lv_at hl 0 rfl) ?_
  refine va_get (D := D) (ci := 13) (v := .int (q24 53)) (C := RX13) (T := TX13) (N := 87) hx hb hts hiX13 hown hK hP 0 rfl rfl 53 (by decide) (hts _ flX13_408) (fun _ h9 => h9) rfl dX13_readFactor_242 ?_
  rcases (bt_s hf).symm with ⟨t25, hq25, hf⟩ | ⟨q25, hq25, hf⟩
  · obtain rfl := Option.some.inj hf
    exact k_sVt (R := rmX13_readFactor d) (ws2 := W13 cs h0 a0 t25 r0 l0) (As := [.int (q24 53)]) (rest := []) hx hb hml hown hts hK hA hZ hl.1 hP hD hS (t_X13_readVar (h0 := h0) (a0 := a0) hq25) (gVt mlX13_411 imX13_readVar seX13_readVar inX13 coX13_readVar) rfl qnX13_readVar rfl rfl ⟨by show 6 + 1 ≤ 7 + 2 * d + 1; omega, by show 8 + (2 + 11) + (128) ≤ 149 + 42 * d + 21; omega⟩ 0 13 rfl rfl rfl rfl rfl (Nat.le_of_ble_eq_true rfl) dX13_readFactor_245 hlocks hne
  refine k_sVv (ws2 := W13 cs h0 a0 q25 r0 l0) (As := [.int (q24 53)]) (rest := []) hx hb hml hown hts hK hA hZ hl.1 hP hD hS (c_X13_readVar (h0 := h0) (a0 := a0) hq25) (gVt mlX13_411 imX13_readVar seX13_readVar inX13 coX13_readVar) rfl qnX13_readVar rfl rfl ⟨by show 6 + 1 ≤ 7 + 2 * d + 1; omega, by show 8 + (2 + 11) + (128) ≤ 149 + 42 * d + 21; omega⟩ 0 13 rfl rfl rfl rfl rfl (Nat.le_of_ble_eq_true rfl) ⟨Nat.zero_le _, Nat.zero_le _⟩ dX13_readFactor_245 (fun H locs hP hD hS => ?_)
  refine lv_aload_n hx hb dX13_readFactor_248 rfl (lv_at hl 0 rfl) ?_
  refine lv_iconst (v := 1) hx hb dX13_readFactor_249 (by decide) ?_
  refine lv_aload_n hx hb dX13_readFactor_250 rfl (lv_at hl 0 rfl) ?_
  refine va_get (D := D) (ci := 13) (v := .int (q25 56)) (C := RX13) (T := TX13) (N := 87) hx hb hts hiX13 hown hK hP 0 rfl rfl 56 (by decide) (hts _ flX13_387) (fun _ h9 => h9) rfl dX13_readFactor_251 ?_
  refine lv_aload_n hx hb dX13_readFactor_254 rfl (lv_at hl 0 rfl) ?_
  refine va_get (D := D) (ci := 13) (v := .int (q25 57)) (C := RX13) (T := TX13) (N := 87) hx hb hts hiX13 hown hK hP 0 rfl rfl 57 (by decide) (hts _ flX13_390) (fun _ h9 => h9) rfl dX13_readFactor_255 ?_
  obtain ⟨q26, hq26, hf⟩ := bd_s hf
  refine k_sVv (ws2 := W13 cs h0 a0 q26.1 q26.2 l0) (As := [.int 1, .int (q25 56), .int (q25 57)]) (rest := []) hx hb hml hown hts hK hA hZ hl.1 hP hD hS (c_X13_mark (h0 := h0) (a0 := a0) hq26) (gVt mlX13_405 imX13_mark seX13_mark inX13 coX13_mark) rfl qnX13_mark rfl rfl ⟨by show 0 + 1 ≤ 7 + 2 * d + 1; omega, by show 8 + (5 + 11) + (0) ≤ 149 + 42 * d + 21; omega⟩ 0 13 rfl rfl rfl rfl rfl (Nat.le_of_ble_eq_true rfl) ⟨Nat.zero_le _, Nat.zero_le _⟩ dX13_readFactor_258 (fun H locs hP hD hS => ?_)
  obtain rfl := Option.some.inj hf
  exact k_vret hx hb hr hlocks hK hP hD hS dX13_readFactor_261
def f_X13_readFactor_207 (F : (Nat → Int32) → (Nat → Nat → Int32) → (Nat → Nat → Int64) → Option (((Nat → Int32) × (Nat → Nat → Int32)) ⊕ ((Nat → Int32) × (Nat → Nat → Int32)))) (l0 : Nat → Nat → Int64)  (i0 : Nat → Int32) (r0 : Nat → Nat → Int32) (y0 : Int32) : Option (((Nat → Int32) × (Nat → Nat → Int32)) ⊕ ((Nat → Int32) × (Nat → Nat → Int32))) := bt (f_X13_need i0 r0 l0 y0 3) (fun q27 => if 12 ≤ (q27 54) then (f_X13_readFactor_226 F l0 q27 r0 0) else (f_X13_readFactor_226 F l0 q27 r0 1)) (fun t27 => some (.inr (t27, r0)))
set_option maxRecDepth 100000 in
set_option maxHeartbeats 4000000 in
theorem w_X13_readFactor_207 {p : Program} {l : Launch} {e : Env} {s : State} {m : MethodId} {args : Array Value} {below : List Frame} {meth : Method} {c : Code} {A : Nat → Prop} {D : va_G} {cs zs : Nat → Nat} {h0 : Nat} {a0 : Nat → Nat} {l0 : Nat → Nat → Int64} {q : ((Nat → Int32) × (Nat → Nat → Int32)) ⊕ ((Nat → Int32) × (Nat → Nat → Int32))} (C : Cx p s m args meth c A D cs zs cX13_readFactor 2 none RX13) (hne : NoH c) {d : Nat} {F : (Nat → Int32) → (Nat → Nat → Int32) → (Nat → Nat → Int64) → Option (((Nat → Int32) × (Nat → Nat → Int32)) ⊕ ((Nat → Int32) × (Nat → Nat → Int32)))} (hF : (∀ {i0 : Nat → Int32} {r0 : Nat → Nat → Int32} {l0 : Nat → Nat → Int64}  {q : (Nat → Int32) × (Nat → Nat → Int32)}, F i0 r0 l0 = some (.inl q) → Mv l yX13_readTerms wlX13_readTerms (rmX13_readTerms d) D cs zs [.ref h0] (W13 cs h0 a0 i0 r0 l0) (W13 cs h0 a0 q.1 q.2 l0)) ∧ (∀ {i0 : Nat → Int32} {r0 : Nat → Nat → Int32} {l0 : Nat → Nat → Int64}  {t : (Nat → Int32) × (Nat → Nat → Int32)}, F i0 r0 l0 = some (.inr t) → MT l yX13_readTerms wlX13_readTerms (rmX13_readTerms d) D cs zs [.ref h0] (W13 cs h0 a0 i0 r0 l0) (a0 0) (W13 cs h0 a0 t.1 t.2 l0)))  : ∀ (i0 : Nat → Int32) (r0 : Nat → Nat → Int32) (y0 : Int32) (H : Heap) (locs : List Loc) (ls : Array Slot), f_X13_readFactor_207 F l0 i0 r0 y0 = some q → va_P D vwCl (W13 cs h0 a0 i0 r0 l0) H → va_D A (W13 cs h0 a0 i0 r0 l0) → va_S A s.heap H locs → lv_has ls 2 [(0, .ref h0)] → W p l e (rmX13_readFactor d) s m args below meth c H locs 0 0 (Sum.elim (fun q => MQ below (Qv D cs A (W13 cs h0 a0 q.1 q.2 l0)) args s 0 0 A) (fun t => MQT below D cs A (a0 0) (W13 cs h0 a0 t.1 t.2 l0) args s) q) (F0 m 207 ls [.int y0, .ref h0]) := by
  obtain ⟨hx, hb, hr, hml, hown, hts, hK, hA, hlocks, hZ⟩ := id C
  intro i0 r0 y0 H locs ls hf hP hD hS hl
  rw [f_X13_readFactor_207] at hf
  refine lv_iconst (v := 3) hx hb dX13_readFactor_207 (by decide) ?_
  rcases (bt_s hf).symm with ⟨t27, hq27, hf⟩ | ⟨q27, hq27, hf⟩
  · obtain rfl := Option.some.inj hf
    exact k_sVt (R := rmX13_readFactor d) (ws2 := W13 cs h0 a0 t27 r0 l0) (As := [.int y0, .int 3]) (rest := []) hx hb hml hown hts hK hA hZ hl.1 hP hD hS (t_X13_need (h0 := h0) (a0 := a0) hq27) (gVt mlX13_60 imX13_need seX13_need inX13 coX13_need) rfl qnX13_need rfl rfl ⟨by show 1 + 1 ≤ 7 + 2 * d + 1; omega, by show 8 + (3 + 11) + (21) ≤ 149 + 42 * d + 21; omega⟩ 0 13 rfl rfl rfl rfl rfl (Nat.le_of_ble_eq_true rfl) dX13_readFactor_208 hlocks hne
  refine k_sVv (ws2 := W13 cs h0 a0 q27 r0 l0) (As := [.int y0, .int 3]) (rest := []) hx hb hml hown hts hK hA hZ hl.1 hP hD hS (c_X13_need (h0 := h0) (a0 := a0) hq27) (gVt mlX13_60 imX13_need seX13_need inX13 coX13_need) rfl qnX13_need rfl rfl ⟨by show 1 + 1 ≤ 7 + 2 * d + 1; omega, by show 8 + (3 + 11) + (21) ≤ 149 + 42 * d + 21; omega⟩ 0 13 rfl rfl rfl rfl rfl (Nat.le_of_ble_eq_true rfl) ⟨Nat.zero_le _, Nat.zero_le _⟩ dX13_readFactor_208 (fun H locs hP hD hS => ?_)
  refine lv_aload_n hx hb dX13_readFactor_211 rfl (lv_at hl 0 rfl) ?_
  refine lv_aload_n hx hb dX13_readFactor_212 rfl (lv_at hl 0 rfl) ?_
  refine va_get (D := D) (ci := 13) (v := .int (q27 54)) (C := RX13) (T := TX13) (N := 87) hx hb hts hiX13 hown hK hP 0 rfl rfl 54 (by decide) (hts _ flX13_402) (fun _ h9 => h9) rfl dX13_readFactor_213 ?_
  refine lv_bipush (v := 12) hx hb dX13_readFactor_216 (by decide) ?_
  refine lv_icmp_ge (tgt := 225) hx hb dX13_readFactor_218 (by decide) (fun hc => ?_) (fun hc => ?_)
  · have hf := ite_t hf hc
    refine lv_iconst (v := 0) hx hb dX13_readFactor_225 (by decide) ?_
    exact w_X13_readFactor_226 C hne hF  _ _ _ _ _ _ hf hP hD hS (lv_sub hl [0] rfl)
  · have hf := ite_f hf hc
    refine lv_iconst (v := 1) hx hb dX13_readFactor_221 (by decide) ?_
    refine lv_goto (tgt := 226) hx hb dX13_readFactor_222 (by decide) ?_
    exact w_X13_readFactor_226 C hne hF  _ _ _ _ _ _ hf hP hD hS (lv_sub hl [0] rfl)
def f_X13_readFactor_196 (F : (Nat → Int32) → (Nat → Nat → Int32) → (Nat → Nat → Int64) → Option (((Nat → Int32) × (Nat → Nat → Int32)) ⊕ ((Nat → Int32) × (Nat → Nat → Int32)))) (l0 : Nat → Nat → Int64)  (i0 : Nat → Int32) (r0 : Nat → Nat → Int32) (y0 : Int32) : Option (((Nat → Int32) × (Nat → Nat → Int32)) ⊕ ((Nat → Int32) × (Nat → Nat → Int32))) := if y0 = 0 then (f_X13_readFactor_207 F l0 i0 r0 1) else (f_X13_readFactor_207 F l0 i0 r0 0)
set_option maxRecDepth 100000 in
set_option maxHeartbeats 4000000 in
theorem w_X13_readFactor_196 {p : Program} {l : Launch} {e : Env} {s : State} {m : MethodId} {args : Array Value} {below : List Frame} {meth : Method} {c : Code} {A : Nat → Prop} {D : va_G} {cs zs : Nat → Nat} {h0 : Nat} {a0 : Nat → Nat} {l0 : Nat → Nat → Int64} {q : ((Nat → Int32) × (Nat → Nat → Int32)) ⊕ ((Nat → Int32) × (Nat → Nat → Int32))} (C : Cx p s m args meth c A D cs zs cX13_readFactor 2 none RX13) (hne : NoH c) {d : Nat} {F : (Nat → Int32) → (Nat → Nat → Int32) → (Nat → Nat → Int64) → Option (((Nat → Int32) × (Nat → Nat → Int32)) ⊕ ((Nat → Int32) × (Nat → Nat → Int32)))} (hF : (∀ {i0 : Nat → Int32} {r0 : Nat → Nat → Int32} {l0 : Nat → Nat → Int64}  {q : (Nat → Int32) × (Nat → Nat → Int32)}, F i0 r0 l0 = some (.inl q) → Mv l yX13_readTerms wlX13_readTerms (rmX13_readTerms d) D cs zs [.ref h0] (W13 cs h0 a0 i0 r0 l0) (W13 cs h0 a0 q.1 q.2 l0)) ∧ (∀ {i0 : Nat → Int32} {r0 : Nat → Nat → Int32} {l0 : Nat → Nat → Int64}  {t : (Nat → Int32) × (Nat → Nat → Int32)}, F i0 r0 l0 = some (.inr t) → MT l yX13_readTerms wlX13_readTerms (rmX13_readTerms d) D cs zs [.ref h0] (W13 cs h0 a0 i0 r0 l0) (a0 0) (W13 cs h0 a0 t.1 t.2 l0)))  : ∀ (i0 : Nat → Int32) (r0 : Nat → Nat → Int32) (y0 : Int32) (H : Heap) (locs : List Loc) (ls : Array Slot), f_X13_readFactor_196 F l0 i0 r0 y0 = some q → va_P D vwCl (W13 cs h0 a0 i0 r0 l0) H → va_D A (W13 cs h0 a0 i0 r0 l0) → va_S A s.heap H locs → lv_has ls 2 [(0, .ref h0)] → W p l e (rmX13_readFactor d) s m args below meth c H locs 0 0 (Sum.elim (fun q => MQ below (Qv D cs A (W13 cs h0 a0 q.1 q.2 l0)) args s 0 0 A) (fun t => MQT below D cs A (a0 0) (W13 cs h0 a0 t.1 t.2 l0) args s) q) (F0 m 196 ls [.int y0]) := by
  obtain ⟨hx, hb, hr, hml, hown, hts, hK, hA, hlocks, hZ⟩ := id C
  intro i0 r0 y0 H locs ls hf hP hD hS hl
  rw [f_X13_readFactor_196] at hf
  refine lv_istore_n (lv' := [(1, .int y0), (0, .ref h0)]) hx hb dX13_readFactor_196 rfl hl (by decide) rfl (fun ls hl => ?_)
  refine lv_aload_n hx hb dX13_readFactor_197 rfl (lv_at hl 1 rfl) ?_
  refine lv_iload_n hx hb dX13_readFactor_198 rfl (lv_at hl 0 rfl) ?_
  refine lv_if_ne (tgt := 206) hx hb dX13_readFactor_199 (by decide) (fun hc => ?_) (fun hc => ?_)
  · have hf := ite_f hf hc
    refine lv_iconst (v := 0) hx hb dX13_readFactor_206 (by decide) ?_
    exact w_X13_readFactor_207 C hne hF  _ _ _ _ _ _ hf hP hD hS (lv_sub hl [1] rfl)
  · have hf := ite_t hf hc
    refine lv_iconst (v := 1) hx hb dX13_readFactor_202 (by decide) ?_
    refine lv_goto (tgt := 207) hx hb dX13_readFactor_203 (by decide) ?_
    exact w_X13_readFactor_207 C hne hF  _ _ _ _ _ _ hf hP hD hS (lv_sub hl [1] rfl)
def f_X13_readFactor_84 (F : (Nat → Int32) → (Nat → Nat → Int32) → (Nat → Nat → Int64) → Option (((Nat → Int32) × (Nat → Nat → Int32)) ⊕ ((Nat → Int32) × (Nat → Nat → Int32)))) (l0 : Nat → Nat → Int64)  (i0 : Nat → Int32) (r0 : Nat → Nat → Int32) (y0 : Int32) : Option (((Nat → Int32) × (Nat → Nat → Int32)) ⊕ ((Nat → Int32) × (Nat → Nat → Int32))) := bt (f_X13_need i0 r0 l0 y0 1) (fun q28 => if (q28 6) = 2 then (if 12 ≤ (q28 54) then (f_X13_readFactor_111 F l0 q28 r0 0) else (f_X13_readFactor_111 F l0 q28 r0 1)) else (bd (f_X13_isLetter q28 r0 l0) (fun q29 => if q29 = 0 then (if (((q28 53) >>> (8 &&& 31)) &&& 1) = 1 then (f_X13_readFactor_196 F l0 q28 r0 1) else (f_X13_readFactor_196 F l0 q28 r0 0)) else (ck (inb (q28 4) 900) (bd (f_X13_letter (r0 1 (q28 4).toNatClampNeg)) (fun q30 => if (((q28 53) >>> (q30 &&& 31)) &&& 1) = 1 then (f_X13_readFactor_196 F l0 q28 r0 1) else (f_X13_readFactor_196 F l0 q28 r0 0))))))) (fun t28 => some (.inr (t28, r0)))
set_option maxRecDepth 100000 in
set_option maxHeartbeats 4000000 in
theorem w_X13_readFactor_84 {p : Program} {l : Launch} {e : Env} {s : State} {m : MethodId} {args : Array Value} {below : List Frame} {meth : Method} {c : Code} {A : Nat → Prop} {D : va_G} {cs zs : Nat → Nat} {h0 : Nat} {a0 : Nat → Nat} {l0 : Nat → Nat → Int64} {q : ((Nat → Int32) × (Nat → Nat → Int32)) ⊕ ((Nat → Int32) × (Nat → Nat → Int32))} (C : Cx p s m args meth c A D cs zs cX13_readFactor 2 none RX13) (hne : NoH c) {d : Nat} {F : (Nat → Int32) → (Nat → Nat → Int32) → (Nat → Nat → Int64) → Option (((Nat → Int32) × (Nat → Nat → Int32)) ⊕ ((Nat → Int32) × (Nat → Nat → Int32)))} (hF : (∀ {i0 : Nat → Int32} {r0 : Nat → Nat → Int32} {l0 : Nat → Nat → Int64}  {q : (Nat → Int32) × (Nat → Nat → Int32)}, F i0 r0 l0 = some (.inl q) → Mv l yX13_readTerms wlX13_readTerms (rmX13_readTerms d) D cs zs [.ref h0] (W13 cs h0 a0 i0 r0 l0) (W13 cs h0 a0 q.1 q.2 l0)) ∧ (∀ {i0 : Nat → Int32} {r0 : Nat → Nat → Int32} {l0 : Nat → Nat → Int64}  {t : (Nat → Int32) × (Nat → Nat → Int32)}, F i0 r0 l0 = some (.inr t) → MT l yX13_readTerms wlX13_readTerms (rmX13_readTerms d) D cs zs [.ref h0] (W13 cs h0 a0 i0 r0 l0) (a0 0) (W13 cs h0 a0 t.1 t.2 l0)))  : ∀ (i0 : Nat → Int32) (r0 : Nat → Nat → Int32) (y0 : Int32) (H : Heap) (locs : List Loc) (ls : Array Slot), f_X13_readFactor_84 F l0 i0 r0 y0 = some q → va_P D vwCl (W13 cs h0 a0 i0 r0 l0) H → va_D A (W13 cs h0 a0 i0 r0 l0) → va_S A s.heap H locs → lv_has ls 2 [(0, .ref h0)] → W p l e (rmX13_readFactor d) s m args below meth c H locs 0 0 (Sum.elim (fun q => MQ below (Qv D cs A (W13 cs h0 a0 q.1 q.2 l0)) args s 0 0 A) (fun t => MQT below D cs A (a0 0) (W13 cs h0 a0 t.1 t.2 l0) args s) q) (F0 m 84 ls [.int y0, .ref h0]) := by
  obtain ⟨hx, hb, hr, hml, hown, hts, hK, hA, hlocks, hZ⟩ := id C
  intro i0 r0 y0 H locs ls hf hP hD hS hl
  rw [f_X13_readFactor_84] at hf
  refine lv_iconst (v := 1) hx hb dX13_readFactor_84 (by decide) ?_
  rcases (bt_s hf).symm with ⟨t28, hq28, hf⟩ | ⟨q28, hq28, hf⟩
  · obtain rfl := Option.some.inj hf
    exact k_sVt (R := rmX13_readFactor d) (ws2 := W13 cs h0 a0 t28 r0 l0) (As := [.int y0, .int 1]) (rest := []) hx hb hml hown hts hK hA hZ hl.1 hP hD hS (t_X13_need (h0 := h0) (a0 := a0) hq28) (gVt mlX13_60 imX13_need seX13_need inX13 coX13_need) rfl qnX13_need rfl rfl ⟨by show 1 + 1 ≤ 7 + 2 * d + 1; omega, by show 8 + (3 + 11) + (21) ≤ 149 + 42 * d + 21; omega⟩ 0 13 rfl rfl rfl rfl rfl (Nat.le_of_ble_eq_true rfl) dX13_readFactor_85 hlocks hne
  refine k_sVv (ws2 := W13 cs h0 a0 q28 r0 l0) (As := [.int y0, .int 1]) (rest := []) hx hb hml hown hts hK hA hZ hl.1 hP hD hS (c_X13_need (h0 := h0) (a0 := a0) hq28) (gVt mlX13_60 imX13_need seX13_need inX13 coX13_need) rfl qnX13_need rfl rfl ⟨by show 1 + 1 ≤ 7 + 2 * d + 1; omega, by show 8 + (3 + 11) + (21) ≤ 149 + 42 * d + 21; omega⟩ 0 13 rfl rfl rfl rfl rfl (Nat.le_of_ble_eq_true rfl) ⟨Nat.zero_le _, Nat.zero_le _⟩ dX13_readFactor_85 (fun H locs hP hD hS => ?_)
  refine lv_aload_n hx hb dX13_readFactor_88 rfl (lv_at hl 0 rfl) ?_
  refine va_get (D := D) (ci := 13) (v := .int (q28 6)) (C := RX13) (T := TX13) (N := 87) hx hb hts hiX13 hown hK hP 0 rfl rfl 6 (by decide) (hts _ flX13_31) (fun _ h9 => h9) rfl dX13_readFactor_89 ?_
  refine lv_iconst (v := 2) hx hb dX13_readFactor_92 (by decide) ?_
  refine lv_icmp_ne (tgt := 140) hx hb dX13_readFactor_93 (by decide) (fun hc => ?_) (fun hc => ?_)
  · have hf := ite_f hf hc
    refine lv_aload_n hx hb dX13_readFactor_140 rfl (lv_at hl 0 rfl) ?_
    obtain ⟨q29, hq29, hf⟩ := bd_s hf
    refine k_sVi (ws2 := W13 cs h0 a0 q28 r0 l0) (As := []) (rest := []) hx hb hml hown hts hK hA hZ hl.1 hP hD hS (c_X13_isLetter (h0 := h0) (a0 := a0) hq29) (gVt mlX13_375 imX13_isLetter seX13_isLetter inX13 coX13_isLetter) rfl qnX13_isLetter rfl rfl ⟨by show 1 + 1 ≤ 7 + 2 * d + 1; omega, by show 8 + (1 + 11) + (25) ≤ 149 + 42 * d + 21; omega⟩ 0 13 rfl rfl rfl rfl rfl (Nat.le_of_ble_eq_true rfl) ⟨Nat.zero_le _, Nat.zero_le _⟩ dX13_readFactor_141 (fun H locs hP hD hS => ?_)
    refine lv_if_eq (tgt := 178) hx hb dX13_readFactor_144 (by decide) (fun hc => ?_) (fun hc => ?_)
    · have hf := ite_t hf hc
      refine lv_aload_n hx hb dX13_readFactor_178 rfl (lv_at hl 0 rfl) ?_
      refine va_get (D := D) (ci := 13) (v := .int (q28 53)) (C := RX13) (T := TX13) (N := 87) hx hb hts hiX13 hown hK hP 0 rfl rfl 53 (by decide) (hts _ flX13_408) (fun _ h9 => h9) rfl dX13_readFactor_179 ?_
      refine lv_bipush (v := 8) hx hb dX13_readFactor_182 (by decide) ?_
      refine lv_ishr hx hb dX13_readFactor_184 ?_
      refine lv_iconst (v := 1) hx hb dX13_readFactor_185 (by decide) ?_
      refine lv_iand hx hb dX13_readFactor_186 ?_
      refine lv_iconst (v := 1) hx hb dX13_readFactor_187 (by decide) ?_
      refine lv_icmp_ne (tgt := 195) hx hb dX13_readFactor_188 (by decide) (fun hc => ?_) (fun hc => ?_)
      · have hf := ite_f hf hc
        refine lv_iconst (v := 0) hx hb dX13_readFactor_195 (by decide) ?_
        exact w_X13_readFactor_196 C hne hF  _ _ _ _ _ _ hf hP hD hS (lv_sub hl [0] rfl)
      · have hf := ite_t hf hc
        refine lv_iconst (v := 1) hx hb dX13_readFactor_191 (by decide) ?_
        refine lv_goto (tgt := 196) hx hb dX13_readFactor_192 (by decide) ?_
        exact w_X13_readFactor_196 C hne hF  _ _ _ _ _ _ hf hP hD hS (lv_sub hl [0] rfl)
    · have hf := ite_f hf hc
      refine lv_aload_n hx hb dX13_readFactor_147 rfl (lv_at hl 0 rfl) ?_
      refine va_get (D := D) (ci := 13) (v := .int (q28 53)) (C := RX13) (T := TX13) (N := 87) hx hb hts hiX13 hown hK hP 0 rfl rfl 53 (by decide) (hts _ flX13_408) (fun _ h9 => h9) rfl dX13_readFactor_148 ?_
      refine lv_aload_n hx hb dX13_readFactor_151 rfl (lv_at hl 0 rfl) ?_
      refine va_get (D := D) (ci := 13) (v := .ref (a0 1)) (C := RX13) (T := TX13) (N := 87) hx hb hts hiX13 hown hK hP 0 rfl rfl 1 (by decide) (hts _ flX13_20) (fun _ h9 => h9) rfl dX13_readFactor_152 ?_
      refine lv_aload_n hx hb dX13_readFactor_155 rfl (lv_at hl 0 rfl) ?_
      refine va_get (D := D) (ci := 13) (v := .int (q28 4)) (C := RX13) (T := TX13) (N := 87) hx hb hts hiX13 hown hK hP 0 rfl rfl 4 (by decide) (hts _ flX13_7) (fun _ h9 => h9) rfl dX13_readFactor_156 ?_
      refine va_bald (f := r0 1) hx hb hK hP 1 3 rfl rfl (ck_in hf) dX13_readFactor_159 ?_
      have hf := ck_2 hf
      obtain ⟨q30, hq30, hf⟩ := bd_s hf
      refine k_eSi (As := [.int (r0 1 (q28 4).toNatClampNeg)]) (rest := [.int (q28 53)]) hx hb hml hown hts hK hA hZ hl.1 hP hD hS (c_X13_letter  hq30) (gSt mlX13_384 stX13_letter inX13 coX13_letter) rfl qnX13_letter rfl rfl ⟨by show 0 + 1 ≤ 7 + 2 * d + 1; omega, by show 8 + (1 + 11) + (0) ≤ 149 + 42 * d + 21; omega⟩ rfl rfl (Nat.le_of_ble_eq_true rfl) ⟨Nat.zero_le _, Nat.zero_le _⟩ dX13_readFactor_160 (fun H locs hP hD hS => ?_)
      refine lv_ishr hx hb dX13_readFactor_163 ?_
      refine lv_iconst (v := 1) hx hb dX13_readFactor_164 (by decide) ?_
      refine lv_iand hx hb dX13_readFactor_165 ?_
      refine lv_iconst (v := 1) hx hb dX13_readFactor_166 (by decide) ?_
      refine lv_icmp_ne (tgt := 174) hx hb dX13_readFactor_167 (by decide) (fun hc => ?_) (fun hc => ?_)
      · have hf := ite_f hf hc
        refine lv_iconst (v := 0) hx hb dX13_readFactor_174 (by decide) ?_
        refine lv_goto (tgt := 196) hx hb dX13_readFactor_175 (by decide) ?_
        exact w_X13_readFactor_196 C hne hF  _ _ _ _ _ _ hf hP hD hS (lv_sub hl [0] rfl)
      · have hf := ite_t hf hc
        refine lv_iconst (v := 1) hx hb dX13_readFactor_170 (by decide) ?_
        refine lv_goto (tgt := 196) hx hb dX13_readFactor_171 (by decide) ?_
        exact w_X13_readFactor_196 C hne hF  _ _ _ _ _ _ hf hP hD hS (lv_sub hl [0] rfl)
  · have hf := ite_t hf hc
    refine lv_aload_n hx hb dX13_readFactor_96 rfl (lv_at hl 0 rfl) ?_
    refine lv_aload_n hx hb dX13_readFactor_97 rfl (lv_at hl 0 rfl) ?_
    refine va_get (D := D) (ci := 13) (v := .int (q28 54)) (C := RX13) (T := TX13) (N := 87) hx hb hts hiX13 hown hK hP 0 rfl rfl 54 (by decide) (hts _ flX13_402) (fun _ h9 => h9) rfl dX13_readFactor_98 ?_
    refine lv_bipush (v := 12) hx hb dX13_readFactor_101 (by decide) ?_
    refine lv_icmp_ge (tgt := 110) hx hb dX13_readFactor_103 (by decide) (fun hc => ?_) (fun hc => ?_)
    · have hf := ite_t hf hc
      refine lv_iconst (v := 0) hx hb dX13_readFactor_110 (by decide) ?_
      exact w_X13_readFactor_111 C hne hF  _ _ _ _ _ _ hf hP hD hS (lv_sub hl [0] rfl)
    · have hf := ite_f hf hc
      refine lv_iconst (v := 1) hx hb dX13_readFactor_106 (by decide) ?_
      refine lv_goto (tgt := 111) hx hb dX13_readFactor_107 (by decide) ?_
      exact w_X13_readFactor_111 C hne hF  _ _ _ _ _ _ hf hP hD hS (lv_sub hl [0] rfl)
def f_X13_readFactor_79 (F : (Nat → Int32) → (Nat → Nat → Int32) → (Nat → Nat → Int64) → Option (((Nat → Int32) × (Nat → Nat → Int32)) ⊕ ((Nat → Int32) × (Nat → Nat → Int32)))) (l0 : Nat → Nat → Int64)  (i0 : Nat → Int32) (r0 : Nat → Nat → Int32) : Option (((Nat → Int32) × (Nat → Nat → Int32)) ⊕ ((Nat → Int32) × (Nat → Nat → Int32))) := f_X13_readFactor_84 F l0 i0 r0 1
set_option maxRecDepth 100000 in
set_option maxHeartbeats 4000000 in
theorem w_X13_readFactor_79 {p : Program} {l : Launch} {e : Env} {s : State} {m : MethodId} {args : Array Value} {below : List Frame} {meth : Method} {c : Code} {A : Nat → Prop} {D : va_G} {cs zs : Nat → Nat} {h0 : Nat} {a0 : Nat → Nat} {l0 : Nat → Nat → Int64} {q : ((Nat → Int32) × (Nat → Nat → Int32)) ⊕ ((Nat → Int32) × (Nat → Nat → Int32))} (C : Cx p s m args meth c A D cs zs cX13_readFactor 2 none RX13) (hne : NoH c) {d : Nat} {F : (Nat → Int32) → (Nat → Nat → Int32) → (Nat → Nat → Int64) → Option (((Nat → Int32) × (Nat → Nat → Int32)) ⊕ ((Nat → Int32) × (Nat → Nat → Int32)))} (hF : (∀ {i0 : Nat → Int32} {r0 : Nat → Nat → Int32} {l0 : Nat → Nat → Int64}  {q : (Nat → Int32) × (Nat → Nat → Int32)}, F i0 r0 l0 = some (.inl q) → Mv l yX13_readTerms wlX13_readTerms (rmX13_readTerms d) D cs zs [.ref h0] (W13 cs h0 a0 i0 r0 l0) (W13 cs h0 a0 q.1 q.2 l0)) ∧ (∀ {i0 : Nat → Int32} {r0 : Nat → Nat → Int32} {l0 : Nat → Nat → Int64}  {t : (Nat → Int32) × (Nat → Nat → Int32)}, F i0 r0 l0 = some (.inr t) → MT l yX13_readTerms wlX13_readTerms (rmX13_readTerms d) D cs zs [.ref h0] (W13 cs h0 a0 i0 r0 l0) (a0 0) (W13 cs h0 a0 t.1 t.2 l0)))  : ∀ (i0 : Nat → Int32) (r0 : Nat → Nat → Int32) (H : Heap) (locs : List Loc) (ls : Array Slot), f_X13_readFactor_79 F l0 i0 r0 = some q → va_P D vwCl (W13 cs h0 a0 i0 r0 l0) H → va_D A (W13 cs h0 a0 i0 r0 l0) → va_S A s.heap H locs → lv_has ls 2 [(0, .ref h0)] → W p l e (rmX13_readFactor d) s m args below meth c H locs 0 0 (Sum.elim (fun q => MQ below (Qv D cs A (W13 cs h0 a0 q.1 q.2 l0)) args s 0 0 A) (fun t => MQT below D cs A (a0 0) (W13 cs h0 a0 t.1 t.2 l0) args s) q) (F0 m 79 ls [.ref h0]) := by
  obtain ⟨hx, hb, hr, hml, hown, hts, hK, hA, hlocks, hZ⟩ := id C
  intro i0 r0 H locs ls hf hP hD hS hl
  rw [f_X13_readFactor_79] at hf
  refine lv_iconst (v := 1) hx hb dX13_readFactor_79 (by decide) ?_
  refine lv_goto (tgt := 84) hx hb dX13_readFactor_80 (by decide) ?_
  exact w_X13_readFactor_84 C hne hF  _ _ _ _ _ _ hf hP hD hS (lv_sub hl [0] rfl)
def f_X13_readFactor (F : (Nat → Int32) → (Nat → Nat → Int32) → (Nat → Nat → Int64) → Option (((Nat → Int32) × (Nat → Nat → Int32)) ⊕ ((Nat → Int32) × (Nat → Nat → Int32))))  (i0 : Nat → Int32) (r0 : Nat → Nat → Int32) (l0 : Nat → Nat → Int64)  : Option (((Nat → Int32) × (Nat → Nat → Int32)) ⊕ ((Nat → Int32) × (Nat → Nat → Int32))) := bd (f_X13_isSign i0 r0 l0 40) (fun q31 => if q31 = 0 then (if (i0 6) = 2 then (f_X13_readFactor_79 F l0 i0 r0) else (bd (f_X13_isVar i0 r0 l0) (fun q32 => if q32 = 0 then (f_X13_readFactor_84 F l0 i0 r0 0) else (f_X13_readFactor_79 F l0 i0 r0)))) else (if 6 ≤ (i0 55) then (f_X13_readFactor_24 F l0 i0 r0 0) else (f_X13_readFactor_24 F l0 i0 r0 1)))
set_option maxRecDepth 100000 in
set_option maxHeartbeats 4000000 in
theorem e_X13_readFactor {p : Program} {l : Launch} {e : Env} {s : State} {m : MethodId} {args : Array Value} {below : List Frame} {meth : Method} {c : Code} {A : Nat → Prop} {D : va_G} {cs zs : Nat → Nat} {h0 : Nat} {a0 : Nat → Nat} {i0 : Nat → Int32} {r0 : Nat → Nat → Int32} {l0 : Nat → Nat → Int64}  {q : ((Nat → Int32) × (Nat → Nat → Int32)) ⊕ ((Nat → Int32) × (Nat → Nat → Int32))} (C : Cx p s m args meth c A D cs zs cX13_readFactor 2 none RX13) (hne : NoH c) {d : Nat} {F : (Nat → Int32) → (Nat → Nat → Int32) → (Nat → Nat → Int64) → Option (((Nat → Int32) × (Nat → Nat → Int32)) ⊕ ((Nat → Int32) × (Nat → Nat → Int32)))} (hF : (∀ {i0 : Nat → Int32} {r0 : Nat → Nat → Int32} {l0 : Nat → Nat → Int64}  {q : (Nat → Int32) × (Nat → Nat → Int32)}, F i0 r0 l0 = some (.inl q) → Mv l yX13_readTerms wlX13_readTerms (rmX13_readTerms d) D cs zs [.ref h0] (W13 cs h0 a0 i0 r0 l0) (W13 cs h0 a0 q.1 q.2 l0)) ∧ (∀ {i0 : Nat → Int32} {r0 : Nat → Nat → Int32} {l0 : Nat → Nat → Int64}  {t : (Nat → Int32) × (Nat → Nat → Int32)}, F i0 r0 l0 = some (.inr t) → MT l yX13_readTerms wlX13_readTerms (rmX13_readTerms d) D cs zs [.ref h0] (W13 cs h0 a0 i0 r0 l0) (a0 0) (W13 cs h0 a0 t.1 t.2 l0)))  : ∀ (H : Heap) (locs : List Loc) (ls : Array Slot), f_X13_readFactor F i0 r0 l0 = some q → va_P D vwCl (W13 cs h0 a0 i0 r0 l0) H → va_D A (W13 cs h0 a0 i0 r0 l0) → va_S A s.heap H locs → lv_has ls 2 [(0, .ref h0)] → W p l e (rmX13_readFactor d) s m args below meth c H locs 0 0 (Sum.elim (fun q => MQ below (Qv D cs A (W13 cs h0 a0 q.1 q.2 l0)) args s 0 0 A) (fun t => MQT below D cs A (a0 0) (W13 cs h0 a0 t.1 t.2 l0) args s) q) (F0 m 0 ls []) := by
  obtain ⟨hx, hb, hr, hml, hown, hts, hK, hA, hlocks, hZ⟩ := id C
  intro H locs ls hf hP hD hS hl
  rw [f_X13_readFactor] at hf
  refine lv_aload_n hx hb dX13_readFactor_0 rfl (lv_at hl 0 rfl) ?_
  refine lv_bipush (v := 40) hx hb dX13_readFactor_1 (by decide) ?_
  obtain ⟨q31, hq31, hf⟩ := bd_s hf
  refine k_sVi (ws2 := W13 cs h0 a0 i0 r0 l0) (As := [.int 40]) (rest := []) hx hb hml hown hts hK hA hZ hl.1 hP hD hS (c_X13_isSign (h0 := h0) (a0 := a0) hq31) (gVt mlX13_80 imX13_isSign seX13_isSign inX13 coX13_isSign) rfl qnX13_isSign rfl rfl ⟨by show 0 + 1 ≤ 7 + 2 * d + 1; omega, by show 8 + (2 + 11) + (0) ≤ 149 + 42 * d + 21; omega⟩ 0 13 rfl rfl rfl rfl rfl (Nat.le_of_ble_eq_true rfl) ⟨Nat.zero_le _, Nat.zero_le _⟩ dX13_readFactor_3 (fun H locs hP hD hS => ?_)
  refine lv_if_eq (tgt := 63) hx hb dX13_readFactor_6 (by decide) (fun hc => ?_) (fun hc => ?_)
  · have hf := ite_t hf hc
    refine lv_aload_n hx hb dX13_readFactor_63 rfl (lv_at hl 0 rfl) ?_
    refine lv_aload_n hx hb dX13_readFactor_64 rfl (lv_at hl 0 rfl) ?_
    refine va_get (D := D) (ci := 13) (v := .int (i0 6)) (C := RX13) (T := TX13) (N := 87) hx hb hts hiX13 hown hK hP 0 rfl rfl 6 (by decide) (hts _ flX13_31) (fun _ h9 => h9) rfl dX13_readFactor_65 ?_
    refine lv_iconst (v := 2) hx hb dX13_readFactor_68 (by decide) ?_
    refine lv_icmp_eq (tgt := 79) hx hb dX13_readFactor_69 (by decide) (fun hc => ?_) (fun hc => ?_)
    · have hf := ite_t hf hc
      exact w_X13_readFactor_79 C hne hF  _ _ _ _ _ hf hP hD hS (lv_sub hl [0] rfl)
    · have hf := ite_f hf hc
      refine lv_aload_n hx hb dX13_readFactor_72 rfl (lv_at hl 0 rfl) ?_
      obtain ⟨q32, hq32, hf⟩ := bd_s hf
      refine k_sVi (ws2 := W13 cs h0 a0 i0 r0 l0) (As := []) (rest := [.ref h0]) hx hb hml hown hts hK hA hZ hl.1 hP hD hS (c_X13_isVar (h0 := h0) (a0 := a0) hq32) (gVt mlX13_381 imX13_isVar seX13_isVar inX13 coX13_isVar) rfl qnX13_isVar rfl rfl ⟨by show 5 + 1 ≤ 7 + 2 * d + 1; omega, by show 8 + (1 + 11) + (108) ≤ 149 + 42 * d + 21; omega⟩ 0 13 rfl rfl rfl rfl rfl (Nat.le_of_ble_eq_true rfl) ⟨Nat.zero_le _, Nat.zero_le _⟩ dX13_readFactor_73 (fun H locs hP hD hS => ?_)
      refine lv_if_eq (tgt := 83) hx hb dX13_readFactor_76 (by decide) (fun hc => ?_) (fun hc => ?_)
      · have hf := ite_t hf hc
        refine lv_iconst (v := 0) hx hb dX13_readFactor_83 (by decide) ?_
        exact w_X13_readFactor_84 C hne hF  _ _ _ _ _ _ hf hP hD hS (lv_sub hl [0] rfl)
      · have hf := ite_f hf hc
        exact w_X13_readFactor_79 C hne hF  _ _ _ _ _ hf hP hD hS (lv_sub hl [0] rfl)
  · have hf := ite_f hf hc
    refine lv_aload_n hx hb dX13_readFactor_9 rfl (lv_at hl 0 rfl) ?_
    refine lv_aload_n hx hb dX13_readFactor_10 rfl (lv_at hl 0 rfl) ?_
    refine va_get (D := D) (ci := 13) (v := .int (i0 55)) (C := RX13) (T := TX13) (N := 87) hx hb hts hiX13 hown hK hP 0 rfl rfl 55 (by decide) (hts _ flX13_396) (fun _ h9 => h9) rfl dX13_readFactor_11 ?_
    refine lv_bipush (v := 6) hx hb dX13_readFactor_14 (by decide) ?_
    refine lv_icmp_ge (tgt := 23) hx hb dX13_readFactor_16 (by decide) (fun hc => ?_) (fun hc => ?_)
    · have hf := ite_t hf hc
      refine lv_iconst (v := 0) hx hb dX13_readFactor_23 (by decide) ?_
      exact w_X13_readFactor_24 C hne hF  _ _ _ _ _ _ hf hP hD hS (lv_sub hl [0] rfl)
    · have hf := ite_f hf hc
      refine lv_iconst (v := 1) hx hb dX13_readFactor_19 (by decide) ?_
      refine lv_goto (tgt := 24) hx hb dX13_readFactor_20 (by decide) ?_
      exact w_X13_readFactor_24 C hne hF  _ _ _ _ _ _ hf hP hD hS (lv_sub hl [0] rfl)
theorem c_X13_readFactor {l : Launch} {D : va_G} {cs zs : Nat → Nat} {h0 : Nat} {a0 : Nat → Nat} {i0 : Nat → Int32} {r0 : Nat → Nat → Int32} {l0 : Nat → Nat → Int64}  {q : (Nat → Int32) × (Nat → Nat → Int32)} {d : Nat} {F : (Nat → Int32) → (Nat → Nat → Int32) → (Nat → Nat → Int64) → Option (((Nat → Int32) × (Nat → Nat → Int32)) ⊕ ((Nat → Int32) × (Nat → Nat → Int32)))} (hF : (∀ {i0 : Nat → Int32} {r0 : Nat → Nat → Int32} {l0 : Nat → Nat → Int64}  {q : (Nat → Int32) × (Nat → Nat → Int32)}, F i0 r0 l0 = some (.inl q) → Mv l yX13_readTerms wlX13_readTerms (rmX13_readTerms d) D cs zs [.ref h0] (W13 cs h0 a0 i0 r0 l0) (W13 cs h0 a0 q.1 q.2 l0)) ∧ (∀ {i0 : Nat → Int32} {r0 : Nat → Nat → Int32} {l0 : Nat → Nat → Int64}  {t : (Nat → Int32) × (Nat → Nat → Int32)}, F i0 r0 l0 = some (.inr t) → MT l yX13_readTerms wlX13_readTerms (rmX13_readTerms d) D cs zs [.ref h0] (W13 cs h0 a0 i0 r0 l0) (a0 0) (W13 cs h0 a0 t.1 t.2 l0))) (hf : f_X13_readFactor F i0 r0 l0 = some (.inl q)) : Mv l yX13_readFactor wlX13_readFactor (rmX13_readFactor d) D cs zs [.ref h0] (W13 cs h0 a0 i0 r0 l0) (W13 cs h0 a0 q.1 q.2 l0) := by
  refine Mv.ofT RX13 (by decide) rfl (Nat.le_of_ble_eq_true rfl) (fun p e s m below meth c A C hne hP hD hS ls hl => ?_)
  generalize ([.ref h0] : List Value).toArray = args at C ⊢
  exact e_X13_readFactor (q := .inl q) C hne hF _ _ _ hf hP hD hS hl
theorem t_X13_readFactor {l : Launch} {D : va_G} {cs zs : Nat → Nat} {h0 : Nat} {a0 : Nat → Nat} {i0 : Nat → Int32} {r0 : Nat → Nat → Int32} {l0 : Nat → Nat → Int64}  {t : (Nat → Int32) × (Nat → Nat → Int32)} {d : Nat} {F : (Nat → Int32) → (Nat → Nat → Int32) → (Nat → Nat → Int64) → Option (((Nat → Int32) × (Nat → Nat → Int32)) ⊕ ((Nat → Int32) × (Nat → Nat → Int32)))} (hF : (∀ {i0 : Nat → Int32} {r0 : Nat → Nat → Int32} {l0 : Nat → Nat → Int64}  {q : (Nat → Int32) × (Nat → Nat → Int32)}, F i0 r0 l0 = some (.inl q) → Mv l yX13_readTerms wlX13_readTerms (rmX13_readTerms d) D cs zs [.ref h0] (W13 cs h0 a0 i0 r0 l0) (W13 cs h0 a0 q.1 q.2 l0)) ∧ (∀ {i0 : Nat → Int32} {r0 : Nat → Nat → Int32} {l0 : Nat → Nat → Int64}  {t : (Nat → Int32) × (Nat → Nat → Int32)}, F i0 r0 l0 = some (.inr t) → MT l yX13_readTerms wlX13_readTerms (rmX13_readTerms d) D cs zs [.ref h0] (W13 cs h0 a0 i0 r0 l0) (a0 0) (W13 cs h0 a0 t.1 t.2 l0))) (hf : f_X13_readFactor F i0 r0 l0 = some (.inr t)) : MT l yX13_readFactor wlX13_readFactor (rmX13_readFactor d) D cs zs [.ref h0] (W13 cs h0 a0 i0 r0 l0) (a0 0) (W13 cs h0 a0 t.1 t.2 l0) := by
  refine MT.of RX13 (by decide) rfl (Nat.le_of_ble_eq_true rfl) (fun p e s m below meth c A C hne hP hD hS ls hl => ?_)
  generalize ([.ref h0] : List Value).toArray = args at C ⊢
  exact e_X13_readFactor (q := .inr t) C hne hF _ _ _ hf hP hD hS hl
/-! MarbleFloorModel.readTerms()V -/
def f_X13_readTerms_4 (F : (Nat → Int32) → (Nat → Nat → Int32) → (Nat → Nat → Int64) → Option (((Nat → Int32) × (Nat → Nat → Int32)) ⊕ ((Nat → Int32) × (Nat → Nat → Int32)))) (l0 : Nat → Nat → Int64)  : Nat → (Nat → Int32) → (Nat → Nat → Int32) → Option (((Nat → Int32) × (Nat → Nat → Int32)) ⊕ ((Nat → Int32) × (Nat → Nat → Int32)))
  | 0, _, _ => none
  | n + 1, i0, r0 => bd (f_X13_isOperator i0 r0 l0) (fun q6 => if q6 = 0 then (some (.inl (i0, r0))) else (bd (f_X13_scan i0 r0 l0) (fun q7 => bt (f_X13_readFactor F q7 r0 l0) (fun q8 => bd (f_X13_mark q8.1 q8.2 l0 2 (i0 7) 0) (fun q9 => f_X13_readTerms_4 F l0 n q9.1 q9.2)) (fun t8 => some (.inr (t8.1, t8.2))))))
set_option maxRecDepth 100000 in
set_option maxHeartbeats 4000000 in
theorem w_X13_readTerms_4 {p : Program} {l : Launch} {e : Env} {s : State} {m : MethodId} {args : Array Value} {below : List Frame} {meth : Method} {c : Code} {A : Nat → Prop} {D : va_G} {cs zs : Nat → Nat} {h0 : Nat} {a0 : Nat → Nat} {l0 : Nat → Nat → Int64} {q : ((Nat → Int32) × (Nat → Nat → Int32)) ⊕ ((Nat → Int32) × (Nat → Nat → Int32))} (C : Cx p s m args meth c A D cs zs cX13_readTerms 2 none RX13) (hne : NoH c) {d : Nat} {F : (Nat → Int32) → (Nat → Nat → Int32) → (Nat → Nat → Int64) → Option (((Nat → Int32) × (Nat → Nat → Int32)) ⊕ ((Nat → Int32) × (Nat → Nat → Int32)))} (hF : (∀ {i0 : Nat → Int32} {r0 : Nat → Nat → Int32} {l0 : Nat → Nat → Int64}  {q : (Nat → Int32) × (Nat → Nat → Int32)}, F i0 r0 l0 = some (.inl q) → Mv l yX13_readTerms wlX13_readTerms (rmX13_readTerms d) D cs zs [.ref h0] (W13 cs h0 a0 i0 r0 l0) (W13 cs h0 a0 q.1 q.2 l0)) ∧ (∀ {i0 : Nat → Int32} {r0 : Nat → Nat → Int32} {l0 : Nat → Nat → Int64}  {t : (Nat → Int32) × (Nat → Nat → Int32)}, F i0 r0 l0 = some (.inr t) → MT l yX13_readTerms wlX13_readTerms (rmX13_readTerms d) D cs zs [.ref h0] (W13 cs h0 a0 i0 r0 l0) (a0 0) (W13 cs h0 a0 t.1 t.2 l0)))  : ∀ (n : Nat), ∀ (i0 : Nat → Int32) (r0 : Nat → Nat → Int32) (H : Heap) (locs : List Loc) (ls : Array Slot), f_X13_readTerms_4 F l0 n i0 r0 = some q → va_P D vwCl (W13 cs h0 a0 i0 r0 l0) H → va_D A (W13 cs h0 a0 i0 r0 l0) → va_S A s.heap H locs → lv_has ls 2 [(0, .ref h0)] → W p l e (rmX13_readTerms (d + 1)) s m args below meth c H locs 0 0 (Sum.elim (fun q => MQ below (Qv D cs A (W13 cs h0 a0 q.1 q.2 l0)) args s 0 0 A) (fun t => MQT below D cs A (a0 0) (W13 cs h0 a0 t.1 t.2 l0) args s) q) (F0 m 4 ls []) := by
  obtain ⟨hx, hb, hr, hml, hown, hts, hK, hA, hlocks, hZ⟩ := id C
  intro n
  induction n with
  | zero =>
    intro i0 r0 H locs ls hf
    rw [f_X13_readTerms_4] at hf
    cases hf
  | succ n ih =>
    intro i0 r0 H locs ls hf hP hD hS hl
    rw [f_X13_readTerms_4] at hf
    refine lv_aload_n hx hb dX13_readTerms_4 rfl (lv_at hl 0 rfl) ?_
    obtain ⟨q6, hq6, hf⟩ := bd_s hf
    refine k_sVi (ws2 := W13 cs h0 a0 i0 r0 l0) (As := []) (rest := []) hx hb hml hown hts hK hA hZ hl.1 hP hD hS (c_X13_isOperator (h0 := h0) (a0 := a0) hq6) (gVt mlX13_417 imX13_isOperator seX13_isOperator inX13 coX13_isOperator) rfl qnX13_isOperator rfl rfl ⟨by show 1 + 1 ≤ 7 + 2 * (d + 1); omega, by show 8 + (1 + 11) + (21) ≤ 149 + 42 * (d + 1); omega⟩ 0 13 rfl rfl rfl rfl rfl (Nat.le_of_ble_eq_true rfl) ⟨Nat.zero_le _, Nat.zero_le _⟩ dX13_readTerms_5 (fun H locs hP hD hS => ?_)
    refine lv_if_eq (tgt := 34) hx hb dX13_readTerms_8 (by decide) (fun hc => ?_) (fun hc => ?_)
    · have hf := ite_t hf hc
      obtain rfl := Option.some.inj hf
      exact k_vret hx hb hr hlocks hK hP hD hS dX13_readTerms_34
    · have hf := ite_f hf hc
      refine lv_aload_n hx hb dX13_readTerms_11 rfl (lv_at hl 0 rfl) ?_
      refine va_get (D := D) (ci := 13) (v := .int (i0 7)) (C := RX13) (T := TX13) (N := 87) hx hb hts hiX13 hown hK hP 0 rfl rfl 7 (by decide) (hts _ flX13_41) (fun _ h9 => h9) rfl dX13_readTerms_12 ?_
      refine lv_istore_n (lv' := [(1, .int (i0 7)), (0, .ref h0)]) hx hb dX13_readTerms_15 rfl hl (by decide) rfl (fun ls hl => ?_)
      refine lv_aload_n hx hb dX13_readTerms_16 rfl (lv_at hl 1 rfl) ?_
      obtain ⟨q7, hq7, hf⟩ := bd_s hf
      refine k_sVv (ws2 := W13 cs h0 a0 q7 r0 l0) (As := []) (rest := []) hx hb hml hown hts hK hA hZ hl.1 hP hD hS (c_X13_scan (h0 := h0) (a0 := a0) hq7) (gVt mlX13_72 imX13_scan seX13_scan inX13 coX13_scan) rfl qnX13_scan rfl rfl ⟨by show 1 + 1 ≤ 7 + 2 * (d + 1); omega, by show 8 + (2 + 11) + (21) ≤ 149 + 42 * (d + 1); omega⟩ 0 13 rfl rfl rfl rfl rfl (Nat.le_of_ble_eq_true rfl) ⟨Nat.zero_le _, Nat.zero_le _⟩ dX13_readTerms_17 (fun H locs hP hD hS => ?_)
      refine lv_aload_n hx hb dX13_readTerms_20 rfl (lv_at hl 1 rfl) ?_
      rcases (bt_s hf).symm with ⟨t8, hq8, hf⟩ | ⟨q8, hq8, hf⟩
      · obtain rfl := Option.some.inj hf
        exact k_sVt (R := rmX13_readTerms (d + 1)) (ws2 := W13 cs h0 a0 t8.1 t8.2 l0) (As := []) (rest := []) hx hb hml hown hts hK hA hZ hl.1 hP hD hS (t_X13_readFactor (h0 := h0) (a0 := a0) hF hq8) (gVt mlX13_414 imX13_readFactor seX13_readFactor inX13 coX13_readFactor) rfl qnX13_readFactor rfl rfl ⟨by show 7 + 2 * d + 1 + 1 ≤ 7 + 2 * (d + 1); omega, by show 8 + (2 + 11) + (149 + 42 * d + 21) ≤ 149 + 42 * (d + 1); omega⟩ 0 13 rfl rfl rfl rfl rfl (Nat.le_of_ble_eq_true rfl) dX13_readTerms_21 hlocks hne
      refine k_sVv (ws2 := W13 cs h0 a0 q8.1 q8.2 l0) (As := []) (rest := []) hx hb hml hown hts hK hA hZ hl.1 hP hD hS (c_X13_readFactor (h0 := h0) (a0 := a0) hF hq8) (gVt mlX13_414 imX13_readFactor seX13_readFactor inX13 coX13_readFactor) rfl qnX13_readFactor rfl rfl ⟨by show 7 + 2 * d + 1 + 1 ≤ 7 + 2 * (d + 1); omega, by show 8 + (2 + 11) + (149 + 42 * d + 21) ≤ 149 + 42 * (d + 1); omega⟩ 0 13 rfl rfl rfl rfl rfl (Nat.le_of_ble_eq_true rfl) ⟨Nat.zero_le _, Nat.zero_le _⟩ dX13_readTerms_21 (fun H locs hP hD hS => ?_)
      refine lv_aload_n hx hb dX13_readTerms_24 rfl (lv_at hl 1 rfl) ?_
      refine lv_iconst (v := 2) hx hb dX13_readTerms_25 (by decide) ?_
      refine lv_iload_n hx hb dX13_readTerms_26 rfl (lv_at hl 0 rfl) ?_
      refine lv_iconst (v := 0) hx hb dX13_readTerms_27 (by decide) ?_
      obtain ⟨q9, hq9, hf⟩ := bd_s hf
      refine k_sVv (ws2 := W13 cs h0 a0 q9.1 q9.2 l0) (As := [.int 2, .int (i0 7), .int 0]) (rest := []) hx hb hml hown hts hK hA hZ hl.1 hP hD hS (c_X13_mark (h0 := h0) (a0 := a0) hq9) (gVt mlX13_405 imX13_mark seX13_mark inX13 coX13_mark) rfl qnX13_mark rfl rfl ⟨by show 0 + 1 ≤ 7 + 2 * (d + 1); omega, by show 8 + (5 + 11) + (0) ≤ 149 + 42 * (d + 1); omega⟩ 0 13 rfl rfl rfl rfl rfl (Nat.le_of_ble_eq_true rfl) ⟨Nat.zero_le _, Nat.zero_le _⟩ dX13_readTerms_28 (fun H locs hP hD hS => ?_)
      refine lv_goto (tgt := 4) hx hb dX13_readTerms_31 (by decide) ?_
      exact ih _ _ _ _ _ hf hP hD hS (lv_sub hl [1] rfl)
def f_X13_readTerms_e (F : (Nat → Int32) → (Nat → Nat → Int32) → (Nat → Nat → Int64) → Option (((Nat → Int32) × (Nat → Nat → Int32)) ⊕ ((Nat → Int32) × (Nat → Nat → Int32))))  (i0 : Nat → Int32) (r0 : Nat → Nat → Int32) (l0 : Nat → Nat → Int64)  : Option (((Nat → Int32) × (Nat → Nat → Int32)) ⊕ ((Nat → Int32) × (Nat → Nat → Int32))) := bt (f_X13_readFactor F i0 r0 l0) (fun q10 => f_X13_readTerms_4 F l0 2000000 q10.1 q10.2) (fun t10 => some (.inr (t10.1, t10.2)))
set_option maxRecDepth 100000 in
set_option maxHeartbeats 4000000 in
theorem e_X13_readTerms_e {p : Program} {l : Launch} {e : Env} {s : State} {m : MethodId} {args : Array Value} {below : List Frame} {meth : Method} {c : Code} {A : Nat → Prop} {D : va_G} {cs zs : Nat → Nat} {h0 : Nat} {a0 : Nat → Nat} {i0 : Nat → Int32} {r0 : Nat → Nat → Int32} {l0 : Nat → Nat → Int64}  {q : ((Nat → Int32) × (Nat → Nat → Int32)) ⊕ ((Nat → Int32) × (Nat → Nat → Int32))} (C : Cx p s m args meth c A D cs zs cX13_readTerms 2 none RX13) (hne : NoH c) {d : Nat} {F : (Nat → Int32) → (Nat → Nat → Int32) → (Nat → Nat → Int64) → Option (((Nat → Int32) × (Nat → Nat → Int32)) ⊕ ((Nat → Int32) × (Nat → Nat → Int32)))} (hF : (∀ {i0 : Nat → Int32} {r0 : Nat → Nat → Int32} {l0 : Nat → Nat → Int64}  {q : (Nat → Int32) × (Nat → Nat → Int32)}, F i0 r0 l0 = some (.inl q) → Mv l yX13_readTerms wlX13_readTerms (rmX13_readTerms d) D cs zs [.ref h0] (W13 cs h0 a0 i0 r0 l0) (W13 cs h0 a0 q.1 q.2 l0)) ∧ (∀ {i0 : Nat → Int32} {r0 : Nat → Nat → Int32} {l0 : Nat → Nat → Int64}  {t : (Nat → Int32) × (Nat → Nat → Int32)}, F i0 r0 l0 = some (.inr t) → MT l yX13_readTerms wlX13_readTerms (rmX13_readTerms d) D cs zs [.ref h0] (W13 cs h0 a0 i0 r0 l0) (a0 0) (W13 cs h0 a0 t.1 t.2 l0)))  : ∀ (H : Heap) (locs : List Loc) (ls : Array Slot), f_X13_readTerms_e F i0 r0 l0 = some q → va_P D vwCl (W13 cs h0 a0 i0 r0 l0) H → va_D A (W13 cs h0 a0 i0 r0 l0) → va_S A s.heap H locs → lv_has ls 2 [(0, .ref h0)] → W p l e (rmX13_readTerms (d + 1)) s m args below meth c H locs 0 0 (Sum.elim (fun q => MQ below (Qv D cs A (W13 cs h0 a0 q.1 q.2 l0)) args s 0 0 A) (fun t => MQT below D cs A (a0 0) (W13 cs h0 a0 t.1 t.2 l0) args s) q) (F0 m 0 ls []) := by
  obtain ⟨hx, hb, hr, hml, hown, hts, hK, hA, hlocks, hZ⟩ := id C
  intro H locs ls hf hP hD hS hl
  rw [f_X13_readTerms_e] at hf
  refine lv_aload_n hx hb dX13_readTerms_0 rfl (lv_at hl 0 rfl) ?_
  rcases (bt_s hf).symm with ⟨t10, hq10, hf⟩ | ⟨q10, hq10, hf⟩
  · obtain rfl := Option.some.inj hf
    exact k_sVt (R := rmX13_readTerms (d + 1)) (ws2 := W13 cs h0 a0 t10.1 t10.2 l0) (As := []) (rest := []) hx hb hml hown hts hK hA hZ hl.1 hP hD hS (t_X13_readFactor (h0 := h0) (a0 := a0) hF hq10) (gVt mlX13_414 imX13_readFactor seX13_readFactor inX13 coX13_readFactor) rfl qnX13_readFactor rfl rfl ⟨by show 7 + 2 * d + 1 + 1 ≤ 7 + 2 * (d + 1); omega, by show 8 + (2 + 11) + (149 + 42 * d + 21) ≤ 149 + 42 * (d + 1); omega⟩ 0 13 rfl rfl rfl rfl rfl (Nat.le_of_ble_eq_true rfl) dX13_readTerms_1 hlocks hne
  refine k_sVv (ws2 := W13 cs h0 a0 q10.1 q10.2 l0) (As := []) (rest := []) hx hb hml hown hts hK hA hZ hl.1 hP hD hS (c_X13_readFactor (h0 := h0) (a0 := a0) hF hq10) (gVt mlX13_414 imX13_readFactor seX13_readFactor inX13 coX13_readFactor) rfl qnX13_readFactor rfl rfl ⟨by show 7 + 2 * d + 1 + 1 ≤ 7 + 2 * (d + 1); omega, by show 8 + (2 + 11) + (149 + 42 * d + 21) ≤ 149 + 42 * (d + 1); omega⟩ 0 13 rfl rfl rfl rfl rfl (Nat.le_of_ble_eq_true rfl) ⟨Nat.zero_le _, Nat.zero_le _⟩ dX13_readTerms_1 (fun H locs hP hD hS => ?_)
  exact w_X13_readTerms_4 C hne hF  2000000 _ _ _ _ _ hf hP hD hS (lv_sub hl [0] rfl)
theorem c_X13_readTerms_e {l : Launch} {D : va_G} {cs zs : Nat → Nat} {h0 : Nat} {a0 : Nat → Nat} {i0 : Nat → Int32} {r0 : Nat → Nat → Int32} {l0 : Nat → Nat → Int64}  {q : (Nat → Int32) × (Nat → Nat → Int32)} {d : Nat} {F : (Nat → Int32) → (Nat → Nat → Int32) → (Nat → Nat → Int64) → Option (((Nat → Int32) × (Nat → Nat → Int32)) ⊕ ((Nat → Int32) × (Nat → Nat → Int32)))} (hF : (∀ {i0 : Nat → Int32} {r0 : Nat → Nat → Int32} {l0 : Nat → Nat → Int64}  {q : (Nat → Int32) × (Nat → Nat → Int32)}, F i0 r0 l0 = some (.inl q) → Mv l yX13_readTerms wlX13_readTerms (rmX13_readTerms d) D cs zs [.ref h0] (W13 cs h0 a0 i0 r0 l0) (W13 cs h0 a0 q.1 q.2 l0)) ∧ (∀ {i0 : Nat → Int32} {r0 : Nat → Nat → Int32} {l0 : Nat → Nat → Int64}  {t : (Nat → Int32) × (Nat → Nat → Int32)}, F i0 r0 l0 = some (.inr t) → MT l yX13_readTerms wlX13_readTerms (rmX13_readTerms d) D cs zs [.ref h0] (W13 cs h0 a0 i0 r0 l0) (a0 0) (W13 cs h0 a0 t.1 t.2 l0))) (hf : f_X13_readTerms_e F i0 r0 l0 = some (.inl q)) : Mv l yX13_readTerms wlX13_readTerms (rmX13_readTerms (d + 1)) D cs zs [.ref h0] (W13 cs h0 a0 i0 r0 l0) (W13 cs h0 a0 q.1 q.2 l0) := by
  refine Mv.ofT RX13 (by decide) rfl (Nat.le_of_ble_eq_true rfl) (fun p e s m below meth c A C hne hP hD hS ls hl => ?_)
  generalize ([.ref h0] : List Value).toArray = args at C ⊢
  exact e_X13_readTerms_e (q := .inl q) C hne hF _ _ _ hf hP hD hS hl
theorem t_X13_readTerms_e {l : Launch} {D : va_G} {cs zs : Nat → Nat} {h0 : Nat} {a0 : Nat → Nat} {i0 : Nat → Int32} {r0 : Nat → Nat → Int32} {l0 : Nat → Nat → Int64}  {t : (Nat → Int32) × (Nat → Nat → Int32)} {d : Nat} {F : (Nat → Int32) → (Nat → Nat → Int32) → (Nat → Nat → Int64) → Option (((Nat → Int32) × (Nat → Nat → Int32)) ⊕ ((Nat → Int32) × (Nat → Nat → Int32)))} (hF : (∀ {i0 : Nat → Int32} {r0 : Nat → Nat → Int32} {l0 : Nat → Nat → Int64}  {q : (Nat → Int32) × (Nat → Nat → Int32)}, F i0 r0 l0 = some (.inl q) → Mv l yX13_readTerms wlX13_readTerms (rmX13_readTerms d) D cs zs [.ref h0] (W13 cs h0 a0 i0 r0 l0) (W13 cs h0 a0 q.1 q.2 l0)) ∧ (∀ {i0 : Nat → Int32} {r0 : Nat → Nat → Int32} {l0 : Nat → Nat → Int64}  {t : (Nat → Int32) × (Nat → Nat → Int32)}, F i0 r0 l0 = some (.inr t) → MT l yX13_readTerms wlX13_readTerms (rmX13_readTerms d) D cs zs [.ref h0] (W13 cs h0 a0 i0 r0 l0) (a0 0) (W13 cs h0 a0 t.1 t.2 l0))) (hf : f_X13_readTerms_e F i0 r0 l0 = some (.inr t)) : MT l yX13_readTerms wlX13_readTerms (rmX13_readTerms (d + 1)) D cs zs [.ref h0] (W13 cs h0 a0 i0 r0 l0) (a0 0) (W13 cs h0 a0 t.1 t.2 l0) := by
  refine MT.of RX13 (by decide) rfl (Nat.le_of_ble_eq_true rfl) (fun p e s m below meth c A C hne hP hD hS ls hl => ?_)
  generalize ([.ref h0] : List Value).toArray = args at C ⊢
  exact e_X13_readTerms_e (q := .inr t) C hne hF _ _ _ hf hP hD hS hl
def f_X13_readTerms : Nat → (Nat → Int32) → (Nat → Nat → Int32) → (Nat → Nat → Int64) → Option (((Nat → Int32) × (Nat → Nat → Int32)) ⊕ ((Nat → Int32) × (Nat → Nat → Int32)))
  | 0, _, _, _ => none
  | d + 1, i0, r0, l0 => f_X13_readTerms_e (f_X13_readTerms d) i0 r0 l0
theorem c_X13_readTerms {l : Launch} {D : va_G} {cs zs : Nat → Nat} {h0 : Nat} {a0 : Nat → Nat} : ∀ (d : Nat), (∀ {i0 : Nat → Int32} {r0 : Nat → Nat → Int32} {l0 : Nat → Nat → Int64}  {q : (Nat → Int32) × (Nat → Nat → Int32)}, f_X13_readTerms d i0 r0 l0 = some (.inl q) → Mv l yX13_readTerms wlX13_readTerms (rmX13_readTerms d) D cs zs [.ref h0] (W13 cs h0 a0 i0 r0 l0) (W13 cs h0 a0 q.1 q.2 l0)) ∧ (∀ {i0 : Nat → Int32} {r0 : Nat → Nat → Int32} {l0 : Nat → Nat → Int64}  {t : (Nat → Int32) × (Nat → Nat → Int32)}, f_X13_readTerms d i0 r0 l0 = some (.inr t) → MT l yX13_readTerms wlX13_readTerms (rmX13_readTerms d) D cs zs [.ref h0] (W13 cs h0 a0 i0 r0 l0) (a0 0) (W13 cs h0 a0 t.1 t.2 l0))
  | 0 => ⟨fun {i0} {r0} {l0} {q} hf => (by rw [f_X13_readTerms] at hf; cases hf), fun {i0} {r0} {l0} {t} hf => (by rw [f_X13_readTerms] at hf; cases hf)⟩
  | d + 1 => ⟨fun {i0} {r0} {l0} {q} hf => (by rw [f_X13_readTerms] at hf; exact c_X13_readTerms_e (c_X13_readTerms d) hf), fun {i0} {r0} {l0} {t} hf => (by rw [f_X13_readTerms] at hf; exact t_X13_readTerms_e (c_X13_readTerms d) hf)⟩
/-! MarbleFloorModel.readSum(II)V -/
abbrev wlX13_readSum : List Cond := Cond.code yX13_readSum cX13_readSum 3 none :: tbG
abbrev rmX13_readSum : Room := { frames := 32, cells := 0, slots := 0, locals := 674 }
theorem qnX13_readSum : yX13_readSum.cls = RX13 ∧ yX13_readSum.cls ≠ "java/lang/invoke/MethodHandle" ∧ yX13_readSum.cls ≠ "java/lang/invoke/VarHandle" ∧ (parseMethodDescriptor yX13_readSum.desc).map (fun d => d.parameters.length) = some 2 := by decide +kernel
def f_X13_readSum_29 (l0 : Nat → Nat → Int64)  (i0 : Nat → Int32) (r0 : Nat → Nat → Int32) (x1 : Int32) : Option (((Nat → Int32) × (Nat → Nat → Int32)) ⊕ ((Nat → Int32) × (Nat → Nat → Int32))) := bt (f_X13_readTerms 12 i0 r0 l0) (fun q2 => ck (inb x1 480) (some (.inl (q2.1, (va_up q2.2 35 (upd (q2.2 35) x1.toNatClampNeg (1000 + (q2.1 49)))))))) (fun t2 => some (.inr (t2.1, t2.2)))
set_option maxRecDepth 100000 in
set_option maxHeartbeats 4000000 in
theorem w_X13_readSum_29 {p : Program} {l : Launch} {e : Env} {s : State} {m : MethodId} {args : Array Value} {below : List Frame} {meth : Method} {c : Code} {A : Nat → Prop} {D : va_G} {cs zs : Nat → Nat} {h0 : Nat} {a0 : Nat → Nat} {l0 : Nat → Nat → Int64} {q : ((Nat → Int32) × (Nat → Nat → Int32)) ⊕ ((Nat → Int32) × (Nat → Nat → Int32))} (C : Cx p s m args meth c A D cs zs cX13_readSum 3 none RX13) (hne : NoH c)  : ∀ (i0 : Nat → Int32) (r0 : Nat → Nat → Int32) (x1 : Int32) (H : Heap) (locs : List Loc) (ls : Array Slot), f_X13_readSum_29 l0 i0 r0 x1 = some q → va_P D vwCl (W13 cs h0 a0 i0 r0 l0) H → va_D A (W13 cs h0 a0 i0 r0 l0) → va_S A s.heap H locs → lv_has ls 3 [(0, .ref h0), (1, .int x1)] → W p l e rmX13_readSum s m args below meth c H locs 0 0 (Sum.elim (fun q => MQ below (Qv D cs A (W13 cs h0 a0 q.1 q.2 l0)) args s 0 0 A) (fun t => MQT below D cs A (a0 0) (W13 cs h0 a0 t.1 t.2 l0) args s) q) (F0 m 29 ls []) := by
  obtain ⟨hx, hb, hr, hml, hown, hts, hK, hA, hlocks, hZ⟩ := id C
  intro i0 r0 x1 H locs ls hf hP hD hS hl
  rw [f_X13_readSum_29] at hf
  refine lv_aload_n hx hb dX13_readSum_29 rfl (lv_at hl 0 rfl) ?_
  rcases (bt_s hf).symm with ⟨t2, hq2, hf⟩ | ⟨q2, hq2, hf⟩
  · obtain rfl := Option.some.inj hf
    exact k_sVt (ws2 := W13 cs h0 a0 t2.1 t2.2 l0) (As := []) (rest := []) hx hb hml hown hts hK hA hZ hl.1 hP hD hS ((c_X13_readTerms (h0 := h0) (a0 := a0) 12).2 hq2) (gVt mlX13_399 imX13_readTerms seX13_readTerms inX13 coX13_readTerms) rfl qnX13_readTerms rfl rfl ⟨Nat.le_of_ble_eq_true rfl, Nat.le_of_ble_eq_true rfl⟩ 0 13 rfl rfl rfl rfl rfl (Nat.le_of_ble_eq_true rfl) dX13_readSum_30 hlocks hne
  refine k_sVv (ws2 := W13 cs h0 a0 q2.1 q2.2 l0) (As := []) (rest := []) hx hb hml hown hts hK hA hZ hl.1 hP hD hS ((c_X13_readTerms (h0 := h0) (a0 := a0) 12).1 hq2) (gVt mlX13_399 imX13_readTerms seX13_readTerms inX13 coX13_readTerms) rfl qnX13_readTerms rfl rfl ⟨Nat.le_of_ble_eq_true rfl, Nat.le_of_ble_eq_true rfl⟩ 0 13 rfl rfl rfl rfl rfl (Nat.le_of_ble_eq_true rfl) ⟨Nat.zero_le _, Nat.zero_le _⟩ dX13_readSum_30 (fun H locs hP hD hS => ?_)
  refine lv_aload_n hx hb dX13_readSum_33 rfl (lv_at hl 0 rfl) ?_
  refine va_get (D := D) (ci := 13) (v := .ref (a0 35)) (C := RX13) (T := TX13) (N := 87) hx hb hts hiX13 hown hK hP 0 rfl rfl 35 (by decide) (hts _ flX13_194) (fun _ h9 => h9) rfl dX13_readSum_34 ?_
  refine lv_iload_n hx hb dX13_readSum_37 rfl (lv_at hl 1 rfl) ?_
  refine lv_sipush (v := 1000) hx hb dX13_readSum_38 (by decide) ?_
  refine lv_aload_n hx hb dX13_readSum_41 rfl (lv_at hl 0 rfl) ?_
  refine va_get (D := D) (ci := 13) (v := .int (q2.1 49)) (C := RX13) (T := TX13) (N := 87) hx hb hts hiX13 hown hK hP 0 rfl rfl 49 (by decide) (hts _ flX13_393) (fun _ h9 => h9) rfl dX13_readSum_42 ?_
  refine lv_iadd hx hb dX13_readSum_45 ?_
  refine va_iast (f := q2.2 35) hx hb hK hP hD hS 24 0 rfl rfl (ck_in hf) dX13_readSum_46 (fun H locs hP hD hS => ?_)
  have hf := ck_2 hf
  obtain ⟨hP, hD⟩ := st13_35 hP hD
  obtain rfl := Option.some.inj hf
  exact k_vret hx hb hr hlocks hK hP hD hS dX13_readSum_47
def f_X13_readSum  (i0 : Nat → Int32) (r0 : Nat → Nat → Int32) (l0 : Nat → Nat → Int64) (x1 : Int32) (x2 : Int32) : Option (((Nat → Int32) × (Nat → Nat → Int32)) ⊕ ((Nat → Int32) × (Nat → Nat → Int32))) := ck (inb x1 480) (f_X13_readSum_29 l0 (upd (upd (upd i0 53 x2) 54 0) 55 0) (va_up r0 34 (upd (r0 34) x1.toNatClampNeg (1000 + (i0 49)))) x1)
set_option maxRecDepth 100000 in
set_option maxHeartbeats 4000000 in
theorem e_X13_readSum {p : Program} {l : Launch} {e : Env} {s : State} {m : MethodId} {args : Array Value} {below : List Frame} {meth : Method} {c : Code} {A : Nat → Prop} {D : va_G} {cs zs : Nat → Nat} {h0 : Nat} {a0 : Nat → Nat} {i0 : Nat → Int32} {r0 : Nat → Nat → Int32} {l0 : Nat → Nat → Int64} {x1 : Int32} {x2 : Int32} {q : ((Nat → Int32) × (Nat → Nat → Int32)) ⊕ ((Nat → Int32) × (Nat → Nat → Int32))} (C : Cx p s m args meth c A D cs zs cX13_readSum 3 none RX13) (hne : NoH c)  : ∀ (H : Heap) (locs : List Loc) (ls : Array Slot), f_X13_readSum i0 r0 l0 x1 x2 = some q → va_P D vwCl (W13 cs h0 a0 i0 r0 l0) H → va_D A (W13 cs h0 a0 i0 r0 l0) → va_S A s.heap H locs → lv_has ls 3 [(0, .ref h0), (1, .int x1), (2, .int x2)] → W p l e rmX13_readSum s m args below meth c H locs 0 0 (Sum.elim (fun q => MQ below (Qv D cs A (W13 cs h0 a0 q.1 q.2 l0)) args s 0 0 A) (fun t => MQT below D cs A (a0 0) (W13 cs h0 a0 t.1 t.2 l0) args s) q) (F0 m 0 ls []) := by
  obtain ⟨hx, hb, hr, hml, hown, hts, hK, hA, hlocks, hZ⟩ := id C
  intro H locs ls hf hP hD hS hl
  rw [f_X13_readSum] at hf
  refine lv_aload_n hx hb dX13_readSum_0 rfl (lv_at hl 0 rfl) ?_
  refine lv_iload_n hx hb dX13_readSum_1 rfl (lv_at hl 2 rfl) ?_
  refine va_put (D := D) (ci := 13) (v := .int x2) (ty := .int) (C := RX13) (T := TX13) (N := 87) hx hb hts hiX13 tyX13 tyX13_ok nmX13 hown hK hP hD hS 0 rfl rfl 53 (by decide) (hts _ flX13_408) (fun _ h9 => h9) rfl (tyX13_ok 53 (by decide)) rfl rfl (Nat.le_of_ble_eq_true rfl) dX13_readSum_2 (fun H locs hP hD hS => ?_)
  obtain ⟨hP, hD⟩ := st13_53 hP hD
  refine lv_aload_n hx hb dX13_readSum_5 rfl (lv_at hl 0 rfl) ?_
  refine lv_iconst (v := 0) hx hb dX13_readSum_6 (by decide) ?_
  refine va_put (D := D) (ci := 13) (v := .int 0) (ty := .int) (C := RX13) (T := TX13) (N := 87) hx hb hts hiX13 tyX13 tyX13_ok nmX13 hown hK hP hD hS 0 rfl rfl 54 (by decide) (hts _ flX13_402) (fun _ h9 => h9) rfl (tyX13_ok 54 (by decide)) rfl rfl (Nat.le_of_ble_eq_true rfl) dX13_readSum_7 (fun H locs hP hD hS => ?_)
  obtain ⟨hP, hD⟩ := st13_54 hP hD
  refine lv_aload_n hx hb dX13_readSum_10 rfl (lv_at hl 0 rfl) ?_
  refine lv_iconst (v := 0) hx hb dX13_readSum_11 (by decide) ?_
  refine va_put (D := D) (ci := 13) (v := .int 0) (ty := .int) (C := RX13) (T := TX13) (N := 87) hx hb hts hiX13 tyX13 tyX13_ok nmX13 hown hK hP hD hS 0 rfl rfl 55 (by decide) (hts _ flX13_396) (fun _ h9 => h9) rfl (tyX13_ok 55 (by decide)) rfl rfl (Nat.le_of_ble_eq_true rfl) dX13_readSum_12 (fun H locs hP hD hS => ?_)
  obtain ⟨hP, hD⟩ := st13_55 hP hD
  refine lv_aload_n hx hb dX13_readSum_15 rfl (lv_at hl 0 rfl) ?_
  refine va_get (D := D) (ci := 13) (v := .ref (a0 34)) (C := RX13) (T := TX13) (N := 87) hx hb hts hiX13 hown hK hP 0 rfl rfl 34 (by decide) (hts _ flX13_191) (fun _ h9 => h9) rfl dX13_readSum_16 ?_
  refine lv_iload_n hx hb dX13_readSum_19 rfl (lv_at hl 1 rfl) ?_
  refine lv_sipush (v := 1000) hx hb dX13_readSum_20 (by decide) ?_
  refine lv_aload_n hx hb dX13_readSum_23 rfl (lv_at hl 0 rfl) ?_
  refine va_get (D := D) (ci := 13) (v := .int (i0 49)) (C := RX13) (T := TX13) (N := 87) hx hb hts hiX13 hown hK hP 0 rfl rfl 49 (by decide) (hts _ flX13_393) (fun _ h9 => h9) rfl dX13_readSum_24 ?_
  refine lv_iadd hx hb dX13_readSum_27 ?_
  refine va_iast (f := r0 34) hx hb hK hP hD hS 23 0 rfl rfl (ck_in hf) dX13_readSum_28 (fun H locs hP hD hS => ?_)
  have hf := ck_2 hf
  obtain ⟨hP, hD⟩ := st13_34 hP hD
  exact w_X13_readSum_29 C hne  _ _ _ _ _ _ hf hP hD hS (lv_sub hl [0, 1] rfl)
theorem c_X13_readSum {l : Launch} {D : va_G} {cs zs : Nat → Nat} {h0 : Nat} {a0 : Nat → Nat} {i0 : Nat → Int32} {r0 : Nat → Nat → Int32} {l0 : Nat → Nat → Int64} {x1 : Int32} {x2 : Int32} {q : (Nat → Int32) × (Nat → Nat → Int32)} (hf : f_X13_readSum i0 r0 l0 x1 x2 = some (.inl q)) : Mv l yX13_readSum wlX13_readSum rmX13_readSum D cs zs [.ref h0, .int x1, .int x2] (W13 cs h0 a0 i0 r0 l0) (W13 cs h0 a0 q.1 q.2 l0) := by
  refine Mv.ofT RX13 (by decide) rfl (Nat.le_of_ble_eq_true rfl) (fun p e s m below meth c A C hne hP hD hS ls hl => ?_)
  generalize ([.ref h0, .int x1, .int x2] : List Value).toArray = args at C ⊢
  exact e_X13_readSum (q := .inl q) C hne _ _ _ hf hP hD hS hl
theorem t_X13_readSum {l : Launch} {D : va_G} {cs zs : Nat → Nat} {h0 : Nat} {a0 : Nat → Nat} {i0 : Nat → Int32} {r0 : Nat → Nat → Int32} {l0 : Nat → Nat → Int64} {x1 : Int32} {x2 : Int32} {t : (Nat → Int32) × (Nat → Nat → Int32)} (hf : f_X13_readSum i0 r0 l0 x1 x2 = some (.inr t)) : MT l yX13_readSum wlX13_readSum rmX13_readSum D cs zs [.ref h0, .int x1, .int x2] (W13 cs h0 a0 i0 r0 l0) (a0 0) (W13 cs h0 a0 t.1 t.2 l0) := by
  refine MT.of RX13 (by decide) rfl (Nat.le_of_ble_eq_true rfl) (fun p e s m below meth c A C hne hP hD hS ls hl => ?_)
  generalize ([.ref h0, .int x1, .int x2] : List Value).toArray = args at C ⊢
  exact e_X13_readSum (q := .inr t) C hne _ _ _ hf hP hD hS hl
/-! MarbleFloorModel.readTest(II)V -/
abbrev wlX13_readTest : List Cond := Cond.code yX13_readTest cX13_readTest 4 none :: tbG
abbrev rmX13_readTest : Room := { frames := 33, cells := 0, slots := 0, locals := 696 }
theorem qnX13_readTest : yX13_readTest.cls = RX13 ∧ yX13_readTest.cls ≠ "java/lang/invoke/MethodHandle" ∧ yX13_readTest.cls ≠ "java/lang/invoke/VarHandle" ∧ (parseMethodDescriptor yX13_readTest.desc).map (fun d => d.parameters.length) = some 2 := by decide +kernel
def f_X13_readTest_56 (l0 : Nat → Nat → Int64)  (i0 : Nat → Int32) (r0 : Nat → Nat → Int32) (x1 : Int32) (x2 : Int32) (x3 : Int32) (y0 : Int32) : Option (((Nat → Int32) × (Nat → Nat → Int32)) ⊕ ((Nat → Int32) × (Nat → Nat → Int32))) := bt (f_X13_need i0 r0 l0 y0 1) (fun q9 => ck (inb ((2 * x1) + x2) 240) (bd (f_X13_scan q9 (va_up r0 36 (upd (r0 36) ((2 * x1) + x2).toNatClampNeg (q9 7))) l0) (fun q10 => bt (f_X13_readSum q10 (va_up r0 36 (upd (r0 36) ((2 * x1) + x2).toNatClampNeg (q9 7))) l0 (x3 + 1) 0) (fun q11 => some (.inl (q11.1, q11.2))) (fun t11 => some (.inr (t11.1, t11.2)))))) (fun t9 => some (.inr (t9, r0)))
set_option maxRecDepth 100000 in
set_option maxHeartbeats 4000000 in
theorem w_X13_readTest_56 {p : Program} {l : Launch} {e : Env} {s : State} {m : MethodId} {args : Array Value} {below : List Frame} {meth : Method} {c : Code} {A : Nat → Prop} {D : va_G} {cs zs : Nat → Nat} {h0 : Nat} {a0 : Nat → Nat} {l0 : Nat → Nat → Int64} {q : ((Nat → Int32) × (Nat → Nat → Int32)) ⊕ ((Nat → Int32) × (Nat → Nat → Int32))} (C : Cx p s m args meth c A D cs zs cX13_readTest 4 none RX13) (hne : NoH c)  : ∀ (i0 : Nat → Int32) (r0 : Nat → Nat → Int32) (x1 : Int32) (x2 : Int32) (x3 : Int32) (y0 : Int32) (H : Heap) (locs : List Loc) (ls : Array Slot), f_X13_readTest_56 l0 i0 r0 x1 x2 x3 y0 = some q → va_P D vwCl (W13 cs h0 a0 i0 r0 l0) H → va_D A (W13 cs h0 a0 i0 r0 l0) → va_S A s.heap H locs → lv_has ls 4 [(0, .ref h0), (1, .int x1), (2, .int x2), (3, .int x3)] → W p l e rmX13_readTest s m args below meth c H locs 0 0 (Sum.elim (fun q => MQ below (Qv D cs A (W13 cs h0 a0 q.1 q.2 l0)) args s 0 0 A) (fun t => MQT below D cs A (a0 0) (W13 cs h0 a0 t.1 t.2 l0) args s) q) (F0 m 56 ls [.int y0, .ref h0]) := by
  obtain ⟨hx, hb, hr, hml, hown, hts, hK, hA, hlocks, hZ⟩ := id C
  intro i0 r0 x1 x2 x3 y0 H locs ls hf hP hD hS hl
  rw [f_X13_readTest_56] at hf
  refine lv_iconst (v := 1) hx hb dX13_readTest_56 (by decide) ?_
  rcases (bt_s hf).symm with ⟨t9, hq9, hf⟩ | ⟨q9, hq9, hf⟩
  · obtain rfl := Option.some.inj hf
    exact k_sVt (ws2 := W13 cs h0 a0 t9 r0 l0) (As := [.int y0, .int 1]) (rest := []) hx hb hml hown hts hK hA hZ hl.1 hP hD hS (t_X13_need (h0 := h0) (a0 := a0) hq9) (gVt mlX13_60 imX13_need seX13_need inX13 coX13_need) rfl qnX13_need rfl rfl ⟨Nat.le_of_ble_eq_true rfl, Nat.le_of_ble_eq_true rfl⟩ 0 13 rfl rfl rfl rfl rfl (Nat.le_of_ble_eq_true rfl) dX13_readTest_57 hlocks hne
  refine k_sVv (ws2 := W13 cs h0 a0 q9 r0 l0) (As := [.int y0, .int 1]) (rest := []) hx hb hml hown hts hK hA hZ hl.1 hP hD hS (c_X13_need (h0 := h0) (a0 := a0) hq9) (gVt mlX13_60 imX13_need seX13_need inX13 coX13_need) rfl qnX13_need rfl rfl ⟨Nat.le_of_ble_eq_true rfl, Nat.le_of_ble_eq_true rfl⟩ 0 13 rfl rfl rfl rfl rfl (Nat.le_of_ble_eq_true rfl) ⟨Nat.zero_le _, Nat.zero_le _⟩ dX13_readTest_57 (fun H locs hP hD hS => ?_)
  refine lv_aload_n hx hb dX13_readTest_60 rfl (lv_at hl 0 rfl) ?_
  refine va_get (D := D) (ci := 13) (v := .ref (a0 36)) (C := RX13) (T := TX13) (N := 87) hx hb hts hiX13 hown hK hP 0 rfl rfl 36 (by decide) (hts _ flX13_197) (fun _ h9 => h9) rfl dX13_readTest_61 ?_
  refine lv_iconst (v := 2) hx hb dX13_readTest_64 (by decide) ?_
  refine lv_iload_n hx hb dX13_readTest_65 rfl (lv_at hl 1 rfl) ?_
  refine lv_imul hx hb dX13_readTest_66 ?_
  refine lv_iload_n hx hb dX13_readTest_67 rfl (lv_at hl 2 rfl) ?_
  refine lv_iadd hx hb dX13_readTest_68 ?_
  refine lv_aload_n hx hb dX13_readTest_69 rfl (lv_at hl 0 rfl) ?_
  refine va_get (D := D) (ci := 13) (v := .int (q9 7)) (C := RX13) (T := TX13) (N := 87) hx hb hts hiX13 hown hK hP 0 rfl rfl 7 (by decide) (hts _ flX13_41) (fun _ h9 => h9) rfl dX13_readTest_70 ?_
  refine va_iast (f := r0 36) hx hb hK hP hD hS 25 0 rfl rfl (ck_in hf) dX13_readTest_73 (fun H locs hP hD hS => ?_)
  have hf := ck_2 hf
  obtain ⟨hP, hD⟩ := st13_36 hP hD
  refine lv_aload_n hx hb dX13_readTest_74 rfl (lv_at hl 0 rfl) ?_
  obtain ⟨q10, hq10, hf⟩ := bd_s hf
  refine k_sVv (ws2 := W13 cs h0 a0 q10 (va_up r0 36 (upd (r0 36) ((2 * x1) + x2).toNatClampNeg (q9 7))) l0) (As := []) (rest := []) hx hb hml hown hts hK hA hZ hl.1 hP hD hS (c_X13_scan (h0 := h0) (a0 := a0) hq10) (gVt mlX13_72 imX13_scan seX13_scan inX13 coX13_scan) rfl qnX13_scan rfl rfl ⟨Nat.le_of_ble_eq_true rfl, Nat.le_of_ble_eq_true rfl⟩ 0 13 rfl rfl rfl rfl rfl (Nat.le_of_ble_eq_true rfl) ⟨Nat.zero_le _, Nat.zero_le _⟩ dX13_readTest_75 (fun H locs hP hD hS => ?_)
  refine lv_aload_n hx hb dX13_readTest_78 rfl (lv_at hl 0 rfl) ?_
  refine lv_iload_n hx hb dX13_readTest_79 rfl (lv_at hl 3 rfl) ?_
  refine lv_iconst (v := 1) hx hb dX13_readTest_80 (by decide) ?_
  refine lv_iadd hx hb dX13_readTest_81 ?_
  refine lv_iconst (v := 0) hx hb dX13_readTest_82 (by decide) ?_
  rcases (bt_s hf).symm with ⟨t11, hq11, hf⟩ | ⟨q11, hq11, hf⟩
  · obtain rfl := Option.some.inj hf
    exact k_sVt (ws2 := W13 cs h0 a0 t11.1 t11.2 l0) (As := [.int (x3 + 1), .int 0]) (rest := []) hx hb hml hown hts hK hA hZ hl.1 hP hD hS (t_X13_readSum (h0 := h0) (a0 := a0) hq11) (gVt mlX13_420 imX13_readSum seX13_readSum inX13 coX13_readSum) rfl qnX13_readSum rfl rfl ⟨Nat.le_of_ble_eq_true rfl, Nat.le_of_ble_eq_true rfl⟩ 0 13 rfl rfl rfl rfl rfl (Nat.le_of_ble_eq_true rfl) dX13_readTest_83 hlocks hne
  refine k_sVv (ws2 := W13 cs h0 a0 q11.1 q11.2 l0) (As := [.int (x3 + 1), .int 0]) (rest := []) hx hb hml hown hts hK hA hZ hl.1 hP hD hS (c_X13_readSum (h0 := h0) (a0 := a0) hq11) (gVt mlX13_420 imX13_readSum seX13_readSum inX13 coX13_readSum) rfl qnX13_readSum rfl rfl ⟨Nat.le_of_ble_eq_true rfl, Nat.le_of_ble_eq_true rfl⟩ 0 13 rfl rfl rfl rfl rfl (Nat.le_of_ble_eq_true rfl) ⟨Nat.zero_le _, Nat.zero_le _⟩ dX13_readTest_83 (fun H locs hP hD hS => ?_)
  obtain rfl := Option.some.inj hf
  exact k_vret hx hb hr hlocks hK hP hD hS dX13_readTest_86
def f_X13_readTest_51 (l0 : Nat → Nat → Int64)  (i0 : Nat → Int32) (r0 : Nat → Nat → Int32) (x1 : Int32) (x2 : Int32) (x3 : Int32) : Option (((Nat → Int32) × (Nat → Nat → Int32)) ⊕ ((Nat → Int32) × (Nat → Nat → Int32))) := f_X13_readTest_56 l0 i0 r0 x1 x2 x3 1
set_option maxRecDepth 100000 in
set_option maxHeartbeats 4000000 in
theorem w_X13_readTest_51 {p : Program} {l : Launch} {e : Env} {s : State} {m : MethodId} {args : Array Value} {below : List Frame} {meth : Method} {c : Code} {A : Nat → Prop} {D : va_G} {cs zs : Nat → Nat} {h0 : Nat} {a0 : Nat → Nat} {l0 : Nat → Nat → Int64} {q : ((Nat → Int32) × (Nat → Nat → Int32)) ⊕ ((Nat → Int32) × (Nat → Nat → Int32))} (C : Cx p s m args meth c A D cs zs cX13_readTest 4 none RX13) (hne : NoH c)  : ∀ (i0 : Nat → Int32) (r0 : Nat → Nat → Int32) (x1 : Int32) (x2 : Int32) (x3 : Int32) (H : Heap) (locs : List Loc) (ls : Array Slot), f_X13_readTest_51 l0 i0 r0 x1 x2 x3 = some q → va_P D vwCl (W13 cs h0 a0 i0 r0 l0) H → va_D A (W13 cs h0 a0 i0 r0 l0) → va_S A s.heap H locs → lv_has ls 4 [(0, .ref h0), (1, .int x1), (2, .int x2), (3, .int x3)] → W p l e rmX13_readTest s m args below meth c H locs 0 0 (Sum.elim (fun q => MQ below (Qv D cs A (W13 cs h0 a0 q.1 q.2 l0)) args s 0 0 A) (fun t => MQT below D cs A (a0 0) (W13 cs h0 a0 t.1 t.2 l0) args s) q) (F0 m 51 ls [.ref h0]) := by
  obtain ⟨hx, hb, hr, hml, hown, hts, hK, hA, hlocks, hZ⟩ := id C
  intro i0 r0 x1 x2 x3 H locs ls hf hP hD hS hl
  rw [f_X13_readTest_51] at hf
  refine lv_iconst (v := 1) hx hb dX13_readTest_51 (by decide) ?_
  refine lv_goto (tgt := 56) hx hb dX13_readTest_52 (by decide) ?_
  exact w_X13_readTest_56 C hne  _ _ _ _ _ _ _ _ _ hf hP hD hS (lv_sub hl [0, 1, 2, 3] rfl)
def f_X13_readTest  (i0 : Nat → Int32) (r0 : Nat → Nat → Int32) (l0 : Nat → Nat → Int64) (x1 : Int32) (x2 : Int32) : Option (((Nat → Int32) × (Nat → Nat → Int32)) ⊕ ((Nat → Int32) × (Nat → Nat → Int32))) := bt (f_X13_readSum i0 r0 l0 ((4 * x1) + (2 * x2)) 0) (fun q12 => bd (f_X13_isSign q12.1 q12.2 l0 61) (fun q13 => if q13 = 0 then (bd (f_X13_isSign q12.1 q12.2 l0 60) (fun q14 => if q14 = 0 then (bd (f_X13_isSign q12.1 q12.2 l0 62) (fun q15 => if q15 = 0 then (bd (f_X13_isSign q12.1 q12.2 l0 33) (fun q16 => if q16 = 0 then (f_X13_readTest_56 l0 q12.1 q12.2 x1 x2 ((4 * x1) + (2 * x2)) 0) else (f_X13_readTest_51 l0 q12.1 q12.2 x1 x2 ((4 * x1) + (2 * x2))))) else (f_X13_readTest_51 l0 q12.1 q12.2 x1 x2 ((4 * x1) + (2 * x2))))) else (f_X13_readTest_51 l0 q12.1 q12.2 x1 x2 ((4 * x1) + (2 * x2))))) else (f_X13_readTest_51 l0 q12.1 q12.2 x1 x2 ((4 * x1) + (2 * x2))))) (fun t12 => some (.inr (t12.1, t12.2)))
set_option maxRecDepth 100000 in
set_option maxHeartbeats 4000000 in
theorem e_X13_readTest {p : Program} {l : Launch} {e : Env} {s : State} {m : MethodId} {args : Array Value} {below : List Frame} {meth : Method} {c : Code} {A : Nat → Prop} {D : va_G} {cs zs : Nat → Nat} {h0 : Nat} {a0 : Nat → Nat} {i0 : Nat → Int32} {r0 : Nat → Nat → Int32} {l0 : Nat → Nat → Int64} {x1 : Int32} {x2 : Int32} {q : ((Nat → Int32) × (Nat → Nat → Int32)) ⊕ ((Nat → Int32) × (Nat → Nat → Int32))} (C : Cx p s m args meth c A D cs zs cX13_readTest 4 none RX13) (hne : NoH c)  : ∀ (H : Heap) (locs : List Loc) (ls : Array Slot), f_X13_readTest i0 r0 l0 x1 x2 = some q → va_P D vwCl (W13 cs h0 a0 i0 r0 l0) H → va_D A (W13 cs h0 a0 i0 r0 l0) → va_S A s.heap H locs → lv_has ls 4 [(0, .ref h0), (1, .int x1), (2, .int x2)] → W p l e rmX13_readTest s m args below meth c H locs 0 0 (Sum.elim (fun q => MQ below (Qv D cs A (W13 cs h0 a0 q.1 q.2 l0)) args s 0 0 A) (fun t => MQT below D cs A (a0 0) (W13 cs h0 a0 t.1 t.2 l0) args s) q) (F0 m 0 ls []) := by
  obtain ⟨hx, hb, hr, hml, hown, hts, hK, hA, hlocks, hZ⟩ := id C
  intro H locs ls hf hP hD hS hl
  rw [f_X13_readTest] at hf
  refine lv_iconst (v := 4) hx hb dX13_readTest_0 (by decide) ?_
  refine lv_iload_n hx hb dX13_readTest_1 rfl (lv_at hl 1 rfl) ?_
  refine lv_imul hx hb dX13_readTest_2 ?_
  refine lv_iconst (v := 2) hx hb dX13_readTest_3 (by decide) ?_
  refine lv_iload_n hx hb dX13_readTest_4 rfl (lv_at hl 2 rfl) ?_
  refine lv_imul hx hb dX13_readTest_5 ?_
  refine lv_iadd hx hb dX13_readTest_6 ?_
  refine lv_istore_n (lv' := [(3, .int ((4 * x1) + (2 * x2))), (0, .ref h0), (1, .int x1), (2, .int x2)]) hx hb dX13_readTest_7 rfl hl (by decide) rfl (fun ls hl => ?_)
  refine lv_aload_n hx hb dX13_readTest_8 rfl (lv_at hl 1 rfl) ?_
  refine lv_iload_n hx hb dX13_readTest_9 rfl (lv_at hl 0 rfl) ?_
  refine lv_iconst (v := 0) hx hb dX13_readTest_10 (by decide) ?_
  rcases (bt_s hf).symm with ⟨t12, hq12, hf⟩ | ⟨q12, hq12, hf⟩
  · obtain rfl := Option.some.inj hf
    exact k_sVt (ws2 := W13 cs h0 a0 t12.1 t12.2 l0) (As := [.int ((4 * x1) + (2 * x2)), .int 0]) (rest := []) hx hb hml hown hts hK hA hZ hl.1 hP hD hS (t_X13_readSum (h0 := h0) (a0 := a0) hq12) (gVt mlX13_420 imX13_readSum seX13_readSum inX13 coX13_readSum) rfl qnX13_readSum rfl rfl ⟨Nat.le_of_ble_eq_true rfl, Nat.le_of_ble_eq_true rfl⟩ 0 13 rfl rfl rfl rfl rfl (Nat.le_of_ble_eq_true rfl) dX13_readTest_11 hlocks hne
  refine k_sVv (ws2 := W13 cs h0 a0 q12.1 q12.2 l0) (As := [.int ((4 * x1) + (2 * x2)), .int 0]) (rest := []) hx hb hml hown hts hK hA hZ hl.1 hP hD hS (c_X13_readSum (h0 := h0) (a0 := a0) hq12) (gVt mlX13_420 imX13_readSum seX13_readSum inX13 coX13_readSum) rfl qnX13_readSum rfl rfl ⟨Nat.le_of_ble_eq_true rfl, Nat.le_of_ble_eq_true rfl⟩ 0 13 rfl rfl rfl rfl rfl (Nat.le_of_ble_eq_true rfl) ⟨Nat.zero_le _, Nat.zero_le _⟩ dX13_readTest_11 (fun H locs hP hD hS => ?_)
  refine lv_aload_n hx hb dX13_readTest_14 rfl (lv_at hl 1 rfl) ?_
  refine lv_aload_n hx hb dX13_readTest_15 rfl (lv_at hl 1 rfl) ?_
  refine lv_bipush (v := 61) hx hb dX13_readTest_16 (by decide) ?_
  obtain ⟨q13, hq13, hf⟩ := bd_s hf
  refine k_sVi (ws2 := W13 cs h0 a0 q12.1 q12.2 l0) (As := [.int 61]) (rest := [.ref h0]) hx hb hml hown hts hK hA hZ hl.1 hP hD hS (c_X13_isSign (h0 := h0) (a0 := a0) hq13) (gVt mlX13_80 imX13_isSign seX13_isSign inX13 coX13_isSign) rfl qnX13_isSign rfl rfl ⟨Nat.le_of_ble_eq_true rfl, Nat.le_of_ble_eq_true rfl⟩ 0 13 rfl rfl rfl rfl rfl (Nat.le_of_ble_eq_true rfl) ⟨Nat.zero_le _, Nat.zero_le _⟩ dX13_readTest_18 (fun H locs hP hD hS => ?_)
  refine lv_if_ne (tgt := 51) hx hb dX13_readTest_21 (by decide) (fun hc => ?_) (fun hc => ?_)
  · have hf := ite_f hf hc
    exact w_X13_readTest_51 C hne  _ _ _ _ _ _ _ _ hf hP hD hS (lv_sub hl [1, 2, 3, 0] rfl)
  · have hf := ite_t hf hc
    refine lv_aload_n hx hb dX13_readTest_24 rfl (lv_at hl 1 rfl) ?_
    refine lv_bipush (v := 60) hx hb dX13_readTest_25 (by decide) ?_
    obtain ⟨q14, hq14, hf⟩ := bd_s hf
    refine k_sVi (ws2 := W13 cs h0 a0 q12.1 q12.2 l0) (As := [.int 60]) (rest := [.ref h0]) hx hb hml hown hts hK hA hZ hl.1 hP hD hS (c_X13_isSign (h0 := h0) (a0 := a0) hq14) (gVt mlX13_80 imX13_isSign seX13_isSign inX13 coX13_isSign) rfl qnX13_isSign rfl rfl ⟨Nat.le_of_ble_eq_true rfl, Nat.le_of_ble_eq_true rfl⟩ 0 13 rfl rfl rfl rfl rfl (Nat.le_of_ble_eq_true rfl) ⟨Nat.zero_le _, Nat.zero_le _⟩ dX13_readTest_27 (fun H locs hP hD hS => ?_)
    refine lv_if_ne (tgt := 51) hx hb dX13_readTest_30 (by decide) (fun hc => ?_) (fun hc => ?_)
    · have hf := ite_f hf hc
      exact w_X13_readTest_51 C hne  _ _ _ _ _ _ _ _ hf hP hD hS (lv_sub hl [1, 2, 3, 0] rfl)
    · have hf := ite_t hf hc
      refine lv_aload_n hx hb dX13_readTest_33 rfl (lv_at hl 1 rfl) ?_
      refine lv_bipush (v := 62) hx hb dX13_readTest_34 (by decide) ?_
      obtain ⟨q15, hq15, hf⟩ := bd_s hf
      refine k_sVi (ws2 := W13 cs h0 a0 q12.1 q12.2 l0) (As := [.int 62]) (rest := [.ref h0]) hx hb hml hown hts hK hA hZ hl.1 hP hD hS (c_X13_isSign (h0 := h0) (a0 := a0) hq15) (gVt mlX13_80 imX13_isSign seX13_isSign inX13 coX13_isSign) rfl qnX13_isSign rfl rfl ⟨Nat.le_of_ble_eq_true rfl, Nat.le_of_ble_eq_true rfl⟩ 0 13 rfl rfl rfl rfl rfl (Nat.le_of_ble_eq_true rfl) ⟨Nat.zero_le _, Nat.zero_le _⟩ dX13_readTest_36 (fun H locs hP hD hS => ?_)
      refine lv_if_ne (tgt := 51) hx hb dX13_readTest_39 (by decide) (fun hc => ?_) (fun hc => ?_)
      · have hf := ite_f hf hc
        exact w_X13_readTest_51 C hne  _ _ _ _ _ _ _ _ hf hP hD hS (lv_sub hl [1, 2, 3, 0] rfl)
      · have hf := ite_t hf hc
        refine lv_aload_n hx hb dX13_readTest_42 rfl (lv_at hl 1 rfl) ?_
        refine lv_bipush (v := 33) hx hb dX13_readTest_43 (by decide) ?_
        obtain ⟨q16, hq16, hf⟩ := bd_s hf
        refine k_sVi (ws2 := W13 cs h0 a0 q12.1 q12.2 l0) (As := [.int 33]) (rest := [.ref h0]) hx hb hml hown hts hK hA hZ hl.1 hP hD hS (c_X13_isSign (h0 := h0) (a0 := a0) hq16) (gVt mlX13_80 imX13_isSign seX13_isSign inX13 coX13_isSign) rfl qnX13_isSign rfl rfl ⟨Nat.le_of_ble_eq_true rfl, Nat.le_of_ble_eq_true rfl⟩ 0 13 rfl rfl rfl rfl rfl (Nat.le_of_ble_eq_true rfl) ⟨Nat.zero_le _, Nat.zero_le _⟩ dX13_readTest_45 (fun H locs hP hD hS => ?_)
        refine lv_if_eq (tgt := 55) hx hb dX13_readTest_48 (by decide) (fun hc => ?_) (fun hc => ?_)
        · have hf := ite_t hf hc
          refine lv_iconst (v := 0) hx hb dX13_readTest_55 (by decide) ?_
          exact w_X13_readTest_56 C hne  _ _ _ _ _ _ _ _ _ hf hP hD hS (lv_sub hl [1, 2, 3, 0] rfl)
        · have hf := ite_f hf hc
          exact w_X13_readTest_51 C hne  _ _ _ _ _ _ _ _ hf hP hD hS (lv_sub hl [1, 2, 3, 0] rfl)
theorem c_X13_readTest {l : Launch} {D : va_G} {cs zs : Nat → Nat} {h0 : Nat} {a0 : Nat → Nat} {i0 : Nat → Int32} {r0 : Nat → Nat → Int32} {l0 : Nat → Nat → Int64} {x1 : Int32} {x2 : Int32} {q : (Nat → Int32) × (Nat → Nat → Int32)} (hf : f_X13_readTest i0 r0 l0 x1 x2 = some (.inl q)) : Mv l yX13_readTest wlX13_readTest rmX13_readTest D cs zs [.ref h0, .int x1, .int x2] (W13 cs h0 a0 i0 r0 l0) (W13 cs h0 a0 q.1 q.2 l0) := by
  refine Mv.ofT RX13 (by decide) rfl (Nat.le_of_ble_eq_true rfl) (fun p e s m below meth c A C hne hP hD hS ls hl => ?_)
  generalize ([.ref h0, .int x1, .int x2] : List Value).toArray = args at C ⊢
  exact e_X13_readTest (q := .inl q) C hne _ _ _ hf hP hD hS hl
theorem t_X13_readTest {l : Launch} {D : va_G} {cs zs : Nat → Nat} {h0 : Nat} {a0 : Nat → Nat} {i0 : Nat → Int32} {r0 : Nat → Nat → Int32} {l0 : Nat → Nat → Int64} {x1 : Int32} {x2 : Int32} {t : (Nat → Int32) × (Nat → Nat → Int32)} (hf : f_X13_readTest i0 r0 l0 x1 x2 = some (.inr t)) : MT l yX13_readTest wlX13_readTest rmX13_readTest D cs zs [.ref h0, .int x1, .int x2] (W13 cs h0 a0 i0 r0 l0) (a0 0) (W13 cs h0 a0 t.1 t.2 l0) := by
  refine MT.of RX13 (by decide) rfl (Nat.le_of_ble_eq_true rfl) (fun p e s m below meth c A C hne hP hD hS ls hl => ?_)
  generalize ([.ref h0, .int x1, .int x2] : List Value).toArray = args at C ⊢
  exact e_X13_readTest (q := .inr t) C hne _ _ _ hf hP hD hS hl
/-! MarbleFloorModel.nameAtHand()J -/
abbrev wlX13_nameAtHand : List Cond := Cond.code yX13_nameAtHand cX13_nameAtHand 4 (some .long) :: tbG
abbrev rmX13_nameAtHand : Room := { frames := 7, cells := 0, slots := 0, locals := 148 }
theorem qnX13_nameAtHand : yX13_nameAtHand.cls = RX13 ∧ yX13_nameAtHand.cls ≠ "java/lang/invoke/MethodHandle" ∧ yX13_nameAtHand.cls ≠ "java/lang/invoke/VarHandle" ∧ (parseMethodDescriptor yX13_nameAtHand.desc).map (fun d => d.parameters.length) = some 0 := by decide +kernel
def f_X13_nameAtHand_55 (r0 : Nat → Nat → Int32) (l0 : Nat → Nat → Int64)  : Nat → (Nat → Int32) → Int64 → Int32 → Option ((Int64 × (Nat → Int32)) ⊕ ((Nat → Int32)))
  | 0, _, _, _ => none
  | n + 1, i0, x1, x3 => if (i0 5) ≤ x3 then (some (.inl (x1, i0))) else (ck (inb x3 900) (f_X13_nameAtHand_55 r0 l0 n i0 ((x1 <<< ((5 : Int32).toInt64 &&& 63)) ||| (((r0 1 x3.toNatClampNeg) - 96).toInt64)) (x3 + 1)))
set_option maxRecDepth 100000 in
set_option maxHeartbeats 4000000 in
theorem w_X13_nameAtHand_55 {p : Program} {l : Launch} {e : Env} {s : State} {m : MethodId} {args : Array Value} {below : List Frame} {meth : Method} {c : Code} {A : Nat → Prop} {D : va_G} {cs zs : Nat → Nat} {h0 : Nat} {a0 : Nat → Nat} {r0 : Nat → Nat → Int32} {l0 : Nat → Nat → Int64} {q : (Int64 × (Nat → Int32)) ⊕ ((Nat → Int32))} (C : Cx p s m args meth c A D cs zs cX13_nameAtHand 4 (some .long) RX13) (hne : NoH c)  : ∀ (n : Nat), ∀ (i0 : Nat → Int32) (x1 : Int64) (x3 : Int32) (H : Heap) (locs : List Loc) (ls : Array Slot), f_X13_nameAtHand_55 r0 l0 n i0 x1 x3 = some q → va_P D vwCl (W13 cs h0 a0 i0 r0 l0) H → va_D A (W13 cs h0 a0 i0 r0 l0) → va_S A s.heap H locs → lv_has ls 4 [(0, .ref h0), (1, .long x1), (3, .int x3)] → W p l e rmX13_nameAtHand s m args below meth c H locs 0 0 (Sum.elim (fun q => MQ below (Ql D cs A q.1 (W13 cs h0 a0 q.2 r0 l0)) args s 0 0 A) (fun t => MQT below D cs A (a0 0) (W13 cs h0 a0 t r0 l0) args s) q) (F0 m 55 ls []) := by
  obtain ⟨hx, hb, hr, hml, hown, hts, hK, hA, hlocks, hZ⟩ := id C
  intro n
  induction n with
  | zero =>
    intro i0 x1 x3 H locs ls hf
    rw [f_X13_nameAtHand_55] at hf
    cases hf
  | succ n ih =>
    intro i0 x1 x3 H locs ls hf hP hD hS hl
    rw [f_X13_nameAtHand_55] at hf
    refine lv_iload_n hx hb dX13_nameAtHand_55 rfl (lv_at hl 2 rfl) ?_
    refine lv_aload_n hx hb dX13_nameAtHand_56 rfl (lv_at hl 0 rfl) ?_
    refine va_get (D := D) (ci := 13) (v := .int (i0 5)) (C := RX13) (T := TX13) (N := 87) hx hb hts hiX13 hown hK hP 0 rfl rfl 5 (by decide) (hts _ flX13_24) (fun _ h9 => h9) rfl dX13_nameAtHand_57 ?_
    refine lv_icmp_ge (tgt := 84) hx hb dX13_nameAtHand_60 (by decide) (fun hc => ?_) (fun hc => ?_)
    · have hf := ite_t hf hc
      refine lv_lload_n hx hb dX13_nameAtHand_84 rfl (lv_at hl 1 rfl) ?_
      obtain rfl := Option.some.inj hf
      exact k_lret hx hb hr hlocks hK hP hD hS dX13_nameAtHand_85
    · have hf := ite_f hf hc
      refine lv_lload_n hx hb dX13_nameAtHand_63 rfl (lv_at hl 1 rfl) ?_
      refine lv_iconst (v := 5) hx hb dX13_nameAtHand_64 (by decide) ?_
      refine lv_lshl hx hb dX13_nameAtHand_65 rfl ?_
      refine lv_aload_n hx hb dX13_nameAtHand_66 rfl (lv_at hl 0 rfl) ?_
      refine va_get (D := D) (ci := 13) (v := .ref (a0 1)) (C := RX13) (T := TX13) (N := 87) hx hb hts hiX13 hown hK hP 0 rfl rfl 1 (by decide) (hts _ flX13_20) (fun _ h9 => h9) rfl dX13_nameAtHand_67 ?_
      refine lv_iload_n hx hb dX13_nameAtHand_70 rfl (lv_at hl 2 rfl) ?_
      refine va_bald (f := r0 1) hx hb hK hP 1 3 rfl rfl (ck_in hf) dX13_nameAtHand_71 ?_
      have hf := ck_2 hf
      refine lv_bipush (v := 96) hx hb dX13_nameAtHand_72 (by decide) ?_
      refine lv_isub hx hb dX13_nameAtHand_74 ?_
      refine lv_i2l hx hb dX13_nameAtHand_75 rfl ?_
      refine lv_lor hx hb dX13_nameAtHand_76 ?_
      refine lv_lstore_n (lv' := [(1, .long ((x1 <<< ((5 : Int32).toInt64 &&& 63)) ||| (((r0 1 x3.toNatClampNeg) - 96).toInt64))), (0, .ref h0), (3, .int x3)]) hx hb dX13_nameAtHand_77 rfl hl (by decide) rfl (fun ls hl => ?_)
      refine lv_iinc (v := x3 + 1) (lv' := [(3, .int (x3 + 1)), (1, .long ((x1 <<< ((5 : Int32).toInt64 &&& 63)) ||| (((r0 1 x3.toNatClampNeg) - 96).toInt64))), (0, .ref h0)]) hx hb dX13_nameAtHand_78 hl (k := 2) rfl rfl (by decide) rfl (fun ls hl => ?_)
      refine lv_goto (tgt := 55) hx hb dX13_nameAtHand_81 (by decide) ?_
      exact ih _ _ _ _ _ _ hf hP hD hS (lv_sub hl [2, 1, 0] rfl)
def f_X13_nameAtHand_44 (r0 : Nat → Nat → Int32) (l0 : Nat → Nat → Int64)  (i0 : Nat → Int32) (y0 : Int32) : Option ((Int64 × (Nat → Int32)) ⊕ ((Nat → Int32))) := bt (f_X13_need i0 r0 l0 y0 1) (fun q4 => f_X13_nameAtHand_55 r0 l0 2000000 q4 0 (q4 4)) (fun t4 => some (.inr (t4)))
set_option maxRecDepth 100000 in
set_option maxHeartbeats 4000000 in
theorem w_X13_nameAtHand_44 {p : Program} {l : Launch} {e : Env} {s : State} {m : MethodId} {args : Array Value} {below : List Frame} {meth : Method} {c : Code} {A : Nat → Prop} {D : va_G} {cs zs : Nat → Nat} {h0 : Nat} {a0 : Nat → Nat} {r0 : Nat → Nat → Int32} {l0 : Nat → Nat → Int64} {q : (Int64 × (Nat → Int32)) ⊕ ((Nat → Int32))} (C : Cx p s m args meth c A D cs zs cX13_nameAtHand 4 (some .long) RX13) (hne : NoH c)  : ∀ (i0 : Nat → Int32) (y0 : Int32) (H : Heap) (locs : List Loc) (ls : Array Slot), f_X13_nameAtHand_44 r0 l0 i0 y0 = some q → va_P D vwCl (W13 cs h0 a0 i0 r0 l0) H → va_D A (W13 cs h0 a0 i0 r0 l0) → va_S A s.heap H locs → lv_has ls 4 [(0, .ref h0)] → W p l e rmX13_nameAtHand s m args below meth c H locs 0 0 (Sum.elim (fun q => MQ below (Ql D cs A q.1 (W13 cs h0 a0 q.2 r0 l0)) args s 0 0 A) (fun t => MQT below D cs A (a0 0) (W13 cs h0 a0 t r0 l0) args s) q) (F0 m 44 ls [.int y0, .ref h0]) := by
  obtain ⟨hx, hb, hr, hml, hown, hts, hK, hA, hlocks, hZ⟩ := id C
  intro i0 y0 H locs ls hf hP hD hS hl
  rw [f_X13_nameAtHand_44] at hf
  refine lv_iconst (v := 1) hx hb dX13_nameAtHand_44 (by decide) ?_
  rcases (bt_s hf).symm with ⟨t4, hq4, hf⟩ | ⟨q4, hq4, hf⟩
  · obtain rfl := Option.some.inj hf
    exact k_sVt (ws2 := W13 cs h0 a0 t4 r0 l0) (As := [.int y0, .int 1]) (rest := []) hx hb hml hown hts hK hA hZ hl.1 hP hD hS (t_X13_need (h0 := h0) (a0 := a0) hq4) (gVt mlX13_60 imX13_need seX13_need inX13 coX13_need) rfl qnX13_need rfl rfl ⟨Nat.le_of_ble_eq_true rfl, Nat.le_of_ble_eq_true rfl⟩ 0 13 rfl rfl rfl rfl rfl (Nat.le_of_ble_eq_true rfl) dX13_nameAtHand_45 hlocks hne
  refine k_sVv (ws2 := W13 cs h0 a0 q4 r0 l0) (As := [.int y0, .int 1]) (rest := []) hx hb hml hown hts hK hA hZ hl.1 hP hD hS (c_X13_need (h0 := h0) (a0 := a0) hq4) (gVt mlX13_60 imX13_need seX13_need inX13 coX13_need) rfl qnX13_need rfl rfl ⟨Nat.le_of_ble_eq_true rfl, Nat.le_of_ble_eq_true rfl⟩ 0 13 rfl rfl rfl rfl rfl (Nat.le_of_ble_eq_true rfl) ⟨Nat.zero_le _, Nat.zero_le _⟩ dX13_nameAtHand_45 (fun H locs hP hD hS => ?_)
  refine lv_lconst (v := 0) hx hb dX13_nameAtHand_48 (by decide) ?_
  refine lv_lstore_n (lv' := [(1, .long 0), (0, .ref h0)]) hx hb dX13_nameAtHand_49 rfl hl (by decide) rfl (fun ls hl => ?_)
  refine lv_aload_n hx hb dX13_nameAtHand_50 rfl (lv_at hl 1 rfl) ?_
  refine va_get (D := D) (ci := 13) (v := .int (q4 4)) (C := RX13) (T := TX13) (N := 87) hx hb hts hiX13 hown hK hP 0 rfl rfl 4 (by decide) (hts _ flX13_7) (fun _ h9 => h9) rfl dX13_nameAtHand_51 ?_
  refine lv_istore_n (lv' := [(3, .int (q4 4)), (1, .long 0), (0, .ref h0)]) hx hb dX13_nameAtHand_54 rfl hl (by decide) rfl (fun ls hl => ?_)
  exact w_X13_nameAtHand_55 C hne  2000000 _ _ _ _ _ _ hf hP hD hS (lv_sub hl [2, 1, 0] rfl)
def f_X13_nameAtHand_27 (r0 : Nat → Nat → Int32) (l0 : Nat → Nat → Int64)  (i0 : Nat → Int32) (y0 : Int32) : Option ((Int64 × (Nat → Int32)) ⊕ ((Nat → Int32))) := bt (f_X13_need i0 r0 l0 y0 1) (fun q5 => bd (f_X13_isHeld q5 r0 l0) (fun q6 => if q6 = 0 then (f_X13_nameAtHand_44 r0 l0 q5 1) else (f_X13_nameAtHand_44 r0 l0 q5 0))) (fun t5 => some (.inr (t5)))
set_option maxRecDepth 100000 in
set_option maxHeartbeats 4000000 in
theorem w_X13_nameAtHand_27 {p : Program} {l : Launch} {e : Env} {s : State} {m : MethodId} {args : Array Value} {below : List Frame} {meth : Method} {c : Code} {A : Nat → Prop} {D : va_G} {cs zs : Nat → Nat} {h0 : Nat} {a0 : Nat → Nat} {r0 : Nat → Nat → Int32} {l0 : Nat → Nat → Int64} {q : (Int64 × (Nat → Int32)) ⊕ ((Nat → Int32))} (C : Cx p s m args meth c A D cs zs cX13_nameAtHand 4 (some .long) RX13) (hne : NoH c)  : ∀ (i0 : Nat → Int32) (y0 : Int32) (H : Heap) (locs : List Loc) (ls : Array Slot), f_X13_nameAtHand_27 r0 l0 i0 y0 = some q → va_P D vwCl (W13 cs h0 a0 i0 r0 l0) H → va_D A (W13 cs h0 a0 i0 r0 l0) → va_S A s.heap H locs → lv_has ls 4 [(0, .ref h0)] → W p l e rmX13_nameAtHand s m args below meth c H locs 0 0 (Sum.elim (fun q => MQ below (Ql D cs A q.1 (W13 cs h0 a0 q.2 r0 l0)) args s 0 0 A) (fun t => MQT below D cs A (a0 0) (W13 cs h0 a0 t r0 l0) args s) q) (F0 m 27 ls [.int y0, .ref h0]) := by
  obtain ⟨hx, hb, hr, hml, hown, hts, hK, hA, hlocks, hZ⟩ := id C
  intro i0 y0 H locs ls hf hP hD hS hl
  rw [f_X13_nameAtHand_27] at hf
  refine lv_iconst (v := 1) hx hb dX13_nameAtHand_27 (by decide) ?_
  rcases (bt_s hf).symm with ⟨t5, hq5, hf⟩ | ⟨q5, hq5, hf⟩
  · obtain rfl := Option.some.inj hf
    exact k_sVt (ws2 := W13 cs h0 a0 t5 r0 l0) (As := [.int y0, .int 1]) (rest := []) hx hb hml hown hts hK hA hZ hl.1 hP hD hS (t_X13_need (h0 := h0) (a0 := a0) hq5) (gVt mlX13_60 imX13_need seX13_need inX13 coX13_need) rfl qnX13_need rfl rfl ⟨Nat.le_of_ble_eq_true rfl, Nat.le_of_ble_eq_true rfl⟩ 0 13 rfl rfl rfl rfl rfl (Nat.le_of_ble_eq_true rfl) dX13_nameAtHand_28 hlocks hne
  refine k_sVv (ws2 := W13 cs h0 a0 q5 r0 l0) (As := [.int y0, .int 1]) (rest := []) hx hb hml hown hts hK hA hZ hl.1 hP hD hS (c_X13_need (h0 := h0) (a0 := a0) hq5) (gVt mlX13_60 imX13_need seX13_need inX13 coX13_need) rfl qnX13_need rfl rfl ⟨Nat.le_of_ble_eq_true rfl, Nat.le_of_ble_eq_true rfl⟩ 0 13 rfl rfl rfl rfl rfl (Nat.le_of_ble_eq_true rfl) ⟨Nat.zero_le _, Nat.zero_le _⟩ dX13_nameAtHand_28 (fun H locs hP hD hS => ?_)
  refine lv_aload_n hx hb dX13_nameAtHand_31 rfl (lv_at hl 0 rfl) ?_
  refine lv_aload_n hx hb dX13_nameAtHand_32 rfl (lv_at hl 0 rfl) ?_
  obtain ⟨q6, hq6, hf⟩ := bd_s hf
  refine k_sVi (ws2 := W13 cs h0 a0 q5 r0 l0) (As := []) (rest := [.ref h0]) hx hb hml hown hts hK hA hZ hl.1 hP hD hS (c_X13_isHeld (h0 := h0) (a0 := a0) hq6) (gVt mlX13_443 imX13_isHeld seX13_isHeld inX13 coX13_isHeld) rfl qnX13_isHeld rfl rfl ⟨Nat.le_of_ble_eq_true rfl, Nat.le_of_ble_eq_true rfl⟩ 0 13 rfl rfl rfl rfl rfl (Nat.le_of_ble_eq_true rfl) ⟨Nat.zero_le _, Nat.zero_le _⟩ dX13_nameAtHand_33 (fun H locs hP hD hS => ?_)
  refine lv_if_ne (tgt := 43) hx hb dX13_nameAtHand_36 (by decide) (fun hc => ?_) (fun hc => ?_)
  · have hf := ite_f hf hc
    refine lv_iconst (v := 0) hx hb dX13_nameAtHand_43 (by decide) ?_
    exact w_X13_nameAtHand_44 C hne  _ _ _ _ _ hf hP hD hS (lv_sub hl [0] rfl)
  · have hf := ite_t hf hc
    refine lv_iconst (v := 1) hx hb dX13_nameAtHand_39 (by decide) ?_
    refine lv_goto (tgt := 44) hx hb dX13_nameAtHand_40 (by decide) ?_
    exact w_X13_nameAtHand_44 C hne  _ _ _ _ _ hf hP hD hS (lv_sub hl [0] rfl)
def f_X13_nameAtHand_26 (r0 : Nat → Nat → Int32) (l0 : Nat → Nat → Int64)  (i0 : Nat → Int32) : Option ((Int64 × (Nat → Int32)) ⊕ ((Nat → Int32))) := f_X13_nameAtHand_27 r0 l0 i0 0
set_option maxRecDepth 100000 in
set_option maxHeartbeats 4000000 in
theorem w_X13_nameAtHand_26 {p : Program} {l : Launch} {e : Env} {s : State} {m : MethodId} {args : Array Value} {below : List Frame} {meth : Method} {c : Code} {A : Nat → Prop} {D : va_G} {cs zs : Nat → Nat} {h0 : Nat} {a0 : Nat → Nat} {r0 : Nat → Nat → Int32} {l0 : Nat → Nat → Int64} {q : (Int64 × (Nat → Int32)) ⊕ ((Nat → Int32))} (C : Cx p s m args meth c A D cs zs cX13_nameAtHand 4 (some .long) RX13) (hne : NoH c)  : ∀ (i0 : Nat → Int32) (H : Heap) (locs : List Loc) (ls : Array Slot), f_X13_nameAtHand_26 r0 l0 i0 = some q → va_P D vwCl (W13 cs h0 a0 i0 r0 l0) H → va_D A (W13 cs h0 a0 i0 r0 l0) → va_S A s.heap H locs → lv_has ls 4 [(0, .ref h0)] → W p l e rmX13_nameAtHand s m args below meth c H locs 0 0 (Sum.elim (fun q => MQ below (Ql D cs A q.1 (W13 cs h0 a0 q.2 r0 l0)) args s 0 0 A) (fun t => MQT below D cs A (a0 0) (W13 cs h0 a0 t r0 l0) args s) q) (F0 m 26 ls [.ref h0]) := by
  obtain ⟨hx, hb, hr, hml, hown, hts, hK, hA, hlocks, hZ⟩ := id C
  intro i0 H locs ls hf hP hD hS hl
  rw [f_X13_nameAtHand_26] at hf
  refine lv_iconst (v := 0) hx hb dX13_nameAtHand_26 (by decide) ?_
  exact w_X13_nameAtHand_27 C hne  _ _ _ _ _ hf hP hD hS (lv_sub hl [0] rfl)
def f_X13_nameAtHand  (i0 : Nat → Int32) (r0 : Nat → Nat → Int32) (l0 : Nat → Nat → Int64)  : Option ((Int64 × (Nat → Int32)) ⊕ ((Nat → Int32))) := if (i0 6) = 1 then (if ((i0 5) - (i0 4)) ≤ 1 then (f_X13_nameAtHand_26 r0 l0 i0) else (f_X13_nameAtHand_27 r0 l0 i0 1)) else (f_X13_nameAtHand_26 r0 l0 i0)
set_option maxRecDepth 100000 in
set_option maxHeartbeats 4000000 in
theorem e_X13_nameAtHand {p : Program} {l : Launch} {e : Env} {s : State} {m : MethodId} {args : Array Value} {below : List Frame} {meth : Method} {c : Code} {A : Nat → Prop} {D : va_G} {cs zs : Nat → Nat} {h0 : Nat} {a0 : Nat → Nat} {i0 : Nat → Int32} {r0 : Nat → Nat → Int32} {l0 : Nat → Nat → Int64}  {q : (Int64 × (Nat → Int32)) ⊕ ((Nat → Int32))} (C : Cx p s m args meth c A D cs zs cX13_nameAtHand 4 (some .long) RX13) (hne : NoH c)  : ∀ (H : Heap) (locs : List Loc) (ls : Array Slot), f_X13_nameAtHand i0 r0 l0 = some q → va_P D vwCl (W13 cs h0 a0 i0 r0 l0) H → va_D A (W13 cs h0 a0 i0 r0 l0) → va_S A s.heap H locs → lv_has ls 4 [(0, .ref h0)] → W p l e rmX13_nameAtHand s m args below meth c H locs 0 0 (Sum.elim (fun q => MQ below (Ql D cs A q.1 (W13 cs h0 a0 q.2 r0 l0)) args s 0 0 A) (fun t => MQT below D cs A (a0 0) (W13 cs h0 a0 t r0 l0) args s) q) (F0 m 0 ls []) := by
  obtain ⟨hx, hb, hr, hml, hown, hts, hK, hA, hlocks, hZ⟩ := id C
  intro H locs ls hf hP hD hS hl
  rw [f_X13_nameAtHand] at hf
  refine lv_aload_n hx hb dX13_nameAtHand_0 rfl (lv_at hl 0 rfl) ?_
  refine lv_aload_n hx hb dX13_nameAtHand_1 rfl (lv_at hl 0 rfl) ?_
  refine va_get (D := D) (ci := 13) (v := .int (i0 6)) (C := RX13) (T := TX13) (N := 87) hx hb hts hiX13 hown hK hP 0 rfl rfl 6 (by decide) (hts _ flX13_31) (fun _ h9 => h9) rfl dX13_nameAtHand_2 ?_
  refine lv_iconst (v := 1) hx hb dX13_nameAtHand_5 (by decide) ?_
  refine lv_icmp_ne (tgt := 26) hx hb dX13_nameAtHand_6 (by decide) (fun hc => ?_) (fun hc => ?_)
  · have hf := ite_f hf hc
    exact w_X13_nameAtHand_26 C hne  _ _ _ _ hf hP hD hS (lv_sub hl [0] rfl)
  · have hf := ite_t hf hc
    refine lv_aload_n hx hb dX13_nameAtHand_9 rfl (lv_at hl 0 rfl) ?_
    refine va_get (D := D) (ci := 13) (v := .int (i0 5)) (C := RX13) (T := TX13) (N := 87) hx hb hts hiX13 hown hK hP 0 rfl rfl 5 (by decide) (hts _ flX13_24) (fun _ h9 => h9) rfl dX13_nameAtHand_10 ?_
    refine lv_aload_n hx hb dX13_nameAtHand_13 rfl (lv_at hl 0 rfl) ?_
    refine va_get (D := D) (ci := 13) (v := .int (i0 4)) (C := RX13) (T := TX13) (N := 87) hx hb hts hiX13 hown hK hP 0 rfl rfl 4 (by decide) (hts _ flX13_7) (fun _ h9 => h9) rfl dX13_nameAtHand_14 ?_
    refine lv_isub hx hb dX13_nameAtHand_17 ?_
    refine lv_iconst (v := 1) hx hb dX13_nameAtHand_18 (by decide) ?_
    refine lv_icmp_le (tgt := 26) hx hb dX13_nameAtHand_19 (by decide) (fun hc => ?_) (fun hc => ?_)
    · have hf := ite_t hf hc
      exact w_X13_nameAtHand_26 C hne  _ _ _ _ hf hP hD hS (lv_sub hl [0] rfl)
    · have hf := ite_f hf hc
      refine lv_iconst (v := 1) hx hb dX13_nameAtHand_22 (by decide) ?_
      refine lv_goto (tgt := 27) hx hb dX13_nameAtHand_23 (by decide) ?_
      exact w_X13_nameAtHand_27 C hne  _ _ _ _ _ hf hP hD hS (lv_sub hl [0] rfl)
theorem c_X13_nameAtHand {l : Launch} {D : va_G} {cs zs : Nat → Nat} {h0 : Nat} {a0 : Nat → Nat} {i0 : Nat → Int32} {r0 : Nat → Nat → Int32} {l0 : Nat → Nat → Int64}  {q : Int64 × (Nat → Int32)} (hf : f_X13_nameAtHand i0 r0 l0 = some (.inl q)) : Ml l yX13_nameAtHand wlX13_nameAtHand rmX13_nameAtHand D cs zs [.ref h0] (W13 cs h0 a0 i0 r0 l0) q.1 (W13 cs h0 a0 q.2 r0 l0) := by
  refine Ml.ofT RX13 (by decide) rfl (Nat.le_of_ble_eq_true rfl) (fun p e s m below meth c A C hne hP hD hS ls hl => ?_)
  generalize ([.ref h0] : List Value).toArray = args at C ⊢
  exact e_X13_nameAtHand (q := .inl q) C hne _ _ _ hf hP hD hS hl
theorem t_X13_nameAtHand {l : Launch} {D : va_G} {cs zs : Nat → Nat} {h0 : Nat} {a0 : Nat → Nat} {i0 : Nat → Int32} {r0 : Nat → Nat → Int32} {l0 : Nat → Nat → Int64}  {t : (Nat → Int32)} (hf : f_X13_nameAtHand i0 r0 l0 = some (.inr t)) : MT l yX13_nameAtHand wlX13_nameAtHand rmX13_nameAtHand D cs zs [.ref h0] (W13 cs h0 a0 i0 r0 l0) (a0 0) (W13 cs h0 a0 t r0 l0) := by
  refine MT.of RX13 (by decide) rfl (Nat.le_of_ble_eq_true rfl) (fun p e s m below meth c A C hne hP hD hS ls hl => ?_)
  generalize ([.ref h0] : List Value).toArray = args at C ⊢
  exact e_X13_nameAtHand (q := .inr t) C hne _ _ _ hf hP hD hS hl
/-! MarbleFloorModel.readOther(I)V -/
abbrev wlX13_readOther : List Cond := Cond.code yX13_readOther cX13_readOther 5 none :: tbG
abbrev rmX13_readOther : Room := { frames := 7, cells := 0, slots := 0, locals := 149 }
theorem qnX13_readOther : yX13_readOther.cls = RX13 ∧ yX13_readOther.cls ≠ "java/lang/invoke/MethodHandle" ∧ yX13_readOther.cls ≠ "java/lang/invoke/VarHandle" ∧ (parseMethodDescriptor yX13_readOther.desc).map (fun d => d.parameters.length) = some 1 := by decide +kernel
def f_X13_readOther_47 (l0 : Nat → Nat → Int64)  (i0 : Nat → Int32) (r0 : Nat → Nat → Int32) (x1 : Int32) (y0 : Int32) : Option (((Nat → Int32) × (Nat → Nat → Int32)) ⊕ ((Nat → Int32) × (Nat → Nat → Int32))) := bt (f_X13_readVar i0 r0 l0 y0) (fun q2 => ck (inb ((2 * x1) + 1) 240) (ck (inb ((2 * x1) + 1) 240) (some (.inl (q2, (va_up (va_up r0 32 (upd (r0 32) ((2 * x1) + 1).toNatClampNeg (q2 56))) 33 (upd (r0 33) ((2 * x1) + 1).toNatClampNeg (q2 57)))))))) (fun t2 => some (.inr (t2, r0)))
set_option maxRecDepth 100000 in
set_option maxHeartbeats 4000000 in
theorem w_X13_readOther_47 {p : Program} {l : Launch} {e : Env} {s : State} {m : MethodId} {args : Array Value} {below : List Frame} {meth : Method} {c : Code} {A : Nat → Prop} {D : va_G} {cs zs : Nat → Nat} {h0 : Nat} {a0 : Nat → Nat} {l0 : Nat → Nat → Int64} {q : ((Nat → Int32) × (Nat → Nat → Int32)) ⊕ ((Nat → Int32) × (Nat → Nat → Int32))} (C : Cx p s m args meth c A D cs zs cX13_readOther 5 none RX13) (hne : NoH c)  : ∀ (i0 : Nat → Int32) (r0 : Nat → Nat → Int32) (x1 : Int32) (y0 : Int32) (H : Heap) (locs : List Loc) (ls : Array Slot), f_X13_readOther_47 l0 i0 r0 x1 y0 = some q → va_P D vwCl (W13 cs h0 a0 i0 r0 l0) H → va_D A (W13 cs h0 a0 i0 r0 l0) → va_S A s.heap H locs → lv_has ls 5 [(0, .ref h0), (1, .int x1)] → W p l e rmX13_readOther s m args below meth c H locs 0 0 (Sum.elim (fun q => MQ below (Qv D cs A (W13 cs h0 a0 q.1 q.2 l0)) args s 0 0 A) (fun t => MQT below D cs A (a0 0) (W13 cs h0 a0 t.1 t.2 l0) args s) q) (F0 m 47 ls [.int y0]) := by
  obtain ⟨hx, hb, hr, hml, hown, hts, hK, hA, hlocks, hZ⟩ := id C
  intro i0 r0 x1 y0 H locs ls hf hP hD hS hl
  rw [f_X13_readOther_47] at hf
  refine lv_istore (lv' := [(4, .int y0), (0, .ref h0), (1, .int x1)]) hx hb dX13_readOther_47 hl (by decide) rfl (fun ls hl => ?_)
  refine lv_aload_n hx hb dX13_readOther_49 rfl (lv_at hl 1 rfl) ?_
  refine lv_iload hx hb dX13_readOther_50 (lv_at hl 0 rfl) ?_
  rcases (bt_s hf).symm with ⟨t2, hq2, hf⟩ | ⟨q2, hq2, hf⟩
  · obtain rfl := Option.some.inj hf
    exact k_sVt (ws2 := W13 cs h0 a0 t2 r0 l0) (As := [.int y0]) (rest := []) hx hb hml hown hts hK hA hZ hl.1 hP hD hS (t_X13_readVar (h0 := h0) (a0 := a0) hq2) (gVt mlX13_411 imX13_readVar seX13_readVar inX13 coX13_readVar) rfl qnX13_readVar rfl rfl ⟨Nat.le_of_ble_eq_true rfl, Nat.le_of_ble_eq_true rfl⟩ 0 13 rfl rfl rfl rfl rfl (Nat.le_of_ble_eq_true rfl) dX13_readOther_52 hlocks hne
  refine k_sVv (ws2 := W13 cs h0 a0 q2 r0 l0) (As := [.int y0]) (rest := []) hx hb hml hown hts hK hA hZ hl.1 hP hD hS (c_X13_readVar (h0 := h0) (a0 := a0) hq2) (gVt mlX13_411 imX13_readVar seX13_readVar inX13 coX13_readVar) rfl qnX13_readVar rfl rfl ⟨Nat.le_of_ble_eq_true rfl, Nat.le_of_ble_eq_true rfl⟩ 0 13 rfl rfl rfl rfl rfl (Nat.le_of_ble_eq_true rfl) ⟨Nat.zero_le _, Nat.zero_le _⟩ dX13_readOther_52 (fun H locs hP hD hS => ?_)
  refine lv_aload_n hx hb dX13_readOther_55 rfl (lv_at hl 1 rfl) ?_
  refine va_get (D := D) (ci := 13) (v := .ref (a0 32)) (C := RX13) (T := TX13) (N := 87) hx hb hts hiX13 hown hK hP 0 rfl rfl 32 (by decide) (hts _ flX13_185) (fun _ h9 => h9) rfl dX13_readOther_56 ?_
  refine lv_iconst (v := 2) hx hb dX13_readOther_59 (by decide) ?_
  refine lv_iload_n hx hb dX13_readOther_60 rfl (lv_at hl 2 rfl) ?_
  refine lv_imul hx hb dX13_readOther_61 ?_
  refine lv_iconst (v := 1) hx hb dX13_readOther_62 (by decide) ?_
  refine lv_iadd hx hb dX13_readOther_63 ?_
  refine lv_aload_n hx hb dX13_readOther_64 rfl (lv_at hl 1 rfl) ?_
  refine va_get (D := D) (ci := 13) (v := .int (q2 56)) (C := RX13) (T := TX13) (N := 87) hx hb hts hiX13 hown hK hP 0 rfl rfl 56 (by decide) (hts _ flX13_387) (fun _ h9 => h9) rfl dX13_readOther_65 ?_
  refine va_iast (f := r0 32) hx hb hK hP hD hS 21 0 rfl rfl (ck_in hf) dX13_readOther_68 (fun H locs hP hD hS => ?_)
  have hf := ck_2 hf
  obtain ⟨hP, hD⟩ := st13_32 hP hD
  refine lv_aload_n hx hb dX13_readOther_69 rfl (lv_at hl 1 rfl) ?_
  refine va_get (D := D) (ci := 13) (v := .ref (a0 33)) (C := RX13) (T := TX13) (N := 87) hx hb hts hiX13 hown hK hP 0 rfl rfl 33 (by decide) (hts _ flX13_188) (fun _ h9 => h9) rfl dX13_readOther_70 ?_
  refine lv_iconst (v := 2) hx hb dX13_readOther_73 (by decide) ?_
  refine lv_iload_n hx hb dX13_readOther_74 rfl (lv_at hl 2 rfl) ?_
  refine lv_imul hx hb dX13_readOther_75 ?_
  refine lv_iconst (v := 1) hx hb dX13_readOther_76 (by decide) ?_
  refine lv_iadd hx hb dX13_readOther_77 ?_
  refine lv_aload_n hx hb dX13_readOther_78 rfl (lv_at hl 1 rfl) ?_
  refine va_get (D := D) (ci := 13) (v := .int (q2 57)) (C := RX13) (T := TX13) (N := 87) hx hb hts hiX13 hown hK hP 0 rfl rfl 57 (by decide) (hts _ flX13_390) (fun _ h9 => h9) rfl dX13_readOther_79 ?_
  refine va_iast (f := r0 33) hx hb hK hP hD hS 22 0 rfl rfl (ck_in hf) dX13_readOther_82 (fun H locs hP hD hS => ?_)
  have hf := ck_2 hf
  obtain ⟨hP, hD⟩ := st13_33 hP hD
  obtain rfl := Option.some.inj hf
  exact k_vret hx hb hr hlocks hK hP hD hS dX13_readOther_83
def f_X13_readOther_46 (l0 : Nat → Nat → Int64)  (i0 : Nat → Int32) (r0 : Nat → Nat → Int32) (x1 : Int32) (y0 : Int32) (y1 : Int32) : Option (((Nat → Int32) × (Nat → Nat → Int32)) ⊕ ((Nat → Int32) × (Nat → Nat → Int32))) := f_X13_readOther_47 l0 i0 r0 x1 (y1 ||| y0)
set_option maxRecDepth 100000 in
set_option maxHeartbeats 4000000 in
theorem w_X13_readOther_46 {p : Program} {l : Launch} {e : Env} {s : State} {m : MethodId} {args : Array Value} {below : List Frame} {meth : Method} {c : Code} {A : Nat → Prop} {D : va_G} {cs zs : Nat → Nat} {h0 : Nat} {a0 : Nat → Nat} {l0 : Nat → Nat → Int64} {q : ((Nat → Int32) × (Nat → Nat → Int32)) ⊕ ((Nat → Int32) × (Nat → Nat → Int32))} (C : Cx p s m args meth c A D cs zs cX13_readOther 5 none RX13) (hne : NoH c)  : ∀ (i0 : Nat → Int32) (r0 : Nat → Nat → Int32) (x1 : Int32) (y0 : Int32) (y1 : Int32) (H : Heap) (locs : List Loc) (ls : Array Slot), f_X13_readOther_46 l0 i0 r0 x1 y0 y1 = some q → va_P D vwCl (W13 cs h0 a0 i0 r0 l0) H → va_D A (W13 cs h0 a0 i0 r0 l0) → va_S A s.heap H locs → lv_has ls 5 [(0, .ref h0), (1, .int x1)] → W p l e rmX13_readOther s m args below meth c H locs 0 0 (Sum.elim (fun q => MQ below (Qv D cs A (W13 cs h0 a0 q.1 q.2 l0)) args s 0 0 A) (fun t => MQT below D cs A (a0 0) (W13 cs h0 a0 t.1 t.2 l0) args s) q) (F0 m 46 ls [.int y0, .int y1]) := by
  obtain ⟨hx, hb, hr, hml, hown, hts, hK, hA, hlocks, hZ⟩ := id C
  intro i0 r0 x1 y0 y1 H locs ls hf hP hD hS hl
  rw [f_X13_readOther_46] at hf
  refine lv_ior hx hb dX13_readOther_46 ?_
  exact w_X13_readOther_47 C hne  _ _ _ _ _ _ _ hf hP hD hS (lv_sub hl [0, 1] rfl)
def f_X13_readOther  (i0 : Nat → Int32) (r0 : Nat → Nat → Int32) (l0 : Nat → Nat → Int64) (x1 : Int32) : Option (((Nat → Int32) × (Nat → Nat → Int32)) ⊕ ((Nat → Int32) × (Nat → Nat → Int32))) := ck (inb (2 * x1) 240) (ck (inb (2 * x1) 240) (if 8 ≤ (r0 32 (2 * x1).toNatClampNeg) then (if (r0 32 (2 * x1).toNatClampNeg) = 9 then (f_X13_readOther_46 l0 i0 r0 x1 ((1 : Int32) <<< ((r0 33 (2 * x1).toNatClampNeg) &&& 31)) 256) else (f_X13_readOther_46 l0 i0 r0 x1 0 256)) else (f_X13_readOther_47 l0 i0 r0 x1 ((1 : Int32) <<< ((r0 32 (2 * x1).toNatClampNeg) &&& 31)))))
set_option maxRecDepth 100000 in
set_option maxHeartbeats 4000000 in
theorem e_X13_readOther {p : Program} {l : Launch} {e : Env} {s : State} {m : MethodId} {args : Array Value} {below : List Frame} {meth : Method} {c : Code} {A : Nat → Prop} {D : va_G} {cs zs : Nat → Nat} {h0 : Nat} {a0 : Nat → Nat} {i0 : Nat → Int32} {r0 : Nat → Nat → Int32} {l0 : Nat → Nat → Int64} {x1 : Int32} {q : ((Nat → Int32) × (Nat → Nat → Int32)) ⊕ ((Nat → Int32) × (Nat → Nat → Int32))} (C : Cx p s m args meth c A D cs zs cX13_readOther 5 none RX13) (hne : NoH c)  : ∀ (H : Heap) (locs : List Loc) (ls : Array Slot), f_X13_readOther i0 r0 l0 x1 = some q → va_P D vwCl (W13 cs h0 a0 i0 r0 l0) H → va_D A (W13 cs h0 a0 i0 r0 l0) → va_S A s.heap H locs → lv_has ls 5 [(0, .ref h0), (1, .int x1)] → W p l e rmX13_readOther s m args below meth c H locs 0 0 (Sum.elim (fun q => MQ below (Qv D cs A (W13 cs h0 a0 q.1 q.2 l0)) args s 0 0 A) (fun t => MQT below D cs A (a0 0) (W13 cs h0 a0 t.1 t.2 l0) args s) q) (F0 m 0 ls []) := by
  obtain ⟨hx, hb, hr, hml, hown, hts, hK, hA, hlocks, hZ⟩ := id C
  intro H locs ls hf hP hD hS hl
  rw [f_X13_readOther] at hf
  refine lv_aload_n hx hb dX13_readOther_0 rfl (lv_at hl 0 rfl) ?_
  refine va_get (D := D) (ci := 13) (v := .ref (a0 32)) (C := RX13) (T := TX13) (N := 87) hx hb hts hiX13 hown hK hP 0 rfl rfl 32 (by decide) (hts _ flX13_185) (fun _ h9 => h9) rfl dX13_readOther_1 ?_
  refine lv_iconst (v := 2) hx hb dX13_readOther_4 (by decide) ?_
  refine lv_iload_n hx hb dX13_readOther_5 rfl (lv_at hl 1 rfl) ?_
  refine lv_imul hx hb dX13_readOther_6 ?_
  refine va_iald (f := r0 32) hx hb hK hP 21 0 rfl rfl (ck_in hf) dX13_readOther_7 ?_
  have hf := ck_2 hf
  refine lv_istore_n (lv' := [(2, .int (r0 32 (2 * x1).toNatClampNeg)), (0, .ref h0), (1, .int x1)]) hx hb dX13_readOther_8 rfl hl (by decide) rfl (fun ls hl => ?_)
  refine lv_aload_n hx hb dX13_readOther_9 rfl (lv_at hl 1 rfl) ?_
  refine va_get (D := D) (ci := 13) (v := .ref (a0 33)) (C := RX13) (T := TX13) (N := 87) hx hb hts hiX13 hown hK hP 0 rfl rfl 33 (by decide) (hts _ flX13_188) (fun _ h9 => h9) rfl dX13_readOther_10 ?_
  refine lv_iconst (v := 2) hx hb dX13_readOther_13 (by decide) ?_
  refine lv_iload_n hx hb dX13_readOther_14 rfl (lv_at hl 2 rfl) ?_
  refine lv_imul hx hb dX13_readOther_15 ?_
  refine va_iald (f := r0 33) hx hb hK hP 22 0 rfl rfl (ck_in hf) dX13_readOther_16 ?_
  have hf := ck_2 hf
  refine lv_istore_n (lv' := [(3, .int (r0 33 (2 * x1).toNatClampNeg)), (2, .int (r0 32 (2 * x1).toNatClampNeg)), (0, .ref h0), (1, .int x1)]) hx hb dX13_readOther_17 rfl hl (by decide) rfl (fun ls hl => ?_)
  refine lv_iload_n hx hb dX13_readOther_18 rfl (lv_at hl 1 rfl) ?_
  refine lv_bipush (v := 8) hx hb dX13_readOther_19 (by decide) ?_
  refine lv_icmp_ge (tgt := 30) hx hb dX13_readOther_21 (by decide) (fun hc => ?_) (fun hc => ?_)
  · have hf := ite_t hf hc
    refine lv_sipush (v := 256) hx hb dX13_readOther_30 (by decide) ?_
    refine lv_iload_n hx hb dX13_readOther_33 rfl (lv_at hl 1 rfl) ?_
    refine lv_bipush (v := 9) hx hb dX13_readOther_34 (by decide) ?_
    refine lv_icmp_ne (tgt := 45) hx hb dX13_readOther_36 (by decide) (fun hc => ?_) (fun hc => ?_)
    · have hf := ite_f hf hc
      refine lv_iconst (v := 0) hx hb dX13_readOther_45 (by decide) ?_
      exact w_X13_readOther_46 C hne  _ _ _ _ _ _ _ _ hf hP hD hS (lv_sub hl [2, 3] rfl)
    · have hf := ite_t hf hc
      refine lv_iconst (v := 1) hx hb dX13_readOther_39 (by decide) ?_
      refine lv_iload_n hx hb dX13_readOther_40 rfl (lv_at hl 0 rfl) ?_
      refine lv_ishl hx hb dX13_readOther_41 ?_
      refine lv_goto (tgt := 46) hx hb dX13_readOther_42 (by decide) ?_
      exact w_X13_readOther_46 C hne  _ _ _ _ _ _ _ _ hf hP hD hS (lv_sub hl [2, 3] rfl)
  · have hf := ite_f hf hc
    refine lv_iconst (v := 1) hx hb dX13_readOther_24 (by decide) ?_
    refine lv_iload_n hx hb dX13_readOther_25 rfl (lv_at hl 1 rfl) ?_
    refine lv_ishl hx hb dX13_readOther_26 ?_
    refine lv_goto (tgt := 47) hx hb dX13_readOther_27 (by decide) ?_
    exact w_X13_readOther_47 C hne  _ _ _ _ _ _ _ hf hP hD hS (lv_sub hl [2, 3] rfl)
theorem c_X13_readOther {l : Launch} {D : va_G} {cs zs : Nat → Nat} {h0 : Nat} {a0 : Nat → Nat} {i0 : Nat → Int32} {r0 : Nat → Nat → Int32} {l0 : Nat → Nat → Int64} {x1 : Int32} {q : (Nat → Int32) × (Nat → Nat → Int32)} (hf : f_X13_readOther i0 r0 l0 x1 = some (.inl q)) : Mv l yX13_readOther wlX13_readOther rmX13_readOther D cs zs [.ref h0, .int x1] (W13 cs h0 a0 i0 r0 l0) (W13 cs h0 a0 q.1 q.2 l0) := by
  refine Mv.ofT RX13 (by decide) rfl (Nat.le_of_ble_eq_true rfl) (fun p e s m below meth c A C hne hP hD hS ls hl => ?_)
  generalize ([.ref h0, .int x1] : List Value).toArray = args at C ⊢
  exact e_X13_readOther (q := .inl q) C hne _ _ _ hf hP hD hS hl
theorem t_X13_readOther {l : Launch} {D : va_G} {cs zs : Nat → Nat} {h0 : Nat} {a0 : Nat → Nat} {i0 : Nat → Int32} {r0 : Nat → Nat → Int32} {l0 : Nat → Nat → Int64} {x1 : Int32} {t : (Nat → Int32) × (Nat → Nat → Int32)} (hf : f_X13_readOther i0 r0 l0 x1 = some (.inr t)) : MT l yX13_readOther wlX13_readOther rmX13_readOther D cs zs [.ref h0, .int x1] (W13 cs h0 a0 i0 r0 l0) (a0 0) (W13 cs h0 a0 t.1 t.2 l0) := by
  refine MT.of RX13 (by decide) rfl (Nat.le_of_ble_eq_true rfl) (fun p e s m below meth c A C hne hP hD hS ls hl => ?_)
  generalize ([.ref h0, .int x1] : List Value).toArray = args at C ⊢
  exact e_X13_readOther (q := .inr t) C hne _ _ _ hf hP hD hS hl
/-! MarbleFloorModel.readOne()I -/
abbrev wlX13_readBody : List Cond := Cond.code yX13_readBody cX13_readBody 4 none :: tbG
abbrev rmX13_readBody (d : Nat) : Room := { frames := 34 + 2 * d, cells := 0, slots := 0, locals := 719 + 45 * d }
theorem qnX13_readBody : yX13_readBody.cls = RX13 ∧ yX13_readBody.cls ≠ "java/lang/invoke/MethodHandle" ∧ yX13_readBody.cls ≠ "java/lang/invoke/VarHandle" ∧ (parseMethodDescriptor yX13_readBody.desc).map (fun d => d.parameters.length) = some 0 := by decide +kernel
abbrev wlX13_readOne : List Cond := Cond.code yX13_readOne cX13_readOne 3 (some .int) :: tbG
abbrev rmX13_readOne (d : Nat) : Room := { frames := 34 + 2 * d + 1, cells := 0, slots := 0, locals := 719 + 45 * d + 23 }
theorem qnX13_readOne : yX13_readOne.cls = RX13 ∧ yX13_readOne.cls ≠ "java/lang/invoke/MethodHandle" ∧ yX13_readOne.cls ≠ "java/lang/invoke/VarHandle" ∧ (parseMethodDescriptor yX13_readOne.desc).map (fun d => d.parameters.length) = some 0 := by decide +kernel
def f_X13_readOne_172 (F : (Nat → Int32) → (Nat → Nat → Int32) → (Nat → Nat → Int64) → Option (((Nat → Int32) × (Nat → Nat → Int64) × (Nat → Nat → Int32)) ⊕ ((Nat → Int32) × (Nat → Nat → Int64) × (Nat → Nat → Int32))))  (i0 : Nat → Int32) (l0 : Nat → Nat → Int64) (r0 : Nat → Nat → Int32) (x2 : Int32) : Option ((Int32 × (Nat → Int32) × (Nat → Nat → Int64) × (Nat → Nat → Int32)) ⊕ ((Nat → Int32) × (Nat → Nat → Int64) × (Nat → Nat → Int32))) := bt (f_X13_readTest i0 r0 l0 x2 1) (fun q18 => some (.inl (x2, (upd q18.1 50 ((q18.1 50) - 1)), l0, q18.2))) (fun t18 => some (.inr (t18.1, l0, t18.2)))
set_option maxRecDepth 100000 in
set_option maxHeartbeats 4000000 in
theorem w_X13_readOne_172 {p : Program} {l : Launch} {e : Env} {s : State} {m : MethodId} {args : Array Value} {below : List Frame} {meth : Method} {c : Code} {A : Nat → Prop} {D : va_G} {cs zs : Nat → Nat} {h0 : Nat} {a0 : Nat → Nat}  {q : (Int32 × (Nat → Int32) × (Nat → Nat → Int64) × (Nat → Nat → Int32)) ⊕ ((Nat → Int32) × (Nat → Nat → Int64) × (Nat → Nat → Int32))} (C : Cx p s m args meth c A D cs zs cX13_readOne 3 (some .int) RX13) (hne : NoH c) {d : Nat} {F : (Nat → Int32) → (Nat → Nat → Int32) → (Nat → Nat → Int64) → Option (((Nat → Int32) × (Nat → Nat → Int64) × (Nat → Nat → Int32)) ⊕ ((Nat → Int32) × (Nat → Nat → Int64) × (Nat → Nat → Int32)))} (hF : (∀ {i0 : Nat → Int32} {r0 : Nat → Nat → Int32} {l0 : Nat → Nat → Int64}  {q : (Nat → Int32) × (Nat → Nat → Int64) × (Nat → Nat → Int32)}, F i0 r0 l0 = some (.inl q) → Mv l yX13_readBody wlX13_readBody (rmX13_readBody d) D cs zs [.ref h0] (W13 cs h0 a0 i0 r0 l0) (W13 cs h0 a0 q.1 q.2.2 q.2.1)) ∧ (∀ {i0 : Nat → Int32} {r0 : Nat → Nat → Int32} {l0 : Nat → Nat → Int64}  {t : (Nat → Int32) × (Nat → Nat → Int64) × (Nat → Nat → Int32)}, F i0 r0 l0 = some (.inr t) → MT l yX13_readBody wlX13_readBody (rmX13_readBody d) D cs zs [.ref h0] (W13 cs h0 a0 i0 r0 l0) (a0 0) (W13 cs h0 a0 t.1 t.2.2 t.2.1)))  : ∀ (i0 : Nat → Int32) (l0 : Nat → Nat → Int64) (r0 : Nat → Nat → Int32) (x2 : Int32) (H : Heap) (locs : List Loc) (ls : Array Slot), f_X13_readOne_172 F i0 l0 r0 x2 = some q → va_P D vwCl (W13 cs h0 a0 i0 r0 l0) H → va_D A (W13 cs h0 a0 i0 r0 l0) → va_S A s.heap H locs → lv_has ls 3 [(0, .ref h0), (2, .int x2)] → W p l e (rmX13_readOne d) s m args below meth c H locs 0 0 (Sum.elim (fun q => MQ below (Qi D cs A q.1 (W13 cs h0 a0 q.2.1 q.2.2.2 q.2.2.1)) args s 0 0 A) (fun t => MQT below D cs A (a0 0) (W13 cs h0 a0 t.1 t.2.2 t.2.1) args s) q) (F0 m 172 ls []) := by
  obtain ⟨hx, hb, hr, hml, hown, hts, hK, hA, hlocks, hZ⟩ := id C
  intro i0 l0 r0 x2 H locs ls hf hP hD hS hl
  rw [f_X13_readOne_172] at hf
  refine lv_aload_n hx hb dX13_readOne_172 rfl (lv_at hl 0 rfl) ?_
  refine lv_iload_n hx hb dX13_readOne_173 rfl (lv_at hl 1 rfl) ?_
  refine lv_iconst (v := 1) hx hb dX13_readOne_174 (by decide) ?_
  rcases (bt_s hf).symm with ⟨t18, hq18, hf⟩ | ⟨q18, hq18, hf⟩
  · obtain rfl := Option.some.inj hf
    exact k_sVt (R := rmX13_readOne d) (ws2 := W13 cs h0 a0 t18.1 t18.2 l0) (As := [.int x2, .int 1]) (rest := []) hx hb hml hown hts hK hA hZ hl.1 hP hD hS (t_X13_readTest (h0 := h0) (a0 := a0) hq18) (gVt mlX13_471 imX13_readTest seX13_readTest inX13 coX13_readTest) rfl qnX13_readTest rfl rfl ⟨by show 33 + 1 ≤ 34 + 2 * d + 1; omega, by show 8 + (4 + 11) + (696) ≤ 719 + 45 * d + 23; omega⟩ 0 13 rfl rfl rfl rfl rfl (Nat.le_of_ble_eq_true rfl) dX13_readOne_175 hlocks hne
  refine k_sVv (ws2 := W13 cs h0 a0 q18.1 q18.2 l0) (As := [.int x2, .int 1]) (rest := []) hx hb hml hown hts hK hA hZ hl.1 hP hD hS (c_X13_readTest (h0 := h0) (a0 := a0) hq18) (gVt mlX13_471 imX13_readTest seX13_readTest inX13 coX13_readTest) rfl qnX13_readTest rfl rfl ⟨by show 33 + 1 ≤ 34 + 2 * d + 1; omega, by show 8 + (4 + 11) + (696) ≤ 719 + 45 * d + 23; omega⟩ 0 13 rfl rfl rfl rfl rfl (Nat.le_of_ble_eq_true rfl) ⟨Nat.zero_le _, Nat.zero_le _⟩ dX13_readOne_175 (fun H locs hP hD hS => ?_)
  refine lv_aload_n hx hb dX13_readOne_178 rfl (lv_at hl 0 rfl) ?_
  refine lv_dup hx hb dX13_readOne_179 rfl ?_
  refine va_get (D := D) (ci := 13) (v := .int (q18.1 50)) (C := RX13) (T := TX13) (N := 87) hx hb hts hiX13 hown hK hP 0 rfl rfl 50 (by decide) (hts _ flX13_468) (fun _ h9 => h9) rfl dX13_readOne_180 ?_
  refine lv_iconst (v := 1) hx hb dX13_readOne_183 (by decide) ?_
  refine lv_isub hx hb dX13_readOne_184 ?_
  refine va_put (D := D) (ci := 13) (v := .int ((q18.1 50) - 1)) (ty := .int) (C := RX13) (T := TX13) (N := 87) hx hb hts hiX13 tyX13 tyX13_ok nmX13 hown hK hP hD hS 0 rfl rfl 50 (by decide) (hts _ flX13_468) (fun _ h9 => h9) rfl (tyX13_ok 50 (by decide)) rfl rfl (Nat.le_of_ble_eq_true rfl) dX13_readOne_185 (fun H locs hP hD hS => ?_)
  obtain ⟨hP, hD⟩ := st13_50 hP hD
  refine lv_goto (tgt := 283) hx hb dX13_readOne_188 (by decide) ?_
  refine lv_iload_n hx hb dX13_readOne_283 rfl (lv_at hl 1 rfl) ?_
  obtain rfl := Option.some.inj hf
  exact k_iret hx hb hr hlocks hK hP hD hS dX13_readOne_284
def f_X13_readOne_144 (F : (Nat → Int32) → (Nat → Nat → Int32) → (Nat → Nat → Int64) → Option (((Nat → Int32) × (Nat → Nat → Int64) × (Nat → Nat → Int32)) ⊕ ((Nat → Int32) × (Nat → Nat → Int64) × (Nat → Nat → Int32))))  (i0 : Nat → Int32) (l0 : Nat → Nat → Int64) (r0 : Nat → Nat → Int32) (x1 : Int32) (x2 : Int32) : Option ((Int32 × (Nat → Int32) × (Nat → Nat → Int64) × (Nat → Nat → Int32)) ⊕ ((Nat → Int32) × (Nat → Nat → Int64) × (Nat → Nat → Int32))) := bt (F i0 r0 l0) (fun q19 => bd (f_X13_keepBody q19.1 q19.2.2 q19.2.1 x2 1) (fun q20 => if x1 = 4 then (bt (f_X13_word 15 q19.1 q20 q19.2.1) (fun q22 => f_X13_readOne_172 F q22 q19.2.1 q20 x2) (fun t22 => some (.inr (t22, q19.2.1, q20)))) else (bt (f_X13_word 18 q19.1 q20 q19.2.1) (fun q21 => f_X13_readOne_172 F q21 q19.2.1 q20 x2) (fun t21 => some (.inr (t21, q19.2.1, q20)))))) (fun t19 => some (.inr (t19.1, t19.2.1, t19.2.2)))
set_option maxRecDepth 100000 in
set_option maxHeartbeats 4000000 in
theorem w_X13_readOne_144 {p : Program} {l : Launch} {e : Env} {s : State} {m : MethodId} {args : Array Value} {below : List Frame} {meth : Method} {c : Code} {A : Nat → Prop} {D : va_G} {cs zs : Nat → Nat} {h0 : Nat} {a0 : Nat → Nat}  {q : (Int32 × (Nat → Int32) × (Nat → Nat → Int64) × (Nat → Nat → Int32)) ⊕ ((Nat → Int32) × (Nat → Nat → Int64) × (Nat → Nat → Int32))} (C : Cx p s m args meth c A D cs zs cX13_readOne 3 (some .int) RX13) (hne : NoH c) {d : Nat} {F : (Nat → Int32) → (Nat → Nat → Int32) → (Nat → Nat → Int64) → Option (((Nat → Int32) × (Nat → Nat → Int64) × (Nat → Nat → Int32)) ⊕ ((Nat → Int32) × (Nat → Nat → Int64) × (Nat → Nat → Int32)))} (hF : (∀ {i0 : Nat → Int32} {r0 : Nat → Nat → Int32} {l0 : Nat → Nat → Int64}  {q : (Nat → Int32) × (Nat → Nat → Int64) × (Nat → Nat → Int32)}, F i0 r0 l0 = some (.inl q) → Mv l yX13_readBody wlX13_readBody (rmX13_readBody d) D cs zs [.ref h0] (W13 cs h0 a0 i0 r0 l0) (W13 cs h0 a0 q.1 q.2.2 q.2.1)) ∧ (∀ {i0 : Nat → Int32} {r0 : Nat → Nat → Int32} {l0 : Nat → Nat → Int64}  {t : (Nat → Int32) × (Nat → Nat → Int64) × (Nat → Nat → Int32)}, F i0 r0 l0 = some (.inr t) → MT l yX13_readBody wlX13_readBody (rmX13_readBody d) D cs zs [.ref h0] (W13 cs h0 a0 i0 r0 l0) (a0 0) (W13 cs h0 a0 t.1 t.2.2 t.2.1)))  : ∀ (i0 : Nat → Int32) (l0 : Nat → Nat → Int64) (r0 : Nat → Nat → Int32) (x1 : Int32) (x2 : Int32) (H : Heap) (locs : List Loc) (ls : Array Slot), f_X13_readOne_144 F i0 l0 r0 x1 x2 = some q → va_P D vwCl (W13 cs h0 a0 i0 r0 l0) H → va_D A (W13 cs h0 a0 i0 r0 l0) → va_S A s.heap H locs → lv_has ls 3 [(0, .ref h0), (1, .int x1), (2, .int x2)] → W p l e (rmX13_readOne d) s m args below meth c H locs 0 0 (Sum.elim (fun q => MQ below (Qi D cs A q.1 (W13 cs h0 a0 q.2.1 q.2.2.2 q.2.2.1)) args s 0 0 A) (fun t => MQT below D cs A (a0 0) (W13 cs h0 a0 t.1 t.2.2 t.2.1) args s) q) (F0 m 144 ls []) := by
  obtain ⟨hx, hb, hr, hml, hown, hts, hK, hA, hlocks, hZ⟩ := id C
  intro i0 l0 r0 x1 x2 H locs ls hf hP hD hS hl
  rw [f_X13_readOne_144] at hf
  refine lv_aload_n hx hb dX13_readOne_144 rfl (lv_at hl 0 rfl) ?_
  rcases (bt_s hf).symm with ⟨t19, hq19, hf⟩ | ⟨q19, hq19, hf⟩
  · obtain rfl := Option.some.inj hf
    exact k_sVt (R := rmX13_readOne d) (ws2 := W13 cs h0 a0 t19.1 t19.2.2 t19.2.1) (As := []) (rest := []) hx hb hml hown hts hK hA hZ hl.1 hP hD hS (hF.2 hq19) (gVt mlX13_474 imX13_readBody seX13_readBody inX13 coX13_readBody) rfl qnX13_readBody rfl rfl ⟨by show 34 + 2 * d + 1 ≤ 34 + 2 * d + 1; omega, by show 8 + (4 + 11) + (719 + 45 * d) ≤ 719 + 45 * d + 23; omega⟩ 0 13 rfl rfl rfl rfl rfl (Nat.le_of_ble_eq_true rfl) dX13_readOne_145 hlocks hne
  refine k_sVv (ws2 := W13 cs h0 a0 q19.1 q19.2.2 q19.2.1) (As := []) (rest := []) hx hb hml hown hts hK hA hZ hl.1 hP hD hS (hF.1 hq19) (gVt mlX13_474 imX13_readBody seX13_readBody inX13 coX13_readBody) rfl qnX13_readBody rfl rfl ⟨by show 34 + 2 * d + 1 ≤ 34 + 2 * d + 1; omega, by show 8 + (4 + 11) + (719 + 45 * d) ≤ 719 + 45 * d + 23; omega⟩ 0 13 rfl rfl rfl rfl rfl (Nat.le_of_ble_eq_true rfl) ⟨Nat.zero_le _, Nat.zero_le _⟩ dX13_readOne_145 (fun H locs hP hD hS => ?_)
  refine lv_aload_n hx hb dX13_readOne_148 rfl (lv_at hl 0 rfl) ?_
  refine lv_iload_n hx hb dX13_readOne_149 rfl (lv_at hl 2 rfl) ?_
  refine lv_iconst (v := 1) hx hb dX13_readOne_150 (by decide) ?_
  obtain ⟨q20, hq20, hf⟩ := bd_s hf
  refine k_sVv (ws2 := W13 cs h0 a0 q19.1 q20 q19.2.1) (As := [.int x2, .int 1]) (rest := []) hx hb hml hown hts hK hA hZ hl.1 hP hD hS (c_X13_keepBody (h0 := h0) (a0 := a0) hq20) (gVt mlX13_477 imX13_keepBody seX13_keepBody inX13 coX13_keepBody) rfl qnX13_keepBody rfl rfl ⟨by show 0 + 1 ≤ 34 + 2 * d + 1; omega, by show 8 + (3 + 11) + (0) ≤ 719 + 45 * d + 23; omega⟩ 0 13 rfl rfl rfl rfl rfl (Nat.le_of_ble_eq_true rfl) ⟨Nat.zero_le _, Nat.zero_le _⟩ dX13_readOne_151 (fun H locs hP hD hS => ?_)
  refine lv_aload_n hx hb dX13_readOne_154 rfl (lv_at hl 0 rfl) ?_
  refine lv_iload_n hx hb dX13_readOne_155 rfl (lv_at hl 1 rfl) ?_
  refine lv_iconst (v := 4) hx hb dX13_readOne_156 (by decide) ?_
  refine lv_icmp_ne (tgt := 166) hx hb dX13_readOne_157 (by decide) (fun hc => ?_) (fun hc => ?_)
  · have hf := ite_f hf hc
    refine k_ldcSw hx hb hown (hZ.2.2.2.2.2.2.1 18 (441, "until") rfl) dX13_readOne_166 ?_
    rcases (bt_s hf).symm with ⟨t21, hq21, hf⟩ | ⟨q21, hq21, hf⟩
    · obtain rfl := Option.some.inj hf
      exact k_sVt (R := rmX13_readOne d) (ws2 := W13 cs h0 a0 t21 q20 q19.2.1) (As := [.ref (zs (10 + 18))]) (rest := []) hx hb hml hown hts hK hA hZ hl.1 hP hD hS (t_X13_word (h0 := h0) (a0 := a0) (w := 18) (by decide : 18 < 20) hq21) (gVt mlX13_120 imX13_word seX13_word inX13 coX13_word) rfl qnX13_word rfl rfl ⟨by show 5 + 1 ≤ 34 + 2 * d + 1; omega, by show 8 + (2 + 11) + (108) ≤ 719 + 45 * d + 23; omega⟩ 0 13 rfl rfl rfl rfl rfl (Nat.le_of_ble_eq_true rfl) dX13_readOne_169 hlocks hne
    refine k_sVv (ws2 := W13 cs h0 a0 q21 q20 q19.2.1) (As := [.ref (zs (10 + 18))]) (rest := []) hx hb hml hown hts hK hA hZ hl.1 hP hD hS (c_X13_word (h0 := h0) (a0 := a0) (w := 18) (by decide : 18 < 20) hq21) (gVt mlX13_120 imX13_word seX13_word inX13 coX13_word) rfl qnX13_word rfl rfl ⟨by show 5 + 1 ≤ 34 + 2 * d + 1; omega, by show 8 + (2 + 11) + (108) ≤ 719 + 45 * d + 23; omega⟩ 0 13 rfl rfl rfl rfl rfl (Nat.le_of_ble_eq_true rfl) ⟨Nat.zero_le _, Nat.zero_le _⟩ dX13_readOne_169 (fun H locs hP hD hS => ?_)
    exact w_X13_readOne_172 C hne hF  _ _ _ _ _ _ _ hf hP hD hS (lv_sub hl [0, 2] rfl)
  · have hf := ite_t hf hc
    refine k_ldcSw hx hb hown (hZ.2.2.2.2.2.2.1 15 (435, "fi") rfl) dX13_readOne_160 ?_
    refine lv_goto (tgt := 169) hx hb dX13_readOne_163 (by decide) ?_
    rcases (bt_s hf).symm with ⟨t22, hq22, hf⟩ | ⟨q22, hq22, hf⟩
    · obtain rfl := Option.some.inj hf
      exact k_sVt (R := rmX13_readOne d) (ws2 := W13 cs h0 a0 t22 q20 q19.2.1) (As := [.ref (zs (10 + 15))]) (rest := []) hx hb hml hown hts hK hA hZ hl.1 hP hD hS (t_X13_word (h0 := h0) (a0 := a0) (w := 15) (by decide : 15 < 20) hq22) (gVt mlX13_120 imX13_word seX13_word inX13 coX13_word) rfl qnX13_word rfl rfl ⟨by show 5 + 1 ≤ 34 + 2 * d + 1; omega, by show 8 + (2 + 11) + (108) ≤ 719 + 45 * d + 23; omega⟩ 0 13 rfl rfl rfl rfl rfl (Nat.le_of_ble_eq_true rfl) dX13_readOne_169 hlocks hne
    refine k_sVv (ws2 := W13 cs h0 a0 q22 q20 q19.2.1) (As := [.ref (zs (10 + 15))]) (rest := []) hx hb hml hown hts hK hA hZ hl.1 hP hD hS (c_X13_word (h0 := h0) (a0 := a0) (w := 15) (by decide : 15 < 20) hq22) (gVt mlX13_120 imX13_word seX13_word inX13 coX13_word) rfl qnX13_word rfl rfl ⟨by show 5 + 1 ≤ 34 + 2 * d + 1; omega, by show 8 + (2 + 11) + (108) ≤ 719 + 45 * d + 23; omega⟩ 0 13 rfl rfl rfl rfl rfl (Nat.le_of_ble_eq_true rfl) ⟨Nat.zero_le _, Nat.zero_le _⟩ dX13_readOne_169 (fun H locs hP hD hS => ?_)
    exact w_X13_readOne_172 C hne hF  _ _ _ _ _ _ _ hf hP hD hS (lv_sub hl [0, 2] rfl)
def f_X13_readOne_116 (F : (Nat → Int32) → (Nat → Nat → Int32) → (Nat → Nat → Int64) → Option (((Nat → Int32) × (Nat → Nat → Int64) × (Nat → Nat → Int32)) ⊕ ((Nat → Int32) × (Nat → Nat → Int64) × (Nat → Nat → Int32))))  (i0 : Nat → Int32) (l0 : Nat → Nat → Int64) (r0 : Nat → Nat → Int32) (x1 : Int32) (x2 : Int32) : Option ((Int32 × (Nat → Int32) × (Nat → Nat → Int64) × (Nat → Nat → Int32)) ⊕ ((Nat → Int32) × (Nat → Nat → Int64) × (Nat → Nat → Int32))) := bt (F i0 r0 l0) (fun q23 => bd (f_X13_keepBody q23.1 q23.2.2 q23.2.1 x2 0) (fun q24 => if x1 = 4 then (bt (f_X13_word 14 q23.1 q24 q23.2.1) (fun q26 => f_X13_readOne_144 F q26 q23.2.1 q24 x1 x2) (fun t26 => some (.inr (t26, q23.2.1, q24)))) else (bt (f_X13_word 17 q23.1 q24 q23.2.1) (fun q25 => f_X13_readOne_144 F q25 q23.2.1 q24 x1 x2) (fun t25 => some (.inr (t25, q23.2.1, q24)))))) (fun t23 => some (.inr (t23.1, t23.2.1, t23.2.2)))
set_option maxRecDepth 100000 in
set_option maxHeartbeats 4000000 in
theorem w_X13_readOne_116 {p : Program} {l : Launch} {e : Env} {s : State} {m : MethodId} {args : Array Value} {below : List Frame} {meth : Method} {c : Code} {A : Nat → Prop} {D : va_G} {cs zs : Nat → Nat} {h0 : Nat} {a0 : Nat → Nat}  {q : (Int32 × (Nat → Int32) × (Nat → Nat → Int64) × (Nat → Nat → Int32)) ⊕ ((Nat → Int32) × (Nat → Nat → Int64) × (Nat → Nat → Int32))} (C : Cx p s m args meth c A D cs zs cX13_readOne 3 (some .int) RX13) (hne : NoH c) {d : Nat} {F : (Nat → Int32) → (Nat → Nat → Int32) → (Nat → Nat → Int64) → Option (((Nat → Int32) × (Nat → Nat → Int64) × (Nat → Nat → Int32)) ⊕ ((Nat → Int32) × (Nat → Nat → Int64) × (Nat → Nat → Int32)))} (hF : (∀ {i0 : Nat → Int32} {r0 : Nat → Nat → Int32} {l0 : Nat → Nat → Int64}  {q : (Nat → Int32) × (Nat → Nat → Int64) × (Nat → Nat → Int32)}, F i0 r0 l0 = some (.inl q) → Mv l yX13_readBody wlX13_readBody (rmX13_readBody d) D cs zs [.ref h0] (W13 cs h0 a0 i0 r0 l0) (W13 cs h0 a0 q.1 q.2.2 q.2.1)) ∧ (∀ {i0 : Nat → Int32} {r0 : Nat → Nat → Int32} {l0 : Nat → Nat → Int64}  {t : (Nat → Int32) × (Nat → Nat → Int64) × (Nat → Nat → Int32)}, F i0 r0 l0 = some (.inr t) → MT l yX13_readBody wlX13_readBody (rmX13_readBody d) D cs zs [.ref h0] (W13 cs h0 a0 i0 r0 l0) (a0 0) (W13 cs h0 a0 t.1 t.2.2 t.2.1)))  : ∀ (i0 : Nat → Int32) (l0 : Nat → Nat → Int64) (r0 : Nat → Nat → Int32) (x1 : Int32) (x2 : Int32) (H : Heap) (locs : List Loc) (ls : Array Slot), f_X13_readOne_116 F i0 l0 r0 x1 x2 = some q → va_P D vwCl (W13 cs h0 a0 i0 r0 l0) H → va_D A (W13 cs h0 a0 i0 r0 l0) → va_S A s.heap H locs → lv_has ls 3 [(0, .ref h0), (1, .int x1), (2, .int x2)] → W p l e (rmX13_readOne d) s m args below meth c H locs 0 0 (Sum.elim (fun q => MQ below (Qi D cs A q.1 (W13 cs h0 a0 q.2.1 q.2.2.2 q.2.2.1)) args s 0 0 A) (fun t => MQT below D cs A (a0 0) (W13 cs h0 a0 t.1 t.2.2 t.2.1) args s) q) (F0 m 116 ls []) := by
  obtain ⟨hx, hb, hr, hml, hown, hts, hK, hA, hlocks, hZ⟩ := id C
  intro i0 l0 r0 x1 x2 H locs ls hf hP hD hS hl
  rw [f_X13_readOne_116] at hf
  refine lv_aload_n hx hb dX13_readOne_116 rfl (lv_at hl 0 rfl) ?_
  rcases (bt_s hf).symm with ⟨t23, hq23, hf⟩ | ⟨q23, hq23, hf⟩
  · obtain rfl := Option.some.inj hf
    exact k_sVt (R := rmX13_readOne d) (ws2 := W13 cs h0 a0 t23.1 t23.2.2 t23.2.1) (As := []) (rest := []) hx hb hml hown hts hK hA hZ hl.1 hP hD hS (hF.2 hq23) (gVt mlX13_474 imX13_readBody seX13_readBody inX13 coX13_readBody) rfl qnX13_readBody rfl rfl ⟨by show 34 + 2 * d + 1 ≤ 34 + 2 * d + 1; omega, by show 8 + (4 + 11) + (719 + 45 * d) ≤ 719 + 45 * d + 23; omega⟩ 0 13 rfl rfl rfl rfl rfl (Nat.le_of_ble_eq_true rfl) dX13_readOne_117 hlocks hne
  refine k_sVv (ws2 := W13 cs h0 a0 q23.1 q23.2.2 q23.2.1) (As := []) (rest := []) hx hb hml hown hts hK hA hZ hl.1 hP hD hS (hF.1 hq23) (gVt mlX13_474 imX13_readBody seX13_readBody inX13 coX13_readBody) rfl qnX13_readBody rfl rfl ⟨by show 34 + 2 * d + 1 ≤ 34 + 2 * d + 1; omega, by show 8 + (4 + 11) + (719 + 45 * d) ≤ 719 + 45 * d + 23; omega⟩ 0 13 rfl rfl rfl rfl rfl (Nat.le_of_ble_eq_true rfl) ⟨Nat.zero_le _, Nat.zero_le _⟩ dX13_readOne_117 (fun H locs hP hD hS => ?_)
  refine lv_aload_n hx hb dX13_readOne_120 rfl (lv_at hl 0 rfl) ?_
  refine lv_iload_n hx hb dX13_readOne_121 rfl (lv_at hl 2 rfl) ?_
  refine lv_iconst (v := 0) hx hb dX13_readOne_122 (by decide) ?_
  obtain ⟨q24, hq24, hf⟩ := bd_s hf
  refine k_sVv (ws2 := W13 cs h0 a0 q23.1 q24 q23.2.1) (As := [.int x2, .int 0]) (rest := []) hx hb hml hown hts hK hA hZ hl.1 hP hD hS (c_X13_keepBody (h0 := h0) (a0 := a0) hq24) (gVt mlX13_477 imX13_keepBody seX13_keepBody inX13 coX13_keepBody) rfl qnX13_keepBody rfl rfl ⟨by show 0 + 1 ≤ 34 + 2 * d + 1; omega, by show 8 + (3 + 11) + (0) ≤ 719 + 45 * d + 23; omega⟩ 0 13 rfl rfl rfl rfl rfl (Nat.le_of_ble_eq_true rfl) ⟨Nat.zero_le _, Nat.zero_le _⟩ dX13_readOne_123 (fun H locs hP hD hS => ?_)
  refine lv_aload_n hx hb dX13_readOne_126 rfl (lv_at hl 0 rfl) ?_
  refine lv_iload_n hx hb dX13_readOne_127 rfl (lv_at hl 1 rfl) ?_
  refine lv_iconst (v := 4) hx hb dX13_readOne_128 (by decide) ?_
  refine lv_icmp_ne (tgt := 138) hx hb dX13_readOne_129 (by decide) (fun hc => ?_) (fun hc => ?_)
  · have hf := ite_f hf hc
    refine k_ldcSw hx hb hown (hZ.2.2.2.2.2.2.1 17 (439, "loop") rfl) dX13_readOne_138 ?_
    rcases (bt_s hf).symm with ⟨t25, hq25, hf⟩ | ⟨q25, hq25, hf⟩
    · obtain rfl := Option.some.inj hf
      exact k_sVt (R := rmX13_readOne d) (ws2 := W13 cs h0 a0 t25 q24 q23.2.1) (As := [.ref (zs (10 + 17))]) (rest := []) hx hb hml hown hts hK hA hZ hl.1 hP hD hS (t_X13_word (h0 := h0) (a0 := a0) (w := 17) (by decide : 17 < 20) hq25) (gVt mlX13_120 imX13_word seX13_word inX13 coX13_word) rfl qnX13_word rfl rfl ⟨by show 5 + 1 ≤ 34 + 2 * d + 1; omega, by show 8 + (2 + 11) + (108) ≤ 719 + 45 * d + 23; omega⟩ 0 13 rfl rfl rfl rfl rfl (Nat.le_of_ble_eq_true rfl) dX13_readOne_141 hlocks hne
    refine k_sVv (ws2 := W13 cs h0 a0 q25 q24 q23.2.1) (As := [.ref (zs (10 + 17))]) (rest := []) hx hb hml hown hts hK hA hZ hl.1 hP hD hS (c_X13_word (h0 := h0) (a0 := a0) (w := 17) (by decide : 17 < 20) hq25) (gVt mlX13_120 imX13_word seX13_word inX13 coX13_word) rfl qnX13_word rfl rfl ⟨by show 5 + 1 ≤ 34 + 2 * d + 1; omega, by show 8 + (2 + 11) + (108) ≤ 719 + 45 * d + 23; omega⟩ 0 13 rfl rfl rfl rfl rfl (Nat.le_of_ble_eq_true rfl) ⟨Nat.zero_le _, Nat.zero_le _⟩ dX13_readOne_141 (fun H locs hP hD hS => ?_)
    exact w_X13_readOne_144 C hne hF  _ _ _ _ _ _ _ _ hf hP hD hS (lv_sub hl [0, 1, 2] rfl)
  · have hf := ite_t hf hc
    refine k_ldcSw hx hb hown (hZ.2.2.2.2.2.2.1 14 (433, "else") rfl) dX13_readOne_132 ?_
    refine lv_goto (tgt := 141) hx hb dX13_readOne_135 (by decide) ?_
    rcases (bt_s hf).symm with ⟨t26, hq26, hf⟩ | ⟨q26, hq26, hf⟩
    · obtain rfl := Option.some.inj hf
      exact k_sVt (R := rmX13_readOne d) (ws2 := W13 cs h0 a0 t26 q24 q23.2.1) (As := [.ref (zs (10 + 14))]) (rest := []) hx hb hml hown hts hK hA hZ hl.1 hP hD hS (t_X13_word (h0 := h0) (a0 := a0) (w := 14) (by decide : 14 < 20) hq26) (gVt mlX13_120 imX13_word seX13_word inX13 coX13_word) rfl qnX13_word rfl rfl ⟨by show 5 + 1 ≤ 34 + 2 * d + 1; omega, by show 8 + (2 + 11) + (108) ≤ 719 + 45 * d + 23; omega⟩ 0 13 rfl rfl rfl rfl rfl (Nat.le_of_ble_eq_true rfl) dX13_readOne_141 hlocks hne
    refine k_sVv (ws2 := W13 cs h0 a0 q26 q24 q23.2.1) (As := [.ref (zs (10 + 14))]) (rest := []) hx hb hml hown hts hK hA hZ hl.1 hP hD hS (c_X13_word (h0 := h0) (a0 := a0) (w := 14) (by decide : 14 < 20) hq26) (gVt mlX13_120 imX13_word seX13_word inX13 coX13_word) rfl qnX13_word rfl rfl ⟨by show 5 + 1 ≤ 34 + 2 * d + 1; omega, by show 8 + (2 + 11) + (108) ≤ 719 + 45 * d + 23; omega⟩ 0 13 rfl rfl rfl rfl rfl (Nat.le_of_ble_eq_true rfl) ⟨Nat.zero_le _, Nat.zero_le _⟩ dX13_readOne_141 (fun H locs hP hD hS => ?_)
    exact w_X13_readOne_144 C hne hF  _ _ _ _ _ _ _ _ hf hP hD hS (lv_sub hl [0, 1, 2] rfl)
def f_X13_readOne_82 (F : (Nat → Int32) → (Nat → Nat → Int32) → (Nat → Nat → Int64) → Option (((Nat → Int32) × (Nat → Nat → Int64) × (Nat → Nat → Int32)) ⊕ ((Nat → Int32) × (Nat → Nat → Int64) × (Nat → Nat → Int32))))  (i0 : Nat → Int32) (l0 : Nat → Nat → Int64) (r0 : Nat → Nat → Int32) (x1 : Int32) (x2 : Int32) : Option ((Int32 × (Nat → Int32) × (Nat → Nat → Int64) × (Nat → Nat → Int32)) ⊕ ((Nat → Int32) × (Nat → Nat → Int64) × (Nat → Nat → Int32))) := bt (f_X13_readTest (upd i0 50 ((i0 50) + 1)) r0 l0 x2 0) (fun q27 => if x1 = 4 then (bt (f_X13_word 13 q27.1 q27.2 l0) (fun q29 => f_X13_readOne_116 F q29 l0 q27.2 x1 x2) (fun t29 => some (.inr (t29, l0, q27.2)))) else (bt (f_X13_word 16 q27.1 q27.2 l0) (fun q28 => f_X13_readOne_116 F q28 l0 q27.2 x1 x2) (fun t28 => some (.inr (t28, l0, q27.2))))) (fun t27 => some (.inr (t27.1, l0, t27.2)))
set_option maxRecDepth 100000 in
set_option maxHeartbeats 4000000 in
theorem w_X13_readOne_82 {p : Program} {l : Launch} {e : Env} {s : State} {m : MethodId} {args : Array Value} {below : List Frame} {meth : Method} {c : Code} {A : Nat → Prop} {D : va_G} {cs zs : Nat → Nat} {h0 : Nat} {a0 : Nat → Nat}  {q : (Int32 × (Nat → Int32) × (Nat → Nat → Int64) × (Nat → Nat → Int32)) ⊕ ((Nat → Int32) × (Nat → Nat → Int64) × (Nat → Nat → Int32))} (C : Cx p s m args meth c A D cs zs cX13_readOne 3 (some .int) RX13) (hne : NoH c) {d : Nat} {F : (Nat → Int32) → (Nat → Nat → Int32) → (Nat → Nat → Int64) → Option (((Nat → Int32) × (Nat → Nat → Int64) × (Nat → Nat → Int32)) ⊕ ((Nat → Int32) × (Nat → Nat → Int64) × (Nat → Nat → Int32)))} (hF : (∀ {i0 : Nat → Int32} {r0 : Nat → Nat → Int32} {l0 : Nat → Nat → Int64}  {q : (Nat → Int32) × (Nat → Nat → Int64) × (Nat → Nat → Int32)}, F i0 r0 l0 = some (.inl q) → Mv l yX13_readBody wlX13_readBody (rmX13_readBody d) D cs zs [.ref h0] (W13 cs h0 a0 i0 r0 l0) (W13 cs h0 a0 q.1 q.2.2 q.2.1)) ∧ (∀ {i0 : Nat → Int32} {r0 : Nat → Nat → Int32} {l0 : Nat → Nat → Int64}  {t : (Nat → Int32) × (Nat → Nat → Int64) × (Nat → Nat → Int32)}, F i0 r0 l0 = some (.inr t) → MT l yX13_readBody wlX13_readBody (rmX13_readBody d) D cs zs [.ref h0] (W13 cs h0 a0 i0 r0 l0) (a0 0) (W13 cs h0 a0 t.1 t.2.2 t.2.1)))  : ∀ (i0 : Nat → Int32) (l0 : Nat → Nat → Int64) (r0 : Nat → Nat → Int32) (x1 : Int32) (x2 : Int32) (H : Heap) (locs : List Loc) (ls : Array Slot), f_X13_readOne_82 F i0 l0 r0 x1 x2 = some q → va_P D vwCl (W13 cs h0 a0 i0 r0 l0) H → va_D A (W13 cs h0 a0 i0 r0 l0) → va_S A s.heap H locs → lv_has ls 3 [(0, .ref h0), (1, .int x1), (2, .int x2)] → W p l e (rmX13_readOne d) s m args below meth c H locs 0 0 (Sum.elim (fun q => MQ below (Qi D cs A q.1 (W13 cs h0 a0 q.2.1 q.2.2.2 q.2.2.1)) args s 0 0 A) (fun t => MQT below D cs A (a0 0) (W13 cs h0 a0 t.1 t.2.2 t.2.1) args s) q) (F0 m 82 ls []) := by
  obtain ⟨hx, hb, hr, hml, hown, hts, hK, hA, hlocks, hZ⟩ := id C
  intro i0 l0 r0 x1 x2 H locs ls hf hP hD hS hl
  rw [f_X13_readOne_82] at hf
  refine lv_aload_n hx hb dX13_readOne_82 rfl (lv_at hl 0 rfl) ?_
  refine lv_dup hx hb dX13_readOne_83 rfl ?_
  refine va_get (D := D) (ci := 13) (v := .int (i0 50)) (C := RX13) (T := TX13) (N := 87) hx hb hts hiX13 hown hK hP 0 rfl rfl 50 (by decide) (hts _ flX13_468) (fun _ h9 => h9) rfl dX13_readOne_84 ?_
  refine lv_iconst (v := 1) hx hb dX13_readOne_87 (by decide) ?_
  refine lv_iadd hx hb dX13_readOne_88 ?_
  refine va_put (D := D) (ci := 13) (v := .int ((i0 50) + 1)) (ty := .int) (C := RX13) (T := TX13) (N := 87) hx hb hts hiX13 tyX13 tyX13_ok nmX13 hown hK hP hD hS 0 rfl rfl 50 (by decide) (hts _ flX13_468) (fun _ h9 => h9) rfl (tyX13_ok 50 (by decide)) rfl rfl (Nat.le_of_ble_eq_true rfl) dX13_readOne_89 (fun H locs hP hD hS => ?_)
  obtain ⟨hP, hD⟩ := st13_50 hP hD
  refine lv_aload_n hx hb dX13_readOne_92 rfl (lv_at hl 0 rfl) ?_
  refine lv_iload_n hx hb dX13_readOne_93 rfl (lv_at hl 2 rfl) ?_
  refine lv_iconst (v := 0) hx hb dX13_readOne_94 (by decide) ?_
  rcases (bt_s hf).symm with ⟨t27, hq27, hf⟩ | ⟨q27, hq27, hf⟩
  · obtain rfl := Option.some.inj hf
    exact k_sVt (R := rmX13_readOne d) (ws2 := W13 cs h0 a0 t27.1 t27.2 l0) (As := [.int x2, .int 0]) (rest := []) hx hb hml hown hts hK hA hZ hl.1 hP hD hS (t_X13_readTest (h0 := h0) (a0 := a0) hq27) (gVt mlX13_471 imX13_readTest seX13_readTest inX13 coX13_readTest) rfl qnX13_readTest rfl rfl ⟨by show 33 + 1 ≤ 34 + 2 * d + 1; omega, by show 8 + (4 + 11) + (696) ≤ 719 + 45 * d + 23; omega⟩ 0 13 rfl rfl rfl rfl rfl (Nat.le_of_ble_eq_true rfl) dX13_readOne_95 hlocks hne
  refine k_sVv (ws2 := W13 cs h0 a0 q27.1 q27.2 l0) (As := [.int x2, .int 0]) (rest := []) hx hb hml hown hts hK hA hZ hl.1 hP hD hS (c_X13_readTest (h0 := h0) (a0 := a0) hq27) (gVt mlX13_471 imX13_readTest seX13_readTest inX13 coX13_readTest) rfl qnX13_readTest rfl rfl ⟨by show 33 + 1 ≤ 34 + 2 * d + 1; omega, by show 8 + (4 + 11) + (696) ≤ 719 + 45 * d + 23; omega⟩ 0 13 rfl rfl rfl rfl rfl (Nat.le_of_ble_eq_true rfl) ⟨Nat.zero_le _, Nat.zero_le _⟩ dX13_readOne_95 (fun H locs hP hD hS => ?_)
  refine lv_aload_n hx hb dX13_readOne_98 rfl (lv_at hl 0 rfl) ?_
  refine lv_iload_n hx hb dX13_readOne_99 rfl (lv_at hl 1 rfl) ?_
  refine lv_iconst (v := 4) hx hb dX13_readOne_100 (by decide) ?_
  refine lv_icmp_ne (tgt := 110) hx hb dX13_readOne_101 (by decide) (fun hc => ?_) (fun hc => ?_)
  · have hf := ite_f hf hc
    refine k_ldcSw hx hb hown (hZ.2.2.2.2.2.2.1 16 (437, "do") rfl) dX13_readOne_110 ?_
    rcases (bt_s hf).symm with ⟨t28, hq28, hf⟩ | ⟨q28, hq28, hf⟩
    · obtain rfl := Option.some.inj hf
      exact k_sVt (R := rmX13_readOne d) (ws2 := W13 cs h0 a0 t28 q27.2 l0) (As := [.ref (zs (10 + 16))]) (rest := []) hx hb hml hown hts hK hA hZ hl.1 hP hD hS (t_X13_word (h0 := h0) (a0 := a0) (w := 16) (by decide : 16 < 20) hq28) (gVt mlX13_120 imX13_word seX13_word inX13 coX13_word) rfl qnX13_word rfl rfl ⟨by show 5 + 1 ≤ 34 + 2 * d + 1; omega, by show 8 + (2 + 11) + (108) ≤ 719 + 45 * d + 23; omega⟩ 0 13 rfl rfl rfl rfl rfl (Nat.le_of_ble_eq_true rfl) dX13_readOne_113 hlocks hne
    refine k_sVv (ws2 := W13 cs h0 a0 q28 q27.2 l0) (As := [.ref (zs (10 + 16))]) (rest := []) hx hb hml hown hts hK hA hZ hl.1 hP hD hS (c_X13_word (h0 := h0) (a0 := a0) (w := 16) (by decide : 16 < 20) hq28) (gVt mlX13_120 imX13_word seX13_word inX13 coX13_word) rfl qnX13_word rfl rfl ⟨by show 5 + 1 ≤ 34 + 2 * d + 1; omega, by show 8 + (2 + 11) + (108) ≤ 719 + 45 * d + 23; omega⟩ 0 13 rfl rfl rfl rfl rfl (Nat.le_of_ble_eq_true rfl) ⟨Nat.zero_le _, Nat.zero_le _⟩ dX13_readOne_113 (fun H locs hP hD hS => ?_)
    exact w_X13_readOne_116 C hne hF  _ _ _ _ _ _ _ _ hf hP hD hS (lv_sub hl [0, 1, 2] rfl)
  · have hf := ite_t hf hc
    refine k_ldcSw hx hb hown (hZ.2.2.2.2.2.2.1 13 (431, "then") rfl) dX13_readOne_104 ?_
    refine lv_goto (tgt := 113) hx hb dX13_readOne_107 (by decide) ?_
    rcases (bt_s hf).symm with ⟨t29, hq29, hf⟩ | ⟨q29, hq29, hf⟩
    · obtain rfl := Option.some.inj hf
      exact k_sVt (R := rmX13_readOne d) (ws2 := W13 cs h0 a0 t29 q27.2 l0) (As := [.ref (zs (10 + 13))]) (rest := []) hx hb hml hown hts hK hA hZ hl.1 hP hD hS (t_X13_word (h0 := h0) (a0 := a0) (w := 13) (by decide : 13 < 20) hq29) (gVt mlX13_120 imX13_word seX13_word inX13 coX13_word) rfl qnX13_word rfl rfl ⟨by show 5 + 1 ≤ 34 + 2 * d + 1; omega, by show 8 + (2 + 11) + (108) ≤ 719 + 45 * d + 23; omega⟩ 0 13 rfl rfl rfl rfl rfl (Nat.le_of_ble_eq_true rfl) dX13_readOne_113 hlocks hne
    refine k_sVv (ws2 := W13 cs h0 a0 q29 q27.2 l0) (As := [.ref (zs (10 + 13))]) (rest := []) hx hb hml hown hts hK hA hZ hl.1 hP hD hS (c_X13_word (h0 := h0) (a0 := a0) (w := 13) (by decide : 13 < 20) hq29) (gVt mlX13_120 imX13_word seX13_word inX13 coX13_word) rfl qnX13_word rfl rfl ⟨by show 5 + 1 ≤ 34 + 2 * d + 1; omega, by show 8 + (2 + 11) + (108) ≤ 719 + 45 * d + 23; omega⟩ 0 13 rfl rfl rfl rfl rfl (Nat.le_of_ble_eq_true rfl) ⟨Nat.zero_le _, Nat.zero_le _⟩ dX13_readOne_113 (fun H locs hP hD hS => ?_)
    exact w_X13_readOne_116 C hne hF  _ _ _ _ _ _ _ _ hf hP hD hS (lv_sub hl [0, 1, 2] rfl)
def f_X13_readOne_203 (F : (Nat → Int32) → (Nat → Nat → Int32) → (Nat → Nat → Int64) → Option (((Nat → Int32) × (Nat → Nat → Int64) × (Nat → Nat → Int32)) ⊕ ((Nat → Int32) × (Nat → Nat → Int64) × (Nat → Nat → Int32))))  (i0 : Nat → Int32) (l0 : Nat → Nat → Int64) (r0 : Nat → Nat → Int32) (x2 : Int32) : Option ((Int32 × (Nat → Int32) × (Nat → Nat → Int64) × (Nat → Nat → Int32)) ⊕ ((Nat → Int32) × (Nat → Nat → Int64) × (Nat → Nat → Int32))) := bt (f_X13_nameAtHand i0 r0 l0) (fun q30 => ck (inb (x2 - 60) 60) (bd (f_X13_scan q30.2 r0 (va_up l0 45 (vp_updL (l0 45) (x2 - 60).toNatClampNeg q30.1))) (fun q31 => some (.inl (x2, q31, (va_up l0 45 (vp_updL (l0 45) (x2 - 60).toNatClampNeg q30.1)), r0))))) (fun t30 => some (.inr (t30, l0, r0)))
set_option maxRecDepth 100000 in
set_option maxHeartbeats 4000000 in
theorem w_X13_readOne_203 {p : Program} {l : Launch} {e : Env} {s : State} {m : MethodId} {args : Array Value} {below : List Frame} {meth : Method} {c : Code} {A : Nat → Prop} {D : va_G} {cs zs : Nat → Nat} {h0 : Nat} {a0 : Nat → Nat}  {q : (Int32 × (Nat → Int32) × (Nat → Nat → Int64) × (Nat → Nat → Int32)) ⊕ ((Nat → Int32) × (Nat → Nat → Int64) × (Nat → Nat → Int32))} (C : Cx p s m args meth c A D cs zs cX13_readOne 3 (some .int) RX13) (hne : NoH c) {d : Nat} {F : (Nat → Int32) → (Nat → Nat → Int32) → (Nat → Nat → Int64) → Option (((Nat → Int32) × (Nat → Nat → Int64) × (Nat → Nat → Int32)) ⊕ ((Nat → Int32) × (Nat → Nat → Int64) × (Nat → Nat → Int32)))} (hF : (∀ {i0 : Nat → Int32} {r0 : Nat → Nat → Int32} {l0 : Nat → Nat → Int64}  {q : (Nat → Int32) × (Nat → Nat → Int64) × (Nat → Nat → Int32)}, F i0 r0 l0 = some (.inl q) → Mv l yX13_readBody wlX13_readBody (rmX13_readBody d) D cs zs [.ref h0] (W13 cs h0 a0 i0 r0 l0) (W13 cs h0 a0 q.1 q.2.2 q.2.1)) ∧ (∀ {i0 : Nat → Int32} {r0 : Nat → Nat → Int32} {l0 : Nat → Nat → Int64}  {t : (Nat → Int32) × (Nat → Nat → Int64) × (Nat → Nat → Int32)}, F i0 r0 l0 = some (.inr t) → MT l yX13_readBody wlX13_readBody (rmX13_readBody d) D cs zs [.ref h0] (W13 cs h0 a0 i0 r0 l0) (a0 0) (W13 cs h0 a0 t.1 t.2.2 t.2.1)))  : ∀ (i0 : Nat → Int32) (l0 : Nat → Nat → Int64) (r0 : Nat → Nat → Int32) (x2 : Int32) (H : Heap) (locs : List Loc) (ls : Array Slot), f_X13_readOne_203 F i0 l0 r0 x2 = some q → va_P D vwCl (W13 cs h0 a0 i0 r0 l0) H → va_D A (W13 cs h0 a0 i0 r0 l0) → va_S A s.heap H locs → lv_has ls 3 [(0, .ref h0), (2, .int x2)] → W p l e (rmX13_readOne d) s m args below meth c H locs 0 0 (Sum.elim (fun q => MQ below (Qi D cs A q.1 (W13 cs h0 a0 q.2.1 q.2.2.2 q.2.2.1)) args s 0 0 A) (fun t => MQT below D cs A (a0 0) (W13 cs h0 a0 t.1 t.2.2 t.2.1) args s) q) (F0 m 203 ls []) := by
  obtain ⟨hx, hb, hr, hml, hown, hts, hK, hA, hlocks, hZ⟩ := id C
  intro i0 l0 r0 x2 H locs ls hf hP hD hS hl
  rw [f_X13_readOne_203] at hf
  refine lv_aload_n hx hb dX13_readOne_203 rfl (lv_at hl 0 rfl) ?_
  refine va_get (D := D) (ci := 13) (v := .ref (a0 45)) (C := RX13) (T := TX13) (N := 87) hx hb hts hiX13 hown hK hP 0 rfl rfl 45 (by decide) (hts _ flX13_225) (fun _ h9 => h9) rfl dX13_readOne_204 ?_
  refine lv_iload_n hx hb dX13_readOne_207 rfl (lv_at hl 1 rfl) ?_
  refine lv_bipush (v := 60) hx hb dX13_readOne_208 (by decide) ?_
  refine lv_isub hx hb dX13_readOne_210 ?_
  refine lv_aload_n hx hb dX13_readOne_211 rfl (lv_at hl 0 rfl) ?_
  rcases (bt_s hf).symm with ⟨t30, hq30, hf⟩ | ⟨q30, hq30, hf⟩
  · obtain rfl := Option.some.inj hf
    exact k_sVt (R := rmX13_readOne d) (ws2 := W13 cs h0 a0 t30 r0 l0) (As := []) (rest := [.int (x2 - 60), .ref (a0 45)]) hx hb hml hown hts hK hA hZ hl.1 hP hD hS (t_X13_nameAtHand (h0 := h0) (a0 := a0) hq30) (gVt mlX13_480 imX13_nameAtHand seX13_nameAtHand inX13 coX13_nameAtHand) rfl qnX13_nameAtHand rfl rfl ⟨by show 7 + 1 ≤ 34 + 2 * d + 1; omega, by show 8 + (4 + 11) + (148) ≤ 719 + 45 * d + 23; omega⟩ 0 13 rfl rfl rfl rfl rfl (Nat.le_of_ble_eq_true rfl) dX13_readOne_212 hlocks hne
  refine k_sVl (ws2 := W13 cs h0 a0 q30.2 r0 l0) (As := []) (rest := [.int (x2 - 60), .ref (a0 45)]) hx hb hml hown hts hK hA hZ hl.1 hP hD hS (c_X13_nameAtHand (h0 := h0) (a0 := a0) hq30) (gVt mlX13_480 imX13_nameAtHand seX13_nameAtHand inX13 coX13_nameAtHand) rfl qnX13_nameAtHand rfl rfl ⟨by show 7 + 1 ≤ 34 + 2 * d + 1; omega, by show 8 + (4 + 11) + (148) ≤ 719 + 45 * d + 23; omega⟩ 0 13 rfl rfl rfl rfl rfl (Nat.le_of_ble_eq_true rfl) ⟨Nat.zero_le _, Nat.zero_le _⟩ dX13_readOne_212 (fun H locs hP hD hS => ?_)
  refine va_last (f := l0 45) hx hb hK hP hD hS 34 1 rfl rfl (ck_in hf) dX13_readOne_215 (fun H locs hP hD hS => ?_)
  have hf := ck_2 hf
  obtain ⟨hP, hD⟩ := st13_45 hP hD
  refine lv_aload_n hx hb dX13_readOne_216 rfl (lv_at hl 0 rfl) ?_
  obtain ⟨q31, hq31, hf⟩ := bd_s hf
  refine k_sVv (ws2 := W13 cs h0 a0 q31 r0 (va_up l0 45 (vp_updL (l0 45) (x2 - 60).toNatClampNeg q30.1))) (As := []) (rest := []) hx hb hml hown hts hK hA hZ hl.1 hP hD hS (c_X13_scan (h0 := h0) (a0 := a0) hq31) (gVt mlX13_72 imX13_scan seX13_scan inX13 coX13_scan) rfl qnX13_scan rfl rfl ⟨by show 1 + 1 ≤ 34 + 2 * d + 1; omega, by show 8 + (2 + 11) + (21) ≤ 719 + 45 * d + 23; omega⟩ 0 13 rfl rfl rfl rfl rfl (Nat.le_of_ble_eq_true rfl) ⟨Nat.zero_le _, Nat.zero_le _⟩ dX13_readOne_217 (fun H locs hP hD hS => ?_)
  refine lv_goto (tgt := 283) hx hb dX13_readOne_220 (by decide) ?_
  refine lv_iload_n hx hb dX13_readOne_283 rfl (lv_at hl 1 rfl) ?_
  obtain rfl := Option.some.inj hf
  exact k_iret hx hb hr hlocks hK hP hD hS dX13_readOne_284
def f_X13_readOne_240 (F : (Nat → Int32) → (Nat → Nat → Int32) → (Nat → Nat → Int64) → Option (((Nat → Int32) × (Nat → Nat → Int64) × (Nat → Nat → Int32)) ⊕ ((Nat → Int32) × (Nat → Nat → Int64) × (Nat → Nat → Int32))))  (i0 : Nat → Int32) (l0 : Nat → Nat → Int64) (r0 : Nat → Nat → Int32) (x1 : Int32) (x2 : Int32) : Option ((Int32 × (Nat → Int32) × (Nat → Nat → Int64) × (Nat → Nat → Int32)) ⊕ ((Nat → Int32) × (Nat → Nat → Int64) × (Nat → Nat → Int32))) := ck (inb (2 * x2) 240) (if x1 = 3 then (bt (f_X13_readOther i0 (va_up r0 33 (upd (r0 33) (2 * x2).toNatClampNeg (i0 57))) l0 x2) (fun q33 => some (.inl (x2, q33.1, l0, q33.2))) (fun t33 => some (.inr (t33.1, l0, t33.2)))) else (bt (f_X13_readSum i0 (va_up r0 33 (upd (r0 33) (2 * x2).toNatClampNeg (i0 57))) l0 (4 * x2) ((1 : Int32) <<< ((if (i0 56) < 8 then (i0 56) else 8) &&& 31))) (fun q32 => some (.inl (x2, q32.1, l0, q32.2))) (fun t32 => some (.inr (t32.1, l0, t32.2)))))
set_option maxRecDepth 100000 in
set_option maxHeartbeats 4000000 in
theorem w_X13_readOne_240 {p : Program} {l : Launch} {e : Env} {s : State} {m : MethodId} {args : Array Value} {below : List Frame} {meth : Method} {c : Code} {A : Nat → Prop} {D : va_G} {cs zs : Nat → Nat} {h0 : Nat} {a0 : Nat → Nat}  {q : (Int32 × (Nat → Int32) × (Nat → Nat → Int64) × (Nat → Nat → Int32)) ⊕ ((Nat → Int32) × (Nat → Nat → Int64) × (Nat → Nat → Int32))} (C : Cx p s m args meth c A D cs zs cX13_readOne 3 (some .int) RX13) (hne : NoH c) {d : Nat} {F : (Nat → Int32) → (Nat → Nat → Int32) → (Nat → Nat → Int64) → Option (((Nat → Int32) × (Nat → Nat → Int64) × (Nat → Nat → Int32)) ⊕ ((Nat → Int32) × (Nat → Nat → Int64) × (Nat → Nat → Int32)))} (hF : (∀ {i0 : Nat → Int32} {r0 : Nat → Nat → Int32} {l0 : Nat → Nat → Int64}  {q : (Nat → Int32) × (Nat → Nat → Int64) × (Nat → Nat → Int32)}, F i0 r0 l0 = some (.inl q) → Mv l yX13_readBody wlX13_readBody (rmX13_readBody d) D cs zs [.ref h0] (W13 cs h0 a0 i0 r0 l0) (W13 cs h0 a0 q.1 q.2.2 q.2.1)) ∧ (∀ {i0 : Nat → Int32} {r0 : Nat → Nat → Int32} {l0 : Nat → Nat → Int64}  {t : (Nat → Int32) × (Nat → Nat → Int64) × (Nat → Nat → Int32)}, F i0 r0 l0 = some (.inr t) → MT l yX13_readBody wlX13_readBody (rmX13_readBody d) D cs zs [.ref h0] (W13 cs h0 a0 i0 r0 l0) (a0 0) (W13 cs h0 a0 t.1 t.2.2 t.2.1)))  : ∀ (i0 : Nat → Int32) (l0 : Nat → Nat → Int64) (r0 : Nat → Nat → Int32) (x1 : Int32) (x2 : Int32) (H : Heap) (locs : List Loc) (ls : Array Slot), f_X13_readOne_240 F i0 l0 r0 x1 x2 = some q → va_P D vwCl (W13 cs h0 a0 i0 r0 l0) H → va_D A (W13 cs h0 a0 i0 r0 l0) → va_S A s.heap H locs → lv_has ls 3 [(0, .ref h0), (1, .int x1), (2, .int x2)] → W p l e (rmX13_readOne d) s m args below meth c H locs 0 0 (Sum.elim (fun q => MQ below (Qi D cs A q.1 (W13 cs h0 a0 q.2.1 q.2.2.2 q.2.2.1)) args s 0 0 A) (fun t => MQT below D cs A (a0 0) (W13 cs h0 a0 t.1 t.2.2 t.2.1) args s) q) (F0 m 240 ls []) := by
  obtain ⟨hx, hb, hr, hml, hown, hts, hK, hA, hlocks, hZ⟩ := id C
  intro i0 l0 r0 x1 x2 H locs ls hf hP hD hS hl
  rw [f_X13_readOne_240] at hf
  refine lv_aload_n hx hb dX13_readOne_240 rfl (lv_at hl 0 rfl) ?_
  refine va_get (D := D) (ci := 13) (v := .ref (a0 33)) (C := RX13) (T := TX13) (N := 87) hx hb hts hiX13 hown hK hP 0 rfl rfl 33 (by decide) (hts _ flX13_188) (fun _ h9 => h9) rfl dX13_readOne_241 ?_
  refine lv_iconst (v := 2) hx hb dX13_readOne_244 (by decide) ?_
  refine lv_iload_n hx hb dX13_readOne_245 rfl (lv_at hl 2 rfl) ?_
  refine lv_imul hx hb dX13_readOne_246 ?_
  refine lv_aload_n hx hb dX13_readOne_247 rfl (lv_at hl 0 rfl) ?_
  refine va_get (D := D) (ci := 13) (v := .int (i0 57)) (C := RX13) (T := TX13) (N := 87) hx hb hts hiX13 hown hK hP 0 rfl rfl 57 (by decide) (hts _ flX13_390) (fun _ h9 => h9) rfl dX13_readOne_248 ?_
  refine va_iast (f := r0 33) hx hb hK hP hD hS 22 0 rfl rfl (ck_in hf) dX13_readOne_251 (fun H locs hP hD hS => ?_)
  have hf := ck_2 hf
  obtain ⟨hP, hD⟩ := st13_33 hP hD
  refine lv_iload_n hx hb dX13_readOne_252 rfl (lv_at hl 1 rfl) ?_
  refine lv_iconst (v := 3) hx hb dX13_readOne_253 (by decide) ?_
  refine lv_icmp_ne (tgt := 265) hx hb dX13_readOne_254 (by decide) (fun hc => ?_) (fun hc => ?_)
  · have hf := ite_f hf hc
    refine lv_aload_n hx hb dX13_readOne_265 rfl (lv_at hl 0 rfl) ?_
    refine lv_iconst (v := 4) hx hb dX13_readOne_266 (by decide) ?_
    refine lv_iload_n hx hb dX13_readOne_267 rfl (lv_at hl 2 rfl) ?_
    refine lv_imul hx hb dX13_readOne_268 ?_
    refine lv_iconst (v := 1) hx hb dX13_readOne_269 (by decide) ?_
    refine lv_bipush (v := 8) hx hb dX13_readOne_270 (by decide) ?_
    refine lv_aload_n hx hb dX13_readOne_272 rfl (lv_at hl 0 rfl) ?_
    refine va_get (D := D) (ci := 13) (v := .int (i0 56)) (C := RX13) (T := TX13) (N := 87) hx hb hts hiX13 hown hK hP 0 rfl rfl 56 (by decide) (hts _ flX13_387) (fun _ h9 => h9) rfl dX13_readOne_273 ?_
    refine va_mmin hx hb (hml.trans hl.1.symm) hown (hts _ mlX13_487) (hts _ stJ9_min_7cf53) (hts _ ini_Math) (hts _ coJ9_min_7cf53) (Nat.le_of_ble_eq_true rfl) (Nat.le_of_ble_eq_true rfl) (Nat.zero_le _) (Nat.zero_le _) dX13_readOne_276 ?_
    refine lv_ishl hx hb dX13_readOne_279 ?_
    rcases (bt_s hf).symm with ⟨t32, hq32, hf⟩ | ⟨q32, hq32, hf⟩
    · obtain rfl := Option.some.inj hf
      exact k_sVt (R := rmX13_readOne d) (ws2 := W13 cs h0 a0 t32.1 t32.2 l0) (As := [.int (4 * x2), .int ((1 : Int32) <<< ((if (i0 56) < 8 then (i0 56) else 8) &&& 31))]) (rest := []) hx hb hml hown hts hK hA hZ hl.1 hP hD hS (t_X13_readSum (h0 := h0) (a0 := a0) hq32) (gVt mlX13_420 imX13_readSum seX13_readSum inX13 coX13_readSum) rfl qnX13_readSum rfl rfl ⟨by show 32 + 1 ≤ 34 + 2 * d + 1; omega, by show 8 + (3 + 11) + (674) ≤ 719 + 45 * d + 23; omega⟩ 0 13 rfl rfl rfl rfl rfl (Nat.le_of_ble_eq_true rfl) dX13_readOne_280 hlocks hne
    refine k_sVv (ws2 := W13 cs h0 a0 q32.1 q32.2 l0) (As := [.int (4 * x2), .int ((1 : Int32) <<< ((if (i0 56) < 8 then (i0 56) else 8) &&& 31))]) (rest := []) hx hb hml hown hts hK hA hZ hl.1 hP hD hS (c_X13_readSum (h0 := h0) (a0 := a0) hq32) (gVt mlX13_420 imX13_readSum seX13_readSum inX13 coX13_readSum) rfl qnX13_readSum rfl rfl ⟨by show 32 + 1 ≤ 34 + 2 * d + 1; omega, by show 8 + (3 + 11) + (674) ≤ 719 + 45 * d + 23; omega⟩ 0 13 rfl rfl rfl rfl rfl (Nat.le_of_ble_eq_true rfl) ⟨Nat.zero_le _, Nat.zero_le _⟩ dX13_readOne_280 (fun H locs hP hD hS => ?_)
    refine lv_iload_n hx hb dX13_readOne_283 rfl (lv_at hl 2 rfl) ?_
    obtain rfl := Option.some.inj hf
    exact k_iret hx hb hr hlocks hK hP hD hS dX13_readOne_284
  · have hf := ite_t hf hc
    refine lv_aload_n hx hb dX13_readOne_257 rfl (lv_at hl 0 rfl) ?_
    refine lv_iload_n hx hb dX13_readOne_258 rfl (lv_at hl 2 rfl) ?_
    rcases (bt_s hf).symm with ⟨t33, hq33, hf⟩ | ⟨q33, hq33, hf⟩
    · obtain rfl := Option.some.inj hf
      exact k_sVt (R := rmX13_readOne d) (ws2 := W13 cs h0 a0 t33.1 t33.2 l0) (As := [.int x2]) (rest := []) hx hb hml hown hts hK hA hZ hl.1 hP hD hS (t_X13_readOther (h0 := h0) (a0 := a0) hq33) (gVt mlX13_484 imX13_readOther seX13_readOther inX13 coX13_readOther) rfl qnX13_readOther rfl rfl ⟨by show 7 + 1 ≤ 34 + 2 * d + 1; omega, by show 8 + (5 + 11) + (149) ≤ 719 + 45 * d + 23; omega⟩ 0 13 rfl rfl rfl rfl rfl (Nat.le_of_ble_eq_true rfl) dX13_readOne_259 hlocks hne
    refine k_sVv (ws2 := W13 cs h0 a0 q33.1 q33.2 l0) (As := [.int x2]) (rest := []) hx hb hml hown hts hK hA hZ hl.1 hP hD hS (c_X13_readOther (h0 := h0) (a0 := a0) hq33) (gVt mlX13_484 imX13_readOther seX13_readOther inX13 coX13_readOther) rfl qnX13_readOther rfl rfl ⟨by show 7 + 1 ≤ 34 + 2 * d + 1; omega, by show 8 + (5 + 11) + (149) ≤ 719 + 45 * d + 23; omega⟩ 0 13 rfl rfl rfl rfl rfl (Nat.le_of_ble_eq_true rfl) ⟨Nat.zero_le _, Nat.zero_le _⟩ dX13_readOne_259 (fun H locs hP hD hS => ?_)
    refine lv_goto (tgt := 283) hx hb dX13_readOne_262 (by decide) ?_
    refine lv_iload_n hx hb dX13_readOne_283 rfl (lv_at hl 2 rfl) ?_
    obtain rfl := Option.some.inj hf
    exact k_iret hx hb hr hlocks hK hP hD hS dX13_readOne_284
def f_X13_readOne_39 (F : (Nat → Int32) → (Nat → Nat → Int32) → (Nat → Nat → Int64) → Option (((Nat → Int32) × (Nat → Nat → Int64) × (Nat → Nat → Int32)) ⊕ ((Nat → Int32) × (Nat → Nat → Int64) × (Nat → Nat → Int32))))  (i0 : Nat → Int32) (l0 : Nat → Nat → Int64) (r0 : Nat → Nat → Int32) (x1 : Int32) (y0 : Int32) : Option ((Int32 × (Nat → Int32) × (Nat → Nat → Int64) × (Nat → Nat → Int32)) ⊕ ((Nat → Int32) × (Nat → Nat → Int64) × (Nat → Nat → Int32))) := bt (f_X13_need i0 r0 l0 y0 4) (fun q34 => ck (inb (60 + (q34 48)) 120) (bd (f_X13_scan (upd q34 48 ((q34 48) + 1)) (va_up r0 28 (upd (r0 28) (60 + (q34 48)).toNatClampNeg x1)) l0) (fun q35 => if x1 = 4 then (f_X13_readOne_82 F q35 l0 (va_up r0 28 (upd (r0 28) (60 + (q34 48)).toNatClampNeg x1)) x1 (60 + (q34 48))) else (if x1 = 5 then (f_X13_readOne_82 F q35 l0 (va_up r0 28 (upd (r0 28) (60 + (q34 48)).toNatClampNeg x1)) x1 (60 + (q34 48))) else (if x1 = 6 then (f_X13_readOne_203 F q35 l0 (va_up r0 28 (upd (r0 28) (60 + (q34 48)).toNatClampNeg x1)) (60 + (q34 48))) else (if x1 = 7 then (f_X13_readOne_203 F q35 l0 (va_up r0 28 (upd (r0 28) (60 + (q34 48)).toNatClampNeg x1)) (60 + (q34 48))) else (bt (f_X13_readVar q35 (va_up r0 28 (upd (r0 28) (60 + (q34 48)).toNatClampNeg x1)) l0 0) (fun q36 => ck (inb (2 * (60 + (q34 48))) 240) (f_X13_readOne_240 F q36 l0 (va_up (va_up r0 28 (upd (r0 28) (60 + (q34 48)).toNatClampNeg x1)) 32 (upd (r0 32) (2 * (60 + (q34 48))).toNatClampNeg (q36 56))) x1 (60 + (q34 48)))) (fun t36 => some (.inr (t36, l0, (va_up r0 28 (upd (r0 28) (60 + (q34 48)).toNatClampNeg x1)))))))))))) (fun t34 => some (.inr (t34, l0, r0)))
set_option maxRecDepth 100000 in
set_option maxHeartbeats 4000000 in
theorem w_X13_readOne_39 {p : Program} {l : Launch} {e : Env} {s : State} {m : MethodId} {args : Array Value} {below : List Frame} {meth : Method} {c : Code} {A : Nat → Prop} {D : va_G} {cs zs : Nat → Nat} {h0 : Nat} {a0 : Nat → Nat}  {q : (Int32 × (Nat → Int32) × (Nat → Nat → Int64) × (Nat → Nat → Int32)) ⊕ ((Nat → Int32) × (Nat → Nat → Int64) × (Nat → Nat → Int32))} (C : Cx p s m args meth c A D cs zs cX13_readOne 3 (some .int) RX13) (hne : NoH c) {d : Nat} {F : (Nat → Int32) → (Nat → Nat → Int32) → (Nat → Nat → Int64) → Option (((Nat → Int32) × (Nat → Nat → Int64) × (Nat → Nat → Int32)) ⊕ ((Nat → Int32) × (Nat → Nat → Int64) × (Nat → Nat → Int32)))} (hF : (∀ {i0 : Nat → Int32} {r0 : Nat → Nat → Int32} {l0 : Nat → Nat → Int64}  {q : (Nat → Int32) × (Nat → Nat → Int64) × (Nat → Nat → Int32)}, F i0 r0 l0 = some (.inl q) → Mv l yX13_readBody wlX13_readBody (rmX13_readBody d) D cs zs [.ref h0] (W13 cs h0 a0 i0 r0 l0) (W13 cs h0 a0 q.1 q.2.2 q.2.1)) ∧ (∀ {i0 : Nat → Int32} {r0 : Nat → Nat → Int32} {l0 : Nat → Nat → Int64}  {t : (Nat → Int32) × (Nat → Nat → Int64) × (Nat → Nat → Int32)}, F i0 r0 l0 = some (.inr t) → MT l yX13_readBody wlX13_readBody (rmX13_readBody d) D cs zs [.ref h0] (W13 cs h0 a0 i0 r0 l0) (a0 0) (W13 cs h0 a0 t.1 t.2.2 t.2.1)))  : ∀ (i0 : Nat → Int32) (l0 : Nat → Nat → Int64) (r0 : Nat → Nat → Int32) (x1 : Int32) (y0 : Int32) (H : Heap) (locs : List Loc) (ls : Array Slot), f_X13_readOne_39 F i0 l0 r0 x1 y0 = some q → va_P D vwCl (W13 cs h0 a0 i0 r0 l0) H → va_D A (W13 cs h0 a0 i0 r0 l0) → va_S A s.heap H locs → lv_has ls 3 [(0, .ref h0), (1, .int x1)] → W p l e (rmX13_readOne d) s m args below meth c H locs 0 0 (Sum.elim (fun q => MQ below (Qi D cs A q.1 (W13 cs h0 a0 q.2.1 q.2.2.2 q.2.2.1)) args s 0 0 A) (fun t => MQT below D cs A (a0 0) (W13 cs h0 a0 t.1 t.2.2 t.2.1) args s) q) (F0 m 39 ls [.int y0, .ref h0]) := by
  obtain ⟨hx, hb, hr, hml, hown, hts, hK, hA, hlocks, hZ⟩ := id C
  intro i0 l0 r0 x1 y0 H locs ls hf hP hD hS hl
  rw [f_X13_readOne_39] at hf
  refine lv_iconst (v := 4) hx hb dX13_readOne_39 (by decide) ?_
  rcases (bt_s hf).symm with ⟨t34, hq34, hf⟩ | ⟨q34, hq34, hf⟩
  · obtain rfl := Option.some.inj hf
    exact k_sVt (R := rmX13_readOne d) (ws2 := W13 cs h0 a0 t34 r0 l0) (As := [.int y0, .int 4]) (rest := []) hx hb hml hown hts hK hA hZ hl.1 hP hD hS (t_X13_need (h0 := h0) (a0 := a0) hq34) (gVt mlX13_60 imX13_need seX13_need inX13 coX13_need) rfl qnX13_need rfl rfl ⟨by show 1 + 1 ≤ 34 + 2 * d + 1; omega, by show 8 + (3 + 11) + (21) ≤ 719 + 45 * d + 23; omega⟩ 0 13 rfl rfl rfl rfl rfl (Nat.le_of_ble_eq_true rfl) dX13_readOne_40 hlocks hne
  refine k_sVv (ws2 := W13 cs h0 a0 q34 r0 l0) (As := [.int y0, .int 4]) (rest := []) hx hb hml hown hts hK hA hZ hl.1 hP hD hS (c_X13_need (h0 := h0) (a0 := a0) hq34) (gVt mlX13_60 imX13_need seX13_need inX13 coX13_need) rfl qnX13_need rfl rfl ⟨by show 1 + 1 ≤ 34 + 2 * d + 1; omega, by show 8 + (3 + 11) + (21) ≤ 719 + 45 * d + 23; omega⟩ 0 13 rfl rfl rfl rfl rfl (Nat.le_of_ble_eq_true rfl) ⟨Nat.zero_le _, Nat.zero_le _⟩ dX13_readOne_40 (fun H locs hP hD hS => ?_)
  refine lv_bipush (v := 60) hx hb dX13_readOne_43 (by decide) ?_
  refine lv_aload_n hx hb dX13_readOne_45 rfl (lv_at hl 0 rfl) ?_
  refine va_get (D := D) (ci := 13) (v := .int (q34 48)) (C := RX13) (T := TX13) (N := 87) hx hb hts hiX13 hown hK hP 0 rfl rfl 48 (by decide) (hts _ flX13_465) (fun _ h9 => h9) rfl dX13_readOne_46 ?_
  refine lv_iadd hx hb dX13_readOne_49 ?_
  refine lv_istore_n (lv' := [(2, .int (60 + (q34 48))), (0, .ref h0), (1, .int x1)]) hx hb dX13_readOne_50 rfl hl (by decide) rfl (fun ls hl => ?_)
  refine lv_aload_n hx hb dX13_readOne_51 rfl (lv_at hl 1 rfl) ?_
  refine lv_dup hx hb dX13_readOne_52 rfl ?_
  refine va_get (D := D) (ci := 13) (v := .int (q34 48)) (C := RX13) (T := TX13) (N := 87) hx hb hts hiX13 hown hK hP 0 rfl rfl 48 (by decide) (hts _ flX13_465) (fun _ h9 => h9) rfl dX13_readOne_53 ?_
  refine lv_iconst (v := 1) hx hb dX13_readOne_56 (by decide) ?_
  refine lv_iadd hx hb dX13_readOne_57 ?_
  refine va_put (D := D) (ci := 13) (v := .int ((q34 48) + 1)) (ty := .int) (C := RX13) (T := TX13) (N := 87) hx hb hts hiX13 tyX13 tyX13_ok nmX13 hown hK hP hD hS 0 rfl rfl 48 (by decide) (hts _ flX13_465) (fun _ h9 => h9) rfl (tyX13_ok 48 (by decide)) rfl rfl (Nat.le_of_ble_eq_true rfl) dX13_readOne_58 (fun H locs hP hD hS => ?_)
  obtain ⟨hP, hD⟩ := st13_48 hP hD
  refine lv_aload_n hx hb dX13_readOne_61 rfl (lv_at hl 1 rfl) ?_
  refine va_get (D := D) (ci := 13) (v := .ref (a0 28)) (C := RX13) (T := TX13) (N := 87) hx hb hts hiX13 hown hK hP 0 rfl rfl 28 (by decide) (hts _ flX13_173) (fun _ h9 => h9) rfl dX13_readOne_62 ?_
  refine lv_iload_n hx hb dX13_readOne_65 rfl (lv_at hl 0 rfl) ?_
  refine lv_iload_n hx hb dX13_readOne_66 rfl (lv_at hl 2 rfl) ?_
  refine va_iast (f := r0 28) hx hb hK hP hD hS 17 0 rfl rfl (ck_in hf) dX13_readOne_67 (fun H locs hP hD hS => ?_)
  have hf := ck_2 hf
  obtain ⟨hP, hD⟩ := st13_28 hP hD
  refine lv_aload_n hx hb dX13_readOne_68 rfl (lv_at hl 1 rfl) ?_
  obtain ⟨q35, hq35, hf⟩ := bd_s hf
  refine k_sVv (ws2 := W13 cs h0 a0 q35 (va_up r0 28 (upd (r0 28) (60 + (q34 48)).toNatClampNeg x1)) l0) (As := []) (rest := []) hx hb hml hown hts hK hA hZ hl.1 hP hD hS (c_X13_scan (h0 := h0) (a0 := a0) hq35) (gVt mlX13_72 imX13_scan seX13_scan inX13 coX13_scan) rfl qnX13_scan rfl rfl ⟨by show 1 + 1 ≤ 34 + 2 * d + 1; omega, by show 8 + (2 + 11) + (21) ≤ 719 + 45 * d + 23; omega⟩ 0 13 rfl rfl rfl rfl rfl (Nat.le_of_ble_eq_true rfl) ⟨Nat.zero_le _, Nat.zero_le _⟩ dX13_readOne_69 (fun H locs hP hD hS => ?_)
  refine lv_iload_n hx hb dX13_readOne_72 rfl (lv_at hl 2 rfl) ?_
  refine lv_iconst (v := 4) hx hb dX13_readOne_73 (by decide) ?_
  refine lv_icmp_eq (tgt := 82) hx hb dX13_readOne_74 (by decide) (fun hc => ?_) (fun hc => ?_)
  · have hf := ite_t hf hc
    exact w_X13_readOne_82 C hne hF  _ _ _ _ _ _ _ _ hf hP hD hS (lv_sub hl [1, 2, 0] rfl)
  · have hf := ite_f hf hc
    refine lv_iload_n hx hb dX13_readOne_77 rfl (lv_at hl 2 rfl) ?_
    refine lv_iconst (v := 5) hx hb dX13_readOne_78 (by decide) ?_
    refine lv_icmp_ne (tgt := 191) hx hb dX13_readOne_79 (by decide) (fun hc => ?_) (fun hc => ?_)
    · have hf := ite_f hf hc
      refine lv_iload_n hx hb dX13_readOne_191 rfl (lv_at hl 2 rfl) ?_
      refine lv_bipush (v := 6) hx hb dX13_readOne_192 (by decide) ?_
      refine lv_icmp_eq (tgt := 203) hx hb dX13_readOne_194 (by decide) (fun hc => ?_) (fun hc => ?_)
      · have hf := ite_t hf hc
        exact w_X13_readOne_203 C hne hF  _ _ _ _ _ _ _ hf hP hD hS (lv_sub hl [1, 0] rfl)
      · have hf := ite_f hf hc
        refine lv_iload_n hx hb dX13_readOne_197 rfl (lv_at hl 2 rfl) ?_
        refine lv_bipush (v := 7) hx hb dX13_readOne_198 (by decide) ?_
        refine lv_icmp_ne (tgt := 223) hx hb dX13_readOne_200 (by decide) (fun hc => ?_) (fun hc => ?_)
        · have hf := ite_f hf hc
          refine lv_aload_n hx hb dX13_readOne_223 rfl (lv_at hl 1 rfl) ?_
          refine lv_iconst (v := 0) hx hb dX13_readOne_224 (by decide) ?_
          rcases (bt_s hf).symm with ⟨t36, hq36, hf⟩ | ⟨q36, hq36, hf⟩
          · obtain rfl := Option.some.inj hf
            exact k_sVt (R := rmX13_readOne d) (ws2 := W13 cs h0 a0 t36 (va_up r0 28 (upd (r0 28) (60 + (q34 48)).toNatClampNeg x1)) l0) (As := [.int 0]) (rest := []) hx hb hml hown hts hK hA hZ hl.1 hP hD hS (t_X13_readVar (h0 := h0) (a0 := a0) hq36) (gVt mlX13_411 imX13_readVar seX13_readVar inX13 coX13_readVar) rfl qnX13_readVar rfl rfl ⟨by show 6 + 1 ≤ 34 + 2 * d + 1; omega, by show 8 + (2 + 11) + (128) ≤ 719 + 45 * d + 23; omega⟩ 0 13 rfl rfl rfl rfl rfl (Nat.le_of_ble_eq_true rfl) dX13_readOne_225 hlocks hne
          refine k_sVv (ws2 := W13 cs h0 a0 q36 (va_up r0 28 (upd (r0 28) (60 + (q34 48)).toNatClampNeg x1)) l0) (As := [.int 0]) (rest := []) hx hb hml hown hts hK hA hZ hl.1 hP hD hS (c_X13_readVar (h0 := h0) (a0 := a0) hq36) (gVt mlX13_411 imX13_readVar seX13_readVar inX13 coX13_readVar) rfl qnX13_readVar rfl rfl ⟨by show 6 + 1 ≤ 34 + 2 * d + 1; omega, by show 8 + (2 + 11) + (128) ≤ 719 + 45 * d + 23; omega⟩ 0 13 rfl rfl rfl rfl rfl (Nat.le_of_ble_eq_true rfl) ⟨Nat.zero_le _, Nat.zero_le _⟩ dX13_readOne_225 (fun H locs hP hD hS => ?_)
          refine lv_aload_n hx hb dX13_readOne_228 rfl (lv_at hl 1 rfl) ?_
          refine va_get (D := D) (ci := 13) (v := .ref (a0 32)) (C := RX13) (T := TX13) (N := 87) hx hb hts hiX13 hown hK hP 0 rfl rfl 32 (by decide) (hts _ flX13_185) (fun _ h9 => h9) rfl dX13_readOne_229 ?_
          refine lv_iconst (v := 2) hx hb dX13_readOne_232 (by decide) ?_
          refine lv_iload_n hx hb dX13_readOne_233 rfl (lv_at hl 0 rfl) ?_
          refine lv_imul hx hb dX13_readOne_234 ?_
          refine lv_aload_n hx hb dX13_readOne_235 rfl (lv_at hl 1 rfl) ?_
          refine va_get (D := D) (ci := 13) (v := .int (q36 56)) (C := RX13) (T := TX13) (N := 87) hx hb hts hiX13 hown hK hP 0 rfl rfl 56 (by decide) (hts _ flX13_387) (fun _ h9 => h9) rfl dX13_readOne_236 ?_
          refine va_iast (f := r0 32) hx hb hK hP hD hS 21 0 rfl rfl (ck_in hf) dX13_readOne_239 (fun H locs hP hD hS => ?_)
          have hf := ck_2 hf
          obtain ⟨hP, hD⟩ := st13_32 hP hD
          exact w_X13_readOne_240 C hne hF  _ _ _ _ _ _ _ _ hf hP hD hS (lv_sub hl [1, 2, 0] rfl)
        · have hf := ite_t hf hc
          exact w_X13_readOne_203 C hne hF  _ _ _ _ _ _ _ hf hP hD hS (lv_sub hl [1, 0] rfl)
    · have hf := ite_t hf hc
      exact w_X13_readOne_82 C hne hF  _ _ _ _ _ _ _ _ hf hP hD hS (lv_sub hl [1, 2, 0] rfl)
def f_X13_readOne_34 (F : (Nat → Int32) → (Nat → Nat → Int32) → (Nat → Nat → Int64) → Option (((Nat → Int32) × (Nat → Nat → Int64) × (Nat → Nat → Int32)) ⊕ ((Nat → Int32) × (Nat → Nat → Int64) × (Nat → Nat → Int32))))  (i0 : Nat → Int32) (l0 : Nat → Nat → Int64) (r0 : Nat → Nat → Int32) (x1 : Int32) : Option ((Int32 × (Nat → Int32) × (Nat → Nat → Int64) × (Nat → Nat → Int32)) ⊕ ((Nat → Int32) × (Nat → Nat → Int64) × (Nat → Nat → Int32))) := f_X13_readOne_39 F i0 l0 r0 x1 1
set_option maxRecDepth 100000 in
set_option maxHeartbeats 4000000 in
theorem w_X13_readOne_34 {p : Program} {l : Launch} {e : Env} {s : State} {m : MethodId} {args : Array Value} {below : List Frame} {meth : Method} {c : Code} {A : Nat → Prop} {D : va_G} {cs zs : Nat → Nat} {h0 : Nat} {a0 : Nat → Nat}  {q : (Int32 × (Nat → Int32) × (Nat → Nat → Int64) × (Nat → Nat → Int32)) ⊕ ((Nat → Int32) × (Nat → Nat → Int64) × (Nat → Nat → Int32))} (C : Cx p s m args meth c A D cs zs cX13_readOne 3 (some .int) RX13) (hne : NoH c) {d : Nat} {F : (Nat → Int32) → (Nat → Nat → Int32) → (Nat → Nat → Int64) → Option (((Nat → Int32) × (Nat → Nat → Int64) × (Nat → Nat → Int32)) ⊕ ((Nat → Int32) × (Nat → Nat → Int64) × (Nat → Nat → Int32)))} (hF : (∀ {i0 : Nat → Int32} {r0 : Nat → Nat → Int32} {l0 : Nat → Nat → Int64}  {q : (Nat → Int32) × (Nat → Nat → Int64) × (Nat → Nat → Int32)}, F i0 r0 l0 = some (.inl q) → Mv l yX13_readBody wlX13_readBody (rmX13_readBody d) D cs zs [.ref h0] (W13 cs h0 a0 i0 r0 l0) (W13 cs h0 a0 q.1 q.2.2 q.2.1)) ∧ (∀ {i0 : Nat → Int32} {r0 : Nat → Nat → Int32} {l0 : Nat → Nat → Int64}  {t : (Nat → Int32) × (Nat → Nat → Int64) × (Nat → Nat → Int32)}, F i0 r0 l0 = some (.inr t) → MT l yX13_readBody wlX13_readBody (rmX13_readBody d) D cs zs [.ref h0] (W13 cs h0 a0 i0 r0 l0) (a0 0) (W13 cs h0 a0 t.1 t.2.2 t.2.1)))  : ∀ (i0 : Nat → Int32) (l0 : Nat → Nat → Int64) (r0 : Nat → Nat → Int32) (x1 : Int32) (H : Heap) (locs : List Loc) (ls : Array Slot), f_X13_readOne_34 F i0 l0 r0 x1 = some q → va_P D vwCl (W13 cs h0 a0 i0 r0 l0) H → va_D A (W13 cs h0 a0 i0 r0 l0) → va_S A s.heap H locs → lv_has ls 3 [(0, .ref h0), (1, .int x1)] → W p l e (rmX13_readOne d) s m args below meth c H locs 0 0 (Sum.elim (fun q => MQ below (Qi D cs A q.1 (W13 cs h0 a0 q.2.1 q.2.2.2 q.2.2.1)) args s 0 0 A) (fun t => MQT below D cs A (a0 0) (W13 cs h0 a0 t.1 t.2.2 t.2.1) args s) q) (F0 m 34 ls [.ref h0]) := by
  obtain ⟨hx, hb, hr, hml, hown, hts, hK, hA, hlocks, hZ⟩ := id C
  intro i0 l0 r0 x1 H locs ls hf hP hD hS hl
  rw [f_X13_readOne_34] at hf
  refine lv_iconst (v := 1) hx hb dX13_readOne_34 (by decide) ?_
  refine lv_goto (tgt := 39) hx hb dX13_readOne_35 (by decide) ?_
  exact w_X13_readOne_39 C hne hF  _ _ _ _ _ _ _ _ hf hP hD hS (lv_sub hl [0, 1] rfl)
def f_X13_readOne_38 (F : (Nat → Int32) → (Nat → Nat → Int32) → (Nat → Nat → Int64) → Option (((Nat → Int32) × (Nat → Nat → Int64) × (Nat → Nat → Int32)) ⊕ ((Nat → Int32) × (Nat → Nat → Int64) × (Nat → Nat → Int32))))  (i0 : Nat → Int32) (l0 : Nat → Nat → Int64) (r0 : Nat → Nat → Int32) (x1 : Int32) : Option ((Int32 × (Nat → Int32) × (Nat → Nat → Int64) × (Nat → Nat → Int32)) ⊕ ((Nat → Int32) × (Nat → Nat → Int64) × (Nat → Nat → Int32))) := f_X13_readOne_39 F i0 l0 r0 x1 0
set_option maxRecDepth 100000 in
set_option maxHeartbeats 4000000 in
theorem w_X13_readOne_38 {p : Program} {l : Launch} {e : Env} {s : State} {m : MethodId} {args : Array Value} {below : List Frame} {meth : Method} {c : Code} {A : Nat → Prop} {D : va_G} {cs zs : Nat → Nat} {h0 : Nat} {a0 : Nat → Nat}  {q : (Int32 × (Nat → Int32) × (Nat → Nat → Int64) × (Nat → Nat → Int32)) ⊕ ((Nat → Int32) × (Nat → Nat → Int64) × (Nat → Nat → Int32))} (C : Cx p s m args meth c A D cs zs cX13_readOne 3 (some .int) RX13) (hne : NoH c) {d : Nat} {F : (Nat → Int32) → (Nat → Nat → Int32) → (Nat → Nat → Int64) → Option (((Nat → Int32) × (Nat → Nat → Int64) × (Nat → Nat → Int32)) ⊕ ((Nat → Int32) × (Nat → Nat → Int64) × (Nat → Nat → Int32)))} (hF : (∀ {i0 : Nat → Int32} {r0 : Nat → Nat → Int32} {l0 : Nat → Nat → Int64}  {q : (Nat → Int32) × (Nat → Nat → Int64) × (Nat → Nat → Int32)}, F i0 r0 l0 = some (.inl q) → Mv l yX13_readBody wlX13_readBody (rmX13_readBody d) D cs zs [.ref h0] (W13 cs h0 a0 i0 r0 l0) (W13 cs h0 a0 q.1 q.2.2 q.2.1)) ∧ (∀ {i0 : Nat → Int32} {r0 : Nat → Nat → Int32} {l0 : Nat → Nat → Int64}  {t : (Nat → Int32) × (Nat → Nat → Int64) × (Nat → Nat → Int32)}, F i0 r0 l0 = some (.inr t) → MT l yX13_readBody wlX13_readBody (rmX13_readBody d) D cs zs [.ref h0] (W13 cs h0 a0 i0 r0 l0) (a0 0) (W13 cs h0 a0 t.1 t.2.2 t.2.1)))  : ∀ (i0 : Nat → Int32) (l0 : Nat → Nat → Int64) (r0 : Nat → Nat → Int32) (x1 : Int32) (H : Heap) (locs : List Loc) (ls : Array Slot), f_X13_readOne_38 F i0 l0 r0 x1 = some q → va_P D vwCl (W13 cs h0 a0 i0 r0 l0) H → va_D A (W13 cs h0 a0 i0 r0 l0) → va_S A s.heap H locs → lv_has ls 3 [(0, .ref h0), (1, .int x1)] → W p l e (rmX13_readOne d) s m args below meth c H locs 0 0 (Sum.elim (fun q => MQ below (Qi D cs A q.1 (W13 cs h0 a0 q.2.1 q.2.2.2 q.2.2.1)) args s 0 0 A) (fun t => MQT below D cs A (a0 0) (W13 cs h0 a0 t.1 t.2.2 t.2.1) args s) q) (F0 m 38 ls [.ref h0]) := by
  obtain ⟨hx, hb, hr, hml, hown, hts, hK, hA, hlocks, hZ⟩ := id C
  intro i0 l0 r0 x1 H locs ls hf hP hD hS hl
  rw [f_X13_readOne_38] at hf
  refine lv_iconst (v := 0) hx hb dX13_readOne_38 (by decide) ?_
  exact w_X13_readOne_39 C hne hF  _ _ _ _ _ _ _ _ hf hP hD hS (lv_sub hl [0, 1] rfl)
def f_X13_readOne_25 (F : (Nat → Int32) → (Nat → Nat → Int32) → (Nat → Nat → Int64) → Option (((Nat → Int32) × (Nat → Nat → Int64) × (Nat → Nat → Int32)) ⊕ ((Nat → Int32) × (Nat → Nat → Int64) × (Nat → Nat → Int32))))  (i0 : Nat → Int32) (l0 : Nat → Nat → Int64) (r0 : Nat → Nat → Int32) (x1 : Int32) : Option ((Int32 × (Nat → Int32) × (Nat → Nat → Int64) × (Nat → Nat → Int32)) ⊕ ((Nat → Int32) × (Nat → Nat → Int64) × (Nat → Nat → Int32))) := if 6 ≤ (i0 50) then (f_X13_readOne_38 F i0 l0 r0 x1) else (f_X13_readOne_34 F i0 l0 r0 x1)
set_option maxRecDepth 100000 in
set_option maxHeartbeats 4000000 in
theorem w_X13_readOne_25 {p : Program} {l : Launch} {e : Env} {s : State} {m : MethodId} {args : Array Value} {below : List Frame} {meth : Method} {c : Code} {A : Nat → Prop} {D : va_G} {cs zs : Nat → Nat} {h0 : Nat} {a0 : Nat → Nat}  {q : (Int32 × (Nat → Int32) × (Nat → Nat → Int64) × (Nat → Nat → Int32)) ⊕ ((Nat → Int32) × (Nat → Nat → Int64) × (Nat → Nat → Int32))} (C : Cx p s m args meth c A D cs zs cX13_readOne 3 (some .int) RX13) (hne : NoH c) {d : Nat} {F : (Nat → Int32) → (Nat → Nat → Int32) → (Nat → Nat → Int64) → Option (((Nat → Int32) × (Nat → Nat → Int64) × (Nat → Nat → Int32)) ⊕ ((Nat → Int32) × (Nat → Nat → Int64) × (Nat → Nat → Int32)))} (hF : (∀ {i0 : Nat → Int32} {r0 : Nat → Nat → Int32} {l0 : Nat → Nat → Int64}  {q : (Nat → Int32) × (Nat → Nat → Int64) × (Nat → Nat → Int32)}, F i0 r0 l0 = some (.inl q) → Mv l yX13_readBody wlX13_readBody (rmX13_readBody d) D cs zs [.ref h0] (W13 cs h0 a0 i0 r0 l0) (W13 cs h0 a0 q.1 q.2.2 q.2.1)) ∧ (∀ {i0 : Nat → Int32} {r0 : Nat → Nat → Int32} {l0 : Nat → Nat → Int64}  {t : (Nat → Int32) × (Nat → Nat → Int64) × (Nat → Nat → Int32)}, F i0 r0 l0 = some (.inr t) → MT l yX13_readBody wlX13_readBody (rmX13_readBody d) D cs zs [.ref h0] (W13 cs h0 a0 i0 r0 l0) (a0 0) (W13 cs h0 a0 t.1 t.2.2 t.2.1)))  : ∀ (i0 : Nat → Int32) (l0 : Nat → Nat → Int64) (r0 : Nat → Nat → Int32) (x1 : Int32) (H : Heap) (locs : List Loc) (ls : Array Slot), f_X13_readOne_25 F i0 l0 r0 x1 = some q → va_P D vwCl (W13 cs h0 a0 i0 r0 l0) H → va_D A (W13 cs h0 a0 i0 r0 l0) → va_S A s.heap H locs → lv_has ls 3 [(0, .ref h0), (1, .int x1)] → W p l e (rmX13_readOne d) s m args below meth c H locs 0 0 (Sum.elim (fun q => MQ below (Qi D cs A q.1 (W13 cs h0 a0 q.2.1 q.2.2.2 q.2.2.1)) args s 0 0 A) (fun t => MQT below D cs A (a0 0) (W13 cs h0 a0 t.1 t.2.2 t.2.1) args s) q) (F0 m 25 ls [.ref h0]) := by
  obtain ⟨hx, hb, hr, hml, hown, hts, hK, hA, hlocks, hZ⟩ := id C
  intro i0 l0 r0 x1 H locs ls hf hP hD hS hl
  rw [f_X13_readOne_25] at hf
  refine lv_aload_n hx hb dX13_readOne_25 rfl (lv_at hl 0 rfl) ?_
  refine va_get (D := D) (ci := 13) (v := .int (i0 50)) (C := RX13) (T := TX13) (N := 87) hx hb hts hiX13 hown hK hP 0 rfl rfl 50 (by decide) (hts _ flX13_468) (fun _ h9 => h9) rfl dX13_readOne_26 ?_
  refine lv_bipush (v := 6) hx hb dX13_readOne_29 (by decide) ?_
  refine lv_icmp_ge (tgt := 38) hx hb dX13_readOne_31 (by decide) (fun hc => ?_) (fun hc => ?_)
  · have hf := ite_t hf hc
    exact w_X13_readOne_38 C hne hF  _ _ _ _ _ _ _ hf hP hD hS (lv_sub hl [0, 1] rfl)
  · have hf := ite_f hf hc
    exact w_X13_readOne_34 C hne hF  _ _ _ _ _ _ _ hf hP hD hS (lv_sub hl [0, 1] rfl)
def f_X13_readOne (F : (Nat → Int32) → (Nat → Nat → Int32) → (Nat → Nat → Int64) → Option (((Nat → Int32) × (Nat → Nat → Int64) × (Nat → Nat → Int32)) ⊕ ((Nat → Int32) × (Nat → Nat → Int64) × (Nat → Nat → Int32))))  (i0 : Nat → Int32) (r0 : Nat → Nat → Int32) (l0 : Nat → Nat → Int64)  : Option ((Int32 × (Nat → Int32) × (Nat → Nat → Int64) × (Nat → Nat → Int32)) ⊕ ((Nat → Int32) × (Nat → Nat → Int64) × (Nat → Nat → Int32))) := bd (f_X13_stepAtHand i0 r0 l0) (fun q37 => if 60 ≤ (i0 48) then (f_X13_readOne_38 F i0 l0 r0 q37) else (if q37 = 4 then (f_X13_readOne_25 F i0 l0 r0 q37) else (if q37 = 5 then (f_X13_readOne_25 F i0 l0 r0 q37) else (f_X13_readOne_34 F i0 l0 r0 q37))))
set_option maxRecDepth 100000 in
set_option maxHeartbeats 4000000 in
theorem e_X13_readOne {p : Program} {l : Launch} {e : Env} {s : State} {m : MethodId} {args : Array Value} {below : List Frame} {meth : Method} {c : Code} {A : Nat → Prop} {D : va_G} {cs zs : Nat → Nat} {h0 : Nat} {a0 : Nat → Nat} {i0 : Nat → Int32} {r0 : Nat → Nat → Int32} {l0 : Nat → Nat → Int64}  {q : (Int32 × (Nat → Int32) × (Nat → Nat → Int64) × (Nat → Nat → Int32)) ⊕ ((Nat → Int32) × (Nat → Nat → Int64) × (Nat → Nat → Int32))} (C : Cx p s m args meth c A D cs zs cX13_readOne 3 (some .int) RX13) (hne : NoH c) {d : Nat} {F : (Nat → Int32) → (Nat → Nat → Int32) → (Nat → Nat → Int64) → Option (((Nat → Int32) × (Nat → Nat → Int64) × (Nat → Nat → Int32)) ⊕ ((Nat → Int32) × (Nat → Nat → Int64) × (Nat → Nat → Int32)))} (hF : (∀ {i0 : Nat → Int32} {r0 : Nat → Nat → Int32} {l0 : Nat → Nat → Int64}  {q : (Nat → Int32) × (Nat → Nat → Int64) × (Nat → Nat → Int32)}, F i0 r0 l0 = some (.inl q) → Mv l yX13_readBody wlX13_readBody (rmX13_readBody d) D cs zs [.ref h0] (W13 cs h0 a0 i0 r0 l0) (W13 cs h0 a0 q.1 q.2.2 q.2.1)) ∧ (∀ {i0 : Nat → Int32} {r0 : Nat → Nat → Int32} {l0 : Nat → Nat → Int64}  {t : (Nat → Int32) × (Nat → Nat → Int64) × (Nat → Nat → Int32)}, F i0 r0 l0 = some (.inr t) → MT l yX13_readBody wlX13_readBody (rmX13_readBody d) D cs zs [.ref h0] (W13 cs h0 a0 i0 r0 l0) (a0 0) (W13 cs h0 a0 t.1 t.2.2 t.2.1)))  : ∀ (H : Heap) (locs : List Loc) (ls : Array Slot), f_X13_readOne F i0 r0 l0 = some q → va_P D vwCl (W13 cs h0 a0 i0 r0 l0) H → va_D A (W13 cs h0 a0 i0 r0 l0) → va_S A s.heap H locs → lv_has ls 3 [(0, .ref h0)] → W p l e (rmX13_readOne d) s m args below meth c H locs 0 0 (Sum.elim (fun q => MQ below (Qi D cs A q.1 (W13 cs h0 a0 q.2.1 q.2.2.2 q.2.2.1)) args s 0 0 A) (fun t => MQT below D cs A (a0 0) (W13 cs h0 a0 t.1 t.2.2 t.2.1) args s) q) (F0 m 0 ls []) := by
  obtain ⟨hx, hb, hr, hml, hown, hts, hK, hA, hlocks, hZ⟩ := id C
  intro H locs ls hf hP hD hS hl
  rw [f_X13_readOne] at hf
  refine lv_aload_n hx hb dX13_readOne_0 rfl (lv_at hl 0 rfl) ?_
  obtain ⟨q37, hq37, hf⟩ := bd_s hf
  refine k_sVi (ws2 := W13 cs h0 a0 i0 r0 l0) (As := []) (rest := []) hx hb hml hown hts hK hA hZ hl.1 hP hD hS (c_X13_stepAtHand (h0 := h0) (a0 := a0) hq37) (gVt mlX13_423 imX13_stepAtHand seX13_stepAtHand inX13 coX13_stepAtHand) rfl qnX13_stepAtHand rfl rfl ⟨by show 5 + 1 ≤ 34 + 2 * d + 1; omega, by show 8 + (1 + 11) + (108) ≤ 719 + 45 * d + 23; omega⟩ 0 13 rfl rfl rfl rfl rfl (Nat.le_of_ble_eq_true rfl) ⟨Nat.zero_le _, Nat.zero_le _⟩ dX13_readOne_1 (fun H locs hP hD hS => ?_)
  refine lv_istore_n (lv' := [(1, .int q37), (0, .ref h0)]) hx hb dX13_readOne_4 rfl hl (by decide) rfl (fun ls hl => ?_)
  refine lv_aload_n hx hb dX13_readOne_5 rfl (lv_at hl 1 rfl) ?_
  refine lv_aload_n hx hb dX13_readOne_6 rfl (lv_at hl 1 rfl) ?_
  refine va_get (D := D) (ci := 13) (v := .int (i0 48)) (C := RX13) (T := TX13) (N := 87) hx hb hts hiX13 hown hK hP 0 rfl rfl 48 (by decide) (hts _ flX13_465) (fun _ h9 => h9) rfl dX13_readOne_7 ?_
  refine lv_bipush (v := 60) hx hb dX13_readOne_10 (by decide) ?_
  refine lv_icmp_ge (tgt := 38) hx hb dX13_readOne_12 (by decide) (fun hc => ?_) (fun hc => ?_)
  · have hf := ite_t hf hc
    exact w_X13_readOne_38 C hne hF  _ _ _ _ _ _ _ hf hP hD hS (lv_sub hl [1, 0] rfl)
  · have hf := ite_f hf hc
    refine lv_iload_n hx hb dX13_readOne_15 rfl (lv_at hl 0 rfl) ?_
    refine lv_iconst (v := 4) hx hb dX13_readOne_16 (by decide) ?_
    refine lv_icmp_eq (tgt := 25) hx hb dX13_readOne_17 (by decide) (fun hc => ?_) (fun hc => ?_)
    · have hf := ite_t hf hc
      exact w_X13_readOne_25 C hne hF  _ _ _ _ _ _ _ hf hP hD hS (lv_sub hl [1, 0] rfl)
    · have hf := ite_f hf hc
      refine lv_iload_n hx hb dX13_readOne_20 rfl (lv_at hl 0 rfl) ?_
      refine lv_iconst (v := 5) hx hb dX13_readOne_21 (by decide) ?_
      refine lv_icmp_ne (tgt := 34) hx hb dX13_readOne_22 (by decide) (fun hc => ?_) (fun hc => ?_)
      · have hf := ite_f hf hc
        exact w_X13_readOne_34 C hne hF  _ _ _ _ _ _ _ hf hP hD hS (lv_sub hl [1, 0] rfl)
      · have hf := ite_t hf hc
        exact w_X13_readOne_25 C hne hF  _ _ _ _ _ _ _ hf hP hD hS (lv_sub hl [1, 0] rfl)
theorem c_X13_readOne {l : Launch} {D : va_G} {cs zs : Nat → Nat} {h0 : Nat} {a0 : Nat → Nat} {i0 : Nat → Int32} {r0 : Nat → Nat → Int32} {l0 : Nat → Nat → Int64}  {q : Int32 × (Nat → Int32) × (Nat → Nat → Int64) × (Nat → Nat → Int32)} {d : Nat} {F : (Nat → Int32) → (Nat → Nat → Int32) → (Nat → Nat → Int64) → Option (((Nat → Int32) × (Nat → Nat → Int64) × (Nat → Nat → Int32)) ⊕ ((Nat → Int32) × (Nat → Nat → Int64) × (Nat → Nat → Int32)))} (hF : (∀ {i0 : Nat → Int32} {r0 : Nat → Nat → Int32} {l0 : Nat → Nat → Int64}  {q : (Nat → Int32) × (Nat → Nat → Int64) × (Nat → Nat → Int32)}, F i0 r0 l0 = some (.inl q) → Mv l yX13_readBody wlX13_readBody (rmX13_readBody d) D cs zs [.ref h0] (W13 cs h0 a0 i0 r0 l0) (W13 cs h0 a0 q.1 q.2.2 q.2.1)) ∧ (∀ {i0 : Nat → Int32} {r0 : Nat → Nat → Int32} {l0 : Nat → Nat → Int64}  {t : (Nat → Int32) × (Nat → Nat → Int64) × (Nat → Nat → Int32)}, F i0 r0 l0 = some (.inr t) → MT l yX13_readBody wlX13_readBody (rmX13_readBody d) D cs zs [.ref h0] (W13 cs h0 a0 i0 r0 l0) (a0 0) (W13 cs h0 a0 t.1 t.2.2 t.2.1))) (hf : f_X13_readOne F i0 r0 l0 = some (.inl q)) : Mi l yX13_readOne wlX13_readOne (rmX13_readOne d) D cs zs [.ref h0] (W13 cs h0 a0 i0 r0 l0) q.1 (W13 cs h0 a0 q.2.1 q.2.2.2 q.2.2.1) := by
  refine Mi.ofT RX13 (by decide) rfl (Nat.le_of_ble_eq_true rfl) (fun p e s m below meth c A C hne hP hD hS ls hl => ?_)
  generalize ([.ref h0] : List Value).toArray = args at C ⊢
  exact e_X13_readOne (q := .inl q) C hne hF _ _ _ hf hP hD hS hl
theorem t_X13_readOne {l : Launch} {D : va_G} {cs zs : Nat → Nat} {h0 : Nat} {a0 : Nat → Nat} {i0 : Nat → Int32} {r0 : Nat → Nat → Int32} {l0 : Nat → Nat → Int64}  {t : (Nat → Int32) × (Nat → Nat → Int64) × (Nat → Nat → Int32)} {d : Nat} {F : (Nat → Int32) → (Nat → Nat → Int32) → (Nat → Nat → Int64) → Option (((Nat → Int32) × (Nat → Nat → Int64) × (Nat → Nat → Int32)) ⊕ ((Nat → Int32) × (Nat → Nat → Int64) × (Nat → Nat → Int32)))} (hF : (∀ {i0 : Nat → Int32} {r0 : Nat → Nat → Int32} {l0 : Nat → Nat → Int64}  {q : (Nat → Int32) × (Nat → Nat → Int64) × (Nat → Nat → Int32)}, F i0 r0 l0 = some (.inl q) → Mv l yX13_readBody wlX13_readBody (rmX13_readBody d) D cs zs [.ref h0] (W13 cs h0 a0 i0 r0 l0) (W13 cs h0 a0 q.1 q.2.2 q.2.1)) ∧ (∀ {i0 : Nat → Int32} {r0 : Nat → Nat → Int32} {l0 : Nat → Nat → Int64}  {t : (Nat → Int32) × (Nat → Nat → Int64) × (Nat → Nat → Int32)}, F i0 r0 l0 = some (.inr t) → MT l yX13_readBody wlX13_readBody (rmX13_readBody d) D cs zs [.ref h0] (W13 cs h0 a0 i0 r0 l0) (a0 0) (W13 cs h0 a0 t.1 t.2.2 t.2.1))) (hf : f_X13_readOne F i0 r0 l0 = some (.inr t)) : MT l yX13_readOne wlX13_readOne (rmX13_readOne d) D cs zs [.ref h0] (W13 cs h0 a0 i0 r0 l0) (a0 0) (W13 cs h0 a0 t.1 t.2.2 t.2.1) := by
  refine MT.of RX13 (by decide) rfl (Nat.le_of_ble_eq_true rfl) (fun p e s m below meth c A C hne hP hD hS ls hl => ?_)
  generalize ([.ref h0] : List Value).toArray = args at C ⊢
  exact e_X13_readOne (q := .inr t) C hne hF _ _ _ hf hP hD hS hl
/-! MarbleFloorModel.readBody()V -/
def f_X13_readBody_48 (F : (Nat → Int32) → (Nat → Nat → Int32) → (Nat → Nat → Int64) → Option (((Nat → Int32) × (Nat → Nat → Int64) × (Nat → Nat → Int32)) ⊕ ((Nat → Int32) × (Nat → Nat → Int64) × (Nat → Nat → Int32)))) (K4 : (Nat → Int32) → (Nat → Nat → Int64) → (Nat → Nat → Int32) → Int32 → Int32 → Option (((Nat → Int32) × (Nat → Nat → Int64) × (Nat → Nat → Int32)) ⊕ ((Nat → Int32) × (Nat → Nat → Int64) × (Nat → Nat → Int32)))) (i0 : Nat → Int32) (l0 : Nat → Nat → Int64) (r0 : Nat → Nat → Int32) (x1 : Int32) (x3 : Int32) : Option (((Nat → Int32) × (Nat → Nat → Int64) × (Nat → Nat → Int32)) ⊕ ((Nat → Int32) × (Nat → Nat → Int64) × (Nat → Nat → Int32))) := bt (f_X13_sign i0 r0 l0 59) (fun q4 => K4 q4 l0 r0 x1 x3) (fun t4 => some (.inr (t4, l0, r0)))
set_option maxRecDepth 100000 in
set_option maxHeartbeats 4000000 in
theorem w_X13_readBody_48 {p : Program} {l : Launch} {e : Env} {s : State} {m : MethodId} {args : Array Value} {below : List Frame} {meth : Method} {c : Code} {A : Nat → Prop} {D : va_G} {cs zs : Nat → Nat} {h0 : Nat} {a0 : Nat → Nat}  {q : ((Nat → Int32) × (Nat → Nat → Int64) × (Nat → Nat → Int32)) ⊕ ((Nat → Int32) × (Nat → Nat → Int64) × (Nat → Nat → Int32))} (C : Cx p s m args meth c A D cs zs cX13_readBody 4 none RX13) (hne : NoH c) {d : Nat} {F : (Nat → Int32) → (Nat → Nat → Int32) → (Nat → Nat → Int64) → Option (((Nat → Int32) × (Nat → Nat → Int64) × (Nat → Nat → Int32)) ⊕ ((Nat → Int32) × (Nat → Nat → Int64) × (Nat → Nat → Int32)))} (hF : (∀ {i0 : Nat → Int32} {r0 : Nat → Nat → Int32} {l0 : Nat → Nat → Int64}  {q : (Nat → Int32) × (Nat → Nat → Int64) × (Nat → Nat → Int32)}, F i0 r0 l0 = some (.inl q) → Mv l yX13_readBody wlX13_readBody (rmX13_readBody d) D cs zs [.ref h0] (W13 cs h0 a0 i0 r0 l0) (W13 cs h0 a0 q.1 q.2.2 q.2.1)) ∧ (∀ {i0 : Nat → Int32} {r0 : Nat → Nat → Int32} {l0 : Nat → Nat → Int64}  {t : (Nat → Int32) × (Nat → Nat → Int64) × (Nat → Nat → Int32)}, F i0 r0 l0 = some (.inr t) → MT l yX13_readBody wlX13_readBody (rmX13_readBody d) D cs zs [.ref h0] (W13 cs h0 a0 i0 r0 l0) (a0 0) (W13 cs h0 a0 t.1 t.2.2 t.2.1))) (K4 : (Nat → Int32) → (Nat → Nat → Int64) → (Nat → Nat → Int32) → Int32 → Int32 → Option (((Nat → Int32) × (Nat → Nat → Int64) × (Nat → Nat → Int32)) ⊕ ((Nat → Int32) × (Nat → Nat → Int64) × (Nat → Nat → Int32)))) (hK4 : ∀ (i0 : Nat → Int32) (l0 : Nat → Nat → Int64) (r0 : Nat → Nat → Int32) (x1 : Int32) (x2 : Int32) (H : Heap) (locs : List Loc) (ls : Array Slot), K4 i0 l0 r0 x1 x2 = some q → va_P D vwCl (W13 cs h0 a0 i0 r0 l0) H → va_D A (W13 cs h0 a0 i0 r0 l0) → va_S A s.heap H locs → lv_has ls 4 [(0, .ref h0), (1, .int x1), (2, .int x2)] → W p l e (rmX13_readBody (d + 1)) s m args below meth c H locs 0 0 (Sum.elim (fun q => MQ below (Qv D cs A (W13 cs h0 a0 q.1 q.2.2 q.2.1)) args s 0 0 A) (fun t => MQT below D cs A (a0 0) (W13 cs h0 a0 t.1 t.2.2 t.2.1) args s) q) (F0 m 4 ls [])) : ∀ (i0 : Nat → Int32) (l0 : Nat → Nat → Int64) (r0 : Nat → Nat → Int32) (x1 : Int32) (x3 : Int32) (H : Heap) (locs : List Loc) (ls : Array Slot), f_X13_readBody_48 F K4 i0 l0 r0 x1 x3 = some q → va_P D vwCl (W13 cs h0 a0 i0 r0 l0) H → va_D A (W13 cs h0 a0 i0 r0 l0) → va_S A s.heap H locs → lv_has ls 4 [(0, .ref h0), (1, .int x1), (3, .int x3)] → W p l e (rmX13_readBody (d + 1)) s m args below meth c H locs 0 0 (Sum.elim (fun q => MQ below (Qv D cs A (W13 cs h0 a0 q.1 q.2.2 q.2.1)) args s 0 0 A) (fun t => MQT below D cs A (a0 0) (W13 cs h0 a0 t.1 t.2.2 t.2.1) args s) q) (F0 m 48 ls []) := by
  obtain ⟨hx, hb, hr, hml, hown, hts, hK, hA, hlocks, hZ⟩ := id C
  intro i0 l0 r0 x1 x3 H locs ls hf hP hD hS hl
  rw [f_X13_readBody_48] at hf
  refine lv_iload_n hx hb dX13_readBody_48 rfl (lv_at hl 2 rfl) ?_
  refine lv_istore_n (lv' := [(2, .int x3), (0, .ref h0), (1, .int x1), (3, .int x3)]) hx hb dX13_readBody_49 rfl hl (by decide) rfl (fun ls hl => ?_)
  refine lv_aload_n hx hb dX13_readBody_50 rfl (lv_at hl 1 rfl) ?_
  refine lv_bipush (v := 59) hx hb dX13_readBody_51 (by decide) ?_
  rcases (bt_s hf).symm with ⟨t4, hq4, hf⟩ | ⟨q4, hq4, hf⟩
  · obtain rfl := Option.some.inj hf
    exact k_sVt (R := rmX13_readBody (d + 1)) (ws2 := W13 cs h0 a0 t4 r0 l0) (As := [.int 59]) (rest := []) hx hb hml hown hts hK hA hZ hl.1 hP hD hS (t_X13_sign (h0 := h0) (a0 := a0) hq4) (gVt mlX13_111 imX13_sign seX13_sign inX13 coX13_sign) rfl qnX13_sign rfl rfl ⟨by show 2 + 1 ≤ 34 + 2 * (d + 1); omega, by show 8 + (2 + 11) + (43) ≤ 719 + 45 * (d + 1); omega⟩ 0 13 rfl rfl rfl rfl rfl (Nat.le_of_ble_eq_true rfl) dX13_readBody_53 hlocks hne
  refine k_sVv (ws2 := W13 cs h0 a0 q4 r0 l0) (As := [.int 59]) (rest := []) hx hb hml hown hts hK hA hZ hl.1 hP hD hS (c_X13_sign (h0 := h0) (a0 := a0) hq4) (gVt mlX13_111 imX13_sign seX13_sign inX13 coX13_sign) rfl qnX13_sign rfl rfl ⟨by show 2 + 1 ≤ 34 + 2 * (d + 1); omega, by show 8 + (2 + 11) + (43) ≤ 719 + 45 * (d + 1); omega⟩ 0 13 rfl rfl rfl rfl rfl (Nat.le_of_ble_eq_true rfl) ⟨Nat.zero_le _, Nat.zero_le _⟩ dX13_readBody_53 (fun H locs hP hD hS => ?_)
  refine lv_goto (tgt := 4) hx hb dX13_readBody_56 (by decide) ?_
  exact hK4 _ _ _ _ _ _ _ _ hf hP hD hS (lv_sub hl [1, 2, 0] rfl)
def f_X13_readBody_31 (F : (Nat → Int32) → (Nat → Nat → Int32) → (Nat → Nat → Int64) → Option (((Nat → Int32) × (Nat → Nat → Int64) × (Nat → Nat → Int32)) ⊕ ((Nat → Int32) × (Nat → Nat → Int64) × (Nat → Nat → Int32)))) (K4 : (Nat → Int32) → (Nat → Nat → Int64) → (Nat → Nat → Int32) → Int32 → Int32 → Option (((Nat → Int32) × (Nat → Nat → Int64) × (Nat → Nat → Int32)) ⊕ ((Nat → Int32) × (Nat → Nat → Int64) × (Nat → Nat → Int32)))) (i0 : Nat → Int32) (l0 : Nat → Nat → Int64) (r0 : Nat → Nat → Int32) (x1 : Int32) (x2 : Int32) (x3 : Int32) : Option (((Nat → Int32) × (Nat → Nat → Int64) × (Nat → Nat → Int32)) ⊕ ((Nat → Int32) × (Nat → Nat → Int64) × (Nat → Nat → Int32))) := if x2 = (-1) then (f_X13_readBody_48 F K4 i0 l0 r0 x3 x3) else (ck (inb x2 120) (f_X13_readBody_48 F K4 i0 l0 (va_up r0 29 (upd (r0 29) x2.toNatClampNeg x3)) x1 x3))
set_option maxRecDepth 100000 in
set_option maxHeartbeats 4000000 in
theorem w_X13_readBody_31 {p : Program} {l : Launch} {e : Env} {s : State} {m : MethodId} {args : Array Value} {below : List Frame} {meth : Method} {c : Code} {A : Nat → Prop} {D : va_G} {cs zs : Nat → Nat} {h0 : Nat} {a0 : Nat → Nat}  {q : ((Nat → Int32) × (Nat → Nat → Int64) × (Nat → Nat → Int32)) ⊕ ((Nat → Int32) × (Nat → Nat → Int64) × (Nat → Nat → Int32))} (C : Cx p s m args meth c A D cs zs cX13_readBody 4 none RX13) (hne : NoH c) {d : Nat} {F : (Nat → Int32) → (Nat → Nat → Int32) → (Nat → Nat → Int64) → Option (((Nat → Int32) × (Nat → Nat → Int64) × (Nat → Nat → Int32)) ⊕ ((Nat → Int32) × (Nat → Nat → Int64) × (Nat → Nat → Int32)))} (hF : (∀ {i0 : Nat → Int32} {r0 : Nat → Nat → Int32} {l0 : Nat → Nat → Int64}  {q : (Nat → Int32) × (Nat → Nat → Int64) × (Nat → Nat → Int32)}, F i0 r0 l0 = some (.inl q) → Mv l yX13_readBody wlX13_readBody (rmX13_readBody d) D cs zs [.ref h0] (W13 cs h0 a0 i0 r0 l0) (W13 cs h0 a0 q.1 q.2.2 q.2.1)) ∧ (∀ {i0 : Nat → Int32} {r0 : Nat → Nat → Int32} {l0 : Nat → Nat → Int64}  {t : (Nat → Int32) × (Nat → Nat → Int64) × (Nat → Nat → Int32)}, F i0 r0 l0 = some (.inr t) → MT l yX13_readBody wlX13_readBody (rmX13_readBody d) D cs zs [.ref h0] (W13 cs h0 a0 i0 r0 l0) (a0 0) (W13 cs h0 a0 t.1 t.2.2 t.2.1))) (K4 : (Nat → Int32) → (Nat → Nat → Int64) → (Nat → Nat → Int32) → Int32 → Int32 → Option (((Nat → Int32) × (Nat → Nat → Int64) × (Nat → Nat → Int32)) ⊕ ((Nat → Int32) × (Nat → Nat → Int64) × (Nat → Nat → Int32)))) (hK4 : ∀ (i0 : Nat → Int32) (l0 : Nat → Nat → Int64) (r0 : Nat → Nat → Int32) (x1 : Int32) (x2 : Int32) (H : Heap) (locs : List Loc) (ls : Array Slot), K4 i0 l0 r0 x1 x2 = some q → va_P D vwCl (W13 cs h0 a0 i0 r0 l0) H → va_D A (W13 cs h0 a0 i0 r0 l0) → va_S A s.heap H locs → lv_has ls 4 [(0, .ref h0), (1, .int x1), (2, .int x2)] → W p l e (rmX13_readBody (d + 1)) s m args below meth c H locs 0 0 (Sum.elim (fun q => MQ below (Qv D cs A (W13 cs h0 a0 q.1 q.2.2 q.2.1)) args s 0 0 A) (fun t => MQT below D cs A (a0 0) (W13 cs h0 a0 t.1 t.2.2 t.2.1) args s) q) (F0 m 4 ls [])) : ∀ (i0 : Nat → Int32) (l0 : Nat → Nat → Int64) (r0 : Nat → Nat → Int32) (x1 : Int32) (x2 : Int32) (x3 : Int32) (H : Heap) (locs : List Loc) (ls : Array Slot), f_X13_readBody_31 F K4 i0 l0 r0 x1 x2 x3 = some q → va_P D vwCl (W13 cs h0 a0 i0 r0 l0) H → va_D A (W13 cs h0 a0 i0 r0 l0) → va_S A s.heap H locs → lv_has ls 4 [(0, .ref h0), (1, .int x1), (2, .int x2), (3, .int x3)] → W p l e (rmX13_readBody (d + 1)) s m args below meth c H locs 0 0 (Sum.elim (fun q => MQ below (Qv D cs A (W13 cs h0 a0 q.1 q.2.2 q.2.1)) args s 0 0 A) (fun t => MQT below D cs A (a0 0) (W13 cs h0 a0 t.1 t.2.2 t.2.1) args s) q) (F0 m 31 ls []) := by
  obtain ⟨hx, hb, hr, hml, hown, hts, hK, hA, hlocks, hZ⟩ := id C
  intro i0 l0 r0 x1 x2 x3 H locs ls hf hP hD hS hl
  rw [f_X13_readBody_31] at hf
  refine lv_iload_n hx hb dX13_readBody_31 rfl (lv_at hl 2 rfl) ?_
  refine lv_iconst (v := (-1)) hx hb dX13_readBody_32 (by decide) ?_
  refine lv_icmp_ne (tgt := 41) hx hb dX13_readBody_33 (by decide) (fun hc => ?_) (fun hc => ?_)
  · have hf := ite_f hf hc
    refine lv_aload_n hx hb dX13_readBody_41 rfl (lv_at hl 0 rfl) ?_
    refine va_get (D := D) (ci := 13) (v := .ref (a0 29)) (C := RX13) (T := TX13) (N := 87) hx hb hts hiX13 hown hK hP 0 rfl rfl 29 (by decide) (hts _ flX13_176) (fun _ h9 => h9) rfl dX13_readBody_42 ?_
    refine lv_iload_n hx hb dX13_readBody_45 rfl (lv_at hl 2 rfl) ?_
    refine lv_iload_n hx hb dX13_readBody_46 rfl (lv_at hl 3 rfl) ?_
    refine va_iast (f := r0 29) hx hb hK hP hD hS 18 0 rfl rfl (ck_in hf) dX13_readBody_47 (fun H locs hP hD hS => ?_)
    have hf := ck_2 hf
    obtain ⟨hP, hD⟩ := st13_29 hP hD
    exact w_X13_readBody_48 C hne hF _ (hK4) _ _ _ _ _ _ _ _ hf hP hD hS (lv_sub hl [0, 1, 3] rfl)
  · have hf := ite_t hf hc
    refine lv_iload_n hx hb dX13_readBody_36 rfl (lv_at hl 3 rfl) ?_
    refine lv_istore_n (lv' := [(1, .int x3), (0, .ref h0), (2, .int x2), (3, .int x3)]) hx hb dX13_readBody_37 rfl hl (by decide) rfl (fun ls hl => ?_)
    refine lv_goto (tgt := 48) hx hb dX13_readBody_38 (by decide) ?_
    exact w_X13_readBody_48 C hne hF _ (hK4) _ _ _ _ _ _ _ _ hf hP hD hS (lv_sub hl [1, 0, 3] rfl)
def f_X13_readBody_4 (F : (Nat → Int32) → (Nat → Nat → Int32) → (Nat → Nat → Int64) → Option (((Nat → Int32) × (Nat → Nat → Int64) × (Nat → Nat → Int32)) ⊕ ((Nat → Int32) × (Nat → Nat → Int64) × (Nat → Nat → Int32))))  : Nat → (Nat → Int32) → (Nat → Nat → Int64) → (Nat → Nat → Int32) → Int32 → Int32 → Option (((Nat → Int32) × (Nat → Nat → Int64) × (Nat → Nat → Int32)) ⊕ ((Nat → Int32) × (Nat → Nat → Int64) × (Nat → Nat → Int32)))
  | 0, _, _, _, _, _ => none
  | n + 1, i0, l0, r0, x1, x2 => bd (f_X13_stepAtHand i0 r0 l0) (fun q5 => if q5 = (-1) then (some (.inl ((upd (upd i0 51 x1) 52 x2), l0, r0))) else (bt (f_X13_readOne F i0 r0 l0) (fun q6 => ck (inb q6.1 120) (ck (inb q6.1 120) (f_X13_readBody_31 F (f_X13_readBody_4 F n) q6.2.1 q6.2.2.1 (va_up (va_up q6.2.2.2 30 (upd (q6.2.2.2 30) q6.1.toNatClampNeg x2)) 29 (upd (q6.2.2.2 29) q6.1.toNatClampNeg (-1))) x1 x2 q6.1))) (fun t6 => some (.inr (t6.1, t6.2.1, t6.2.2)))))
set_option maxRecDepth 100000 in
set_option maxHeartbeats 4000000 in
theorem w_X13_readBody_4 {p : Program} {l : Launch} {e : Env} {s : State} {m : MethodId} {args : Array Value} {below : List Frame} {meth : Method} {c : Code} {A : Nat → Prop} {D : va_G} {cs zs : Nat → Nat} {h0 : Nat} {a0 : Nat → Nat}  {q : ((Nat → Int32) × (Nat → Nat → Int64) × (Nat → Nat → Int32)) ⊕ ((Nat → Int32) × (Nat → Nat → Int64) × (Nat → Nat → Int32))} (C : Cx p s m args meth c A D cs zs cX13_readBody 4 none RX13) (hne : NoH c) {d : Nat} {F : (Nat → Int32) → (Nat → Nat → Int32) → (Nat → Nat → Int64) → Option (((Nat → Int32) × (Nat → Nat → Int64) × (Nat → Nat → Int32)) ⊕ ((Nat → Int32) × (Nat → Nat → Int64) × (Nat → Nat → Int32)))} (hF : (∀ {i0 : Nat → Int32} {r0 : Nat → Nat → Int32} {l0 : Nat → Nat → Int64}  {q : (Nat → Int32) × (Nat → Nat → Int64) × (Nat → Nat → Int32)}, F i0 r0 l0 = some (.inl q) → Mv l yX13_readBody wlX13_readBody (rmX13_readBody d) D cs zs [.ref h0] (W13 cs h0 a0 i0 r0 l0) (W13 cs h0 a0 q.1 q.2.2 q.2.1)) ∧ (∀ {i0 : Nat → Int32} {r0 : Nat → Nat → Int32} {l0 : Nat → Nat → Int64}  {t : (Nat → Int32) × (Nat → Nat → Int64) × (Nat → Nat → Int32)}, F i0 r0 l0 = some (.inr t) → MT l yX13_readBody wlX13_readBody (rmX13_readBody d) D cs zs [.ref h0] (W13 cs h0 a0 i0 r0 l0) (a0 0) (W13 cs h0 a0 t.1 t.2.2 t.2.1)))  : ∀ (n : Nat), ∀ (i0 : Nat → Int32) (l0 : Nat → Nat → Int64) (r0 : Nat → Nat → Int32) (x1 : Int32) (x2 : Int32) (H : Heap) (locs : List Loc) (ls : Array Slot), f_X13_readBody_4 F n i0 l0 r0 x1 x2 = some q → va_P D vwCl (W13 cs h0 a0 i0 r0 l0) H → va_D A (W13 cs h0 a0 i0 r0 l0) → va_S A s.heap H locs → lv_has ls 4 [(0, .ref h0), (1, .int x1), (2, .int x2)] → W p l e (rmX13_readBody (d + 1)) s m args below meth c H locs 0 0 (Sum.elim (fun q => MQ below (Qv D cs A (W13 cs h0 a0 q.1 q.2.2 q.2.1)) args s 0 0 A) (fun t => MQT below D cs A (a0 0) (W13 cs h0 a0 t.1 t.2.2 t.2.1) args s) q) (F0 m 4 ls []) := by
  obtain ⟨hx, hb, hr, hml, hown, hts, hK, hA, hlocks, hZ⟩ := id C
  intro n
  induction n with
  | zero =>
    intro i0 l0 r0 x1 x2 H locs ls hf
    rw [f_X13_readBody_4] at hf
    cases hf
  | succ n ih =>
    intro i0 l0 r0 x1 x2 H locs ls hf hP hD hS hl
    rw [f_X13_readBody_4] at hf
    refine lv_aload_n hx hb dX13_readBody_4 rfl (lv_at hl 0 rfl) ?_
    obtain ⟨q5, hq5, hf⟩ := bd_s hf
    refine k_sVi (ws2 := W13 cs h0 a0 i0 r0 l0) (As := []) (rest := []) hx hb hml hown hts hK hA hZ hl.1 hP hD hS (c_X13_stepAtHand (h0 := h0) (a0 := a0) hq5) (gVt mlX13_423 imX13_stepAtHand seX13_stepAtHand inX13 coX13_stepAtHand) rfl qnX13_stepAtHand rfl rfl ⟨by show 5 + 1 ≤ 34 + 2 * (d + 1); omega, by show 8 + (1 + 11) + (108) ≤ 719 + 45 * (d + 1); omega⟩ 0 13 rfl rfl rfl rfl rfl (Nat.le_of_ble_eq_true rfl) ⟨Nat.zero_le _, Nat.zero_le _⟩ dX13_readBody_5 (fun H locs hP hD hS => ?_)
    refine lv_iconst (v := (-1)) hx hb dX13_readBody_8 (by decide) ?_
    refine lv_icmp_eq (tgt := 59) hx hb dX13_readBody_9 (by decide) (fun hc => ?_) (fun hc => ?_)
    · have hf := ite_t hf hc
      refine lv_aload_n hx hb dX13_readBody_59 rfl (lv_at hl 0 rfl) ?_
      refine lv_iload_n hx hb dX13_readBody_60 rfl (lv_at hl 1 rfl) ?_
      refine va_put (D := D) (ci := 13) (v := .int x1) (ty := .int) (C := RX13) (T := TX13) (N := 87) hx hb hts hiX13 tyX13 tyX13_ok nmX13 hown hK hP hD hS 0 rfl rfl 51 (by decide) (hts _ flX13_459) (fun _ h9 => h9) rfl (tyX13_ok 51 (by decide)) rfl rfl (Nat.le_of_ble_eq_true rfl) dX13_readBody_61 (fun H locs hP hD hS => ?_)
      obtain ⟨hP, hD⟩ := st13_51 hP hD
      refine lv_aload_n hx hb dX13_readBody_64 rfl (lv_at hl 0 rfl) ?_
      refine lv_iload_n hx hb dX13_readBody_65 rfl (lv_at hl 2 rfl) ?_
      refine va_put (D := D) (ci := 13) (v := .int x2) (ty := .int) (C := RX13) (T := TX13) (N := 87) hx hb hts hiX13 tyX13 tyX13_ok nmX13 hown hK hP hD hS 0 rfl rfl 52 (by decide) (hts _ flX13_462) (fun _ h9 => h9) rfl (tyX13_ok 52 (by decide)) rfl rfl (Nat.le_of_ble_eq_true rfl) dX13_readBody_66 (fun H locs hP hD hS => ?_)
      obtain ⟨hP, hD⟩ := st13_52 hP hD
      obtain rfl := Option.some.inj hf
      exact k_vret hx hb hr hlocks hK hP hD hS dX13_readBody_69
    · have hf := ite_f hf hc
      refine lv_aload_n hx hb dX13_readBody_12 rfl (lv_at hl 0 rfl) ?_
      rcases (bt_s hf).symm with ⟨t6, hq6, hf⟩ | ⟨q6, hq6, hf⟩
      · obtain rfl := Option.some.inj hf
        exact k_sVt (R := rmX13_readBody (d + 1)) (ws2 := W13 cs h0 a0 t6.1 t6.2.2 t6.2.1) (As := []) (rest := []) hx hb hml hown hts hK hA hZ hl.1 hP hD hS (t_X13_readOne (h0 := h0) (a0 := a0) hF hq6) (gVt mlX13_456 imX13_readOne seX13_readOne inX13 coX13_readOne) rfl qnX13_readOne rfl rfl ⟨by show 34 + 2 * d + 1 + 1 ≤ 34 + 2 * (d + 1); omega, by show 8 + (3 + 11) + (719 + 45 * d + 23) ≤ 719 + 45 * (d + 1); omega⟩ 0 13 rfl rfl rfl rfl rfl (Nat.le_of_ble_eq_true rfl) dX13_readBody_13 hlocks hne
      refine k_sVi (ws2 := W13 cs h0 a0 q6.2.1 q6.2.2.2 q6.2.2.1) (As := []) (rest := []) hx hb hml hown hts hK hA hZ hl.1 hP hD hS (c_X13_readOne (h0 := h0) (a0 := a0) hF hq6) (gVt mlX13_456 imX13_readOne seX13_readOne inX13 coX13_readOne) rfl qnX13_readOne rfl rfl ⟨by show 34 + 2 * d + 1 + 1 ≤ 34 + 2 * (d + 1); omega, by show 8 + (3 + 11) + (719 + 45 * d + 23) ≤ 719 + 45 * (d + 1); omega⟩ 0 13 rfl rfl rfl rfl rfl (Nat.le_of_ble_eq_true rfl) ⟨Nat.zero_le _, Nat.zero_le _⟩ dX13_readBody_13 (fun H locs hP hD hS => ?_)
      refine lv_istore_n (lv' := [(3, .int q6.1), (0, .ref h0), (1, .int x1), (2, .int x2)]) hx hb dX13_readBody_16 rfl hl (by decide) rfl (fun ls hl => ?_)
      refine lv_aload_n hx hb dX13_readBody_17 rfl (lv_at hl 1 rfl) ?_
      refine va_get (D := D) (ci := 13) (v := .ref (a0 30)) (C := RX13) (T := TX13) (N := 87) hx hb hts hiX13 hown hK hP 0 rfl rfl 30 (by decide) (hts _ flX13_179) (fun _ h9 => h9) rfl dX13_readBody_18 ?_
      refine lv_iload_n hx hb dX13_readBody_21 rfl (lv_at hl 0 rfl) ?_
      refine lv_iload_n hx hb dX13_readBody_22 rfl (lv_at hl 3 rfl) ?_
      refine va_iast (f := q6.2.2.2 30) hx hb hK hP hD hS 19 0 rfl rfl (ck_in hf) dX13_readBody_23 (fun H locs hP hD hS => ?_)
      have hf := ck_2 hf
      obtain ⟨hP, hD⟩ := st13_30 hP hD
      refine lv_aload_n hx hb dX13_readBody_24 rfl (lv_at hl 1 rfl) ?_
      refine va_get (D := D) (ci := 13) (v := .ref (a0 29)) (C := RX13) (T := TX13) (N := 87) hx hb hts hiX13 hown hK hP 0 rfl rfl 29 (by decide) (hts _ flX13_176) (fun _ h9 => h9) rfl dX13_readBody_25 ?_
      refine lv_iload_n hx hb dX13_readBody_28 rfl (lv_at hl 0 rfl) ?_
      refine lv_iconst (v := (-1)) hx hb dX13_readBody_29 (by decide) ?_
      refine va_iast (f := q6.2.2.2 29) hx hb hK hP hD hS 18 0 rfl rfl (ck_in hf) dX13_readBody_30 (fun H locs hP hD hS => ?_)
      have hf := ck_2 hf
      obtain ⟨hP, hD⟩ := st13_29 hP hD
      exact w_X13_readBody_31 C hne hF _ (ih) _ _ _ _ _ _ _ _ _ hf hP hD hS (lv_sub hl [1, 2, 3, 0] rfl)
def f_X13_readBody_e (F : (Nat → Int32) → (Nat → Nat → Int32) → (Nat → Nat → Int64) → Option (((Nat → Int32) × (Nat → Nat → Int64) × (Nat → Nat → Int32)) ⊕ ((Nat → Int32) × (Nat → Nat → Int64) × (Nat → Nat → Int32))))  (i0 : Nat → Int32) (r0 : Nat → Nat → Int32) (l0 : Nat → Nat → Int64)  : Option (((Nat → Int32) × (Nat → Nat → Int64) × (Nat → Nat → Int32)) ⊕ ((Nat → Int32) × (Nat → Nat → Int64) × (Nat → Nat → Int32))) := f_X13_readBody_4 F 2000000 i0 l0 r0 (-1) (-1)
set_option maxRecDepth 100000 in
set_option maxHeartbeats 4000000 in
theorem e_X13_readBody_e {p : Program} {l : Launch} {e : Env} {s : State} {m : MethodId} {args : Array Value} {below : List Frame} {meth : Method} {c : Code} {A : Nat → Prop} {D : va_G} {cs zs : Nat → Nat} {h0 : Nat} {a0 : Nat → Nat} {i0 : Nat → Int32} {r0 : Nat → Nat → Int32} {l0 : Nat → Nat → Int64}  {q : ((Nat → Int32) × (Nat → Nat → Int64) × (Nat → Nat → Int32)) ⊕ ((Nat → Int32) × (Nat → Nat → Int64) × (Nat → Nat → Int32))} (C : Cx p s m args meth c A D cs zs cX13_readBody 4 none RX13) (hne : NoH c) {d : Nat} {F : (Nat → Int32) → (Nat → Nat → Int32) → (Nat → Nat → Int64) → Option (((Nat → Int32) × (Nat → Nat → Int64) × (Nat → Nat → Int32)) ⊕ ((Nat → Int32) × (Nat → Nat → Int64) × (Nat → Nat → Int32)))} (hF : (∀ {i0 : Nat → Int32} {r0 : Nat → Nat → Int32} {l0 : Nat → Nat → Int64}  {q : (Nat → Int32) × (Nat → Nat → Int64) × (Nat → Nat → Int32)}, F i0 r0 l0 = some (.inl q) → Mv l yX13_readBody wlX13_readBody (rmX13_readBody d) D cs zs [.ref h0] (W13 cs h0 a0 i0 r0 l0) (W13 cs h0 a0 q.1 q.2.2 q.2.1)) ∧ (∀ {i0 : Nat → Int32} {r0 : Nat → Nat → Int32} {l0 : Nat → Nat → Int64}  {t : (Nat → Int32) × (Nat → Nat → Int64) × (Nat → Nat → Int32)}, F i0 r0 l0 = some (.inr t) → MT l yX13_readBody wlX13_readBody (rmX13_readBody d) D cs zs [.ref h0] (W13 cs h0 a0 i0 r0 l0) (a0 0) (W13 cs h0 a0 t.1 t.2.2 t.2.1)))  : ∀ (H : Heap) (locs : List Loc) (ls : Array Slot), f_X13_readBody_e F i0 r0 l0 = some q → va_P D vwCl (W13 cs h0 a0 i0 r0 l0) H → va_D A (W13 cs h0 a0 i0 r0 l0) → va_S A s.heap H locs → lv_has ls 4 [(0, .ref h0)] → W p l e (rmX13_readBody (d + 1)) s m args below meth c H locs 0 0 (Sum.elim (fun q => MQ below (Qv D cs A (W13 cs h0 a0 q.1 q.2.2 q.2.1)) args s 0 0 A) (fun t => MQT below D cs A (a0 0) (W13 cs h0 a0 t.1 t.2.2 t.2.1) args s) q) (F0 m 0 ls []) := by
  obtain ⟨hx, hb, hr, hml, hown, hts, hK, hA, hlocks, hZ⟩ := id C
  intro H locs ls hf hP hD hS hl
  rw [f_X13_readBody_e] at hf
  refine lv_iconst (v := (-1)) hx hb dX13_readBody_0 (by decide) ?_
  refine lv_istore_n (lv' := [(1, .int (-1)), (0, .ref h0)]) hx hb dX13_readBody_1 rfl hl (by decide) rfl (fun ls hl => ?_)
  refine lv_iconst (v := (-1)) hx hb dX13_readBody_2 (by decide) ?_
  refine lv_istore_n (lv' := [(2, .int (-1)), (1, .int (-1)), (0, .ref h0)]) hx hb dX13_readBody_3 rfl hl (by decide) rfl (fun ls hl => ?_)
  exact w_X13_readBody_4 C hne hF  2000000 _ _ _ _ _ _ _ _ hf hP hD hS (lv_sub hl [2, 1, 0] rfl)
theorem c_X13_readBody_e {l : Launch} {D : va_G} {cs zs : Nat → Nat} {h0 : Nat} {a0 : Nat → Nat} {i0 : Nat → Int32} {r0 : Nat → Nat → Int32} {l0 : Nat → Nat → Int64}  {q : (Nat → Int32) × (Nat → Nat → Int64) × (Nat → Nat → Int32)} {d : Nat} {F : (Nat → Int32) → (Nat → Nat → Int32) → (Nat → Nat → Int64) → Option (((Nat → Int32) × (Nat → Nat → Int64) × (Nat → Nat → Int32)) ⊕ ((Nat → Int32) × (Nat → Nat → Int64) × (Nat → Nat → Int32)))} (hF : (∀ {i0 : Nat → Int32} {r0 : Nat → Nat → Int32} {l0 : Nat → Nat → Int64}  {q : (Nat → Int32) × (Nat → Nat → Int64) × (Nat → Nat → Int32)}, F i0 r0 l0 = some (.inl q) → Mv l yX13_readBody wlX13_readBody (rmX13_readBody d) D cs zs [.ref h0] (W13 cs h0 a0 i0 r0 l0) (W13 cs h0 a0 q.1 q.2.2 q.2.1)) ∧ (∀ {i0 : Nat → Int32} {r0 : Nat → Nat → Int32} {l0 : Nat → Nat → Int64}  {t : (Nat → Int32) × (Nat → Nat → Int64) × (Nat → Nat → Int32)}, F i0 r0 l0 = some (.inr t) → MT l yX13_readBody wlX13_readBody (rmX13_readBody d) D cs zs [.ref h0] (W13 cs h0 a0 i0 r0 l0) (a0 0) (W13 cs h0 a0 t.1 t.2.2 t.2.1))) (hf : f_X13_readBody_e F i0 r0 l0 = some (.inl q)) : Mv l yX13_readBody wlX13_readBody (rmX13_readBody (d + 1)) D cs zs [.ref h0] (W13 cs h0 a0 i0 r0 l0) (W13 cs h0 a0 q.1 q.2.2 q.2.1) := by
  refine Mv.ofT RX13 (by decide) rfl (Nat.le_of_ble_eq_true rfl) (fun p e s m below meth c A C hne hP hD hS ls hl => ?_)
  generalize ([.ref h0] : List Value).toArray = args at C ⊢
  exact e_X13_readBody_e (q := .inl q) C hne hF _ _ _ hf hP hD hS hl
theorem t_X13_readBody_e {l : Launch} {D : va_G} {cs zs : Nat → Nat} {h0 : Nat} {a0 : Nat → Nat} {i0 : Nat → Int32} {r0 : Nat → Nat → Int32} {l0 : Nat → Nat → Int64}  {t : (Nat → Int32) × (Nat → Nat → Int64) × (Nat → Nat → Int32)} {d : Nat} {F : (Nat → Int32) → (Nat → Nat → Int32) → (Nat → Nat → Int64) → Option (((Nat → Int32) × (Nat → Nat → Int64) × (Nat → Nat → Int32)) ⊕ ((Nat → Int32) × (Nat → Nat → Int64) × (Nat → Nat → Int32)))} (hF : (∀ {i0 : Nat → Int32} {r0 : Nat → Nat → Int32} {l0 : Nat → Nat → Int64}  {q : (Nat → Int32) × (Nat → Nat → Int64) × (Nat → Nat → Int32)}, F i0 r0 l0 = some (.inl q) → Mv l yX13_readBody wlX13_readBody (rmX13_readBody d) D cs zs [.ref h0] (W13 cs h0 a0 i0 r0 l0) (W13 cs h0 a0 q.1 q.2.2 q.2.1)) ∧ (∀ {i0 : Nat → Int32} {r0 : Nat → Nat → Int32} {l0 : Nat → Nat → Int64}  {t : (Nat → Int32) × (Nat → Nat → Int64) × (Nat → Nat → Int32)}, F i0 r0 l0 = some (.inr t) → MT l yX13_readBody wlX13_readBody (rmX13_readBody d) D cs zs [.ref h0] (W13 cs h0 a0 i0 r0 l0) (a0 0) (W13 cs h0 a0 t.1 t.2.2 t.2.1))) (hf : f_X13_readBody_e F i0 r0 l0 = some (.inr t)) : MT l yX13_readBody wlX13_readBody (rmX13_readBody (d + 1)) D cs zs [.ref h0] (W13 cs h0 a0 i0 r0 l0) (a0 0) (W13 cs h0 a0 t.1 t.2.2 t.2.1) := by
  refine MT.of RX13 (by decide) rfl (Nat.le_of_ble_eq_true rfl) (fun p e s m below meth c A C hne hP hD hS ls hl => ?_)
  generalize ([.ref h0] : List Value).toArray = args at C ⊢
  exact e_X13_readBody_e (q := .inr t) C hne hF _ _ _ hf hP hD hS hl
def f_X13_readBody : Nat → (Nat → Int32) → (Nat → Nat → Int32) → (Nat → Nat → Int64) → Option (((Nat → Int32) × (Nat → Nat → Int64) × (Nat → Nat → Int32)) ⊕ ((Nat → Int32) × (Nat → Nat → Int64) × (Nat → Nat → Int32)))
  | 0, _, _, _ => none
  | d + 1, i0, r0, l0 => f_X13_readBody_e (f_X13_readBody d) i0 r0 l0
theorem c_X13_readBody {l : Launch} {D : va_G} {cs zs : Nat → Nat} {h0 : Nat} {a0 : Nat → Nat} : ∀ (d : Nat), (∀ {i0 : Nat → Int32} {r0 : Nat → Nat → Int32} {l0 : Nat → Nat → Int64}  {q : (Nat → Int32) × (Nat → Nat → Int64) × (Nat → Nat → Int32)}, f_X13_readBody d i0 r0 l0 = some (.inl q) → Mv l yX13_readBody wlX13_readBody (rmX13_readBody d) D cs zs [.ref h0] (W13 cs h0 a0 i0 r0 l0) (W13 cs h0 a0 q.1 q.2.2 q.2.1)) ∧ (∀ {i0 : Nat → Int32} {r0 : Nat → Nat → Int32} {l0 : Nat → Nat → Int64}  {t : (Nat → Int32) × (Nat → Nat → Int64) × (Nat → Nat → Int32)}, f_X13_readBody d i0 r0 l0 = some (.inr t) → MT l yX13_readBody wlX13_readBody (rmX13_readBody d) D cs zs [.ref h0] (W13 cs h0 a0 i0 r0 l0) (a0 0) (W13 cs h0 a0 t.1 t.2.2 t.2.1))
  | 0 => ⟨fun {i0} {r0} {l0} {q} hf => (by rw [f_X13_readBody] at hf; cases hf), fun {i0} {r0} {l0} {t} hf => (by rw [f_X13_readBody] at hf; cases hf)⟩
  | d + 1 => ⟨fun {i0} {r0} {l0} {q} hf => (by rw [f_X13_readBody] at hf; exact c_X13_readBody_e (c_X13_readBody d) hf), fun {i0} {r0} {l0} {t} hf => (by rw [f_X13_readBody] at hf; exact t_X13_readBody_e (c_X13_readBody d) hf)⟩
/-! MarbleFloorModel.readProgram()V -/
abbrev wlX13_readProgram : List Cond := Cond.code yX13_readProgram cX13_readProgram 4 none :: tbG
abbrev rmX13_readProgram : Room := { frames := 59, cells := 0, slots := 0, locals := 1282 }
theorem qnX13_readProgram : yX13_readProgram.cls = RX13 ∧ yX13_readProgram.cls ≠ "java/lang/invoke/MethodHandle" ∧ yX13_readProgram.cls ≠ "java/lang/invoke/VarHandle" ∧ (parseMethodDescriptor yX13_readProgram.desc).map (fun d => d.parameters.length) = some 0 := by decide +kernel
def f_X13_readProgram_151  (K20 : (Nat → Int32) → (Nat → Nat → Int64) → (Nat → Nat → Int32) → Option (((Nat → Int32) × (Nat → Nat → Int64) × (Nat → Nat → Int32)) ⊕ ((Nat → Int32) × (Nat → Nat → Int64) × (Nat → Nat → Int32)))) (i0 : Nat → Int32) (l0 : Nat → Nat → Int64) (r0 : Nat → Nat → Int32) : Option (((Nat → Int32) × (Nat → Nat → Int64) × (Nat → Nat → Int32)) ⊕ ((Nat → Int32) × (Nat → Nat → Int64) × (Nat → Nat → Int32))) := bt (f_X13_word 12 i0 r0 l0) (fun q15 => bt (f_X13_sign q15 r0 l0 59) (fun q16 => K20 q16 l0 r0) (fun t16 => some (.inr (t16, l0, r0)))) (fun t15 => some (.inr (t15, l0, r0)))
set_option maxRecDepth 100000 in
set_option maxHeartbeats 4000000 in
theorem w_X13_readProgram_151 {p : Program} {l : Launch} {e : Env} {s : State} {m : MethodId} {args : Array Value} {below : List Frame} {meth : Method} {c : Code} {A : Nat → Prop} {D : va_G} {cs zs : Nat → Nat} {h0 : Nat} {a0 : Nat → Nat}  {q : ((Nat → Int32) × (Nat → Nat → Int64) × (Nat → Nat → Int32)) ⊕ ((Nat → Int32) × (Nat → Nat → Int64) × (Nat → Nat → Int32))} (C : Cx p s m args meth c A D cs zs cX13_readProgram 4 none RX13) (hne : NoH c) (K20 : (Nat → Int32) → (Nat → Nat → Int64) → (Nat → Nat → Int32) → Option (((Nat → Int32) × (Nat → Nat → Int64) × (Nat → Nat → Int32)) ⊕ ((Nat → Int32) × (Nat → Nat → Int64) × (Nat → Nat → Int32)))) (hK20 : ∀ (i0 : Nat → Int32) (l0 : Nat → Nat → Int64) (r0 : Nat → Nat → Int32) (H : Heap) (locs : List Loc) (ls : Array Slot), K20 i0 l0 r0 = some q → va_P D vwCl (W13 cs h0 a0 i0 r0 l0) H → va_D A (W13 cs h0 a0 i0 r0 l0) → va_S A s.heap H locs → lv_has ls 4 [(0, .ref h0)] → W p l e rmX13_readProgram s m args below meth c H locs 0 0 (Sum.elim (fun q => MQ below (Qv D cs A (W13 cs h0 a0 q.1 q.2.2 q.2.1)) args s 0 0 A) (fun t => MQT below D cs A (a0 0) (W13 cs h0 a0 t.1 t.2.2 t.2.1) args s) q) (F0 m 20 ls [])) : ∀ (i0 : Nat → Int32) (l0 : Nat → Nat → Int64) (r0 : Nat → Nat → Int32) (H : Heap) (locs : List Loc) (ls : Array Slot), f_X13_readProgram_151 K20 i0 l0 r0 = some q → va_P D vwCl (W13 cs h0 a0 i0 r0 l0) H → va_D A (W13 cs h0 a0 i0 r0 l0) → va_S A s.heap H locs → lv_has ls 4 [(0, .ref h0)] → W p l e rmX13_readProgram s m args below meth c H locs 0 0 (Sum.elim (fun q => MQ below (Qv D cs A (W13 cs h0 a0 q.1 q.2.2 q.2.1)) args s 0 0 A) (fun t => MQT below D cs A (a0 0) (W13 cs h0 a0 t.1 t.2.2 t.2.1) args s) q) (F0 m 151 ls []) := by
  obtain ⟨hx, hb, hr, hml, hown, hts, hK, hA, hlocks, hZ⟩ := id C
  intro i0 l0 r0 H locs ls hf hP hD hS hl
  rw [f_X13_readProgram_151] at hf
  refine lv_aload_n hx hb dX13_readProgram_151 rfl (lv_at hl 0 rfl) ?_
  refine k_ldcSw hx hb hown (hZ.2.2.2.2.2.2.1 12 (429, "end") rfl) dX13_readProgram_152 ?_
  rcases (bt_s hf).symm with ⟨t15, hq15, hf⟩ | ⟨q15, hq15, hf⟩
  · obtain rfl := Option.some.inj hf
    exact k_sVt (ws2 := W13 cs h0 a0 t15 r0 l0) (As := [.ref (zs (10 + 12))]) (rest := []) hx hb hml hown hts hK hA hZ hl.1 hP hD hS (t_X13_word (h0 := h0) (a0 := a0) (w := 12) (by decide : 12 < 20) hq15) (gVt mlX13_120 imX13_word seX13_word inX13 coX13_word) rfl qnX13_word rfl rfl ⟨Nat.le_of_ble_eq_true rfl, Nat.le_of_ble_eq_true rfl⟩ 0 13 rfl rfl rfl rfl rfl (Nat.le_of_ble_eq_true rfl) dX13_readProgram_155 hlocks hne
  refine k_sVv (ws2 := W13 cs h0 a0 q15 r0 l0) (As := [.ref (zs (10 + 12))]) (rest := []) hx hb hml hown hts hK hA hZ hl.1 hP hD hS (c_X13_word (h0 := h0) (a0 := a0) (w := 12) (by decide : 12 < 20) hq15) (gVt mlX13_120 imX13_word seX13_word inX13 coX13_word) rfl qnX13_word rfl rfl ⟨Nat.le_of_ble_eq_true rfl, Nat.le_of_ble_eq_true rfl⟩ 0 13 rfl rfl rfl rfl rfl (Nat.le_of_ble_eq_true rfl) ⟨Nat.zero_le _, Nat.zero_le _⟩ dX13_readProgram_155 (fun H locs hP hD hS => ?_)
  refine lv_aload_n hx hb dX13_readProgram_158 rfl (lv_at hl 0 rfl) ?_
  refine lv_bipush (v := 59) hx hb dX13_readProgram_159 (by decide) ?_
  rcases (bt_s hf).symm with ⟨t16, hq16, hf⟩ | ⟨q16, hq16, hf⟩
  · obtain rfl := Option.some.inj hf
    exact k_sVt (ws2 := W13 cs h0 a0 t16 r0 l0) (As := [.int 59]) (rest := []) hx hb hml hown hts hK hA hZ hl.1 hP hD hS (t_X13_sign (h0 := h0) (a0 := a0) hq16) (gVt mlX13_111 imX13_sign seX13_sign inX13 coX13_sign) rfl qnX13_sign rfl rfl ⟨Nat.le_of_ble_eq_true rfl, Nat.le_of_ble_eq_true rfl⟩ 0 13 rfl rfl rfl rfl rfl (Nat.le_of_ble_eq_true rfl) dX13_readProgram_161 hlocks hne
  refine k_sVv (ws2 := W13 cs h0 a0 q16 r0 l0) (As := [.int 59]) (rest := []) hx hb hml hown hts hK hA hZ hl.1 hP hD hS (c_X13_sign (h0 := h0) (a0 := a0) hq16) (gVt mlX13_111 imX13_sign seX13_sign inX13 coX13_sign) rfl qnX13_sign rfl rfl ⟨Nat.le_of_ble_eq_true rfl, Nat.le_of_ble_eq_true rfl⟩ 0 13 rfl rfl rfl rfl rfl (Nat.le_of_ble_eq_true rfl) ⟨Nat.zero_le _, Nat.zero_le _⟩ dX13_readProgram_161 (fun H locs hP hD hS => ?_)
  refine lv_goto (tgt := 20) hx hb dX13_readProgram_164 (by decide) ?_
  exact hK20 _ _ _ _ _ _ hf hP hD hS (lv_sub hl [0] rfl)
def f_X13_readProgram_82  (K20 : (Nat → Int32) → (Nat → Nat → Int64) → (Nat → Nat → Int32) → Option (((Nat → Int32) × (Nat → Nat → Int64) × (Nat → Nat → Int32)) ⊕ ((Nat → Int32) × (Nat → Nat → Int64) × (Nat → Nat → Int32)))) (i0 : Nat → Int32) (l0 : Nat → Nat → Int64) (r0 : Nat → Nat → Int32) (x1 : Int64) (y0 : Int32) : Option (((Nat → Int32) × (Nat → Nat → Int64) × (Nat → Nat → Int32)) ⊕ ((Nat → Int32) × (Nat → Nat → Int64) × (Nat → Nat → Int32))) := bt (f_X13_need i0 r0 l0 y0 3) (fun q17 => ck (inb (q17 47) 6) (bd (f_X13_scan (upd q17 47 ((q17 47) + 1)) r0 (va_up l0 44 (vp_updL (l0 44) (q17 47).toNatClampNeg x1))) (fun q18 => bt (f_X13_word 11 q18 r0 (va_up l0 44 (vp_updL (l0 44) (q17 47).toNatClampNeg x1))) (fun q19 => bt (f_X13_readBody 12 q19 r0 (va_up l0 44 (vp_updL (l0 44) (q17 47).toNatClampNeg x1))) (fun q20 => ck (inb ((6 + (q19 47)) - 1) 12) (ck (inb ((6 + (q19 47)) - 1) 12) (f_X13_readProgram_151 K20 q20.1 q20.2.1 (va_up (va_up q20.2.2 42 (upd (q20.2.2 42) ((6 + (q19 47)) - 1).toNatClampNeg (q20.1 51))) 43 (upd (q20.2.2 43) ((6 + (q19 47)) - 1).toNatClampNeg (q20.1 52)))))) (fun t20 => some (.inr (t20.1, t20.2.1, t20.2.2)))) (fun t19 => some (.inr (t19, (va_up l0 44 (vp_updL (l0 44) (q17 47).toNatClampNeg x1)), r0)))))) (fun t17 => some (.inr (t17, l0, r0)))
set_option maxRecDepth 100000 in
set_option maxHeartbeats 4000000 in
theorem w_X13_readProgram_82 {p : Program} {l : Launch} {e : Env} {s : State} {m : MethodId} {args : Array Value} {below : List Frame} {meth : Method} {c : Code} {A : Nat → Prop} {D : va_G} {cs zs : Nat → Nat} {h0 : Nat} {a0 : Nat → Nat}  {q : ((Nat → Int32) × (Nat → Nat → Int64) × (Nat → Nat → Int32)) ⊕ ((Nat → Int32) × (Nat → Nat → Int64) × (Nat → Nat → Int32))} (C : Cx p s m args meth c A D cs zs cX13_readProgram 4 none RX13) (hne : NoH c) (K20 : (Nat → Int32) → (Nat → Nat → Int64) → (Nat → Nat → Int32) → Option (((Nat → Int32) × (Nat → Nat → Int64) × (Nat → Nat → Int32)) ⊕ ((Nat → Int32) × (Nat → Nat → Int64) × (Nat → Nat → Int32)))) (hK20 : ∀ (i0 : Nat → Int32) (l0 : Nat → Nat → Int64) (r0 : Nat → Nat → Int32) (H : Heap) (locs : List Loc) (ls : Array Slot), K20 i0 l0 r0 = some q → va_P D vwCl (W13 cs h0 a0 i0 r0 l0) H → va_D A (W13 cs h0 a0 i0 r0 l0) → va_S A s.heap H locs → lv_has ls 4 [(0, .ref h0)] → W p l e rmX13_readProgram s m args below meth c H locs 0 0 (Sum.elim (fun q => MQ below (Qv D cs A (W13 cs h0 a0 q.1 q.2.2 q.2.1)) args s 0 0 A) (fun t => MQT below D cs A (a0 0) (W13 cs h0 a0 t.1 t.2.2 t.2.1) args s) q) (F0 m 20 ls [])) : ∀ (i0 : Nat → Int32) (l0 : Nat → Nat → Int64) (r0 : Nat → Nat → Int32) (x1 : Int64) (y0 : Int32) (H : Heap) (locs : List Loc) (ls : Array Slot), f_X13_readProgram_82 K20 i0 l0 r0 x1 y0 = some q → va_P D vwCl (W13 cs h0 a0 i0 r0 l0) H → va_D A (W13 cs h0 a0 i0 r0 l0) → va_S A s.heap H locs → lv_has ls 4 [(0, .ref h0), (1, .long x1)] → W p l e rmX13_readProgram s m args below meth c H locs 0 0 (Sum.elim (fun q => MQ below (Qv D cs A (W13 cs h0 a0 q.1 q.2.2 q.2.1)) args s 0 0 A) (fun t => MQT below D cs A (a0 0) (W13 cs h0 a0 t.1 t.2.2 t.2.1) args s) q) (F0 m 82 ls [.int y0, .ref h0]) := by
  obtain ⟨hx, hb, hr, hml, hown, hts, hK, hA, hlocks, hZ⟩ := id C
  intro i0 l0 r0 x1 y0 H locs ls hf hP hD hS hl
  rw [f_X13_readProgram_82] at hf
  refine lv_iconst (v := 3) hx hb dX13_readProgram_82 (by decide) ?_
  rcases (bt_s hf).symm with ⟨t17, hq17, hf⟩ | ⟨q17, hq17, hf⟩
  · obtain rfl := Option.some.inj hf
    exact k_sVt (ws2 := W13 cs h0 a0 t17 r0 l0) (As := [.int y0, .int 3]) (rest := []) hx hb hml hown hts hK hA hZ hl.1 hP hD hS (t_X13_need (h0 := h0) (a0 := a0) hq17) (gVt mlX13_60 imX13_need seX13_need inX13 coX13_need) rfl qnX13_need rfl rfl ⟨Nat.le_of_ble_eq_true rfl, Nat.le_of_ble_eq_true rfl⟩ 0 13 rfl rfl rfl rfl rfl (Nat.le_of_ble_eq_true rfl) dX13_readProgram_83 hlocks hne
  refine k_sVv (ws2 := W13 cs h0 a0 q17 r0 l0) (As := [.int y0, .int 3]) (rest := []) hx hb hml hown hts hK hA hZ hl.1 hP hD hS (c_X13_need (h0 := h0) (a0 := a0) hq17) (gVt mlX13_60 imX13_need seX13_need inX13 coX13_need) rfl qnX13_need rfl rfl ⟨Nat.le_of_ble_eq_true rfl, Nat.le_of_ble_eq_true rfl⟩ 0 13 rfl rfl rfl rfl rfl (Nat.le_of_ble_eq_true rfl) ⟨Nat.zero_le _, Nat.zero_le _⟩ dX13_readProgram_83 (fun H locs hP hD hS => ?_)
  refine lv_aload_n hx hb dX13_readProgram_86 rfl (lv_at hl 0 rfl) ?_
  refine va_get (D := D) (ci := 13) (v := .ref (a0 44)) (C := RX13) (T := TX13) (N := 87) hx hb hts hiX13 hown hK hP 0 rfl rfl 44 (by decide) (hts _ flX13_221) (fun _ h9 => h9) rfl dX13_readProgram_87 ?_
  refine lv_aload_n hx hb dX13_readProgram_90 rfl (lv_at hl 0 rfl) ?_
  refine va_get (D := D) (ci := 13) (v := .int (q17 47)) (C := RX13) (T := TX13) (N := 87) hx hb hts hiX13 hown hK hP 0 rfl rfl 47 (by decide) (hts _ flX13_490) (fun _ h9 => h9) rfl dX13_readProgram_91 ?_
  refine lv_lload_n hx hb dX13_readProgram_94 rfl (lv_at hl 1 rfl) ?_
  refine va_last (f := l0 44) hx hb hK hP hD hS 33 1 rfl rfl (ck_in hf) dX13_readProgram_95 (fun H locs hP hD hS => ?_)
  have hf := ck_2 hf
  obtain ⟨hP, hD⟩ := st13_44 hP hD
  refine lv_aload_n hx hb dX13_readProgram_96 rfl (lv_at hl 0 rfl) ?_
  refine lv_dup hx hb dX13_readProgram_97 rfl ?_
  refine va_get (D := D) (ci := 13) (v := .int (q17 47)) (C := RX13) (T := TX13) (N := 87) hx hb hts hiX13 hown hK hP 0 rfl rfl 47 (by decide) (hts _ flX13_490) (fun _ h9 => h9) rfl dX13_readProgram_98 ?_
  refine lv_iconst (v := 1) hx hb dX13_readProgram_101 (by decide) ?_
  refine lv_iadd hx hb dX13_readProgram_102 ?_
  refine va_put (D := D) (ci := 13) (v := .int ((q17 47) + 1)) (ty := .int) (C := RX13) (T := TX13) (N := 87) hx hb hts hiX13 tyX13 tyX13_ok nmX13 hown hK hP hD hS 0 rfl rfl 47 (by decide) (hts _ flX13_490) (fun _ h9 => h9) rfl (tyX13_ok 47 (by decide)) rfl rfl (Nat.le_of_ble_eq_true rfl) dX13_readProgram_103 (fun H locs hP hD hS => ?_)
  obtain ⟨hP, hD⟩ := st13_47 hP hD
  refine lv_aload_n hx hb dX13_readProgram_106 rfl (lv_at hl 0 rfl) ?_
  obtain ⟨q18, hq18, hf⟩ := bd_s hf
  refine k_sVv (ws2 := W13 cs h0 a0 q18 r0 (va_up l0 44 (vp_updL (l0 44) (q17 47).toNatClampNeg x1))) (As := []) (rest := []) hx hb hml hown hts hK hA hZ hl.1 hP hD hS (c_X13_scan (h0 := h0) (a0 := a0) hq18) (gVt mlX13_72 imX13_scan seX13_scan inX13 coX13_scan) rfl qnX13_scan rfl rfl ⟨Nat.le_of_ble_eq_true rfl, Nat.le_of_ble_eq_true rfl⟩ 0 13 rfl rfl rfl rfl rfl (Nat.le_of_ble_eq_true rfl) ⟨Nat.zero_le _, Nat.zero_le _⟩ dX13_readProgram_107 (fun H locs hP hD hS => ?_)
  refine lv_aload_n hx hb dX13_readProgram_110 rfl (lv_at hl 0 rfl) ?_
  refine k_ldcSw hx hb hown (hZ.2.2.2.2.2.2.1 11 (428, "is") rfl) dX13_readProgram_111 ?_
  rcases (bt_s hf).symm with ⟨t19, hq19, hf⟩ | ⟨q19, hq19, hf⟩
  · obtain rfl := Option.some.inj hf
    exact k_sVt (ws2 := W13 cs h0 a0 t19 r0 (va_up l0 44 (vp_updL (l0 44) (q17 47).toNatClampNeg x1))) (As := [.ref (zs (10 + 11))]) (rest := []) hx hb hml hown hts hK hA hZ hl.1 hP hD hS (t_X13_word (h0 := h0) (a0 := a0) (w := 11) (by decide : 11 < 20) hq19) (gVt mlX13_120 imX13_word seX13_word inX13 coX13_word) rfl qnX13_word rfl rfl ⟨Nat.le_of_ble_eq_true rfl, Nat.le_of_ble_eq_true rfl⟩ 0 13 rfl rfl rfl rfl rfl (Nat.le_of_ble_eq_true rfl) dX13_readProgram_114 hlocks hne
  refine k_sVv (ws2 := W13 cs h0 a0 q19 r0 (va_up l0 44 (vp_updL (l0 44) (q17 47).toNatClampNeg x1))) (As := [.ref (zs (10 + 11))]) (rest := []) hx hb hml hown hts hK hA hZ hl.1 hP hD hS (c_X13_word (h0 := h0) (a0 := a0) (w := 11) (by decide : 11 < 20) hq19) (gVt mlX13_120 imX13_word seX13_word inX13 coX13_word) rfl qnX13_word rfl rfl ⟨Nat.le_of_ble_eq_true rfl, Nat.le_of_ble_eq_true rfl⟩ 0 13 rfl rfl rfl rfl rfl (Nat.le_of_ble_eq_true rfl) ⟨Nat.zero_le _, Nat.zero_le _⟩ dX13_readProgram_114 (fun H locs hP hD hS => ?_)
  refine lv_bipush (v := 6) hx hb dX13_readProgram_117 (by decide) ?_
  refine lv_aload_n hx hb dX13_readProgram_119 rfl (lv_at hl 0 rfl) ?_
  refine va_get (D := D) (ci := 13) (v := .int (q19 47)) (C := RX13) (T := TX13) (N := 87) hx hb hts hiX13 hown hK hP 0 rfl rfl 47 (by decide) (hts _ flX13_490) (fun _ h9 => h9) rfl dX13_readProgram_120 ?_
  refine lv_iadd hx hb dX13_readProgram_123 ?_
  refine lv_iconst (v := 1) hx hb dX13_readProgram_124 (by decide) ?_
  refine lv_isub hx hb dX13_readProgram_125 ?_
  refine lv_istore_n (lv' := [(3, .int ((6 + (q19 47)) - 1)), (0, .ref h0), (1, .long x1)]) hx hb dX13_readProgram_126 rfl hl (by decide) rfl (fun ls hl => ?_)
  refine lv_aload_n hx hb dX13_readProgram_127 rfl (lv_at hl 1 rfl) ?_
  rcases (bt_s hf).symm with ⟨t20, hq20, hf⟩ | ⟨q20, hq20, hf⟩
  · obtain rfl := Option.some.inj hf
    exact k_sVt (ws2 := W13 cs h0 a0 t20.1 t20.2.2 t20.2.1) (As := []) (rest := []) hx hb hml hown hts hK hA hZ hl.1 hP hD hS ((c_X13_readBody (h0 := h0) (a0 := a0) 12).2 hq20) (gVt mlX13_474 imX13_readBody seX13_readBody inX13 coX13_readBody) rfl qnX13_readBody rfl rfl ⟨Nat.le_of_ble_eq_true rfl, Nat.le_of_ble_eq_true rfl⟩ 0 13 rfl rfl rfl rfl rfl (Nat.le_of_ble_eq_true rfl) dX13_readProgram_128 hlocks hne
  refine k_sVv (ws2 := W13 cs h0 a0 q20.1 q20.2.2 q20.2.1) (As := []) (rest := []) hx hb hml hown hts hK hA hZ hl.1 hP hD hS ((c_X13_readBody (h0 := h0) (a0 := a0) 12).1 hq20) (gVt mlX13_474 imX13_readBody seX13_readBody inX13 coX13_readBody) rfl qnX13_readBody rfl rfl ⟨Nat.le_of_ble_eq_true rfl, Nat.le_of_ble_eq_true rfl⟩ 0 13 rfl rfl rfl rfl rfl (Nat.le_of_ble_eq_true rfl) ⟨Nat.zero_le _, Nat.zero_le _⟩ dX13_readProgram_128 (fun H locs hP hD hS => ?_)
  refine lv_aload_n hx hb dX13_readProgram_131 rfl (lv_at hl 1 rfl) ?_
  refine va_get (D := D) (ci := 13) (v := .ref (a0 42)) (C := RX13) (T := TX13) (N := 87) hx hb hts hiX13 hown hK hP 0 rfl rfl 42 (by decide) (hts _ flX13_215) (fun _ h9 => h9) rfl dX13_readProgram_132 ?_
  refine lv_iload_n hx hb dX13_readProgram_135 rfl (lv_at hl 0 rfl) ?_
  refine lv_aload_n hx hb dX13_readProgram_136 rfl (lv_at hl 1 rfl) ?_
  refine va_get (D := D) (ci := 13) (v := .int (q20.1 51)) (C := RX13) (T := TX13) (N := 87) hx hb hts hiX13 hown hK hP 0 rfl rfl 51 (by decide) (hts _ flX13_459) (fun _ h9 => h9) rfl dX13_readProgram_137 ?_
  refine va_iast (f := q20.2.2 42) hx hb hK hP hD hS 31 0 rfl rfl (ck_in hf) dX13_readProgram_140 (fun H locs hP hD hS => ?_)
  have hf := ck_2 hf
  obtain ⟨hP, hD⟩ := st13_42 hP hD
  refine lv_aload_n hx hb dX13_readProgram_141 rfl (lv_at hl 1 rfl) ?_
  refine va_get (D := D) (ci := 13) (v := .ref (a0 43)) (C := RX13) (T := TX13) (N := 87) hx hb hts hiX13 hown hK hP 0 rfl rfl 43 (by decide) (hts _ flX13_218) (fun _ h9 => h9) rfl dX13_readProgram_142 ?_
  refine lv_iload_n hx hb dX13_readProgram_145 rfl (lv_at hl 0 rfl) ?_
  refine lv_aload_n hx hb dX13_readProgram_146 rfl (lv_at hl 1 rfl) ?_
  refine va_get (D := D) (ci := 13) (v := .int (q20.1 52)) (C := RX13) (T := TX13) (N := 87) hx hb hts hiX13 hown hK hP 0 rfl rfl 52 (by decide) (hts _ flX13_462) (fun _ h9 => h9) rfl dX13_readProgram_147 ?_
  refine va_iast (f := q20.2.2 43) hx hb hK hP hD hS 32 0 rfl rfl (ck_in hf) dX13_readProgram_150 (fun H locs hP hD hS => ?_)
  have hf := ck_2 hf
  obtain ⟨hP, hD⟩ := st13_43 hP hD
  exact w_X13_readProgram_151 C hne _ (hK20) _ _ _ _ _ _ hf hP hD hS (lv_sub hl [1] rfl)
def f_X13_readProgram_54  (K20 : (Nat → Int32) → (Nat → Nat → Int64) → (Nat → Nat → Int32) → Option (((Nat → Int32) × (Nat → Nat → Int64) × (Nat → Nat → Int32)) ⊕ ((Nat → Int32) × (Nat → Nat → Int64) × (Nat → Nat → Int32)))) (i0 : Nat → Int32) (l0 : Nat → Nat → Int64) (r0 : Nat → Nat → Int32) (y0 : Int32) : Option (((Nat → Int32) × (Nat → Nat → Int64) × (Nat → Nat → Int32)) ⊕ ((Nat → Int32) × (Nat → Nat → Int64) × (Nat → Nat → Int32))) := bt (f_X13_need i0 r0 l0 y0 4) (fun q21 => bd (f_X13_scan q21 r0 l0) (fun q22 => bt (f_X13_nameAtHand q22 r0 l0) (fun q23 => bd (f_X13_procOf q23.2 r0 l0 q23.1) (fun q24 => if q24 = (-1) then (f_X13_readProgram_82 K20 q23.2 l0 r0 q23.1 1) else (f_X13_readProgram_82 K20 q23.2 l0 r0 q23.1 0))) (fun t23 => some (.inr (t23, l0, r0))))) (fun t21 => some (.inr (t21, l0, r0)))
set_option maxRecDepth 100000 in
set_option maxHeartbeats 4000000 in
theorem w_X13_readProgram_54 {p : Program} {l : Launch} {e : Env} {s : State} {m : MethodId} {args : Array Value} {below : List Frame} {meth : Method} {c : Code} {A : Nat → Prop} {D : va_G} {cs zs : Nat → Nat} {h0 : Nat} {a0 : Nat → Nat}  {q : ((Nat → Int32) × (Nat → Nat → Int64) × (Nat → Nat → Int32)) ⊕ ((Nat → Int32) × (Nat → Nat → Int64) × (Nat → Nat → Int32))} (C : Cx p s m args meth c A D cs zs cX13_readProgram 4 none RX13) (hne : NoH c) (K20 : (Nat → Int32) → (Nat → Nat → Int64) → (Nat → Nat → Int32) → Option (((Nat → Int32) × (Nat → Nat → Int64) × (Nat → Nat → Int32)) ⊕ ((Nat → Int32) × (Nat → Nat → Int64) × (Nat → Nat → Int32)))) (hK20 : ∀ (i0 : Nat → Int32) (l0 : Nat → Nat → Int64) (r0 : Nat → Nat → Int32) (H : Heap) (locs : List Loc) (ls : Array Slot), K20 i0 l0 r0 = some q → va_P D vwCl (W13 cs h0 a0 i0 r0 l0) H → va_D A (W13 cs h0 a0 i0 r0 l0) → va_S A s.heap H locs → lv_has ls 4 [(0, .ref h0)] → W p l e rmX13_readProgram s m args below meth c H locs 0 0 (Sum.elim (fun q => MQ below (Qv D cs A (W13 cs h0 a0 q.1 q.2.2 q.2.1)) args s 0 0 A) (fun t => MQT below D cs A (a0 0) (W13 cs h0 a0 t.1 t.2.2 t.2.1) args s) q) (F0 m 20 ls [])) : ∀ (i0 : Nat → Int32) (l0 : Nat → Nat → Int64) (r0 : Nat → Nat → Int32) (y0 : Int32) (H : Heap) (locs : List Loc) (ls : Array Slot), f_X13_readProgram_54 K20 i0 l0 r0 y0 = some q → va_P D vwCl (W13 cs h0 a0 i0 r0 l0) H → va_D A (W13 cs h0 a0 i0 r0 l0) → va_S A s.heap H locs → lv_has ls 4 [(0, .ref h0)] → W p l e rmX13_readProgram s m args below meth c H locs 0 0 (Sum.elim (fun q => MQ below (Qv D cs A (W13 cs h0 a0 q.1 q.2.2 q.2.1)) args s 0 0 A) (fun t => MQT below D cs A (a0 0) (W13 cs h0 a0 t.1 t.2.2 t.2.1) args s) q) (F0 m 54 ls [.int y0, .ref h0]) := by
  obtain ⟨hx, hb, hr, hml, hown, hts, hK, hA, hlocks, hZ⟩ := id C
  intro i0 l0 r0 y0 H locs ls hf hP hD hS hl
  rw [f_X13_readProgram_54] at hf
  refine lv_iconst (v := 4) hx hb dX13_readProgram_54 (by decide) ?_
  rcases (bt_s hf).symm with ⟨t21, hq21, hf⟩ | ⟨q21, hq21, hf⟩
  · obtain rfl := Option.some.inj hf
    exact k_sVt (ws2 := W13 cs h0 a0 t21 r0 l0) (As := [.int y0, .int 4]) (rest := []) hx hb hml hown hts hK hA hZ hl.1 hP hD hS (t_X13_need (h0 := h0) (a0 := a0) hq21) (gVt mlX13_60 imX13_need seX13_need inX13 coX13_need) rfl qnX13_need rfl rfl ⟨Nat.le_of_ble_eq_true rfl, Nat.le_of_ble_eq_true rfl⟩ 0 13 rfl rfl rfl rfl rfl (Nat.le_of_ble_eq_true rfl) dX13_readProgram_55 hlocks hne
  refine k_sVv (ws2 := W13 cs h0 a0 q21 r0 l0) (As := [.int y0, .int 4]) (rest := []) hx hb hml hown hts hK hA hZ hl.1 hP hD hS (c_X13_need (h0 := h0) (a0 := a0) hq21) (gVt mlX13_60 imX13_need seX13_need inX13 coX13_need) rfl qnX13_need rfl rfl ⟨Nat.le_of_ble_eq_true rfl, Nat.le_of_ble_eq_true rfl⟩ 0 13 rfl rfl rfl rfl rfl (Nat.le_of_ble_eq_true rfl) ⟨Nat.zero_le _, Nat.zero_le _⟩ dX13_readProgram_55 (fun H locs hP hD hS => ?_)
  refine lv_aload_n hx hb dX13_readProgram_58 rfl (lv_at hl 0 rfl) ?_
  obtain ⟨q22, hq22, hf⟩ := bd_s hf
  refine k_sVv (ws2 := W13 cs h0 a0 q22 r0 l0) (As := []) (rest := []) hx hb hml hown hts hK hA hZ hl.1 hP hD hS (c_X13_scan (h0 := h0) (a0 := a0) hq22) (gVt mlX13_72 imX13_scan seX13_scan inX13 coX13_scan) rfl qnX13_scan rfl rfl ⟨Nat.le_of_ble_eq_true rfl, Nat.le_of_ble_eq_true rfl⟩ 0 13 rfl rfl rfl rfl rfl (Nat.le_of_ble_eq_true rfl) ⟨Nat.zero_le _, Nat.zero_le _⟩ dX13_readProgram_59 (fun H locs hP hD hS => ?_)
  refine lv_aload_n hx hb dX13_readProgram_62 rfl (lv_at hl 0 rfl) ?_
  rcases (bt_s hf).symm with ⟨t23, hq23, hf⟩ | ⟨q23, hq23, hf⟩
  · obtain rfl := Option.some.inj hf
    exact k_sVt (ws2 := W13 cs h0 a0 t23 r0 l0) (As := []) (rest := []) hx hb hml hown hts hK hA hZ hl.1 hP hD hS (t_X13_nameAtHand (h0 := h0) (a0 := a0) hq23) (gVt mlX13_480 imX13_nameAtHand seX13_nameAtHand inX13 coX13_nameAtHand) rfl qnX13_nameAtHand rfl rfl ⟨Nat.le_of_ble_eq_true rfl, Nat.le_of_ble_eq_true rfl⟩ 0 13 rfl rfl rfl rfl rfl (Nat.le_of_ble_eq_true rfl) dX13_readProgram_63 hlocks hne
  refine k_sVl (ws2 := W13 cs h0 a0 q23.2 r0 l0) (As := []) (rest := []) hx hb hml hown hts hK hA hZ hl.1 hP hD hS (c_X13_nameAtHand (h0 := h0) (a0 := a0) hq23) (gVt mlX13_480 imX13_nameAtHand seX13_nameAtHand inX13 coX13_nameAtHand) rfl qnX13_nameAtHand rfl rfl ⟨Nat.le_of_ble_eq_true rfl, Nat.le_of_ble_eq_true rfl⟩ 0 13 rfl rfl rfl rfl rfl (Nat.le_of_ble_eq_true rfl) ⟨Nat.zero_le _, Nat.zero_le _⟩ dX13_readProgram_63 (fun H locs hP hD hS => ?_)
  refine lv_lstore_n (lv' := [(1, .long q23.1), (0, .ref h0)]) hx hb dX13_readProgram_66 rfl hl (by decide) rfl (fun ls hl => ?_)
  refine lv_aload_n hx hb dX13_readProgram_67 rfl (lv_at hl 1 rfl) ?_
  refine lv_aload_n hx hb dX13_readProgram_68 rfl (lv_at hl 1 rfl) ?_
  refine lv_lload_n hx hb dX13_readProgram_69 rfl (lv_at hl 0 rfl) ?_
  obtain ⟨q24, hq24, hf⟩ := bd_s hf
  refine k_sVi (ws2 := W13 cs h0 a0 q23.2 r0 l0) (As := [.long q23.1]) (rest := [.ref h0]) hx hb hml hown hts hK hA hZ hl.1 hP hD hS (c_X13_procOf (h0 := h0) (a0 := a0) hq24) (gVt mlX13_493 imX13_procOf seX13_procOf inX13 coX13_procOf) rfl qnX13_procOf rfl rfl ⟨Nat.le_of_ble_eq_true rfl, Nat.le_of_ble_eq_true rfl⟩ 0 13 rfl rfl rfl rfl rfl (Nat.le_of_ble_eq_true rfl) ⟨Nat.zero_le _, Nat.zero_le _⟩ dX13_readProgram_70 (fun H locs hP hD hS => ?_)
  refine lv_iconst (v := (-1)) hx hb dX13_readProgram_73 (by decide) ?_
  refine lv_icmp_ne (tgt := 81) hx hb dX13_readProgram_74 (by decide) (fun hc => ?_) (fun hc => ?_)
  · have hf := ite_f hf hc
    refine lv_iconst (v := 0) hx hb dX13_readProgram_81 (by decide) ?_
    exact w_X13_readProgram_82 C hne _ (hK20) _ _ _ _ _ _ _ _ hf hP hD hS (lv_sub hl [1, 0] rfl)
  · have hf := ite_t hf hc
    refine lv_iconst (v := 1) hx hb dX13_readProgram_77 (by decide) ?_
    refine lv_goto (tgt := 82) hx hb dX13_readProgram_78 (by decide) ?_
    exact w_X13_readProgram_82 C hne _ (hK20) _ _ _ _ _ _ _ _ hf hP hD hS (lv_sub hl [1, 0] rfl)
def f_X13_readProgram_232  (K169 : (Nat → Int32) → (Nat → Nat → Int64) → (Nat → Nat → Int32) → Int32 → Option (((Nat → Int32) × (Nat → Nat → Int64) × (Nat → Nat → Int32)) ⊕ ((Nat → Int32) × (Nat → Nat → Int64) × (Nat → Nat → Int32)))) (i0 : Nat → Int32) (l0 : Nat → Nat → Int64) (r0 : Nat → Nat → Int32) (x1 : Int32) : Option (((Nat → Int32) × (Nat → Nat → Int64) × (Nat → Nat → Int32)) ⊕ ((Nat → Int32) × (Nat → Nat → Int64) × (Nat → Nat → Int32))) := K169 i0 l0 r0 (x1 + 1)
set_option maxRecDepth 100000 in
set_option maxHeartbeats 4000000 in
theorem w_X13_readProgram_232 {p : Program} {l : Launch} {e : Env} {s : State} {m : MethodId} {args : Array Value} {below : List Frame} {meth : Method} {c : Code} {A : Nat → Prop} {D : va_G} {cs zs : Nat → Nat} {h0 : Nat} {a0 : Nat → Nat}  {q : ((Nat → Int32) × (Nat → Nat → Int64) × (Nat → Nat → Int32)) ⊕ ((Nat → Int32) × (Nat → Nat → Int64) × (Nat → Nat → Int32))} (C : Cx p s m args meth c A D cs zs cX13_readProgram 4 none RX13) (hne : NoH c) (K169 : (Nat → Int32) → (Nat → Nat → Int64) → (Nat → Nat → Int32) → Int32 → Option (((Nat → Int32) × (Nat → Nat → Int64) × (Nat → Nat → Int32)) ⊕ ((Nat → Int32) × (Nat → Nat → Int64) × (Nat → Nat → Int32)))) (hK169 : ∀ (i0 : Nat → Int32) (l0 : Nat → Nat → Int64) (r0 : Nat → Nat → Int32) (x1 : Int32) (H : Heap) (locs : List Loc) (ls : Array Slot), K169 i0 l0 r0 x1 = some q → va_P D vwCl (W13 cs h0 a0 i0 r0 l0) H → va_D A (W13 cs h0 a0 i0 r0 l0) → va_S A s.heap H locs → lv_has ls 4 [(0, .ref h0), (1, .int x1)] → W p l e rmX13_readProgram s m args below meth c H locs 0 0 (Sum.elim (fun q => MQ below (Qv D cs A (W13 cs h0 a0 q.1 q.2.2 q.2.1)) args s 0 0 A) (fun t => MQT below D cs A (a0 0) (W13 cs h0 a0 t.1 t.2.2 t.2.1) args s) q) (F0 m 169 ls [])) : ∀ (i0 : Nat → Int32) (l0 : Nat → Nat → Int64) (r0 : Nat → Nat → Int32) (x1 : Int32) (H : Heap) (locs : List Loc) (ls : Array Slot), f_X13_readProgram_232 K169 i0 l0 r0 x1 = some q → va_P D vwCl (W13 cs h0 a0 i0 r0 l0) H → va_D A (W13 cs h0 a0 i0 r0 l0) → va_S A s.heap H locs → lv_has ls 4 [(0, .ref h0), (1, .int x1)] → W p l e rmX13_readProgram s m args below meth c H locs 0 0 (Sum.elim (fun q => MQ below (Qv D cs A (W13 cs h0 a0 q.1 q.2.2 q.2.1)) args s 0 0 A) (fun t => MQT below D cs A (a0 0) (W13 cs h0 a0 t.1 t.2.2 t.2.1) args s) q) (F0 m 232 ls []) := by
  obtain ⟨hx, hb, hr, hml, hown, hts, hK, hA, hlocks, hZ⟩ := id C
  intro i0 l0 r0 x1 H locs ls hf hP hD hS hl
  rw [f_X13_readProgram_232] at hf
  refine lv_iinc (v := x1 + 1) (lv' := [(1, .int (x1 + 1)), (0, .ref h0)]) hx hb dX13_readProgram_232 hl (k := 1) rfl rfl (by decide) rfl (fun ls hl => ?_)
  refine lv_goto (tgt := 169) hx hb dX13_readProgram_235 (by decide) ?_
  exact hK169 _ _ _ _ _ _ _ hf hP hD hS (lv_sub hl [1, 0] rfl)
def f_X13_readProgram_228  (K169 : (Nat → Int32) → (Nat → Nat → Int64) → (Nat → Nat → Int32) → Int32 → Option (((Nat → Int32) × (Nat → Nat → Int64) × (Nat → Nat → Int32)) ⊕ ((Nat → Int32) × (Nat → Nat → Int64) × (Nat → Nat → Int32)))) (i0 : Nat → Int32) (l0 : Nat → Nat → Int64) (r0 : Nat → Nat → Int32) (x1 : Int32) (y0 : Int32) : Option (((Nat → Int32) × (Nat → Nat → Int64) × (Nat → Nat → Int32)) ⊕ ((Nat → Int32) × (Nat → Nat → Int64) × (Nat → Nat → Int32))) := bt (f_X13_need i0 r0 l0 y0 5) (fun q25 => f_X13_readProgram_232 K169 q25 l0 r0 x1) (fun t25 => some (.inr (t25, l0, r0)))
set_option maxRecDepth 100000 in
set_option maxHeartbeats 4000000 in
theorem w_X13_readProgram_228 {p : Program} {l : Launch} {e : Env} {s : State} {m : MethodId} {args : Array Value} {below : List Frame} {meth : Method} {c : Code} {A : Nat → Prop} {D : va_G} {cs zs : Nat → Nat} {h0 : Nat} {a0 : Nat → Nat}  {q : ((Nat → Int32) × (Nat → Nat → Int64) × (Nat → Nat → Int32)) ⊕ ((Nat → Int32) × (Nat → Nat → Int64) × (Nat → Nat → Int32))} (C : Cx p s m args meth c A D cs zs cX13_readProgram 4 none RX13) (hne : NoH c) (K169 : (Nat → Int32) → (Nat → Nat → Int64) → (Nat → Nat → Int32) → Int32 → Option (((Nat → Int32) × (Nat → Nat → Int64) × (Nat → Nat → Int32)) ⊕ ((Nat → Int32) × (Nat → Nat → Int64) × (Nat → Nat → Int32)))) (hK169 : ∀ (i0 : Nat → Int32) (l0 : Nat → Nat → Int64) (r0 : Nat → Nat → Int32) (x1 : Int32) (H : Heap) (locs : List Loc) (ls : Array Slot), K169 i0 l0 r0 x1 = some q → va_P D vwCl (W13 cs h0 a0 i0 r0 l0) H → va_D A (W13 cs h0 a0 i0 r0 l0) → va_S A s.heap H locs → lv_has ls 4 [(0, .ref h0), (1, .int x1)] → W p l e rmX13_readProgram s m args below meth c H locs 0 0 (Sum.elim (fun q => MQ below (Qv D cs A (W13 cs h0 a0 q.1 q.2.2 q.2.1)) args s 0 0 A) (fun t => MQT below D cs A (a0 0) (W13 cs h0 a0 t.1 t.2.2 t.2.1) args s) q) (F0 m 169 ls [])) : ∀ (i0 : Nat → Int32) (l0 : Nat → Nat → Int64) (r0 : Nat → Nat → Int32) (x1 : Int32) (y0 : Int32) (H : Heap) (locs : List Loc) (ls : Array Slot), f_X13_readProgram_228 K169 i0 l0 r0 x1 y0 = some q → va_P D vwCl (W13 cs h0 a0 i0 r0 l0) H → va_D A (W13 cs h0 a0 i0 r0 l0) → va_S A s.heap H locs → lv_has ls 4 [(0, .ref h0), (1, .int x1)] → W p l e rmX13_readProgram s m args below meth c H locs 0 0 (Sum.elim (fun q => MQ below (Qv D cs A (W13 cs h0 a0 q.1 q.2.2 q.2.1)) args s 0 0 A) (fun t => MQT below D cs A (a0 0) (W13 cs h0 a0 t.1 t.2.2 t.2.1) args s) q) (F0 m 228 ls [.int y0, .ref h0]) := by
  obtain ⟨hx, hb, hr, hml, hown, hts, hK, hA, hlocks, hZ⟩ := id C
  intro i0 l0 r0 x1 y0 H locs ls hf hP hD hS hl
  rw [f_X13_readProgram_228] at hf
  refine lv_iconst (v := 5) hx hb dX13_readProgram_228 (by decide) ?_
  rcases (bt_s hf).symm with ⟨t25, hq25, hf⟩ | ⟨q25, hq25, hf⟩
  · obtain rfl := Option.some.inj hf
    exact k_sVt (ws2 := W13 cs h0 a0 t25 r0 l0) (As := [.int y0, .int 5]) (rest := []) hx hb hml hown hts hK hA hZ hl.1 hP hD hS (t_X13_need (h0 := h0) (a0 := a0) hq25) (gVt mlX13_60 imX13_need seX13_need inX13 coX13_need) rfl qnX13_need rfl rfl ⟨Nat.le_of_ble_eq_true rfl, Nat.le_of_ble_eq_true rfl⟩ 0 13 rfl rfl rfl rfl rfl (Nat.le_of_ble_eq_true rfl) dX13_readProgram_229 hlocks hne
  refine k_sVv (ws2 := W13 cs h0 a0 q25 r0 l0) (As := [.int y0, .int 5]) (rest := []) hx hb hml hown hts hK hA hZ hl.1 hP hD hS (c_X13_need (h0 := h0) (a0 := a0) hq25) (gVt mlX13_60 imX13_need seX13_need inX13 coX13_need) rfl qnX13_need rfl rfl ⟨Nat.le_of_ble_eq_true rfl, Nat.le_of_ble_eq_true rfl⟩ 0 13 rfl rfl rfl rfl rfl (Nat.le_of_ble_eq_true rfl) ⟨Nat.zero_le _, Nat.zero_le _⟩ dX13_readProgram_229 (fun H locs hP hD hS => ?_)
  exact w_X13_readProgram_232 C hne _ (hK169) _ _ _ _ _ _ _ hf hP hD hS (lv_sub hl [0, 1] rfl)
def f_X13_readProgram_212  (K169 : (Nat → Int32) → (Nat → Nat → Int64) → (Nat → Nat → Int32) → Int32 → Option (((Nat → Int32) × (Nat → Nat → Int64) × (Nat → Nat → Int32)) ⊕ ((Nat → Int32) × (Nat → Nat → Int64) × (Nat → Nat → Int32)))) (i0 : Nat → Int32) (l0 : Nat → Nat → Int64) (r0 : Nat → Nat → Int32) (x1 : Int32) (x2 : Int32) : Option (((Nat → Int32) × (Nat → Nat → Int64) × (Nat → Nat → Int32)) ⊕ ((Nat → Int32) × (Nat → Nat → Int64) × (Nat → Nat → Int32))) := ck (inb x2 120) (if (r0 31 x2.toNatClampNeg) = (-1) then (f_X13_readProgram_228 K169 i0 l0 r0 x1 0) else (f_X13_readProgram_228 K169 i0 l0 r0 x1 1))
set_option maxRecDepth 100000 in
set_option maxHeartbeats 4000000 in
theorem w_X13_readProgram_212 {p : Program} {l : Launch} {e : Env} {s : State} {m : MethodId} {args : Array Value} {below : List Frame} {meth : Method} {c : Code} {A : Nat → Prop} {D : va_G} {cs zs : Nat → Nat} {h0 : Nat} {a0 : Nat → Nat}  {q : ((Nat → Int32) × (Nat → Nat → Int64) × (Nat → Nat → Int32)) ⊕ ((Nat → Int32) × (Nat → Nat → Int64) × (Nat → Nat → Int32))} (C : Cx p s m args meth c A D cs zs cX13_readProgram 4 none RX13) (hne : NoH c) (K169 : (Nat → Int32) → (Nat → Nat → Int64) → (Nat → Nat → Int32) → Int32 → Option (((Nat → Int32) × (Nat → Nat → Int64) × (Nat → Nat → Int32)) ⊕ ((Nat → Int32) × (Nat → Nat → Int64) × (Nat → Nat → Int32)))) (hK169 : ∀ (i0 : Nat → Int32) (l0 : Nat → Nat → Int64) (r0 : Nat → Nat → Int32) (x1 : Int32) (H : Heap) (locs : List Loc) (ls : Array Slot), K169 i0 l0 r0 x1 = some q → va_P D vwCl (W13 cs h0 a0 i0 r0 l0) H → va_D A (W13 cs h0 a0 i0 r0 l0) → va_S A s.heap H locs → lv_has ls 4 [(0, .ref h0), (1, .int x1)] → W p l e rmX13_readProgram s m args below meth c H locs 0 0 (Sum.elim (fun q => MQ below (Qv D cs A (W13 cs h0 a0 q.1 q.2.2 q.2.1)) args s 0 0 A) (fun t => MQT below D cs A (a0 0) (W13 cs h0 a0 t.1 t.2.2 t.2.1) args s) q) (F0 m 169 ls [])) : ∀ (i0 : Nat → Int32) (l0 : Nat → Nat → Int64) (r0 : Nat → Nat → Int32) (x1 : Int32) (x2 : Int32) (H : Heap) (locs : List Loc) (ls : Array Slot), f_X13_readProgram_212 K169 i0 l0 r0 x1 x2 = some q → va_P D vwCl (W13 cs h0 a0 i0 r0 l0) H → va_D A (W13 cs h0 a0 i0 r0 l0) → va_S A s.heap H locs → lv_has ls 4 [(0, .ref h0), (1, .int x1), (2, .int x2)] → W p l e rmX13_readProgram s m args below meth c H locs 0 0 (Sum.elim (fun q => MQ below (Qv D cs A (W13 cs h0 a0 q.1 q.2.2 q.2.1)) args s 0 0 A) (fun t => MQT below D cs A (a0 0) (W13 cs h0 a0 t.1 t.2.2 t.2.1) args s) q) (F0 m 212 ls []) := by
  obtain ⟨hx, hb, hr, hml, hown, hts, hK, hA, hlocks, hZ⟩ := id C
  intro i0 l0 r0 x1 x2 H locs ls hf hP hD hS hl
  rw [f_X13_readProgram_212] at hf
  refine lv_aload_n hx hb dX13_readProgram_212 rfl (lv_at hl 0 rfl) ?_
  refine lv_aload_n hx hb dX13_readProgram_213 rfl (lv_at hl 0 rfl) ?_
  refine va_get (D := D) (ci := 13) (v := .ref (a0 31)) (C := RX13) (T := TX13) (N := 87) hx hb hts hiX13 hown hK hP 0 rfl rfl 31 (by decide) (hts _ flX13_182) (fun _ h9 => h9) rfl dX13_readProgram_214 ?_
  refine lv_iload_n hx hb dX13_readProgram_217 rfl (lv_at hl 2 rfl) ?_
  refine va_iald (f := r0 31) hx hb hK hP 20 0 rfl rfl (ck_in hf) dX13_readProgram_218 ?_
  have hf := ck_2 hf
  refine lv_iconst (v := (-1)) hx hb dX13_readProgram_219 (by decide) ?_
  refine lv_icmp_eq (tgt := 227) hx hb dX13_readProgram_220 (by decide) (fun hc => ?_) (fun hc => ?_)
  · have hf := ite_t hf hc
    refine lv_iconst (v := 0) hx hb dX13_readProgram_227 (by decide) ?_
    exact w_X13_readProgram_228 C hne _ (hK169) _ _ _ _ _ _ _ _ hf hP hD hS (lv_sub hl [0, 1] rfl)
  · have hf := ite_f hf hc
    refine lv_iconst (v := 1) hx hb dX13_readProgram_223 (by decide) ?_
    refine lv_goto (tgt := 228) hx hb dX13_readProgram_224 (by decide) ?_
    exact w_X13_readProgram_228 C hne _ (hK169) _ _ _ _ _ _ _ _ hf hP hD hS (lv_sub hl [0, 1] rfl)
def f_X13_readProgram_169   : Nat → (Nat → Int32) → (Nat → Nat → Int64) → (Nat → Nat → Int32) → Int32 → Option (((Nat → Int32) × (Nat → Nat → Int64) × (Nat → Nat → Int32)) ⊕ ((Nat → Int32) × (Nat → Nat → Int64) × (Nat → Nat → Int32)))
  | 0, _, _, _, _ => none
  | n + 1, i0, l0, r0, x1 => if (i0 48) ≤ x1 then (some (.inl (i0, l0, r0))) else (ck (inb (60 + x1) 120) (if 6 ≤ (r0 28 (60 + x1).toNatClampNeg) then (ck (inb x1 60) (bd (f_X13_procOf i0 r0 l0 (l0 45 x1.toNatClampNeg)) (fun q26 => ck (inb (60 + x1) 120) (f_X13_readProgram_212 (f_X13_readProgram_169 n) i0 l0 (va_up r0 31 (upd (r0 31) (60 + x1).toNatClampNeg q26)) x1 (60 + x1))))) else (f_X13_readProgram_232 (f_X13_readProgram_169 n) i0 l0 r0 x1)))
set_option maxRecDepth 100000 in
set_option maxHeartbeats 4000000 in
theorem w_X13_readProgram_169 {p : Program} {l : Launch} {e : Env} {s : State} {m : MethodId} {args : Array Value} {below : List Frame} {meth : Method} {c : Code} {A : Nat → Prop} {D : va_G} {cs zs : Nat → Nat} {h0 : Nat} {a0 : Nat → Nat}  {q : ((Nat → Int32) × (Nat → Nat → Int64) × (Nat → Nat → Int32)) ⊕ ((Nat → Int32) × (Nat → Nat → Int64) × (Nat → Nat → Int32))} (C : Cx p s m args meth c A D cs zs cX13_readProgram 4 none RX13) (hne : NoH c)  : ∀ (n : Nat), ∀ (i0 : Nat → Int32) (l0 : Nat → Nat → Int64) (r0 : Nat → Nat → Int32) (x1 : Int32) (H : Heap) (locs : List Loc) (ls : Array Slot), f_X13_readProgram_169 n i0 l0 r0 x1 = some q → va_P D vwCl (W13 cs h0 a0 i0 r0 l0) H → va_D A (W13 cs h0 a0 i0 r0 l0) → va_S A s.heap H locs → lv_has ls 4 [(0, .ref h0), (1, .int x1)] → W p l e rmX13_readProgram s m args below meth c H locs 0 0 (Sum.elim (fun q => MQ below (Qv D cs A (W13 cs h0 a0 q.1 q.2.2 q.2.1)) args s 0 0 A) (fun t => MQT below D cs A (a0 0) (W13 cs h0 a0 t.1 t.2.2 t.2.1) args s) q) (F0 m 169 ls []) := by
  obtain ⟨hx, hb, hr, hml, hown, hts, hK, hA, hlocks, hZ⟩ := id C
  intro n
  induction n with
  | zero =>
    intro i0 l0 r0 x1 H locs ls hf
    rw [f_X13_readProgram_169] at hf
    cases hf
  | succ n ih =>
    intro i0 l0 r0 x1 H locs ls hf hP hD hS hl
    rw [f_X13_readProgram_169] at hf
    refine lv_iload_n hx hb dX13_readProgram_169 rfl (lv_at hl 1 rfl) ?_
    refine lv_aload_n hx hb dX13_readProgram_170 rfl (lv_at hl 0 rfl) ?_
    refine va_get (D := D) (ci := 13) (v := .int (i0 48)) (C := RX13) (T := TX13) (N := 87) hx hb hts hiX13 hown hK hP 0 rfl rfl 48 (by decide) (hts _ flX13_465) (fun _ h9 => h9) rfl dX13_readProgram_171 ?_
    refine lv_icmp_ge (tgt := 238) hx hb dX13_readProgram_174 (by decide) (fun hc => ?_) (fun hc => ?_)
    · have hf := ite_t hf hc
      obtain rfl := Option.some.inj hf
      exact k_vret hx hb hr hlocks hK hP hD hS dX13_readProgram_238
    · have hf := ite_f hf hc
      refine lv_bipush (v := 60) hx hb dX13_readProgram_177 (by decide) ?_
      refine lv_iload_n hx hb dX13_readProgram_179 rfl (lv_at hl 1 rfl) ?_
      refine lv_iadd hx hb dX13_readProgram_180 ?_
      refine lv_istore_n (lv' := [(2, .int (60 + x1)), (0, .ref h0), (1, .int x1)]) hx hb dX13_readProgram_181 rfl hl (by decide) rfl (fun ls hl => ?_)
      refine lv_aload_n hx hb dX13_readProgram_182 rfl (lv_at hl 1 rfl) ?_
      refine va_get (D := D) (ci := 13) (v := .ref (a0 28)) (C := RX13) (T := TX13) (N := 87) hx hb hts hiX13 hown hK hP 0 rfl rfl 28 (by decide) (hts _ flX13_173) (fun _ h9 => h9) rfl dX13_readProgram_183 ?_
      refine lv_iload_n hx hb dX13_readProgram_186 rfl (lv_at hl 0 rfl) ?_
      refine va_iald (f := r0 28) hx hb hK hP 17 0 rfl rfl (ck_in hf) dX13_readProgram_187 ?_
      have hf := ck_2 hf
      refine lv_bipush (v := 6) hx hb dX13_readProgram_188 (by decide) ?_
      refine lv_icmp_ge (tgt := 196) hx hb dX13_readProgram_190 (by decide) (fun hc => ?_) (fun hc => ?_)
      · have hf := ite_t hf hc
        refine lv_aload_n hx hb dX13_readProgram_196 rfl (lv_at hl 1 rfl) ?_
        refine va_get (D := D) (ci := 13) (v := .ref (a0 31)) (C := RX13) (T := TX13) (N := 87) hx hb hts hiX13 hown hK hP 0 rfl rfl 31 (by decide) (hts _ flX13_182) (fun _ h9 => h9) rfl dX13_readProgram_197 ?_
        refine lv_iload_n hx hb dX13_readProgram_200 rfl (lv_at hl 0 rfl) ?_
        refine lv_aload_n hx hb dX13_readProgram_201 rfl (lv_at hl 1 rfl) ?_
        refine lv_aload_n hx hb dX13_readProgram_202 rfl (lv_at hl 1 rfl) ?_
        refine va_get (D := D) (ci := 13) (v := .ref (a0 45)) (C := RX13) (T := TX13) (N := 87) hx hb hts hiX13 hown hK hP 0 rfl rfl 45 (by decide) (hts _ flX13_225) (fun _ h9 => h9) rfl dX13_readProgram_203 ?_
        refine lv_iload_n hx hb dX13_readProgram_206 rfl (lv_at hl 2 rfl) ?_
        refine va_lald (f := l0 45) hx hb hK hP 34 1 rfl rfl (ck_in hf) dX13_readProgram_207 ?_
        have hf := ck_2 hf
        obtain ⟨q26, hq26, hf⟩ := bd_s hf
        refine k_sVi (ws2 := W13 cs h0 a0 i0 r0 l0) (As := [.long (l0 45 x1.toNatClampNeg)]) (rest := [.int (60 + x1), .ref (a0 31)]) hx hb hml hown hts hK hA hZ hl.1 hP hD hS (c_X13_procOf (h0 := h0) (a0 := a0) hq26) (gVt mlX13_493 imX13_procOf seX13_procOf inX13 coX13_procOf) rfl qnX13_procOf rfl rfl ⟨Nat.le_of_ble_eq_true rfl, Nat.le_of_ble_eq_true rfl⟩ 0 13 rfl rfl rfl rfl rfl (Nat.le_of_ble_eq_true rfl) ⟨Nat.zero_le _, Nat.zero_le _⟩ dX13_readProgram_208 (fun H locs hP hD hS => ?_)
        refine va_iast (f := r0 31) hx hb hK hP hD hS 20 0 rfl rfl (ck_in hf) dX13_readProgram_211 (fun H locs hP hD hS => ?_)
        have hf := ck_2 hf
        obtain ⟨hP, hD⟩ := st13_31 hP hD
        exact w_X13_readProgram_212 C hne _ (ih) _ _ _ _ _ _ _ _ hf hP hD hS (lv_sub hl [1, 2, 0] rfl)
      · have hf := ite_f hf hc
        refine lv_goto (tgt := 232) hx hb dX13_readProgram_193 (by decide) ?_
        exact w_X13_readProgram_232 C hne _ (ih) _ _ _ _ _ _ _ hf hP hD hS (lv_sub hl [1, 2] rfl)
def f_X13_readProgram_20   : Nat → (Nat → Int32) → (Nat → Nat → Int64) → (Nat → Nat → Int32) → Option (((Nat → Int32) × (Nat → Nat → Int64) × (Nat → Nat → Int32)) ⊕ ((Nat → Int32) × (Nat → Nat → Int64) × (Nat → Nat → Int32)))
  | 0, _, _, _ => none
  | n + 1, i0, l0, r0 => if (i0 6) = 0 then (f_X13_readProgram_169 2000000 i0 l0 r0 0) else (bd (f_X13_is 4 i0 r0 l0) (fun q27 => bt (f_X13_need i0 r0 l0 q27 1) (fun q28 => if 6 ≤ (q28 47) then (f_X13_readProgram_54 (f_X13_readProgram_20 n) q28 l0 r0 0) else (f_X13_readProgram_54 (f_X13_readProgram_20 n) q28 l0 r0 1)) (fun t28 => some (.inr (t28, l0, r0)))))
set_option maxRecDepth 100000 in
set_option maxHeartbeats 4000000 in
theorem w_X13_readProgram_20 {p : Program} {l : Launch} {e : Env} {s : State} {m : MethodId} {args : Array Value} {below : List Frame} {meth : Method} {c : Code} {A : Nat → Prop} {D : va_G} {cs zs : Nat → Nat} {h0 : Nat} {a0 : Nat → Nat}  {q : ((Nat → Int32) × (Nat → Nat → Int64) × (Nat → Nat → Int32)) ⊕ ((Nat → Int32) × (Nat → Nat → Int64) × (Nat → Nat → Int32))} (C : Cx p s m args meth c A D cs zs cX13_readProgram 4 none RX13) (hne : NoH c)  : ∀ (n : Nat), ∀ (i0 : Nat → Int32) (l0 : Nat → Nat → Int64) (r0 : Nat → Nat → Int32) (H : Heap) (locs : List Loc) (ls : Array Slot), f_X13_readProgram_20 n i0 l0 r0 = some q → va_P D vwCl (W13 cs h0 a0 i0 r0 l0) H → va_D A (W13 cs h0 a0 i0 r0 l0) → va_S A s.heap H locs → lv_has ls 4 [(0, .ref h0)] → W p l e rmX13_readProgram s m args below meth c H locs 0 0 (Sum.elim (fun q => MQ below (Qv D cs A (W13 cs h0 a0 q.1 q.2.2 q.2.1)) args s 0 0 A) (fun t => MQT below D cs A (a0 0) (W13 cs h0 a0 t.1 t.2.2 t.2.1) args s) q) (F0 m 20 ls []) := by
  obtain ⟨hx, hb, hr, hml, hown, hts, hK, hA, hlocks, hZ⟩ := id C
  intro n
  induction n with
  | zero =>
    intro i0 l0 r0 H locs ls hf
    rw [f_X13_readProgram_20] at hf
    cases hf
  | succ n ih =>
    intro i0 l0 r0 H locs ls hf hP hD hS hl
    rw [f_X13_readProgram_20] at hf
    refine lv_aload_n hx hb dX13_readProgram_20 rfl (lv_at hl 0 rfl) ?_
    refine va_get (D := D) (ci := 13) (v := .int (i0 6)) (C := RX13) (T := TX13) (N := 87) hx hb hts hiX13 hown hK hP 0 rfl rfl 6 (by decide) (hts _ flX13_31) (fun _ h9 => h9) rfl dX13_readProgram_21 ?_
    refine lv_if_eq (tgt := 167) hx hb dX13_readProgram_24 (by decide) (fun hc => ?_) (fun hc => ?_)
    · have hf := ite_t hf hc
      refine lv_iconst (v := 0) hx hb dX13_readProgram_167 (by decide) ?_
      refine lv_istore_n (lv' := [(1, .int 0), (0, .ref h0)]) hx hb dX13_readProgram_168 rfl hl (by decide) rfl (fun ls hl => ?_)
      exact w_X13_readProgram_169 C hne  2000000 _ _ _ _ _ _ _ hf hP hD hS (lv_sub hl [1, 0] rfl)
    · have hf := ite_f hf hc
      refine lv_aload_n hx hb dX13_readProgram_27 rfl (lv_at hl 0 rfl) ?_
      refine lv_aload_n hx hb dX13_readProgram_28 rfl (lv_at hl 0 rfl) ?_
      refine k_ldcSw hx hb hown (hZ.2.2.2.2.2.2.1 4 (426, "proc") rfl) dX13_readProgram_29 ?_
      obtain ⟨q27, hq27, hf⟩ := bd_s hf
      refine k_sVi (ws2 := W13 cs h0 a0 i0 r0 l0) (As := [.ref (zs (10 + 4))]) (rest := [.ref h0]) hx hb hml hown hts hK hA hZ hl.1 hP hD hS (c_X13_is (h0 := h0) (a0 := a0) (w := 4) (by decide : 4 < 20) hq27) (gVt mlX13_76 imX13_is seX13_is inX13 coX13_is) rfl qnX13_is rfl rfl ⟨Nat.le_of_ble_eq_true rfl, Nat.le_of_ble_eq_true rfl⟩ 0 13 rfl rfl rfl rfl rfl (Nat.le_of_ble_eq_true rfl) ⟨Nat.zero_le _, Nat.zero_le _⟩ dX13_readProgram_32 (fun H locs hP hD hS => ?_)
      refine lv_iconst (v := 1) hx hb dX13_readProgram_35 (by decide) ?_
      rcases (bt_s hf).symm with ⟨t28, hq28, hf⟩ | ⟨q28, hq28, hf⟩
      · obtain rfl := Option.some.inj hf
        exact k_sVt (ws2 := W13 cs h0 a0 t28 r0 l0) (As := [.int q27, .int 1]) (rest := []) hx hb hml hown hts hK hA hZ hl.1 hP hD hS (t_X13_need (h0 := h0) (a0 := a0) hq28) (gVt mlX13_60 imX13_need seX13_need inX13 coX13_need) rfl qnX13_need rfl rfl ⟨Nat.le_of_ble_eq_true rfl, Nat.le_of_ble_eq_true rfl⟩ 0 13 rfl rfl rfl rfl rfl (Nat.le_of_ble_eq_true rfl) dX13_readProgram_36 hlocks hne
      refine k_sVv (ws2 := W13 cs h0 a0 q28 r0 l0) (As := [.int q27, .int 1]) (rest := []) hx hb hml hown hts hK hA hZ hl.1 hP hD hS (c_X13_need (h0 := h0) (a0 := a0) hq28) (gVt mlX13_60 imX13_need seX13_need inX13 coX13_need) rfl qnX13_need rfl rfl ⟨Nat.le_of_ble_eq_true rfl, Nat.le_of_ble_eq_true rfl⟩ 0 13 rfl rfl rfl rfl rfl (Nat.le_of_ble_eq_true rfl) ⟨Nat.zero_le _, Nat.zero_le _⟩ dX13_readProgram_36 (fun H locs hP hD hS => ?_)
      refine lv_aload_n hx hb dX13_readProgram_39 rfl (lv_at hl 0 rfl) ?_
      refine lv_aload_n hx hb dX13_readProgram_40 rfl (lv_at hl 0 rfl) ?_
      refine va_get (D := D) (ci := 13) (v := .int (q28 47)) (C := RX13) (T := TX13) (N := 87) hx hb hts hiX13 hown hK hP 0 rfl rfl 47 (by decide) (hts _ flX13_490) (fun _ h9 => h9) rfl dX13_readProgram_41 ?_
      refine lv_bipush (v := 6) hx hb dX13_readProgram_44 (by decide) ?_
      refine lv_icmp_ge (tgt := 53) hx hb dX13_readProgram_46 (by decide) (fun hc => ?_) (fun hc => ?_)
      · have hf := ite_t hf hc
        refine lv_iconst (v := 0) hx hb dX13_readProgram_53 (by decide) ?_
        exact w_X13_readProgram_54 C hne _ (ih) _ _ _ _ _ _ _ hf hP hD hS (lv_sub hl [0] rfl)
      · have hf := ite_f hf hc
        refine lv_iconst (v := 1) hx hb dX13_readProgram_49 (by decide) ?_
        refine lv_goto (tgt := 54) hx hb dX13_readProgram_50 (by decide) ?_
        exact w_X13_readProgram_54 C hne _ (ih) _ _ _ _ _ _ _ hf hP hD hS (lv_sub hl [0] rfl)
def f_X13_readProgram  (i0 : Nat → Int32) (r0 : Nat → Nat → Int32) (l0 : Nat → Nat → Int64)  : Option (((Nat → Int32) × (Nat → Nat → Int64) × (Nat → Nat → Int32)) ⊕ ((Nat → Int32) × (Nat → Nat → Int64) × (Nat → Nat → Int32))) := f_X13_readProgram_20 2000000 (upd (upd (upd (upd i0 47 0) 48 0) 49 0) 50 0) l0 r0
set_option maxRecDepth 100000 in
set_option maxHeartbeats 4000000 in
theorem e_X13_readProgram {p : Program} {l : Launch} {e : Env} {s : State} {m : MethodId} {args : Array Value} {below : List Frame} {meth : Method} {c : Code} {A : Nat → Prop} {D : va_G} {cs zs : Nat → Nat} {h0 : Nat} {a0 : Nat → Nat} {i0 : Nat → Int32} {r0 : Nat → Nat → Int32} {l0 : Nat → Nat → Int64}  {q : ((Nat → Int32) × (Nat → Nat → Int64) × (Nat → Nat → Int32)) ⊕ ((Nat → Int32) × (Nat → Nat → Int64) × (Nat → Nat → Int32))} (C : Cx p s m args meth c A D cs zs cX13_readProgram 4 none RX13) (hne : NoH c)  : ∀ (H : Heap) (locs : List Loc) (ls : Array Slot), f_X13_readProgram i0 r0 l0 = some q → va_P D vwCl (W13 cs h0 a0 i0 r0 l0) H → va_D A (W13 cs h0 a0 i0 r0 l0) → va_S A s.heap H locs → lv_has ls 4 [(0, .ref h0)] → W p l e rmX13_readProgram s m args below meth c H locs 0 0 (Sum.elim (fun q => MQ below (Qv D cs A (W13 cs h0 a0 q.1 q.2.2 q.2.1)) args s 0 0 A) (fun t => MQT below D cs A (a0 0) (W13 cs h0 a0 t.1 t.2.2 t.2.1) args s) q) (F0 m 0 ls []) := by
  obtain ⟨hx, hb, hr, hml, hown, hts, hK, hA, hlocks, hZ⟩ := id C
  intro H locs ls hf hP hD hS hl
  rw [f_X13_readProgram] at hf
  refine lv_aload_n hx hb dX13_readProgram_0 rfl (lv_at hl 0 rfl) ?_
  refine lv_iconst (v := 0) hx hb dX13_readProgram_1 (by decide) ?_
  refine va_put (D := D) (ci := 13) (v := .int 0) (ty := .int) (C := RX13) (T := TX13) (N := 87) hx hb hts hiX13 tyX13 tyX13_ok nmX13 hown hK hP hD hS 0 rfl rfl 47 (by decide) (hts _ flX13_490) (fun _ h9 => h9) rfl (tyX13_ok 47 (by decide)) rfl rfl (Nat.le_of_ble_eq_true rfl) dX13_readProgram_2 (fun H locs hP hD hS => ?_)
  obtain ⟨hP, hD⟩ := st13_47 hP hD
  refine lv_aload_n hx hb dX13_readProgram_5 rfl (lv_at hl 0 rfl) ?_
  refine lv_iconst (v := 0) hx hb dX13_readProgram_6 (by decide) ?_
  refine va_put (D := D) (ci := 13) (v := .int 0) (ty := .int) (C := RX13) (T := TX13) (N := 87) hx hb hts hiX13 tyX13 tyX13_ok nmX13 hown hK hP hD hS 0 rfl rfl 48 (by decide) (hts _ flX13_465) (fun _ h9 => h9) rfl (tyX13_ok 48 (by decide)) rfl rfl (Nat.le_of_ble_eq_true rfl) dX13_readProgram_7 (fun H locs hP hD hS => ?_)
  obtain ⟨hP, hD⟩ := st13_48 hP hD
  refine lv_aload_n hx hb dX13_readProgram_10 rfl (lv_at hl 0 rfl) ?_
  refine lv_iconst (v := 0) hx hb dX13_readProgram_11 (by decide) ?_
  refine va_put (D := D) (ci := 13) (v := .int 0) (ty := .int) (C := RX13) (T := TX13) (N := 87) hx hb hts hiX13 tyX13 tyX13_ok nmX13 hown hK hP hD hS 0 rfl rfl 49 (by decide) (hts _ flX13_393) (fun _ h9 => h9) rfl (tyX13_ok 49 (by decide)) rfl rfl (Nat.le_of_ble_eq_true rfl) dX13_readProgram_12 (fun H locs hP hD hS => ?_)
  obtain ⟨hP, hD⟩ := st13_49 hP hD
  refine lv_aload_n hx hb dX13_readProgram_15 rfl (lv_at hl 0 rfl) ?_
  refine lv_iconst (v := 0) hx hb dX13_readProgram_16 (by decide) ?_
  refine va_put (D := D) (ci := 13) (v := .int 0) (ty := .int) (C := RX13) (T := TX13) (N := 87) hx hb hts hiX13 tyX13 tyX13_ok nmX13 hown hK hP hD hS 0 rfl rfl 50 (by decide) (hts _ flX13_468) (fun _ h9 => h9) rfl (tyX13_ok 50 (by decide)) rfl rfl (Nat.le_of_ble_eq_true rfl) dX13_readProgram_17 (fun H locs hP hD hS => ?_)
  obtain ⟨hP, hD⟩ := st13_50 hP hD
  exact w_X13_readProgram_20 C hne  2000000 _ _ _ _ _ _ hf hP hD hS (lv_sub hl [0] rfl)
theorem c_X13_readProgram {l : Launch} {D : va_G} {cs zs : Nat → Nat} {h0 : Nat} {a0 : Nat → Nat} {i0 : Nat → Int32} {r0 : Nat → Nat → Int32} {l0 : Nat → Nat → Int64}  {q : (Nat → Int32) × (Nat → Nat → Int64) × (Nat → Nat → Int32)} (hf : f_X13_readProgram i0 r0 l0 = some (.inl q)) : Mv l yX13_readProgram wlX13_readProgram rmX13_readProgram D cs zs [.ref h0] (W13 cs h0 a0 i0 r0 l0) (W13 cs h0 a0 q.1 q.2.2 q.2.1) := by
  refine Mv.ofT RX13 (by decide) rfl (Nat.le_of_ble_eq_true rfl) (fun p e s m below meth c A C hne hP hD hS ls hl => ?_)
  generalize ([.ref h0] : List Value).toArray = args at C ⊢
  exact e_X13_readProgram (q := .inl q) C hne _ _ _ hf hP hD hS hl
theorem t_X13_readProgram {l : Launch} {D : va_G} {cs zs : Nat → Nat} {h0 : Nat} {a0 : Nat → Nat} {i0 : Nat → Int32} {r0 : Nat → Nat → Int32} {l0 : Nat → Nat → Int64}  {t : (Nat → Int32) × (Nat → Nat → Int64) × (Nat → Nat → Int32)} (hf : f_X13_readProgram i0 r0 l0 = some (.inr t)) : MT l yX13_readProgram wlX13_readProgram rmX13_readProgram D cs zs [.ref h0] (W13 cs h0 a0 i0 r0 l0) (a0 0) (W13 cs h0 a0 t.1 t.2.2 t.2.1) := by
  refine MT.of RX13 (by decide) rfl (Nat.le_of_ble_eq_true rfl) (fun p e s m below meth c A C hne hP hD hS ls hl => ?_)
  generalize ([.ref h0] : List Value).toArray = args at C ⊢
  exact e_X13_readProgram (q := .inr t) C hne _ _ _ hf hP hD hS hl
