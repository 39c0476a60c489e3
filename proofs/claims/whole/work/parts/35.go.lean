/-! MarbleFloorModel.goCall(IZ)V -/
abbrev wlX13_goBody : List Cond := Cond.code yX13_goBody cX13_goBody 5 none :: tbG
abbrev rmX13_goBody (d : Nat) : Room := { frames := 4 + 4 * d, cells := 0, slots := 0, locals := 99 + 93 * d }
theorem qnX13_goBody : yX13_goBody.cls = RX13 ∧ yX13_goBody.cls ≠ "java/lang/invoke/MethodHandle" ∧ yX13_goBody.cls ≠ "java/lang/invoke/VarHandle" ∧ (parseMethodDescriptor yX13_goBody.desc).map (fun d => d.parameters.length) = some 3 := by decide +kernel
abbrev wlX13_goCall : List Cond := Cond.code yX13_goCall cX13_goCall 3 none :: tbG
abbrev rmX13_goCall (d : Nat) : Room := { frames := 4 + 4 * d + 1, cells := 0, slots := 0, locals := 99 + 93 * d + 24 }
theorem qnX13_goCall : yX13_goCall.cls = RX13 ∧ yX13_goCall.cls ≠ "java/lang/invoke/MethodHandle" ∧ yX13_goCall.cls ≠ "java/lang/invoke/VarHandle" ∧ (parseMethodDescriptor yX13_goCall.desc).map (fun d => d.parameters.length) = some 2 := by decide +kernel
def f_X13_goCall (F : (Nat → Int32) → (Nat → Nat → Int32) → (Nat → Nat → Int64) → Int32 → Int32 → Int32 → Option ((Nat → Int32) × (Nat → Nat → Int32)))  (i0 : Nat → Int32) (r0 : Nat → Nat → Int32) (l0 : Nat → Nat → Int64) (x1 : Int32) (x2 : Int32) : Option ((Nat → Int32) × (Nat → Nat → Int32)) := if (i0 63) = 20 then (some ((upd i0 61 4), r0)) else (ck (inb x1 120) (ck (inb (r0 31 x1.toNatClampNeg) 12) (ck (inb x1 120) (ck (inb (r0 31 x1.toNatClampNeg) 12) (bd (F (upd i0 63 ((i0 63) + 1)) r0 l0 (r0 42 (r0 31 x1.toNatClampNeg).toNatClampNeg) (r0 43 (r0 31 x1.toNatClampNeg).toNatClampNeg) x2) (fun q2 => some ((upd q2.1 63 ((q2.1 63) - 1)), q2.2)))))))
set_option maxRecDepth 100000 in
set_option maxHeartbeats 4000000 in
theorem c_X13_goCall {l : Launch} {D : va_G} {cs zs : Nat → Nat} {h0 : Nat} {a0 : Nat → Nat} {i0 : Nat → Int32} {r0 : Nat → Nat → Int32} {l0 : Nat → Nat → Int64} {x1 : Int32} {x2 : Int32} {q : (Nat → Int32) × (Nat → Nat → Int32)} {d : Nat} {F : (Nat → Int32) → (Nat → Nat → Int32) → (Nat → Nat → Int64) → Int32 → Int32 → Int32 → Option ((Nat → Int32) × (Nat → Nat → Int32))} (hF : ∀ {i0 : Nat → Int32} {r0 : Nat → Nat → Int32} {l0 : Nat → Nat → Int64} {x1 : Int32} {x2 : Int32} {x3 : Int32} {q : (Nat → Int32) × (Nat → Nat → Int32)}, F i0 r0 l0 x1 x2 x3 = some q → Mv l yX13_goBody wlX13_goBody (rmX13_goBody d) D cs zs [.ref h0, .int x1, .int x2, .int x3] (W13 cs h0 a0 i0 r0 l0) (W13 cs h0 a0 q.1 q.2 l0)) (hf : f_X13_goCall F i0 r0 l0 x1 x2 = some q) : Mv l yX13_goCall wlX13_goCall (rmX13_goCall d) D cs zs [.ref h0, .int x1, .int x2] (W13 cs h0 a0 i0 r0 l0) (W13 cs h0 a0 q.1 q.2 l0) := by
  refine Mv.of RX13 (by decide) rfl (Nat.le_of_ble_eq_true rfl) (fun p e s m below meth c A C hP hD hS ls hl => ?_)
  generalize ([.ref h0, .int x1, .int x2] : List Value).toArray = args at C ⊢
  obtain ⟨hx, hb, hr, hml, hown, hts, hK, hA, hlocks, hZ⟩ := id C
  have hl : lv_has ls 3 [(0, .ref h0), (1, .int x1), (2, .int x2)] := hl
  rw [f_X13_goCall] at hf
  refine lv_aload_n hx hb dX13_goCall_0 rfl (lv_at hl 0 rfl) ?_
  refine va_get (D := D) (ci := 13) (v := .int (i0 63)) (C := RX13) (T := TX13) (N := 87) hx hb hts hiX13 hown hK hP 0 rfl rfl 63 (by decide) (hts _ flX13_560) (fun _ h9 => h9) rfl dX13_goCall_1 ?_
  refine lv_bipush (v := 20) hx hb dX13_goCall_4 (by decide) ?_
  refine lv_icmp_ne (tgt := 15) hx hb dX13_goCall_6 (by decide) (fun hc => ?_) (fun hc => ?_)
  · have hf := ite_f hf hc
    refine lv_aload_n hx hb dX13_goCall_15 rfl (lv_at hl 0 rfl) ?_
    refine lv_dup hx hb dX13_goCall_16 rfl ?_
    refine va_get (D := D) (ci := 13) (v := .int (i0 63)) (C := RX13) (T := TX13) (N := 87) hx hb hts hiX13 hown hK hP 0 rfl rfl 63 (by decide) (hts _ flX13_560) (fun _ h9 => h9) rfl dX13_goCall_17 ?_
    refine lv_iconst (v := 1) hx hb dX13_goCall_20 (by decide) ?_
    refine lv_iadd hx hb dX13_goCall_21 ?_
    refine va_put (D := D) (ci := 13) (v := .int ((i0 63) + 1)) (ty := .int) (C := RX13) (T := TX13) (N := 87) hx hb hts hiX13 tyX13 tyX13_ok nmX13 hown hK hP hD hS 0 rfl rfl 63 (by decide) (hts _ flX13_560) (fun _ h9 => h9) rfl (tyX13_ok 63 (by decide)) rfl rfl (Nat.le_of_ble_eq_true rfl) dX13_goCall_22 (fun H locs hP hD hS => ?_)
    obtain ⟨hP, hD⟩ := st13_63 hP hD
    refine lv_aload_n hx hb dX13_goCall_25 rfl (lv_at hl 0 rfl) ?_
    refine lv_aload_n hx hb dX13_goCall_26 rfl (lv_at hl 0 rfl) ?_
    refine va_get (D := D) (ci := 13) (v := .ref (a0 42)) (C := RX13) (T := TX13) (N := 87) hx hb hts hiX13 hown hK hP 0 rfl rfl 42 (by decide) (hts _ flX13_215) (fun _ h9 => h9) rfl dX13_goCall_27 ?_
    refine lv_aload_n hx hb dX13_goCall_30 rfl (lv_at hl 0 rfl) ?_
    refine va_get (D := D) (ci := 13) (v := .ref (a0 31)) (C := RX13) (T := TX13) (N := 87) hx hb hts hiX13 hown hK hP 0 rfl rfl 31 (by decide) (hts _ flX13_182) (fun _ h9 => h9) rfl dX13_goCall_31 ?_
    refine lv_iload_n hx hb dX13_goCall_34 rfl (lv_at hl 1 rfl) ?_
    refine va_iald (f := r0 31) hx hb hK hP 20 0 rfl rfl (ck_in hf) dX13_goCall_35 ?_
    have hf := ck_2 hf
    refine va_iald (f := r0 42) hx hb hK hP 31 0 rfl rfl (ck_in hf) dX13_goCall_36 ?_
    have hf := ck_2 hf
    refine lv_aload_n hx hb dX13_goCall_37 rfl (lv_at hl 0 rfl) ?_
    refine va_get (D := D) (ci := 13) (v := .ref (a0 43)) (C := RX13) (T := TX13) (N := 87) hx hb hts hiX13 hown hK hP 0 rfl rfl 43 (by decide) (hts _ flX13_218) (fun _ h9 => h9) rfl dX13_goCall_38 ?_
    refine lv_aload_n hx hb dX13_goCall_41 rfl (lv_at hl 0 rfl) ?_
    refine va_get (D := D) (ci := 13) (v := .ref (a0 31)) (C := RX13) (T := TX13) (N := 87) hx hb hts hiX13 hown hK hP 0 rfl rfl 31 (by decide) (hts _ flX13_182) (fun _ h9 => h9) rfl dX13_goCall_42 ?_
    refine lv_iload_n hx hb dX13_goCall_45 rfl (lv_at hl 1 rfl) ?_
    refine va_iald (f := r0 31) hx hb hK hP 20 0 rfl rfl (ck_in hf) dX13_goCall_46 ?_
    have hf := ck_2 hf
    refine va_iald (f := r0 43) hx hb hK hP 32 0 rfl rfl (ck_in hf) dX13_goCall_47 ?_
    have hf := ck_2 hf
    refine lv_iload_n hx hb dX13_goCall_48 rfl (lv_at hl 2 rfl) ?_
    obtain ⟨q2, hq2, hf⟩ := bd_s hf
    refine k_sVv (ws2 := W13 cs h0 a0 q2.1 q2.2 l0) (As := [.int (r0 42 (r0 31 x1.toNatClampNeg).toNatClampNeg), .int (r0 43 (r0 31 x1.toNatClampNeg).toNatClampNeg), .int x2]) (rest := []) hx hb hml hown hts hK hA hZ hl.1 hP hD hS (hF hq2) (gVt mlX13_531 imX13_goBody seX13_goBody inX13 coX13_goBody) rfl qnX13_goBody rfl rfl ⟨by show 4 + 4 * d + 1 ≤ 4 + 4 * d + 1; omega, by show 8 + (5 + 11) + (99 + 93 * d) ≤ 99 + 93 * d + 24; omega⟩ 0 13 rfl rfl rfl rfl rfl (Nat.le_of_ble_eq_true rfl) ⟨Nat.zero_le _, Nat.zero_le _⟩ dX13_goCall_49 (fun H locs hP hD hS => ?_)
    refine lv_aload_n hx hb dX13_goCall_52 rfl (lv_at hl 0 rfl) ?_
    refine lv_dup hx hb dX13_goCall_53 rfl ?_
    refine va_get (D := D) (ci := 13) (v := .int (q2.1 63)) (C := RX13) (T := TX13) (N := 87) hx hb hts hiX13 hown hK hP 0 rfl rfl 63 (by decide) (hts _ flX13_560) (fun _ h9 => h9) rfl dX13_goCall_54 ?_
    refine lv_iconst (v := 1) hx hb dX13_goCall_57 (by decide) ?_
    refine lv_isub hx hb dX13_goCall_58 ?_
    refine va_put (D := D) (ci := 13) (v := .int ((q2.1 63) - 1)) (ty := .int) (C := RX13) (T := TX13) (N := 87) hx hb hts hiX13 tyX13 tyX13_ok nmX13 hown hK hP hD hS 0 rfl rfl 63 (by decide) (hts _ flX13_560) (fun _ h9 => h9) rfl (tyX13_ok 63 (by decide)) rfl rfl (Nat.le_of_ble_eq_true rfl) dX13_goCall_59 (fun H locs hP hD hS => ?_)
    obtain ⟨hP, hD⟩ := st13_63 hP hD
    obtain rfl := Option.some.inj hf
    exact k_vret hx hb hr hlocks hK hP hD hS dX13_goCall_62
  · have hf := ite_t hf hc
    refine lv_aload_n hx hb dX13_goCall_9 rfl (lv_at hl 0 rfl) ?_
    refine lv_iconst (v := 4) hx hb dX13_goCall_10 (by decide) ?_
    refine va_put (D := D) (ci := 13) (v := .int 4) (ty := .int) (C := RX13) (T := TX13) (N := 87) hx hb hts hiX13 tyX13 tyX13_ok nmX13 hown hK hP hD hS 0 rfl rfl 61 (by decide) (hts _ flX13_511) (fun _ h9 => h9) rfl (tyX13_ok 61 (by decide)) rfl rfl (Nat.le_of_ble_eq_true rfl) dX13_goCall_11 (fun H locs hP hD hS => ?_)
    obtain ⟨hP, hD⟩ := st13_61 hP hD
    obtain rfl := Option.some.inj hf
    exact k_vret hx hb hr hlocks hK hP hD hS dX13_goCall_14
/-! MarbleFloorModel.goBodyOf(IIZ)V -/
abbrev wlX13_goBodyOf : List Cond := Cond.code yX13_goBodyOf cX13_goBodyOf 4 none :: tbG
abbrev rmX13_goBodyOf (d : Nat) : Room := { frames := 4 + 4 * d + 1, cells := 0, slots := 0, locals := 99 + 93 * d + 24 }
theorem qnX13_goBodyOf : yX13_goBodyOf.cls = RX13 ∧ yX13_goBodyOf.cls ≠ "java/lang/invoke/MethodHandle" ∧ yX13_goBodyOf.cls ≠ "java/lang/invoke/VarHandle" ∧ (parseMethodDescriptor yX13_goBodyOf.desc).map (fun d => d.parameters.length) = some 3 := by decide +kernel
def f_X13_goBodyOf (F : (Nat → Int32) → (Nat → Nat → Int32) → (Nat → Nat → Int64) → Int32 → Int32 → Int32 → Option ((Nat → Int32) × (Nat → Nat → Int32)))  (i0 : Nat → Int32) (r0 : Nat → Nat → Int32) (l0 : Nat → Nat → Int64) (x1 : Int32) (x2 : Int32) (x3 : Int32) : Option ((Nat → Int32) × (Nat → Nat → Int32)) := ck (inb ((2 * x1) + x2) 240) (ck (inb ((2 * x1) + x2) 240) (bd (F i0 r0 l0 (r0 37 ((2 * x1) + x2).toNatClampNeg) (r0 38 ((2 * x1) + x2).toNatClampNeg) x3) (fun q2 => some (q2.1, q2.2))))
set_option maxRecDepth 100000 in
set_option maxHeartbeats 4000000 in
theorem c_X13_goBodyOf {l : Launch} {D : va_G} {cs zs : Nat → Nat} {h0 : Nat} {a0 : Nat → Nat} {i0 : Nat → Int32} {r0 : Nat → Nat → Int32} {l0 : Nat → Nat → Int64} {x1 : Int32} {x2 : Int32} {x3 : Int32} {q : (Nat → Int32) × (Nat → Nat → Int32)} {d : Nat} {F : (Nat → Int32) → (Nat → Nat → Int32) → (Nat → Nat → Int64) → Int32 → Int32 → Int32 → Option ((Nat → Int32) × (Nat → Nat → Int32))} (hF : ∀ {i0 : Nat → Int32} {r0 : Nat → Nat → Int32} {l0 : Nat → Nat → Int64} {x1 : Int32} {x2 : Int32} {x3 : Int32} {q : (Nat → Int32) × (Nat → Nat → Int32)}, F i0 r0 l0 x1 x2 x3 = some q → Mv l yX13_goBody wlX13_goBody (rmX13_goBody d) D cs zs [.ref h0, .int x1, .int x2, .int x3] (W13 cs h0 a0 i0 r0 l0) (W13 cs h0 a0 q.1 q.2 l0)) (hf : f_X13_goBodyOf F i0 r0 l0 x1 x2 x3 = some q) : Mv l yX13_goBodyOf wlX13_goBodyOf (rmX13_goBodyOf d) D cs zs [.ref h0, .int x1, .int x2, .int x3] (W13 cs h0 a0 i0 r0 l0) (W13 cs h0 a0 q.1 q.2 l0) := by
  refine Mv.of RX13 (by decide) rfl (Nat.le_of_ble_eq_true rfl) (fun p e s m below meth c A C hP hD hS ls hl => ?_)
  generalize ([.ref h0, .int x1, .int x2, .int x3] : List Value).toArray = args at C ⊢
  obtain ⟨hx, hb, hr, hml, hown, hts, hK, hA, hlocks, hZ⟩ := id C
  have hl : lv_has ls 4 [(0, .ref h0), (1, .int x1), (2, .int x2), (3, .int x3)] := hl
  rw [f_X13_goBodyOf] at hf
  refine lv_aload_n hx hb dX13_goBodyOf_0 rfl (lv_at hl 0 rfl) ?_
  refine lv_aload_n hx hb dX13_goBodyOf_1 rfl (lv_at hl 0 rfl) ?_
  refine va_get (D := D) (ci := 13) (v := .ref (a0 37)) (C := RX13) (T := TX13) (N := 87) hx hb hts hiX13 hown hK hP 0 rfl rfl 37 (by decide) (hts _ flX13_200) (fun _ h9 => h9) rfl dX13_goBodyOf_2 ?_
  refine lv_iconst (v := 2) hx hb dX13_goBodyOf_5 (by decide) ?_
  refine lv_iload_n hx hb dX13_goBodyOf_6 rfl (lv_at hl 1 rfl) ?_
  refine lv_imul hx hb dX13_goBodyOf_7 ?_
  refine lv_iload_n hx hb dX13_goBodyOf_8 rfl (lv_at hl 2 rfl) ?_
  refine lv_iadd hx hb dX13_goBodyOf_9 ?_
  refine va_iald (f := r0 37) hx hb hK hP 26 0 rfl rfl (ck_in hf) dX13_goBodyOf_10 ?_
  have hf := ck_2 hf
  refine lv_aload_n hx hb dX13_goBodyOf_11 rfl (lv_at hl 0 rfl) ?_
  refine va_get (D := D) (ci := 13) (v := .ref (a0 38)) (C := RX13) (T := TX13) (N := 87) hx hb hts hiX13 hown hK hP 0 rfl rfl 38 (by decide) (hts _ flX13_203) (fun _ h9 => h9) rfl dX13_goBodyOf_12 ?_
  refine lv_iconst (v := 2) hx hb dX13_goBodyOf_15 (by decide) ?_
  refine lv_iload_n hx hb dX13_goBodyOf_16 rfl (lv_at hl 1 rfl) ?_
  refine lv_imul hx hb dX13_goBodyOf_17 ?_
  refine lv_iload_n hx hb dX13_goBodyOf_18 rfl (lv_at hl 2 rfl) ?_
  refine lv_iadd hx hb dX13_goBodyOf_19 ?_
  refine va_iald (f := r0 38) hx hb hK hP 27 0 rfl rfl (ck_in hf) dX13_goBodyOf_20 ?_
  have hf := ck_2 hf
  refine lv_iload_n hx hb dX13_goBodyOf_21 rfl (lv_at hl 3 rfl) ?_
  obtain ⟨q2, hq2, hf⟩ := bd_s hf
  refine k_sVv (ws2 := W13 cs h0 a0 q2.1 q2.2 l0) (As := [.int (r0 37 ((2 * x1) + x2).toNatClampNeg), .int (r0 38 ((2 * x1) + x2).toNatClampNeg), .int x3]) (rest := []) hx hb hml hown hts hK hA hZ hl.1 hP hD hS (hF hq2) (gVt mlX13_531 imX13_goBody seX13_goBody inX13 coX13_goBody) rfl qnX13_goBody rfl rfl ⟨by show 4 + 4 * d + 1 ≤ 4 + 4 * d + 1; omega, by show 8 + (5 + 11) + (99 + 93 * d) ≤ 99 + 93 * d + 24; omega⟩ 0 13 rfl rfl rfl rfl rfl (Nat.le_of_ble_eq_true rfl) ⟨Nat.zero_le _, Nat.zero_le _⟩ dX13_goBodyOf_22 (fun H locs hP hD hS => ?_)
  obtain rfl := Option.some.inj hf
  exact k_vret hx hb hr hlocks hK hP hD hS dX13_goBodyOf_25
/-! MarbleFloorModel.goFrom(IZ)V -/
abbrev wlX13_goFrom : List Cond := Cond.code yX13_goFrom cX13_goFrom 5 none :: tbG
abbrev rmX13_goFrom (d : Nat) : Room := { frames := 4 + 4 * d + 2, cells := 0, slots := 0, locals := 99 + 93 * d + 47 }
theorem qnX13_goFrom : yX13_goFrom.cls = RX13 ∧ yX13_goFrom.cls ≠ "java/lang/invoke/MethodHandle" ∧ yX13_goFrom.cls ≠ "java/lang/invoke/VarHandle" ∧ (parseMethodDescriptor yX13_goFrom.desc).map (fun d => d.parameters.length) = some 2 := by decide +kernel
def f_X13_goFrom_102 (F : (Nat → Int32) → (Nat → Nat → Int32) → (Nat → Nat → Int64) → Int32 → Int32 → Int32 → Option ((Nat → Int32) × (Nat → Nat → Int32))) (l0 : Nat → Nat → Int64) (K20 : (Nat → Int32) → (Nat → Nat → Int32) → Int32 → Int32 → Int32 → Option ((Nat → Int32) × (Nat → Nat → Int32))) (i0 : Nat → Int32) (r0 : Nat → Nat → Int32) (x1 : Int32) (x2 : Int32) (x3 : Int32) (y0 : Int32) : Option ((Nat → Int32) × (Nat → Nat → Int32)) := bd (f_X13_must i0 r0 l0 y0) (fun q9 => K20 q9 r0 x1 x2 x3)
set_option maxRecDepth 100000 in
set_option maxHeartbeats 4000000 in
theorem w_X13_goFrom_102 {p : Program} {l : Launch} {e : Env} {s : State} {m : MethodId} {args : Array Value} {below : List Frame} {meth : Method} {c : Code} {A : Nat → Prop} {D : va_G} {cs zs : Nat → Nat} {h0 : Nat} {a0 : Nat → Nat} {l0 : Nat → Nat → Int64} {q : (Nat → Int32) × (Nat → Nat → Int32)} (C : Cx p s m args meth c A D cs zs cX13_goFrom 5 none RX13) {d : Nat} {F : (Nat → Int32) → (Nat → Nat → Int32) → (Nat → Nat → Int64) → Int32 → Int32 → Int32 → Option ((Nat → Int32) × (Nat → Nat → Int32))} (hF : ∀ {i0 : Nat → Int32} {r0 : Nat → Nat → Int32} {l0 : Nat → Nat → Int64} {x1 : Int32} {x2 : Int32} {x3 : Int32} {q : (Nat → Int32) × (Nat → Nat → Int32)}, F i0 r0 l0 x1 x2 x3 = some q → Mv l yX13_goBody wlX13_goBody (rmX13_goBody d) D cs zs [.ref h0, .int x1, .int x2, .int x3] (W13 cs h0 a0 i0 r0 l0) (W13 cs h0 a0 q.1 q.2 l0)) (K20 : (Nat → Int32) → (Nat → Nat → Int32) → Int32 → Int32 → Int32 → Option ((Nat → Int32) × (Nat → Nat → Int32))) (hK20 : ∀ (i0 : Nat → Int32) (r0 : Nat → Nat → Int32) (x1 : Int32) (x2 : Int32) (x3 : Int32) (H : Heap) (locs : List Loc) (ls : Array Slot), K20 i0 r0 x1 x2 x3 = some q → va_P D vwCl (W13 cs h0 a0 i0 r0 l0) H → va_D A (W13 cs h0 a0 i0 r0 l0) → va_S A s.heap H locs → lv_has ls 5 [(0, .ref h0), (1, .int x1), (2, .int x2), (3, .int x3)] → W p l e (rmX13_goFrom d) s m args below meth c H locs 0 0 (MQ below (Qv D cs A (W13 cs h0 a0 q.1 q.2 l0)) args s 0 0 A) (F0 m 20 ls [])) : ∀ (i0 : Nat → Int32) (r0 : Nat → Nat → Int32) (x1 : Int32) (x2 : Int32) (x3 : Int32) (y0 : Int32) (H : Heap) (locs : List Loc) (ls : Array Slot), f_X13_goFrom_102 F l0 K20 i0 r0 x1 x2 x3 y0 = some q → va_P D vwCl (W13 cs h0 a0 i0 r0 l0) H → va_D A (W13 cs h0 a0 i0 r0 l0) → va_S A s.heap H locs → lv_has ls 5 [(0, .ref h0), (1, .int x1), (2, .int x2), (3, .int x3)] → W p l e (rmX13_goFrom d) s m args below meth c H locs 0 0 (MQ below (Qv D cs A (W13 cs h0 a0 q.1 q.2 l0)) args s 0 0 A) (F0 m 102 ls [.int y0, .ref h0]) := by
  obtain ⟨hx, hb, hr, hml, hown, hts, hK, hA, hlocks, hZ⟩ := id C
  intro i0 r0 x1 x2 x3 y0 H locs ls hf hP hD hS hl
  rw [f_X13_goFrom_102] at hf
  obtain ⟨q9, hq9, hf⟩ := bd_s hf
  refine k_sVv (ws2 := W13 cs h0 a0 q9 r0 l0) (As := [.int y0]) (rest := []) hx hb hml hown hts hK hA hZ hl.1 hP hD hS (c_X13_must (h0 := h0) (a0 := a0) hq9) (gVt mlX13_556 imX13_must seX13_must inX13 coX13_must) rfl qnX13_must rfl rfl ⟨by show 0 + 1 ≤ 4 + 4 * d + 2; omega, by show 8 + (2 + 11) + (0) ≤ 99 + 93 * d + 47; omega⟩ 0 13 rfl rfl rfl rfl rfl (Nat.le_of_ble_eq_true rfl) ⟨Nat.zero_le _, Nat.zero_le _⟩ dX13_goFrom_102 (fun H locs hP hD hS => ?_)
  refine lv_goto (tgt := 20) hx hb dX13_goFrom_105 (by decide) ?_
  exact hK20 _ _ _ _ _ _ _ _ hf hP hD hS (lv_sub hl [0, 1, 2, 3] rfl)
def f_X13_goFrom_20 (F : (Nat → Int32) → (Nat → Nat → Int32) → (Nat → Nat → Int64) → Int32 → Int32 → Int32 → Option ((Nat → Int32) × (Nat → Nat → Int32))) (l0 : Nat → Nat → Int64)  : Nat → (Nat → Int32) → (Nat → Nat → Int32) → Int32 → Int32 → Int32 → Option ((Nat → Int32) × (Nat → Nat → Int32))
  | 0, _, _, _, _, _ => none
  | n + 1, i0, r0, x1, x2, x3 => if (i0 61) = 0 then (bd (f_X13_goBodyOf F i0 r0 l0 x1 0 x2) (fun q10 => if (q10.1 61) ≤ 0 then (bd (f_X13_isSo q10.1 q10.2 l0 x1 (1 - x3)) (fun q11 => if q11.1 = 0 then (if 0 < (q11.2.1 61) then (some (q11.2.1, q11.2.2)) else (bd (f_X13_counts q11.2.1 q11.2.2 l0) (fun q12 => if q12.1 = 0 then (some (q12.2, q11.2.2)) else (bd (f_X13_goBodyOf F q12.2 q11.2.2 l0 x1 1 x2) (fun q13 => if (q13.1 61) ≤ 0 then (bd (f_X13_isSo q13.1 q13.2 l0 x1 x3) (fun q14 => if q14.1 = 0 then (f_X13_goFrom_102 F l0 (f_X13_goFrom_20 F l0 n) q14.2.1 q14.2.2 x1 x2 x3 1) else (f_X13_goFrom_102 F l0 (f_X13_goFrom_20 F l0 n) q14.2.1 q14.2.2 x1 x2 x3 0))) else (some (q13.1, q13.2))))))) else (some (q11.2.1, q11.2.2)))) else (some (q10.1, q10.2)))) else (some (i0, r0))
set_option maxRecDepth 100000 in
set_option maxHeartbeats 4000000 in
theorem w_X13_goFrom_20 {p : Program} {l : Launch} {e : Env} {s : State} {m : MethodId} {args : Array Value} {below : List Frame} {meth : Method} {c : Code} {A : Nat → Prop} {D : va_G} {cs zs : Nat → Nat} {h0 : Nat} {a0 : Nat → Nat} {l0 : Nat → Nat → Int64} {q : (Nat → Int32) × (Nat → Nat → Int32)} (C : Cx p s m args meth c A D cs zs cX13_goFrom 5 none RX13) {d : Nat} {F : (Nat → Int32) → (Nat → Nat → Int32) → (Nat → Nat → Int64) → Int32 → Int32 → Int32 → Option ((Nat → Int32) × (Nat → Nat → Int32))} (hF : ∀ {i0 : Nat → Int32} {r0 : Nat → Nat → Int32} {l0 : Nat → Nat → Int64} {x1 : Int32} {x2 : Int32} {x3 : Int32} {q : (Nat → Int32) × (Nat → Nat → Int32)}, F i0 r0 l0 x1 x2 x3 = some q → Mv l yX13_goBody wlX13_goBody (rmX13_goBody d) D cs zs [.ref h0, .int x1, .int x2, .int x3] (W13 cs h0 a0 i0 r0 l0) (W13 cs h0 a0 q.1 q.2 l0))  : ∀ (n : Nat), ∀ (i0 : Nat → Int32) (r0 : Nat → Nat → Int32) (x1 : Int32) (x2 : Int32) (x3 : Int32) (H : Heap) (locs : List Loc) (ls : Array Slot), f_X13_goFrom_20 F l0 n i0 r0 x1 x2 x3 = some q → va_P D vwCl (W13 cs h0 a0 i0 r0 l0) H → va_D A (W13 cs h0 a0 i0 r0 l0) → va_S A s.heap H locs → lv_has ls 5 [(0, .ref h0), (1, .int x1), (2, .int x2), (3, .int x3)] → W p l e (rmX13_goFrom d) s m args below meth c H locs 0 0 (MQ below (Qv D cs A (W13 cs h0 a0 q.1 q.2 l0)) args s 0 0 A) (F0 m 20 ls []) := by
  obtain ⟨hx, hb, hr, hml, hown, hts, hK, hA, hlocks, hZ⟩ := id C
  intro n
  induction n with
  | zero =>
    intro i0 r0 x1 x2 x3 H locs ls hf
    rw [f_X13_goFrom_20] at hf
    cases hf
  | succ n ih =>
    intro i0 r0 x1 x2 x3 H locs ls hf hP hD hS hl
    rw [f_X13_goFrom_20] at hf
    refine lv_aload_n hx hb dX13_goFrom_20 rfl (lv_at hl 0 rfl) ?_
    refine va_get (D := D) (ci := 13) (v := .int (i0 61)) (C := RX13) (T := TX13) (N := 87) hx hb hts hiX13 hown hK hP 0 rfl rfl 61 (by decide) (hts _ flX13_511) (fun _ h9 => h9) rfl dX13_goFrom_21 ?_
    refine lv_if_ne (tgt := 108) hx hb dX13_goFrom_24 (by decide) (fun hc => ?_) (fun hc => ?_)
    · have hf := ite_f hf hc
      obtain rfl := Option.some.inj hf
      exact k_vret hx hb hr hlocks hK hP hD hS dX13_goFrom_108
    · have hf := ite_t hf hc
      refine lv_aload_n hx hb dX13_goFrom_27 rfl (lv_at hl 0 rfl) ?_
      refine lv_iload_n hx hb dX13_goFrom_28 rfl (lv_at hl 1 rfl) ?_
      refine lv_iconst (v := 0) hx hb dX13_goFrom_29 (by decide) ?_
      refine lv_iload_n hx hb dX13_goFrom_30 rfl (lv_at hl 2 rfl) ?_
      obtain ⟨q10, hq10, hf⟩ := bd_s hf
      refine k_sVv (ws2 := W13 cs h0 a0 q10.1 q10.2 l0) (As := [.int x1, .int 0, .int x2]) (rest := []) hx hb hml hown hts hK hA hZ hl.1 hP hD hS (c_X13_goBodyOf (h0 := h0) (a0 := a0) hF hq10) (gVt mlX13_553 imX13_goBodyOf seX13_goBodyOf inX13 coX13_goBodyOf) rfl qnX13_goBodyOf rfl rfl ⟨by show 4 + 4 * d + 1 + 1 ≤ 4 + 4 * d + 2; omega, by show 8 + (4 + 11) + (99 + 93 * d + 24) ≤ 99 + 93 * d + 47; omega⟩ 0 13 rfl rfl rfl rfl rfl (Nat.le_of_ble_eq_true rfl) ⟨Nat.zero_le _, Nat.zero_le _⟩ dX13_goFrom_31 (fun H locs hP hD hS => ?_)
      refine lv_aload_n hx hb dX13_goFrom_34 rfl (lv_at hl 0 rfl) ?_
      refine va_get (D := D) (ci := 13) (v := .int (q10.1 61)) (C := RX13) (T := TX13) (N := 87) hx hb hts hiX13 hown hK hP 0 rfl rfl 61 (by decide) (hts _ flX13_511) (fun _ h9 => h9) rfl dX13_goFrom_35 ?_
      refine lv_if_le (tgt := 42) hx hb dX13_goFrom_38 (by decide) (fun hc => ?_) (fun hc => ?_)
      · have hf := ite_t hf hc
        refine lv_aload_n hx hb dX13_goFrom_42 rfl (lv_at hl 0 rfl) ?_
        refine lv_iload_n hx hb dX13_goFrom_43 rfl (lv_at hl 1 rfl) ?_
        refine lv_iconst (v := 1) hx hb dX13_goFrom_44 (by decide) ?_
        refine lv_iload_n hx hb dX13_goFrom_45 rfl (lv_at hl 3 rfl) ?_
        refine lv_isub hx hb dX13_goFrom_46 ?_
        obtain ⟨q11, hq11, hf⟩ := bd_s hf
        refine k_sVi (ws2 := W13 cs h0 a0 q11.2.1 q11.2.2 l0) (As := [.int x1, .int (1 - x3)]) (rest := []) hx hb hml hown hts hK hA hZ hl.1 hP hD hS (c_X13_isSo (h0 := h0) (a0 := a0) hq11) (gVt mlX13_550 imX13_isSo seX13_isSo inX13 coX13_isSo) rfl qnX13_isSo rfl rfl ⟨by show 3 + 1 ≤ 4 + 4 * d + 2; omega, by show 8 + (7 + 11) + (73) ≤ 99 + 93 * d + 47; omega⟩ 0 13 rfl rfl rfl rfl rfl (Nat.le_of_ble_eq_true rfl) ⟨Nat.zero_le _, Nat.zero_le _⟩ dX13_goFrom_47 (fun H locs hP hD hS => ?_)
        refine lv_istore (lv' := [(4, .int q11.1), (0, .ref h0), (1, .int x1), (2, .int x2), (3, .int x3)]) hx hb dX13_goFrom_50 hl (by decide) rfl (fun ls hl => ?_)
        refine lv_iload hx hb dX13_goFrom_52 (lv_at hl 0 rfl) ?_
        refine lv_if_ne (tgt := 71) hx hb dX13_goFrom_54 (by decide) (fun hc => ?_) (fun hc => ?_)
        · have hf := ite_f hf hc
          obtain rfl := Option.some.inj hf
          exact k_vret hx hb hr hlocks hK hP hD hS dX13_goFrom_71
        · have hf := ite_t hf hc
          refine lv_aload_n hx hb dX13_goFrom_57 rfl (lv_at hl 1 rfl) ?_
          refine va_get (D := D) (ci := 13) (v := .int (q11.2.1 61)) (C := RX13) (T := TX13) (N := 87) hx hb hts hiX13 hown hK hP 0 rfl rfl 61 (by decide) (hts _ flX13_511) (fun _ h9 => h9) rfl dX13_goFrom_58 ?_
          refine lv_if_gt (tgt := 71) hx hb dX13_goFrom_61 (by decide) (fun hc => ?_) (fun hc => ?_)
          · have hf := ite_t hf hc
            obtain rfl := Option.some.inj hf
            exact k_vret hx hb hr hlocks hK hP hD hS dX13_goFrom_71
          · have hf := ite_f hf hc
            refine lv_aload_n hx hb dX13_goFrom_64 rfl (lv_at hl 1 rfl) ?_
            obtain ⟨q12, hq12, hf⟩ := bd_s hf
            refine k_sVi (ws2 := W13 cs h0 a0 q12.2 q11.2.2 l0) (As := []) (rest := []) hx hb hml hown hts hK hA hZ hl.1 hP hD hS (c_X13_counts (h0 := h0) (a0 := a0) hq12) (gVt mlX13_535 imX13_counts seX13_counts inX13 coX13_counts) rfl qnX13_counts rfl rfl ⟨by show 0 + 1 ≤ 4 + 4 * d + 2; omega, by show 8 + (1 + 11) + (0) ≤ 99 + 93 * d + 47; omega⟩ 0 13 rfl rfl rfl rfl rfl (Nat.le_of_ble_eq_true rfl) ⟨Nat.zero_le _, Nat.zero_le _⟩ dX13_goFrom_65 (fun H locs hP hD hS => ?_)
            refine lv_if_ne (tgt := 72) hx hb dX13_goFrom_68 (by decide) (fun hc => ?_) (fun hc => ?_)
            · have hf := ite_f hf hc
              refine lv_aload_n hx hb dX13_goFrom_72 rfl (lv_at hl 1 rfl) ?_
              refine lv_iload_n hx hb dX13_goFrom_73 rfl (lv_at hl 2 rfl) ?_
              refine lv_iconst (v := 1) hx hb dX13_goFrom_74 (by decide) ?_
              refine lv_iload_n hx hb dX13_goFrom_75 rfl (lv_at hl 3 rfl) ?_
              obtain ⟨q13, hq13, hf⟩ := bd_s hf
              refine k_sVv (ws2 := W13 cs h0 a0 q13.1 q13.2 l0) (As := [.int x1, .int 1, .int x2]) (rest := []) hx hb hml hown hts hK hA hZ hl.1 hP hD hS (c_X13_goBodyOf (h0 := h0) (a0 := a0) hF hq13) (gVt mlX13_553 imX13_goBodyOf seX13_goBodyOf inX13 coX13_goBodyOf) rfl qnX13_goBodyOf rfl rfl ⟨by show 4 + 4 * d + 1 + 1 ≤ 4 + 4 * d + 2; omega, by show 8 + (4 + 11) + (99 + 93 * d + 24) ≤ 99 + 93 * d + 47; omega⟩ 0 13 rfl rfl rfl rfl rfl (Nat.le_of_ble_eq_true rfl) ⟨Nat.zero_le _, Nat.zero_le _⟩ dX13_goFrom_76 (fun H locs hP hD hS => ?_)
              refine lv_aload_n hx hb dX13_goFrom_79 rfl (lv_at hl 1 rfl) ?_
              refine va_get (D := D) (ci := 13) (v := .int (q13.1 61)) (C := RX13) (T := TX13) (N := 87) hx hb hts hiX13 hown hK hP 0 rfl rfl 61 (by decide) (hts _ flX13_511) (fun _ h9 => h9) rfl dX13_goFrom_80 ?_
              refine lv_if_le (tgt := 87) hx hb dX13_goFrom_83 (by decide) (fun hc => ?_) (fun hc => ?_)
              · have hf := ite_t hf hc
                refine lv_aload_n hx hb dX13_goFrom_87 rfl (lv_at hl 1 rfl) ?_
                refine lv_aload_n hx hb dX13_goFrom_88 rfl (lv_at hl 1 rfl) ?_
                refine lv_iload_n hx hb dX13_goFrom_89 rfl (lv_at hl 2 rfl) ?_
                refine lv_iload_n hx hb dX13_goFrom_90 rfl (lv_at hl 4 rfl) ?_
                obtain ⟨q14, hq14, hf⟩ := bd_s hf
                refine k_sVi (ws2 := W13 cs h0 a0 q14.2.1 q14.2.2 l0) (As := [.int x1, .int x3]) (rest := [.ref h0]) hx hb hml hown hts hK hA hZ hl.1 hP hD hS (c_X13_isSo (h0 := h0) (a0 := a0) hq14) (gVt mlX13_550 imX13_isSo seX13_isSo inX13 coX13_isSo) rfl qnX13_isSo rfl rfl ⟨by show 3 + 1 ≤ 4 + 4 * d + 2; omega, by show 8 + (7 + 11) + (73) ≤ 99 + 93 * d + 47; omega⟩ 0 13 rfl rfl rfl rfl rfl (Nat.le_of_ble_eq_true rfl) ⟨Nat.zero_le _, Nat.zero_le _⟩ dX13_goFrom_91 (fun H locs hP hD hS => ?_)
                refine lv_if_ne (tgt := 101) hx hb dX13_goFrom_94 (by decide) (fun hc => ?_) (fun hc => ?_)
                · have hf := ite_f hf hc
                  refine lv_iconst (v := 0) hx hb dX13_goFrom_101 (by decide) ?_
                  exact w_X13_goFrom_102 C hF _ (ih) _ _ _ _ _ _ _ _ _ hf hP hD hS (lv_sub hl [1, 2, 3, 4] rfl)
                · have hf := ite_t hf hc
                  refine lv_iconst (v := 1) hx hb dX13_goFrom_97 (by decide) ?_
                  refine lv_goto (tgt := 102) hx hb dX13_goFrom_98 (by decide) ?_
                  exact w_X13_goFrom_102 C hF _ (ih) _ _ _ _ _ _ _ _ _ hf hP hD hS (lv_sub hl [1, 2, 3, 4] rfl)
              · have hf := ite_f hf hc
                obtain rfl := Option.some.inj hf
                exact k_vret hx hb hr hlocks hK hP hD hS dX13_goFrom_86
            · have hf := ite_t hf hc
              obtain rfl := Option.some.inj hf
              exact k_vret hx hb hr hlocks hK hP hD hS dX13_goFrom_71
      · have hf := ite_f hf hc
        obtain rfl := Option.some.inj hf
        exact k_vret hx hb hr hlocks hK hP hD hS dX13_goFrom_41
def f_X13_goFrom_9 (F : (Nat → Int32) → (Nat → Nat → Int32) → (Nat → Nat → Int64) → Int32 → Int32 → Int32 → Option ((Nat → Int32) × (Nat → Nat → Int32))) (l0 : Nat → Nat → Int64)  (i0 : Nat → Int32) (r0 : Nat → Nat → Int32) (x1 : Int32) (x2 : Int32) (y0 : Int32) : Option ((Nat → Int32) × (Nat → Nat → Int32)) := bd (f_X13_isSo i0 r0 l0 x1 y0) (fun q15 => bd (f_X13_must q15.2.1 q15.2.2 l0 q15.1) (fun q16 => f_X13_goFrom_20 F l0 2000000 q16 q15.2.2 x1 x2 y0))
set_option maxRecDepth 100000 in
set_option maxHeartbeats 4000000 in
theorem w_X13_goFrom_9 {p : Program} {l : Launch} {e : Env} {s : State} {m : MethodId} {args : Array Value} {below : List Frame} {meth : Method} {c : Code} {A : Nat → Prop} {D : va_G} {cs zs : Nat → Nat} {h0 : Nat} {a0 : Nat → Nat} {l0 : Nat → Nat → Int64} {q : (Nat → Int32) × (Nat → Nat → Int32)} (C : Cx p s m args meth c A D cs zs cX13_goFrom 5 none RX13) {d : Nat} {F : (Nat → Int32) → (Nat → Nat → Int32) → (Nat → Nat → Int64) → Int32 → Int32 → Int32 → Option ((Nat → Int32) × (Nat → Nat → Int32))} (hF : ∀ {i0 : Nat → Int32} {r0 : Nat → Nat → Int32} {l0 : Nat → Nat → Int64} {x1 : Int32} {x2 : Int32} {x3 : Int32} {q : (Nat → Int32) × (Nat → Nat → Int32)}, F i0 r0 l0 x1 x2 x3 = some q → Mv l yX13_goBody wlX13_goBody (rmX13_goBody d) D cs zs [.ref h0, .int x1, .int x2, .int x3] (W13 cs h0 a0 i0 r0 l0) (W13 cs h0 a0 q.1 q.2 l0))  : ∀ (i0 : Nat → Int32) (r0 : Nat → Nat → Int32) (x1 : Int32) (x2 : Int32) (y0 : Int32) (H : Heap) (locs : List Loc) (ls : Array Slot), f_X13_goFrom_9 F l0 i0 r0 x1 x2 y0 = some q → va_P D vwCl (W13 cs h0 a0 i0 r0 l0) H → va_D A (W13 cs h0 a0 i0 r0 l0) → va_S A s.heap H locs → lv_has ls 5 [(0, .ref h0), (1, .int x1), (2, .int x2)] → W p l e (rmX13_goFrom d) s m args below meth c H locs 0 0 (MQ below (Qv D cs A (W13 cs h0 a0 q.1 q.2 l0)) args s 0 0 A) (F0 m 9 ls [.int y0]) := by
  obtain ⟨hx, hb, hr, hml, hown, hts, hK, hA, hlocks, hZ⟩ := id C
  intro i0 r0 x1 x2 y0 H locs ls hf hP hD hS hl
  rw [f_X13_goFrom_9] at hf
  refine lv_istore_n (lv' := [(3, .int y0), (0, .ref h0), (1, .int x1), (2, .int x2)]) hx hb dX13_goFrom_9 rfl hl (by decide) rfl (fun ls hl => ?_)
  refine lv_aload_n hx hb dX13_goFrom_10 rfl (lv_at hl 1 rfl) ?_
  refine lv_aload_n hx hb dX13_goFrom_11 rfl (lv_at hl 1 rfl) ?_
  refine lv_iload_n hx hb dX13_goFrom_12 rfl (lv_at hl 2 rfl) ?_
  refine lv_iload_n hx hb dX13_goFrom_13 rfl (lv_at hl 0 rfl) ?_
  obtain ⟨q15, hq15, hf⟩ := bd_s hf
  refine k_sVi (ws2 := W13 cs h0 a0 q15.2.1 q15.2.2 l0) (As := [.int x1, .int y0]) (rest := [.ref h0]) hx hb hml hown hts hK hA hZ hl.1 hP hD hS (c_X13_isSo (h0 := h0) (a0 := a0) hq15) (gVt mlX13_550 imX13_isSo seX13_isSo inX13 coX13_isSo) rfl qnX13_isSo rfl rfl ⟨by show 3 + 1 ≤ 4 + 4 * d + 2; omega, by show 8 + (7 + 11) + (73) ≤ 99 + 93 * d + 47; omega⟩ 0 13 rfl rfl rfl rfl rfl (Nat.le_of_ble_eq_true rfl) ⟨Nat.zero_le _, Nat.zero_le _⟩ dX13_goFrom_14 (fun H locs hP hD hS => ?_)
  obtain ⟨q16, hq16, hf⟩ := bd_s hf
  refine k_sVv (ws2 := W13 cs h0 a0 q16 q15.2.2 l0) (As := [.int q15.1]) (rest := []) hx hb hml hown hts hK hA hZ hl.1 hP hD hS (c_X13_must (h0 := h0) (a0 := a0) hq16) (gVt mlX13_556 imX13_must seX13_must inX13 coX13_must) rfl qnX13_must rfl rfl ⟨by show 0 + 1 ≤ 4 + 4 * d + 2; omega, by show 8 + (2 + 11) + (0) ≤ 99 + 93 * d + 47; omega⟩ 0 13 rfl rfl rfl rfl rfl (Nat.le_of_ble_eq_true rfl) ⟨Nat.zero_le _, Nat.zero_le _⟩ dX13_goFrom_17 (fun H locs hP hD hS => ?_)
  exact w_X13_goFrom_20 C hF  2000000 _ _ _ _ _ _ _ _ hf hP hD hS (lv_sub hl [1, 2, 3, 0] rfl)
def f_X13_goFrom (F : (Nat → Int32) → (Nat → Nat → Int32) → (Nat → Nat → Int64) → Int32 → Int32 → Int32 → Option ((Nat → Int32) × (Nat → Nat → Int32)))  (i0 : Nat → Int32) (r0 : Nat → Nat → Int32) (l0 : Nat → Nat → Int64) (x1 : Int32) (x2 : Int32) : Option ((Nat → Int32) × (Nat → Nat → Int32)) := if x2 = 0 then (f_X13_goFrom_9 F l0 i0 r0 x1 x2 0) else (f_X13_goFrom_9 F l0 i0 r0 x1 x2 1)
set_option maxRecDepth 100000 in
set_option maxHeartbeats 4000000 in
theorem c_X13_goFrom {l : Launch} {D : va_G} {cs zs : Nat → Nat} {h0 : Nat} {a0 : Nat → Nat} {i0 : Nat → Int32} {r0 : Nat → Nat → Int32} {l0 : Nat → Nat → Int64} {x1 : Int32} {x2 : Int32} {q : (Nat → Int32) × (Nat → Nat → Int32)} {d : Nat} {F : (Nat → Int32) → (Nat → Nat → Int32) → (Nat → Nat → Int64) → Int32 → Int32 → Int32 → Option ((Nat → Int32) × (Nat → Nat → Int32))} (hF : ∀ {i0 : Nat → Int32} {r0 : Nat → Nat → Int32} {l0 : Nat → Nat → Int64} {x1 : Int32} {x2 : Int32} {x3 : Int32} {q : (Nat → Int32) × (Nat → Nat → Int32)}, F i0 r0 l0 x1 x2 x3 = some q → Mv l yX13_goBody wlX13_goBody (rmX13_goBody d) D cs zs [.ref h0, .int x1, .int x2, .int x3] (W13 cs h0 a0 i0 r0 l0) (W13 cs h0 a0 q.1 q.2 l0)) (hf : f_X13_goFrom F i0 r0 l0 x1 x2 = some q) : Mv l yX13_goFrom wlX13_goFrom (rmX13_goFrom d) D cs zs [.ref h0, .int x1, .int x2] (W13 cs h0 a0 i0 r0 l0) (W13 cs h0 a0 q.1 q.2 l0) := by
  refine Mv.of RX13 (by decide) rfl (Nat.le_of_ble_eq_true rfl) (fun p e s m below meth c A C hP hD hS ls hl => ?_)
  generalize ([.ref h0, .int x1, .int x2] : List Value).toArray = args at C ⊢
  obtain ⟨hx, hb, hr, hml, hown, hts, hK, hA, hlocks, hZ⟩ := id C
  have hl : lv_has ls 5 [(0, .ref h0), (1, .int x1), (2, .int x2)] := hl
  rw [f_X13_goFrom] at hf
  refine lv_iload_n hx hb dX13_goFrom_0 rfl (lv_at hl 2 rfl) ?_
  refine lv_if_eq (tgt := 8) hx hb dX13_goFrom_1 (by decide) (fun hc => ?_) (fun hc => ?_)
  · have hf := ite_t hf hc
    refine lv_iconst (v := 0) hx hb dX13_goFrom_8 (by decide) ?_
    exact w_X13_goFrom_9 C hF  _ _ _ _ _ _ _ _ hf hP hD hS (lv_sub hl [0, 1, 2] rfl)
  · have hf := ite_f hf hc
    refine lv_iconst (v := 1) hx hb dX13_goFrom_4 (by decide) ?_
    refine lv_goto (tgt := 9) hx hb dX13_goFrom_5 (by decide) ?_
    exact w_X13_goFrom_9 C hF  _ _ _ _ _ _ _ _ hf hP hD hS (lv_sub hl [0, 1, 2] rfl)
/-! MarbleFloorModel.goIf(IZ)V -/
abbrev wlX13_goIf : List Cond := Cond.code yX13_goIf cX13_goIf 4 none :: tbG
abbrev rmX13_goIf (d : Nat) : Room := { frames := 4 + 4 * d + 2, cells := 0, slots := 0, locals := 99 + 93 * d + 47 }
theorem qnX13_goIf : yX13_goIf.cls = RX13 ∧ yX13_goIf.cls ≠ "java/lang/invoke/MethodHandle" ∧ yX13_goIf.cls ≠ "java/lang/invoke/VarHandle" ∧ (parseMethodDescriptor yX13_goIf.desc).map (fun d => d.parameters.length) = some 2 := by decide +kernel
def f_X13_goIf_70 (F : (Nat → Int32) → (Nat → Nat → Int32) → (Nat → Nat → Int64) → Int32 → Int32 → Int32 → Option ((Nat → Int32) × (Nat → Nat → Int32))) (l0 : Nat → Nat → Int64)  (i0 : Nat → Int32) (r0 : Nat → Nat → Int32) (y0 : Int32) : Option ((Nat → Int32) × (Nat → Nat → Int32)) := bd (f_X13_must i0 r0 l0 y0) (fun q5 => some (q5, r0))
set_option maxRecDepth 100000 in
set_option maxHeartbeats 4000000 in
theorem w_X13_goIf_70 {p : Program} {l : Launch} {e : Env} {s : State} {m : MethodId} {args : Array Value} {below : List Frame} {meth : Method} {c : Code} {A : Nat → Prop} {D : va_G} {cs zs : Nat → Nat} {h0 : Nat} {a0 : Nat → Nat} {l0 : Nat → Nat → Int64} {q : (Nat → Int32) × (Nat → Nat → Int32)} (C : Cx p s m args meth c A D cs zs cX13_goIf 4 none RX13) {d : Nat} {F : (Nat → Int32) → (Nat → Nat → Int32) → (Nat → Nat → Int64) → Int32 → Int32 → Int32 → Option ((Nat → Int32) × (Nat → Nat → Int32))} (hF : ∀ {i0 : Nat → Int32} {r0 : Nat → Nat → Int32} {l0 : Nat → Nat → Int64} {x1 : Int32} {x2 : Int32} {x3 : Int32} {q : (Nat → Int32) × (Nat → Nat → Int32)}, F i0 r0 l0 x1 x2 x3 = some q → Mv l yX13_goBody wlX13_goBody (rmX13_goBody d) D cs zs [.ref h0, .int x1, .int x2, .int x3] (W13 cs h0 a0 i0 r0 l0) (W13 cs h0 a0 q.1 q.2 l0))  : ∀ (i0 : Nat → Int32) (r0 : Nat → Nat → Int32) (y0 : Int32) (H : Heap) (locs : List Loc) (ls : Array Slot), f_X13_goIf_70 F l0 i0 r0 y0 = some q → va_P D vwCl (W13 cs h0 a0 i0 r0 l0) H → va_D A (W13 cs h0 a0 i0 r0 l0) → va_S A s.heap H locs → lv_has ls 4 [] → W p l e (rmX13_goIf d) s m args below meth c H locs 0 0 (MQ below (Qv D cs A (W13 cs h0 a0 q.1 q.2 l0)) args s 0 0 A) (F0 m 70 ls [.int y0, .ref h0]) := by
  obtain ⟨hx, hb, hr, hml, hown, hts, hK, hA, hlocks, hZ⟩ := id C
  intro i0 r0 y0 H locs ls hf hP hD hS hl
  rw [f_X13_goIf_70] at hf
  obtain ⟨q5, hq5, hf⟩ := bd_s hf
  refine k_sVv (ws2 := W13 cs h0 a0 q5 r0 l0) (As := [.int y0]) (rest := []) hx hb hml hown hts hK hA hZ hl.1 hP hD hS (c_X13_must (h0 := h0) (a0 := a0) hq5) (gVt mlX13_556 imX13_must seX13_must inX13 coX13_must) rfl qnX13_must rfl rfl ⟨by show 0 + 1 ≤ 4 + 4 * d + 2; omega, by show 8 + (2 + 11) + (0) ≤ 99 + 93 * d + 47; omega⟩ 0 13 rfl rfl rfl rfl rfl (Nat.le_of_ble_eq_true rfl) ⟨Nat.zero_le _, Nat.zero_le _⟩ dX13_goIf_70 (fun H locs hP hD hS => ?_)
  obtain rfl := Option.some.inj hf
  exact k_vret hx hb hr hlocks hK hP hD hS dX13_goIf_73
def f_X13_goIf_58 (F : (Nat → Int32) → (Nat → Nat → Int32) → (Nat → Nat → Int64) → Int32 → Int32 → Int32 → Option ((Nat → Int32) × (Nat → Nat → Int32))) (l0 : Nat → Nat → Int64)  (i0 : Nat → Int32) (r0 : Nat → Nat → Int32) (x3 : Int32) (y0 : Int32) (y1 : Int32) : Option ((Nat → Int32) × (Nat → Nat → Int32)) := bd (f_X13_isSo i0 r0 l0 y1 y0) (fun q6 => if q6.1 = x3 then (f_X13_goIf_70 F l0 q6.2.1 q6.2.2 1) else (f_X13_goIf_70 F l0 q6.2.1 q6.2.2 0))
set_option maxRecDepth 100000 in
set_option maxHeartbeats 4000000 in
theorem w_X13_goIf_58 {p : Program} {l : Launch} {e : Env} {s : State} {m : MethodId} {args : Array Value} {below : List Frame} {meth : Method} {c : Code} {A : Nat → Prop} {D : va_G} {cs zs : Nat → Nat} {h0 : Nat} {a0 : Nat → Nat} {l0 : Nat → Nat → Int64} {q : (Nat → Int32) × (Nat → Nat → Int32)} (C : Cx p s m args meth c A D cs zs cX13_goIf 4 none RX13) {d : Nat} {F : (Nat → Int32) → (Nat → Nat → Int32) → (Nat → Nat → Int64) → Int32 → Int32 → Int32 → Option ((Nat → Int32) × (Nat → Nat → Int32))} (hF : ∀ {i0 : Nat → Int32} {r0 : Nat → Nat → Int32} {l0 : Nat → Nat → Int64} {x1 : Int32} {x2 : Int32} {x3 : Int32} {q : (Nat → Int32) × (Nat → Nat → Int32)}, F i0 r0 l0 x1 x2 x3 = some q → Mv l yX13_goBody wlX13_goBody (rmX13_goBody d) D cs zs [.ref h0, .int x1, .int x2, .int x3] (W13 cs h0 a0 i0 r0 l0) (W13 cs h0 a0 q.1 q.2 l0))  : ∀ (i0 : Nat → Int32) (r0 : Nat → Nat → Int32) (x3 : Int32) (y0 : Int32) (y1 : Int32) (H : Heap) (locs : List Loc) (ls : Array Slot), f_X13_goIf_58 F l0 i0 r0 x3 y0 y1 = some q → va_P D vwCl (W13 cs h0 a0 i0 r0 l0) H → va_D A (W13 cs h0 a0 i0 r0 l0) → va_S A s.heap H locs → lv_has ls 4 [(3, .int x3)] → W p l e (rmX13_goIf d) s m args below meth c H locs 0 0 (MQ below (Qv D cs A (W13 cs h0 a0 q.1 q.2 l0)) args s 0 0 A) (F0 m 58 ls [.int y0, .int y1, .ref h0, .ref h0]) := by
  obtain ⟨hx, hb, hr, hml, hown, hts, hK, hA, hlocks, hZ⟩ := id C
  intro i0 r0 x3 y0 y1 H locs ls hf hP hD hS hl
  rw [f_X13_goIf_58] at hf
  obtain ⟨q6, hq6, hf⟩ := bd_s hf
  refine k_sVi (ws2 := W13 cs h0 a0 q6.2.1 q6.2.2 l0) (As := [.int y1, .int y0]) (rest := [.ref h0]) hx hb hml hown hts hK hA hZ hl.1 hP hD hS (c_X13_isSo (h0 := h0) (a0 := a0) hq6) (gVt mlX13_550 imX13_isSo seX13_isSo inX13 coX13_isSo) rfl qnX13_isSo rfl rfl ⟨by show 3 + 1 ≤ 4 + 4 * d + 2; omega, by show 8 + (7 + 11) + (73) ≤ 99 + 93 * d + 47; omega⟩ 0 13 rfl rfl rfl rfl rfl (Nat.le_of_ble_eq_true rfl) ⟨Nat.zero_le _, Nat.zero_le _⟩ dX13_goIf_58 (fun H locs hP hD hS => ?_)
  refine lv_iload_n hx hb dX13_goIf_61 rfl (lv_at hl 0 rfl) ?_
  refine lv_icmp_ne (tgt := 69) hx hb dX13_goIf_62 (by decide) (fun hc => ?_) (fun hc => ?_)
  · have hf := ite_f hf hc
    refine lv_iconst (v := 0) hx hb dX13_goIf_69 (by decide) ?_
    exact w_X13_goIf_70 C hF  _ _ _ _ _ _ hf hP hD hS (lv_sub hl [] rfl)
  · have hf := ite_t hf hc
    refine lv_iconst (v := 1) hx hb dX13_goIf_65 (by decide) ?_
    refine lv_goto (tgt := 70) hx hb dX13_goIf_66 (by decide) ?_
    exact w_X13_goIf_70 C hF  _ _ _ _ _ _ hf hP hD hS (lv_sub hl [] rfl)
def f_X13_goIf_34 (F : (Nat → Int32) → (Nat → Nat → Int32) → (Nat → Nat → Int64) → Int32 → Int32 → Int32 → Option ((Nat → Int32) × (Nat → Nat → Int32))) (l0 : Nat → Nat → Int64)  (i0 : Nat → Int32) (r0 : Nat → Nat → Int32) (x1 : Int32) (x2 : Int32) (x3 : Int32) (y0 : Int32) (y1 : Int32) : Option ((Nat → Int32) × (Nat → Nat → Int32)) := bd (f_X13_goBodyOf F i0 r0 l0 y1 y0 x2) (fun q7 => if (q7.1 61) ≤ 0 then (if x2 = 0 then (f_X13_goIf_58 F l0 q7.1 q7.2 x3 1 x1) else (f_X13_goIf_58 F l0 q7.1 q7.2 x3 0 x1)) else (some (q7.1, q7.2)))
set_option maxRecDepth 100000 in
set_option maxHeartbeats 4000000 in
theorem w_X13_goIf_34 {p : Program} {l : Launch} {e : Env} {s : State} {m : MethodId} {args : Array Value} {below : List Frame} {meth : Method} {c : Code} {A : Nat → Prop} {D : va_G} {cs zs : Nat → Nat} {h0 : Nat} {a0 : Nat → Nat} {l0 : Nat → Nat → Int64} {q : (Nat → Int32) × (Nat → Nat → Int32)} (C : Cx p s m args meth c A D cs zs cX13_goIf 4 none RX13) {d : Nat} {F : (Nat → Int32) → (Nat → Nat → Int32) → (Nat → Nat → Int64) → Int32 → Int32 → Int32 → Option ((Nat → Int32) × (Nat → Nat → Int32))} (hF : ∀ {i0 : Nat → Int32} {r0 : Nat → Nat → Int32} {l0 : Nat → Nat → Int64} {x1 : Int32} {x2 : Int32} {x3 : Int32} {q : (Nat → Int32) × (Nat → Nat → Int32)}, F i0 r0 l0 x1 x2 x3 = some q → Mv l yX13_goBody wlX13_goBody (rmX13_goBody d) D cs zs [.ref h0, .int x1, .int x2, .int x3] (W13 cs h0 a0 i0 r0 l0) (W13 cs h0 a0 q.1 q.2 l0))  : ∀ (i0 : Nat → Int32) (r0 : Nat → Nat → Int32) (x1 : Int32) (x2 : Int32) (x3 : Int32) (y0 : Int32) (y1 : Int32) (H : Heap) (locs : List Loc) (ls : Array Slot), f_X13_goIf_34 F l0 i0 r0 x1 x2 x3 y0 y1 = some q → va_P D vwCl (W13 cs h0 a0 i0 r0 l0) H → va_D A (W13 cs h0 a0 i0 r0 l0) → va_S A s.heap H locs → lv_has ls 4 [(0, .ref h0), (1, .int x1), (2, .int x2), (3, .int x3)] → W p l e (rmX13_goIf d) s m args below meth c H locs 0 0 (MQ below (Qv D cs A (W13 cs h0 a0 q.1 q.2 l0)) args s 0 0 A) (F0 m 34 ls [.int y0, .int y1, .ref h0]) := by
  obtain ⟨hx, hb, hr, hml, hown, hts, hK, hA, hlocks, hZ⟩ := id C
  intro i0 r0 x1 x2 x3 y0 y1 H locs ls hf hP hD hS hl
  rw [f_X13_goIf_34] at hf
  refine lv_iload_n hx hb dX13_goIf_34 rfl (lv_at hl 2 rfl) ?_
  obtain ⟨q7, hq7, hf⟩ := bd_s hf
  refine k_sVv (ws2 := W13 cs h0 a0 q7.1 q7.2 l0) (As := [.int y1, .int y0, .int x2]) (rest := []) hx hb hml hown hts hK hA hZ hl.1 hP hD hS (c_X13_goBodyOf (h0 := h0) (a0 := a0) hF hq7) (gVt mlX13_553 imX13_goBodyOf seX13_goBodyOf inX13 coX13_goBodyOf) rfl qnX13_goBodyOf rfl rfl ⟨by show 4 + 4 * d + 1 + 1 ≤ 4 + 4 * d + 2; omega, by show 8 + (4 + 11) + (99 + 93 * d + 24) ≤ 99 + 93 * d + 47; omega⟩ 0 13 rfl rfl rfl rfl rfl (Nat.le_of_ble_eq_true rfl) ⟨Nat.zero_le _, Nat.zero_le _⟩ dX13_goIf_35 (fun H locs hP hD hS => ?_)
  refine lv_aload_n hx hb dX13_goIf_38 rfl (lv_at hl 0 rfl) ?_
  refine va_get (D := D) (ci := 13) (v := .int (q7.1 61)) (C := RX13) (T := TX13) (N := 87) hx hb hts hiX13 hown hK hP 0 rfl rfl 61 (by decide) (hts _ flX13_511) (fun _ h9 => h9) rfl dX13_goIf_39 ?_
  refine lv_if_le (tgt := 46) hx hb dX13_goIf_42 (by decide) (fun hc => ?_) (fun hc => ?_)
  · have hf := ite_t hf hc
    refine lv_aload_n hx hb dX13_goIf_46 rfl (lv_at hl 0 rfl) ?_
    refine lv_aload_n hx hb dX13_goIf_47 rfl (lv_at hl 0 rfl) ?_
    refine lv_iload_n hx hb dX13_goIf_48 rfl (lv_at hl 1 rfl) ?_
    refine lv_iload_n hx hb dX13_goIf_49 rfl (lv_at hl 2 rfl) ?_
    refine lv_if_eq (tgt := 57) hx hb dX13_goIf_50 (by decide) (fun hc => ?_) (fun hc => ?_)
    · have hf := ite_t hf hc
      refine lv_iconst (v := 1) hx hb dX13_goIf_57 (by decide) ?_
      exact w_X13_goIf_58 C hF  _ _ _ _ _ _ _ _ hf hP hD hS (lv_sub hl [3] rfl)
    · have hf := ite_f hf hc
      refine lv_iconst (v := 0) hx hb dX13_goIf_53 (by decide) ?_
      refine lv_goto (tgt := 58) hx hb dX13_goIf_54 (by decide) ?_
      exact w_X13_goIf_58 C hF  _ _ _ _ _ _ _ _ hf hP hD hS (lv_sub hl [3] rfl)
  · have hf := ite_f hf hc
    obtain rfl := Option.some.inj hf
    exact k_vret hx hb hr hlocks hK hP hD hS dX13_goIf_45
def f_X13_goIf_11 (F : (Nat → Int32) → (Nat → Nat → Int32) → (Nat → Nat → Int64) → Int32 → Int32 → Int32 → Option ((Nat → Int32) × (Nat → Nat → Int32))) (l0 : Nat → Nat → Int64)  (i0 : Nat → Int32) (r0 : Nat → Nat → Int32) (x1 : Int32) (x2 : Int32) (y0 : Int32) (y1 : Int32) : Option ((Nat → Int32) × (Nat → Nat → Int32)) := bd (f_X13_isSo i0 r0 l0 y1 y0) (fun q8 => if (q8.2.1 61) ≤ 0 then (if q8.1 = 0 then (f_X13_goIf_34 F l0 q8.2.1 q8.2.2 x1 x2 q8.1 1 x1) else (f_X13_goIf_34 F l0 q8.2.1 q8.2.2 x1 x2 q8.1 0 x1)) else (some (q8.2.1, q8.2.2)))
set_option maxRecDepth 100000 in
set_option maxHeartbeats 4000000 in
theorem w_X13_goIf_11 {p : Program} {l : Launch} {e : Env} {s : State} {m : MethodId} {args : Array Value} {below : List Frame} {meth : Method} {c : Code} {A : Nat → Prop} {D : va_G} {cs zs : Nat → Nat} {h0 : Nat} {a0 : Nat → Nat} {l0 : Nat → Nat → Int64} {q : (Nat → Int32) × (Nat → Nat → Int32)} (C : Cx p s m args meth c A D cs zs cX13_goIf 4 none RX13) {d : Nat} {F : (Nat → Int32) → (Nat → Nat → Int32) → (Nat → Nat → Int64) → Int32 → Int32 → Int32 → Option ((Nat → Int32) × (Nat → Nat → Int32))} (hF : ∀ {i0 : Nat → Int32} {r0 : Nat → Nat → Int32} {l0 : Nat → Nat → Int64} {x1 : Int32} {x2 : Int32} {x3 : Int32} {q : (Nat → Int32) × (Nat → Nat → Int32)}, F i0 r0 l0 x1 x2 x3 = some q → Mv l yX13_goBody wlX13_goBody (rmX13_goBody d) D cs zs [.ref h0, .int x1, .int x2, .int x3] (W13 cs h0 a0 i0 r0 l0) (W13 cs h0 a0 q.1 q.2 l0))  : ∀ (i0 : Nat → Int32) (r0 : Nat → Nat → Int32) (x1 : Int32) (x2 : Int32) (y0 : Int32) (y1 : Int32) (H : Heap) (locs : List Loc) (ls : Array Slot), f_X13_goIf_11 F l0 i0 r0 x1 x2 y0 y1 = some q → va_P D vwCl (W13 cs h0 a0 i0 r0 l0) H → va_D A (W13 cs h0 a0 i0 r0 l0) → va_S A s.heap H locs → lv_has ls 4 [(0, .ref h0), (1, .int x1), (2, .int x2)] → W p l e (rmX13_goIf d) s m args below meth c H locs 0 0 (MQ below (Qv D cs A (W13 cs h0 a0 q.1 q.2 l0)) args s 0 0 A) (F0 m 11 ls [.int y0, .int y1, .ref h0]) := by
  obtain ⟨hx, hb, hr, hml, hown, hts, hK, hA, hlocks, hZ⟩ := id C
  intro i0 r0 x1 x2 y0 y1 H locs ls hf hP hD hS hl
  rw [f_X13_goIf_11] at hf
  obtain ⟨q8, hq8, hf⟩ := bd_s hf
  refine k_sVi (ws2 := W13 cs h0 a0 q8.2.1 q8.2.2 l0) (As := [.int y1, .int y0]) (rest := []) hx hb hml hown hts hK hA hZ hl.1 hP hD hS (c_X13_isSo (h0 := h0) (a0 := a0) hq8) (gVt mlX13_550 imX13_isSo seX13_isSo inX13 coX13_isSo) rfl qnX13_isSo rfl rfl ⟨by show 3 + 1 ≤ 4 + 4 * d + 2; omega, by show 8 + (7 + 11) + (73) ≤ 99 + 93 * d + 47; omega⟩ 0 13 rfl rfl rfl rfl rfl (Nat.le_of_ble_eq_true rfl) ⟨Nat.zero_le _, Nat.zero_le _⟩ dX13_goIf_11 (fun H locs hP hD hS => ?_)
  refine lv_istore_n (lv' := [(3, .int q8.1), (0, .ref h0), (1, .int x1), (2, .int x2)]) hx hb dX13_goIf_14 rfl hl (by decide) rfl (fun ls hl => ?_)
  refine lv_aload_n hx hb dX13_goIf_15 rfl (lv_at hl 1 rfl) ?_
  refine va_get (D := D) (ci := 13) (v := .int (q8.2.1 61)) (C := RX13) (T := TX13) (N := 87) hx hb hts hiX13 hown hK hP 0 rfl rfl 61 (by decide) (hts _ flX13_511) (fun _ h9 => h9) rfl dX13_goIf_16 ?_
  refine lv_if_le (tgt := 23) hx hb dX13_goIf_19 (by decide) (fun hc => ?_) (fun hc => ?_)
  · have hf := ite_t hf hc
    refine lv_aload_n hx hb dX13_goIf_23 rfl (lv_at hl 1 rfl) ?_
    refine lv_iload_n hx hb dX13_goIf_24 rfl (lv_at hl 2 rfl) ?_
    refine lv_iload_n hx hb dX13_goIf_25 rfl (lv_at hl 0 rfl) ?_
    refine lv_if_eq (tgt := 33) hx hb dX13_goIf_26 (by decide) (fun hc => ?_) (fun hc => ?_)
    · have hf := ite_t hf hc
      refine lv_iconst (v := 1) hx hb dX13_goIf_33 (by decide) ?_
      exact w_X13_goIf_34 C hF  _ _ _ _ _ _ _ _ _ _ hf hP hD hS (lv_sub hl [1, 2, 3, 0] rfl)
    · have hf := ite_f hf hc
      refine lv_iconst (v := 0) hx hb dX13_goIf_29 (by decide) ?_
      refine lv_goto (tgt := 34) hx hb dX13_goIf_30 (by decide) ?_
      exact w_X13_goIf_34 C hF  _ _ _ _ _ _ _ _ _ _ hf hP hD hS (lv_sub hl [1, 2, 3, 0] rfl)
  · have hf := ite_f hf hc
    obtain rfl := Option.some.inj hf
    exact k_vret hx hb hr hlocks hK hP hD hS dX13_goIf_22
def f_X13_goIf (F : (Nat → Int32) → (Nat → Nat → Int32) → (Nat → Nat → Int64) → Int32 → Int32 → Int32 → Option ((Nat → Int32) × (Nat → Nat → Int32)))  (i0 : Nat → Int32) (r0 : Nat → Nat → Int32) (l0 : Nat → Nat → Int64) (x1 : Int32) (x2 : Int32) : Option ((Nat → Int32) × (Nat → Nat → Int32)) := if x2 = 0 then (f_X13_goIf_11 F l0 i0 r0 x1 x2 0 x1) else (f_X13_goIf_11 F l0 i0 r0 x1 x2 1 x1)
set_option maxRecDepth 100000 in
set_option maxHeartbeats 4000000 in
theorem c_X13_goIf {l : Launch} {D : va_G} {cs zs : Nat → Nat} {h0 : Nat} {a0 : Nat → Nat} {i0 : Nat → Int32} {r0 : Nat → Nat → Int32} {l0 : Nat → Nat → Int64} {x1 : Int32} {x2 : Int32} {q : (Nat → Int32) × (Nat → Nat → Int32)} {d : Nat} {F : (Nat → Int32) → (Nat → Nat → Int32) → (Nat → Nat → Int64) → Int32 → Int32 → Int32 → Option ((Nat → Int32) × (Nat → Nat → Int32))} (hF : ∀ {i0 : Nat → Int32} {r0 : Nat → Nat → Int32} {l0 : Nat → Nat → Int64} {x1 : Int32} {x2 : Int32} {x3 : Int32} {q : (Nat → Int32) × (Nat → Nat → Int32)}, F i0 r0 l0 x1 x2 x3 = some q → Mv l yX13_goBody wlX13_goBody (rmX13_goBody d) D cs zs [.ref h0, .int x1, .int x2, .int x3] (W13 cs h0 a0 i0 r0 l0) (W13 cs h0 a0 q.1 q.2 l0)) (hf : f_X13_goIf F i0 r0 l0 x1 x2 = some q) : Mv l yX13_goIf wlX13_goIf (rmX13_goIf d) D cs zs [.ref h0, .int x1, .int x2] (W13 cs h0 a0 i0 r0 l0) (W13 cs h0 a0 q.1 q.2 l0) := by
  refine Mv.of RX13 (by decide) rfl (Nat.le_of_ble_eq_true rfl) (fun p e s m below meth c A C hP hD hS ls hl => ?_)
  generalize ([.ref h0, .int x1, .int x2] : List Value).toArray = args at C ⊢
  obtain ⟨hx, hb, hr, hml, hown, hts, hK, hA, hlocks, hZ⟩ := id C
  have hl : lv_has ls 4 [(0, .ref h0), (1, .int x1), (2, .int x2)] := hl
  rw [f_X13_goIf] at hf
  refine lv_aload_n hx hb dX13_goIf_0 rfl (lv_at hl 0 rfl) ?_
  refine lv_iload_n hx hb dX13_goIf_1 rfl (lv_at hl 1 rfl) ?_
  refine lv_iload_n hx hb dX13_goIf_2 rfl (lv_at hl 2 rfl) ?_
  refine lv_if_eq (tgt := 10) hx hb dX13_goIf_3 (by decide) (fun hc => ?_) (fun hc => ?_)
  · have hf := ite_t hf hc
    refine lv_iconst (v := 0) hx hb dX13_goIf_10 (by decide) ?_
    exact w_X13_goIf_11 C hF  _ _ _ _ _ _ _ _ _ hf hP hD hS (lv_sub hl [0, 1, 2] rfl)
  · have hf := ite_f hf hc
    refine lv_iconst (v := 1) hx hb dX13_goIf_6 (by decide) ?_
    refine lv_goto (tgt := 11) hx hb dX13_goIf_7 (by decide) ?_
    exact w_X13_goIf_11 C hF  _ _ _ _ _ _ _ _ _ hf hP hD hS (lv_sub hl [0, 1, 2] rfl)
/-! MarbleFloorModel.goStep(IZ)V -/
abbrev wlX13_goStep : List Cond := Cond.code yX13_goStep cX13_goStep 3 none :: tbG
abbrev rmX13_goStep (d : Nat) : Room := { frames := 4 + 4 * d + 3, cells := 0, slots := 0, locals := 99 + 93 * d + 71 }
theorem qnX13_goStep : yX13_goStep.cls = RX13 ∧ yX13_goStep.cls ≠ "java/lang/invoke/MethodHandle" ∧ yX13_goStep.cls ≠ "java/lang/invoke/VarHandle" ∧ (parseMethodDescriptor yX13_goStep.desc).map (fun d => d.parameters.length) = some 2 := by decide +kernel
def f_X13_goStep_82 (F : (Nat → Int32) → (Nat → Nat → Int32) → (Nat → Nat → Int64) → Int32 → Int32 → Int32 → Option ((Nat → Int32) × (Nat → Nat → Int32))) (l0 : Nat → Nat → Int64)  (i0 : Nat → Int32) (r0 : Nat → Nat → Int32) (y0 : Int32) (y1 : Int32) : Option ((Nat → Int32) × (Nat → Nat → Int32)) := bd (f_X13_goCall F i0 r0 l0 y1 y0) (fun q7 => some (q7.1, q7.2))
set_option maxRecDepth 100000 in
set_option maxHeartbeats 4000000 in
theorem w_X13_goStep_82 {p : Program} {l : Launch} {e : Env} {s : State} {m : MethodId} {args : Array Value} {below : List Frame} {meth : Method} {c : Code} {A : Nat → Prop} {D : va_G} {cs zs : Nat → Nat} {h0 : Nat} {a0 : Nat → Nat} {l0 : Nat → Nat → Int64} {q : (Nat → Int32) × (Nat → Nat → Int32)} (C : Cx p s m args meth c A D cs zs cX13_goStep 3 none RX13) {d : Nat} {F : (Nat → Int32) → (Nat → Nat → Int32) → (Nat → Nat → Int64) → Int32 → Int32 → Int32 → Option ((Nat → Int32) × (Nat → Nat → Int32))} (hF : ∀ {i0 : Nat → Int32} {r0 : Nat → Nat → Int32} {l0 : Nat → Nat → Int64} {x1 : Int32} {x2 : Int32} {x3 : Int32} {q : (Nat → Int32) × (Nat → Nat → Int32)}, F i0 r0 l0 x1 x2 x3 = some q → Mv l yX13_goBody wlX13_goBody (rmX13_goBody d) D cs zs [.ref h0, .int x1, .int x2, .int x3] (W13 cs h0 a0 i0 r0 l0) (W13 cs h0 a0 q.1 q.2 l0))  : ∀ (i0 : Nat → Int32) (r0 : Nat → Nat → Int32) (y0 : Int32) (y1 : Int32) (H : Heap) (locs : List Loc) (ls : Array Slot), f_X13_goStep_82 F l0 i0 r0 y0 y1 = some q → va_P D vwCl (W13 cs h0 a0 i0 r0 l0) H → va_D A (W13 cs h0 a0 i0 r0 l0) → va_S A s.heap H locs → lv_has ls 3 [] → W p l e (rmX13_goStep d) s m args below meth c H locs 0 0 (MQ below (Qv D cs A (W13 cs h0 a0 q.1 q.2 l0)) args s 0 0 A) (F0 m 82 ls [.int y0, .int y1, .ref h0]) := by
  obtain ⟨hx, hb, hr, hml, hown, hts, hK, hA, hlocks, hZ⟩ := id C
  intro i0 r0 y0 y1 H locs ls hf hP hD hS hl
  rw [f_X13_goStep_82] at hf
  obtain ⟨q7, hq7, hf⟩ := bd_s hf
  refine k_sVv (ws2 := W13 cs h0 a0 q7.1 q7.2 l0) (As := [.int y1, .int y0]) (rest := []) hx hb hml hown hts hK hA hZ hl.1 hP hD hS (c_X13_goCall (h0 := h0) (a0 := a0) hF hq7) (gVt mlX13_544 imX13_goCall seX13_goCall inX13 coX13_goCall) rfl qnX13_goCall rfl rfl ⟨by show 4 + 4 * d + 1 + 1 ≤ 4 + 4 * d + 3; omega, by show 8 + (3 + 11) + (99 + 93 * d + 24) ≤ 99 + 93 * d + 71; omega⟩ 0 13 rfl rfl rfl rfl rfl (Nat.le_of_ble_eq_true rfl) ⟨Nat.zero_le _, Nat.zero_le _⟩ dX13_goStep_82 (fun H locs hP hD hS => ?_)
  refine lv_goto (tgt := 94) hx hb dX13_goStep_85 (by decide) ?_
  obtain rfl := Option.some.inj hf
  exact k_vret hx hb hr hlocks hK hP hD hS dX13_goStep_94
def f_X13_goStep (F : (Nat → Int32) → (Nat → Nat → Int32) → (Nat → Nat → Int64) → Int32 → Int32 → Int32 → Option ((Nat → Int32) × (Nat → Nat → Int32)))  (i0 : Nat → Int32) (r0 : Nat → Nat → Int32) (l0 : Nat → Nat → Int64) (x1 : Int32) (x2 : Int32) : Option ((Nat → Int32) × (Nat → Nat → Int32)) := bd (f_X13_counts i0 r0 l0) (fun q8 => if q8.1 = 0 then (some (q8.2, r0)) else (ck (inb x1 120) (if (r0 28 x1.toNatClampNeg) = 4 then (bd (f_X13_goIf F q8.2 r0 l0 x1 x2) (fun q9 => some (q9.1, q9.2))) else (if (r0 28 x1.toNatClampNeg) = 5 then (bd (f_X13_goFrom F q8.2 r0 l0 x1 x2) (fun q10 => some (q10.1, q10.2))) else (if (r0 28 x1.toNatClampNeg) = 6 then (bd (f_X13_goCall F q8.2 r0 l0 x1 x2) (fun q11 => some (q11.1, q11.2))) else (if (r0 28 x1.toNatClampNeg) = 7 then (if x2 = 0 then (f_X13_goStep_82 F l0 q8.2 r0 1 x1) else (f_X13_goStep_82 F l0 q8.2 r0 0 x1)) else (bd (f_X13_change q8.2 r0 l0 x1 x2) (fun q12 => some (q12.1, q12.2)))))))))
set_option maxRecDepth 100000 in
set_option maxHeartbeats 4000000 in
theorem c_X13_goStep {l : Launch} {D : va_G} {cs zs : Nat → Nat} {h0 : Nat} {a0 : Nat → Nat} {i0 : Nat → Int32} {r0 : Nat → Nat → Int32} {l0 : Nat → Nat → Int64} {x1 : Int32} {x2 : Int32} {q : (Nat → Int32) × (Nat → Nat → Int32)} {d : Nat} {F : (Nat → Int32) → (Nat → Nat → Int32) → (Nat → Nat → Int64) → Int32 → Int32 → Int32 → Option ((Nat → Int32) × (Nat → Nat → Int32))} (hF : ∀ {i0 : Nat → Int32} {r0 : Nat → Nat → Int32} {l0 : Nat → Nat → Int64} {x1 : Int32} {x2 : Int32} {x3 : Int32} {q : (Nat → Int32) × (Nat → Nat → Int32)}, F i0 r0 l0 x1 x2 x3 = some q → Mv l yX13_goBody wlX13_goBody (rmX13_goBody d) D cs zs [.ref h0, .int x1, .int x2, .int x3] (W13 cs h0 a0 i0 r0 l0) (W13 cs h0 a0 q.1 q.2 l0)) (hf : f_X13_goStep F i0 r0 l0 x1 x2 = some q) : Mv l yX13_goStep wlX13_goStep (rmX13_goStep d) D cs zs [.ref h0, .int x1, .int x2] (W13 cs h0 a0 i0 r0 l0) (W13 cs h0 a0 q.1 q.2 l0) := by
  refine Mv.of RX13 (by decide) rfl (Nat.le_of_ble_eq_true rfl) (fun p e s m below meth c A C hP hD hS ls hl => ?_)
  generalize ([.ref h0, .int x1, .int x2] : List Value).toArray = args at C ⊢
  obtain ⟨hx, hb, hr, hml, hown, hts, hK, hA, hlocks, hZ⟩ := id C
  have hl : lv_has ls 3 [(0, .ref h0), (1, .int x1), (2, .int x2)] := hl
  rw [f_X13_goStep] at hf
  refine lv_aload_n hx hb dX13_goStep_0 rfl (lv_at hl 0 rfl) ?_
  obtain ⟨q8, hq8, hf⟩ := bd_s hf
  refine k_sVi (ws2 := W13 cs h0 a0 q8.2 r0 l0) (As := []) (rest := []) hx hb hml hown hts hK hA hZ hl.1 hP hD hS (c_X13_counts (h0 := h0) (a0 := a0) hq8) (gVt mlX13_535 imX13_counts seX13_counts inX13 coX13_counts) rfl qnX13_counts rfl rfl ⟨by show 0 + 1 ≤ 4 + 4 * d + 3; omega, by show 8 + (1 + 11) + (0) ≤ 99 + 93 * d + 71; omega⟩ 0 13 rfl rfl rfl rfl rfl (Nat.le_of_ble_eq_true rfl) ⟨Nat.zero_le _, Nat.zero_le _⟩ dX13_goStep_1 (fun H locs hP hD hS => ?_)
  refine lv_if_ne (tgt := 8) hx hb dX13_goStep_4 (by decide) (fun hc => ?_) (fun hc => ?_)
  · have hf := ite_f hf hc
    refine lv_aload_n hx hb dX13_goStep_8 rfl (lv_at hl 0 rfl) ?_
    refine va_get (D := D) (ci := 13) (v := .ref (a0 28)) (C := RX13) (T := TX13) (N := 87) hx hb hts hiX13 hown hK hP 0 rfl rfl 28 (by decide) (hts _ flX13_173) (fun _ h9 => h9) rfl dX13_goStep_9 ?_
    refine lv_iload_n hx hb dX13_goStep_12 rfl (lv_at hl 1 rfl) ?_
    refine va_iald (f := r0 28) hx hb hK hP 17 0 rfl rfl (ck_in hf) dX13_goStep_13 ?_
    have hf := ck_2 hf
    by_cases hc4 : (r0 28 x1.toNatClampNeg) = 4
    · have hf := ite_t hf hc4
      refine lv_tableIn (off := 30) (tgt := 44) hx hb dX13_goStep_14 (by rw [hc4]; decide) (by rw [hc4]; decide) (by rw [hc4]; rfl) (by decide) ?_
      refine lv_aload_n hx hb dX13_goStep_44 rfl (lv_at hl 0 rfl) ?_
      refine lv_iload_n hx hb dX13_goStep_45 rfl (lv_at hl 1 rfl) ?_
      refine lv_iload_n hx hb dX13_goStep_46 rfl (lv_at hl 2 rfl) ?_
      obtain ⟨q9, hq9, hf⟩ := bd_s hf
      refine k_sVv (ws2 := W13 cs h0 a0 q9.1 q9.2 l0) (As := [.int x1, .int x2]) (rest := []) hx hb hml hown hts hK hA hZ hl.1 hP hD hS (c_X13_goIf (h0 := h0) (a0 := a0) hF hq9) (gVt mlX13_538 imX13_goIf seX13_goIf inX13 coX13_goIf) rfl qnX13_goIf rfl rfl ⟨by show 4 + 4 * d + 2 + 1 ≤ 4 + 4 * d + 3; omega, by show 8 + (4 + 11) + (99 + 93 * d + 47) ≤ 99 + 93 * d + 71; omega⟩ 0 13 rfl rfl rfl rfl rfl (Nat.le_of_ble_eq_true rfl) ⟨Nat.zero_le _, Nat.zero_le _⟩ dX13_goStep_47 (fun H locs hP hD hS => ?_)
      refine lv_goto (tgt := 94) hx hb dX13_goStep_50 (by decide) ?_
      obtain rfl := Option.some.inj hf
      exact k_vret hx hb hr hlocks hK hP hD hS dX13_goStep_94
    · have hf := ite_f hf hc4
      by_cases hc5 : (r0 28 x1.toNatClampNeg) = 5
      · have hf := ite_t hf hc5
        refine lv_tableIn (off := 39) (tgt := 53) hx hb dX13_goStep_14 (by rw [hc5]; decide) (by rw [hc5]; decide) (by rw [hc5]; rfl) (by decide) ?_
        refine lv_aload_n hx hb dX13_goStep_53 rfl (lv_at hl 0 rfl) ?_
        refine lv_iload_n hx hb dX13_goStep_54 rfl (lv_at hl 1 rfl) ?_
        refine lv_iload_n hx hb dX13_goStep_55 rfl (lv_at hl 2 rfl) ?_
        obtain ⟨q10, hq10, hf⟩ := bd_s hf
        refine k_sVv (ws2 := W13 cs h0 a0 q10.1 q10.2 l0) (As := [.int x1, .int x2]) (rest := []) hx hb hml hown hts hK hA hZ hl.1 hP hD hS (c_X13_goFrom (h0 := h0) (a0 := a0) hF hq10) (gVt mlX13_541 imX13_goFrom seX13_goFrom inX13 coX13_goFrom) rfl qnX13_goFrom rfl rfl ⟨by show 4 + 4 * d + 2 + 1 ≤ 4 + 4 * d + 3; omega, by show 8 + (5 + 11) + (99 + 93 * d + 47) ≤ 99 + 93 * d + 71; omega⟩ 0 13 rfl rfl rfl rfl rfl (Nat.le_of_ble_eq_true rfl) ⟨Nat.zero_le _, Nat.zero_le _⟩ dX13_goStep_56 (fun H locs hP hD hS => ?_)
        refine lv_goto (tgt := 94) hx hb dX13_goStep_59 (by decide) ?_
        obtain rfl := Option.some.inj hf
        exact k_vret hx hb hr hlocks hK hP hD hS dX13_goStep_94
      · have hf := ite_f hf hc5
        by_cases hc6 : (r0 28 x1.toNatClampNeg) = 6
        · have hf := ite_t hf hc6
          refine lv_tableIn (off := 48) (tgt := 62) hx hb dX13_goStep_14 (by rw [hc6]; decide) (by rw [hc6]; decide) (by rw [hc6]; rfl) (by decide) ?_
          refine lv_aload_n hx hb dX13_goStep_62 rfl (lv_at hl 0 rfl) ?_
          refine lv_iload_n hx hb dX13_goStep_63 rfl (lv_at hl 1 rfl) ?_
          refine lv_iload_n hx hb dX13_goStep_64 rfl (lv_at hl 2 rfl) ?_
          obtain ⟨q11, hq11, hf⟩ := bd_s hf
          refine k_sVv (ws2 := W13 cs h0 a0 q11.1 q11.2 l0) (As := [.int x1, .int x2]) (rest := []) hx hb hml hown hts hK hA hZ hl.1 hP hD hS (c_X13_goCall (h0 := h0) (a0 := a0) hF hq11) (gVt mlX13_544 imX13_goCall seX13_goCall inX13 coX13_goCall) rfl qnX13_goCall rfl rfl ⟨by show 4 + 4 * d + 1 + 1 ≤ 4 + 4 * d + 3; omega, by show 8 + (3 + 11) + (99 + 93 * d + 24) ≤ 99 + 93 * d + 71; omega⟩ 0 13 rfl rfl rfl rfl rfl (Nat.le_of_ble_eq_true rfl) ⟨Nat.zero_le _, Nat.zero_le _⟩ dX13_goStep_65 (fun H locs hP hD hS => ?_)
          refine lv_goto (tgt := 94) hx hb dX13_goStep_68 (by decide) ?_
          obtain rfl := Option.some.inj hf
          exact k_vret hx hb hr hlocks hK hP hD hS dX13_goStep_94
        · have hf := ite_f hf hc6
          by_cases hc7 : (r0 28 x1.toNatClampNeg) = 7
          · have hf := ite_t hf hc7
            refine lv_tableIn (off := 57) (tgt := 71) hx hb dX13_goStep_14 (by rw [hc7]; decide) (by rw [hc7]; decide) (by rw [hc7]; rfl) (by decide) ?_
            refine lv_aload_n hx hb dX13_goStep_71 rfl (lv_at hl 0 rfl) ?_
            refine lv_iload_n hx hb dX13_goStep_72 rfl (lv_at hl 1 rfl) ?_
            refine lv_iload_n hx hb dX13_goStep_73 rfl (lv_at hl 2 rfl) ?_
            refine lv_if_ne (tgt := 81) hx hb dX13_goStep_74 (by decide) (fun hc => ?_) (fun hc => ?_)
            · have hf := ite_f hf hc
              refine lv_iconst (v := 0) hx hb dX13_goStep_81 (by decide) ?_
              exact w_X13_goStep_82 C hF  _ _ _ _ _ _ _ hf hP hD hS (lv_sub hl [] rfl)
            · have hf := ite_t hf hc
              refine lv_iconst (v := 1) hx hb dX13_goStep_77 (by decide) ?_
              refine lv_goto (tgt := 82) hx hb dX13_goStep_78 (by decide) ?_
              exact w_X13_goStep_82 C hF  _ _ _ _ _ _ _ hf hP hD hS (lv_sub hl [] rfl)
          · have hf := ite_f hf hc7
            have z4 := sw_ne (k := 4) (by decide) hc4
            have z5 := sw_ne (k := 5) (by decide) hc5
            have z6 := sw_ne (k := 6) (by decide) hc6
            have z7 := sw_ne (k := 7) (by decide) hc7
            refine lv_tableOut (tgt := 88) hx hb dX13_goStep_14 (by omega) (by decide) ?_
            refine lv_aload_n hx hb dX13_goStep_88 rfl (lv_at hl 0 rfl) ?_
            refine lv_iload_n hx hb dX13_goStep_89 rfl (lv_at hl 1 rfl) ?_
            refine lv_iload_n hx hb dX13_goStep_90 rfl (lv_at hl 2 rfl) ?_
            obtain ⟨q12, hq12, hf⟩ := bd_s hf
            refine k_sVv (ws2 := W13 cs h0 a0 q12.1 q12.2 l0) (As := [.int x1, .int x2]) (rest := []) hx hb hml hown hts hK hA hZ hl.1 hP hD hS (c_X13_change (h0 := h0) (a0 := a0) hq12) (gVt mlX13_547 imX13_change seX13_change inX13 coX13_change) rfl qnX13_change rfl rfl ⟨by show 3 + 1 ≤ 4 + 4 * d + 3; omega, by show 8 + (7 + 11) + (73) ≤ 99 + 93 * d + 71; omega⟩ 0 13 rfl rfl rfl rfl rfl (Nat.le_of_ble_eq_true rfl) ⟨Nat.zero_le _, Nat.zero_le _⟩ dX13_goStep_91 (fun H locs hP hD hS => ?_)
            obtain rfl := Option.some.inj hf
            exact k_vret hx hb hr hlocks hK hP hD hS dX13_goStep_94
  · have hf := ite_t hf hc
    obtain rfl := Option.some.inj hf
    exact k_vret hx hb hr hlocks hK hP hD hS dX13_goStep_7
/-! MarbleFloorModel.goBody(IIZ)V -/
def f_X13_goBody_52 (F : (Nat → Int32) → (Nat → Nat → Int32) → (Nat → Nat → Int64) → Int32 → Int32 → Int32 → Option ((Nat → Int32) × (Nat → Nat → Int32))) (l0 : Nat → Nat → Int64) (K11 : (Nat → Int32) → (Nat → Nat → Int32) → Int32 → Int32 → Option ((Nat → Int32) × (Nat → Nat → Int32))) (i0 : Nat → Int32) (r0 : Nat → Nat → Int32) (x3 : Int32) (y0 : Int32) : Option ((Nat → Int32) × (Nat → Nat → Int32)) := K11 i0 r0 x3 y0
set_option maxRecDepth 100000 in
set_option maxHeartbeats 4000000 in
theorem w_X13_goBody_52 {p : Program} {l : Launch} {e : Env} {s : State} {m : MethodId} {args : Array Value} {below : List Frame} {meth : Method} {c : Code} {A : Nat → Prop} {D : va_G} {cs zs : Nat → Nat} {h0 : Nat} {a0 : Nat → Nat} {l0 : Nat → Nat → Int64} {q : (Nat → Int32) × (Nat → Nat → Int32)} (C : Cx p s m args meth c A D cs zs cX13_goBody 5 none RX13) {d : Nat} {F : (Nat → Int32) → (Nat → Nat → Int32) → (Nat → Nat → Int64) → Int32 → Int32 → Int32 → Option ((Nat → Int32) × (Nat → Nat → Int32))} (hF : ∀ {i0 : Nat → Int32} {r0 : Nat → Nat → Int32} {l0 : Nat → Nat → Int64} {x1 : Int32} {x2 : Int32} {x3 : Int32} {q : (Nat → Int32) × (Nat → Nat → Int32)}, F i0 r0 l0 x1 x2 x3 = some q → Mv l yX13_goBody wlX13_goBody (rmX13_goBody d) D cs zs [.ref h0, .int x1, .int x2, .int x3] (W13 cs h0 a0 i0 r0 l0) (W13 cs h0 a0 q.1 q.2 l0)) (K11 : (Nat → Int32) → (Nat → Nat → Int32) → Int32 → Int32 → Option ((Nat → Int32) × (Nat → Nat → Int32))) (hK11 : ∀ (i0 : Nat → Int32) (r0 : Nat → Nat → Int32) (x3 : Int32) (x4 : Int32) (H : Heap) (locs : List Loc) (ls : Array Slot), K11 i0 r0 x3 x4 = some q → va_P D vwCl (W13 cs h0 a0 i0 r0 l0) H → va_D A (W13 cs h0 a0 i0 r0 l0) → va_S A s.heap H locs → lv_has ls 5 [(0, .ref h0), (3, .int x3), (4, .int x4)] → W p l e (rmX13_goBody (d + 1)) s m args below meth c H locs 0 0 (MQ below (Qv D cs A (W13 cs h0 a0 q.1 q.2 l0)) args s 0 0 A) (F0 m 11 ls [])) : ∀ (i0 : Nat → Int32) (r0 : Nat → Nat → Int32) (x3 : Int32) (y0 : Int32) (H : Heap) (locs : List Loc) (ls : Array Slot), f_X13_goBody_52 F l0 K11 i0 r0 x3 y0 = some q → va_P D vwCl (W13 cs h0 a0 i0 r0 l0) H → va_D A (W13 cs h0 a0 i0 r0 l0) → va_S A s.heap H locs → lv_has ls 5 [(0, .ref h0), (3, .int x3)] → W p l e (rmX13_goBody (d + 1)) s m args below meth c H locs 0 0 (MQ below (Qv D cs A (W13 cs h0 a0 q.1 q.2 l0)) args s 0 0 A) (F0 m 52 ls [.int y0]) := by
  obtain ⟨hx, hb, hr, hml, hown, hts, hK, hA, hlocks, hZ⟩ := id C
  intro i0 r0 x3 y0 H locs ls hf hP hD hS hl
  rw [f_X13_goBody_52] at hf
  refine lv_istore (lv' := [(4, .int y0), (0, .ref h0), (3, .int x3)]) hx hb dX13_goBody_52 hl (by decide) rfl (fun ls hl => ?_)
  refine lv_goto (tgt := 11) hx hb dX13_goBody_54 (by decide) ?_
  exact hK11 _ _ _ _ _ _ _ hf hP hD hS (lv_sub hl [1, 2, 0] rfl)
def f_X13_goBody_11 (F : (Nat → Int32) → (Nat → Nat → Int32) → (Nat → Nat → Int64) → Int32 → Int32 → Int32 → Option ((Nat → Int32) × (Nat → Nat → Int32))) (l0 : Nat → Nat → Int64)  : Nat → (Nat → Int32) → (Nat → Nat → Int32) → Int32 → Int32 → Option ((Nat → Int32) × (Nat → Nat → Int32))
  | 0, _, _, _, _ => none
  | n + 1, i0, r0, x3, x4 => if x4 = (-1) then (some (i0, r0)) else (if (i0 61) = 0 then (bd (f_X13_goStep F i0 r0 l0 x4 x3) (fun q2 => if x3 = 0 then (ck (inb x4 120) (f_X13_goBody_52 F l0 (f_X13_goBody_11 F l0 n) q2.1 q2.2 x3 (q2.2 29 x4.toNatClampNeg))) else (ck (inb x4 120) (f_X13_goBody_52 F l0 (f_X13_goBody_11 F l0 n) q2.1 q2.2 x3 (q2.2 30 x4.toNatClampNeg))))) else (some (i0, r0)))
set_option maxRecDepth 100000 in
set_option maxHeartbeats 4000000 in
theorem w_X13_goBody_11 {p : Program} {l : Launch} {e : Env} {s : State} {m : MethodId} {args : Array Value} {below : List Frame} {meth : Method} {c : Code} {A : Nat → Prop} {D : va_G} {cs zs : Nat → Nat} {h0 : Nat} {a0 : Nat → Nat} {l0 : Nat → Nat → Int64} {q : (Nat → Int32) × (Nat → Nat → Int32)} (C : Cx p s m args meth c A D cs zs cX13_goBody 5 none RX13) {d : Nat} {F : (Nat → Int32) → (Nat → Nat → Int32) → (Nat → Nat → Int64) → Int32 → Int32 → Int32 → Option ((Nat → Int32) × (Nat → Nat → Int32))} (hF : ∀ {i0 : Nat → Int32} {r0 : Nat → Nat → Int32} {l0 : Nat → Nat → Int64} {x1 : Int32} {x2 : Int32} {x3 : Int32} {q : (Nat → Int32) × (Nat → Nat → Int32)}, F i0 r0 l0 x1 x2 x3 = some q → Mv l yX13_goBody wlX13_goBody (rmX13_goBody d) D cs zs [.ref h0, .int x1, .int x2, .int x3] (W13 cs h0 a0 i0 r0 l0) (W13 cs h0 a0 q.1 q.2 l0))  : ∀ (n : Nat), ∀ (i0 : Nat → Int32) (r0 : Nat → Nat → Int32) (x3 : Int32) (x4 : Int32) (H : Heap) (locs : List Loc) (ls : Array Slot), f_X13_goBody_11 F l0 n i0 r0 x3 x4 = some q → va_P D vwCl (W13 cs h0 a0 i0 r0 l0) H → va_D A (W13 cs h0 a0 i0 r0 l0) → va_S A s.heap H locs → lv_has ls 5 [(0, .ref h0), (3, .int x3), (4, .int x4)] → W p l e (rmX13_goBody (d + 1)) s m args below meth c H locs 0 0 (MQ below (Qv D cs A (W13 cs h0 a0 q.1 q.2 l0)) args s 0 0 A) (F0 m 11 ls []) := by
  obtain ⟨hx, hb, hr, hml, hown, hts, hK, hA, hlocks, hZ⟩ := id C
  intro n
  induction n with
  | zero =>
    intro i0 r0 x3 x4 H locs ls hf
    rw [f_X13_goBody_11] at hf
    cases hf
  | succ n ih =>
    intro i0 r0 x3 x4 H locs ls hf hP hD hS hl
    rw [f_X13_goBody_11] at hf
    refine lv_iload hx hb dX13_goBody_11 (lv_at hl 2 rfl) ?_
    refine lv_iconst (v := (-1)) hx hb dX13_goBody_13 (by decide) ?_
    refine lv_icmp_eq (tgt := 57) hx hb dX13_goBody_14 (by decide) (fun hc => ?_) (fun hc => ?_)
    · have hf := ite_t hf hc
      obtain rfl := Option.some.inj hf
      exact k_vret hx hb hr hlocks hK hP hD hS dX13_goBody_57
    · have hf := ite_f hf hc
      refine lv_aload_n hx hb dX13_goBody_17 rfl (lv_at hl 0 rfl) ?_
      refine va_get (D := D) (ci := 13) (v := .int (i0 61)) (C := RX13) (T := TX13) (N := 87) hx hb hts hiX13 hown hK hP 0 rfl rfl 61 (by decide) (hts _ flX13_511) (fun _ h9 => h9) rfl dX13_goBody_18 ?_
      refine lv_if_ne (tgt := 57) hx hb dX13_goBody_21 (by decide) (fun hc => ?_) (fun hc => ?_)
      · have hf := ite_f hf hc
        obtain rfl := Option.some.inj hf
        exact k_vret hx hb hr hlocks hK hP hD hS dX13_goBody_57
      · have hf := ite_t hf hc
        refine lv_aload_n hx hb dX13_goBody_24 rfl (lv_at hl 0 rfl) ?_
        refine lv_iload hx hb dX13_goBody_25 (lv_at hl 2 rfl) ?_
        refine lv_iload_n hx hb dX13_goBody_27 rfl (lv_at hl 1 rfl) ?_
        obtain ⟨q2, hq2, hf⟩ := bd_s hf
        refine k_sVv (ws2 := W13 cs h0 a0 q2.1 q2.2 l0) (As := [.int x4, .int x3]) (rest := []) hx hb hml hown hts hK hA hZ hl.1 hP hD hS (c_X13_goStep (h0 := h0) (a0 := a0) hF hq2) (gVt mlX13_527 imX13_goStep seX13_goStep inX13 coX13_goStep) rfl qnX13_goStep rfl rfl ⟨by show 4 + 4 * d + 3 + 1 ≤ 4 + 4 * (d + 1); omega, by show 8 + (3 + 11) + (99 + 93 * d + 71) ≤ 99 + 93 * (d + 1); omega⟩ 0 13 rfl rfl rfl rfl rfl (Nat.le_of_ble_eq_true rfl) ⟨Nat.zero_le _, Nat.zero_le _⟩ dX13_goBody_28 (fun H locs hP hD hS => ?_)
        refine lv_iload_n hx hb dX13_goBody_31 rfl (lv_at hl 1 rfl) ?_
        refine lv_if_eq (tgt := 45) hx hb dX13_goBody_32 (by decide) (fun hc => ?_) (fun hc => ?_)
        · have hf := ite_t hf hc
          refine lv_aload_n hx hb dX13_goBody_45 rfl (lv_at hl 0 rfl) ?_
          refine va_get (D := D) (ci := 13) (v := .ref (a0 29)) (C := RX13) (T := TX13) (N := 87) hx hb hts hiX13 hown hK hP 0 rfl rfl 29 (by decide) (hts _ flX13_176) (fun _ h9 => h9) rfl dX13_goBody_46 ?_
          refine lv_iload hx hb dX13_goBody_49 (lv_at hl 2 rfl) ?_
          refine va_iald (f := q2.2 29) hx hb hK hP 18 0 rfl rfl (ck_in hf) dX13_goBody_51 ?_
          have hf := ck_2 hf
          exact w_X13_goBody_52 C hF _ (ih) _ _ _ _ _ _ _ hf hP hD hS (lv_sub hl [0, 1] rfl)
        · have hf := ite_f hf hc
          refine lv_aload_n hx hb dX13_goBody_35 rfl (lv_at hl 0 rfl) ?_
          refine va_get (D := D) (ci := 13) (v := .ref (a0 30)) (C := RX13) (T := TX13) (N := 87) hx hb hts hiX13 hown hK hP 0 rfl rfl 30 (by decide) (hts _ flX13_179) (fun _ h9 => h9) rfl dX13_goBody_36 ?_
          refine lv_iload hx hb dX13_goBody_39 (lv_at hl 2 rfl) ?_
          refine va_iald (f := q2.2 30) hx hb hK hP 19 0 rfl rfl (ck_in hf) dX13_goBody_41 ?_
          have hf := ck_2 hf
          refine lv_goto (tgt := 52) hx hb dX13_goBody_42 (by decide) ?_
          exact w_X13_goBody_52 C hF _ (ih) _ _ _ _ _ _ _ hf hP hD hS (lv_sub hl [0, 1] rfl)
def f_X13_goBody_9 (F : (Nat → Int32) → (Nat → Nat → Int32) → (Nat → Nat → Int64) → Int32 → Int32 → Int32 → Option ((Nat → Int32) × (Nat → Nat → Int32))) (l0 : Nat → Nat → Int64)  (i0 : Nat → Int32) (r0 : Nat → Nat → Int32) (x3 : Int32) (y0 : Int32) : Option ((Nat → Int32) × (Nat → Nat → Int32)) := f_X13_goBody_11 F l0 2000000 i0 r0 x3 y0
set_option maxRecDepth 100000 in
set_option maxHeartbeats 4000000 in
theorem w_X13_goBody_9 {p : Program} {l : Launch} {e : Env} {s : State} {m : MethodId} {args : Array Value} {below : List Frame} {meth : Method} {c : Code} {A : Nat → Prop} {D : va_G} {cs zs : Nat → Nat} {h0 : Nat} {a0 : Nat → Nat} {l0 : Nat → Nat → Int64} {q : (Nat → Int32) × (Nat → Nat → Int32)} (C : Cx p s m args meth c A D cs zs cX13_goBody 5 none RX13) {d : Nat} {F : (Nat → Int32) → (Nat → Nat → Int32) → (Nat → Nat → Int64) → Int32 → Int32 → Int32 → Option ((Nat → Int32) × (Nat → Nat → Int32))} (hF : ∀ {i0 : Nat → Int32} {r0 : Nat → Nat → Int32} {l0 : Nat → Nat → Int64} {x1 : Int32} {x2 : Int32} {x3 : Int32} {q : (Nat → Int32) × (Nat → Nat → Int32)}, F i0 r0 l0 x1 x2 x3 = some q → Mv l yX13_goBody wlX13_goBody (rmX13_goBody d) D cs zs [.ref h0, .int x1, .int x2, .int x3] (W13 cs h0 a0 i0 r0 l0) (W13 cs h0 a0 q.1 q.2 l0))  : ∀ (i0 : Nat → Int32) (r0 : Nat → Nat → Int32) (x3 : Int32) (y0 : Int32) (H : Heap) (locs : List Loc) (ls : Array Slot), f_X13_goBody_9 F l0 i0 r0 x3 y0 = some q → va_P D vwCl (W13 cs h0 a0 i0 r0 l0) H → va_D A (W13 cs h0 a0 i0 r0 l0) → va_S A s.heap H locs → lv_has ls 5 [(0, .ref h0), (3, .int x3)] → W p l e (rmX13_goBody (d + 1)) s m args below meth c H locs 0 0 (MQ below (Qv D cs A (W13 cs h0 a0 q.1 q.2 l0)) args s 0 0 A) (F0 m 9 ls [.int y0]) := by
  obtain ⟨hx, hb, hr, hml, hown, hts, hK, hA, hlocks, hZ⟩ := id C
  intro i0 r0 x3 y0 H locs ls hf hP hD hS hl
  rw [f_X13_goBody_9] at hf
  refine lv_istore (lv' := [(4, .int y0), (0, .ref h0), (3, .int x3)]) hx hb dX13_goBody_9 hl (by decide) rfl (fun ls hl => ?_)
  exact w_X13_goBody_11 C hF  2000000 _ _ _ _ _ _ _ hf hP hD hS (lv_sub hl [1, 2, 0] rfl)
def f_X13_goBody_e (F : (Nat → Int32) → (Nat → Nat → Int32) → (Nat → Nat → Int64) → Int32 → Int32 → Int32 → Option ((Nat → Int32) × (Nat → Nat → Int32)))  (i0 : Nat → Int32) (r0 : Nat → Nat → Int32) (l0 : Nat → Nat → Int64) (x1 : Int32) (x2 : Int32) (x3 : Int32) : Option ((Nat → Int32) × (Nat → Nat → Int32)) := if x3 = 0 then (f_X13_goBody_9 F l0 i0 r0 x3 x1) else (f_X13_goBody_9 F l0 i0 r0 x3 x2)
set_option maxRecDepth 100000 in
set_option maxHeartbeats 4000000 in
theorem c_X13_goBody_e {l : Launch} {D : va_G} {cs zs : Nat → Nat} {h0 : Nat} {a0 : Nat → Nat} {i0 : Nat → Int32} {r0 : Nat → Nat → Int32} {l0 : Nat → Nat → Int64} {x1 : Int32} {x2 : Int32} {x3 : Int32} {q : (Nat → Int32) × (Nat → Nat → Int32)} {d : Nat} {F : (Nat → Int32) → (Nat → Nat → Int32) → (Nat → Nat → Int64) → Int32 → Int32 → Int32 → Option ((Nat → Int32) × (Nat → Nat → Int32))} (hF : ∀ {i0 : Nat → Int32} {r0 : Nat → Nat → Int32} {l0 : Nat → Nat → Int64} {x1 : Int32} {x2 : Int32} {x3 : Int32} {q : (Nat → Int32) × (Nat → Nat → Int32)}, F i0 r0 l0 x1 x2 x3 = some q → Mv l yX13_goBody wlX13_goBody (rmX13_goBody d) D cs zs [.ref h0, .int x1, .int x2, .int x3] (W13 cs h0 a0 i0 r0 l0) (W13 cs h0 a0 q.1 q.2 l0)) (hf : f_X13_goBody_e F i0 r0 l0 x1 x2 x3 = some q) : Mv l yX13_goBody wlX13_goBody (rmX13_goBody (d + 1)) D cs zs [.ref h0, .int x1, .int x2, .int x3] (W13 cs h0 a0 i0 r0 l0) (W13 cs h0 a0 q.1 q.2 l0) := by
  refine Mv.of RX13 (by decide) rfl (Nat.le_of_ble_eq_true rfl) (fun p e s m below meth c A C hP hD hS ls hl => ?_)
  generalize ([.ref h0, .int x1, .int x2, .int x3] : List Value).toArray = args at C ⊢
  obtain ⟨hx, hb, hr, hml, hown, hts, hK, hA, hlocks, hZ⟩ := id C
  have hl : lv_has ls 5 [(0, .ref h0), (1, .int x1), (2, .int x2), (3, .int x3)] := hl
  rw [f_X13_goBody_e] at hf
  refine lv_iload_n hx hb dX13_goBody_0 rfl (lv_at hl 3 rfl) ?_
  refine lv_if_eq (tgt := 8) hx hb dX13_goBody_1 (by decide) (fun hc => ?_) (fun hc => ?_)
  · have hf := ite_t hf hc
    refine lv_iload_n hx hb dX13_goBody_8 rfl (lv_at hl 1 rfl) ?_
    exact w_X13_goBody_9 C hF  _ _ _ _ _ _ _ hf hP hD hS (lv_sub hl [0, 3] rfl)
  · have hf := ite_f hf hc
    refine lv_iload_n hx hb dX13_goBody_4 rfl (lv_at hl 2 rfl) ?_
    refine lv_goto (tgt := 9) hx hb dX13_goBody_5 (by decide) ?_
    exact w_X13_goBody_9 C hF  _ _ _ _ _ _ _ hf hP hD hS (lv_sub hl [0, 3] rfl)
def f_X13_goBody : Nat → (Nat → Int32) → (Nat → Nat → Int32) → (Nat → Nat → Int64) → (Int32) → (Int32) → (Int32) → Option ((Nat → Int32) × (Nat → Nat → Int32))
  | 0, _, _, _, _, _, _ => none
  | d + 1, i0, r0, l0, x1, x2, x3 => f_X13_goBody_e (f_X13_goBody d) i0 r0 l0 x1 x2 x3
theorem c_X13_goBody {l : Launch} {D : va_G} {cs zs : Nat → Nat} {h0 : Nat} {a0 : Nat → Nat} : ∀ (d : Nat) {i0 : Nat → Int32} {r0 : Nat → Nat → Int32} {l0 : Nat → Nat → Int64} {x1 : Int32} {x2 : Int32} {x3 : Int32} {q : (Nat → Int32) × (Nat → Nat → Int32)}, f_X13_goBody d i0 r0 l0 x1 x2 x3 = some q → Mv l yX13_goBody wlX13_goBody (rmX13_goBody d) D cs zs [.ref h0, .int x1, .int x2, .int x3] (W13 cs h0 a0 i0 r0 l0) (W13 cs h0 a0 q.1 q.2 l0) := by
  intro d
  induction d with
  | zero =>
    intro i0 r0 l0 x1 x2 x3 q hf
    rw [f_X13_goBody] at hf
    cases hf
  | succ d ih =>
    intro i0 r0 l0 x1 x2 x3 q hf
    rw [f_X13_goBody] at hf
    exact c_X13_goBody_e (fun hq => ih hq) hf
/-! MarbleFloorModel.run(IZ)I -/
abbrev wlX13_run : List Cond := Cond.code yX13_run cX13_run 4 (some .int) :: tbG
abbrev rmX13_run : Room := { frames := 645, cells := 0, slots := 0, locals := 15003 }
theorem qnX13_run : yX13_run.cls = RX13 ∧ yX13_run.cls ≠ "java/lang/invoke/MethodHandle" ∧ yX13_run.cls ≠ "java/lang/invoke/VarHandle" ∧ (parseMethodDescriptor yX13_run.desc).map (fun d => d.parameters.length) = some 2 := by decide +kernel
def f_X13_run_91 (l0 : Nat → Nat → Int64)  : Nat → (Nat → Int32) → (Nat → Nat → Int32) → Int32 → Option (Int32 × (Nat → Int32) × (Nat → Nat → Int32))
  | 0, _, _, _ => none
  | n + 1, i0, r0, x3 => if 18 ≤ x3 then (some ((-1), i0, r0)) else (ck (inb x3 18) (ck (inb x3 18) (f_X13_run_91 l0 n i0 (va_up r0 58 (upd (r0 58) x3.toNatClampNeg (r0 59 x3.toNatClampNeg))) (x3 + 1))))
set_option maxRecDepth 100000 in
set_option maxHeartbeats 4000000 in
theorem w_X13_run_91 {p : Program} {l : Launch} {e : Env} {s : State} {m : MethodId} {args : Array Value} {below : List Frame} {meth : Method} {c : Code} {A : Nat → Prop} {D : va_G} {cs zs : Nat → Nat} {h0 : Nat} {a0 : Nat → Nat} {l0 : Nat → Nat → Int64} {q : Int32 × (Nat → Int32) × (Nat → Nat → Int32)} (C : Cx p s m args meth c A D cs zs cX13_run 4 (some .int) RX13)  : ∀ (n : Nat), ∀ (i0 : Nat → Int32) (r0 : Nat → Nat → Int32) (x3 : Int32) (H : Heap) (locs : List Loc) (ls : Array Slot), f_X13_run_91 l0 n i0 r0 x3 = some q → va_P D vwCl (W13 cs h0 a0 i0 r0 l0) H → va_D A (W13 cs h0 a0 i0 r0 l0) → va_S A s.heap H locs → lv_has ls 4 [(0, .ref h0), (3, .int x3)] → W p l e rmX13_run s m args below meth c H locs 0 0 (MQ below (Qi D cs A q.1 (W13 cs h0 a0 q.2.1 q.2.2 l0)) args s 0 0 A) (F0 m 91 ls []) := by
  obtain ⟨hx, hb, hr, hml, hown, hts, hK, hA, hlocks, hZ⟩ := id C
  intro n
  induction n with
  | zero =>
    intro i0 r0 x3 H locs ls hf
    rw [f_X13_run_91] at hf
    cases hf
  | succ n ih =>
    intro i0 r0 x3 H locs ls hf hP hD hS hl
    rw [f_X13_run_91] at hf
    refine lv_iload_n hx hb dX13_run_91 rfl (lv_at hl 1 rfl) ?_
    refine lv_bipush (v := 18) hx hb dX13_run_92 (by decide) ?_
    refine lv_icmp_ge (tgt := 115) hx hb dX13_run_94 (by decide) (fun hc => ?_) (fun hc => ?_)
    · have hf := ite_t hf hc
      refine lv_iconst (v := (-1)) hx hb dX13_run_115 (by decide) ?_
      obtain rfl := Option.some.inj hf
      exact k_iret hx hb hr hlocks hK hP hD hS dX13_run_116
    · have hf := ite_f hf hc
      refine lv_aload_n hx hb dX13_run_97 rfl (lv_at hl 0 rfl) ?_
      refine va_get (D := D) (ci := 13) (v := .ref (a0 58)) (C := RX13) (T := TX13) (N := 87) hx hb hts hiX13 hown hK hP 0 rfl rfl 58 (by decide) (hts _ flX13_228) (fun _ h9 => h9) rfl dX13_run_98 ?_
      refine lv_iload_n hx hb dX13_run_101 rfl (lv_at hl 1 rfl) ?_
      refine lv_aload_n hx hb dX13_run_102 rfl (lv_at hl 0 rfl) ?_
      refine va_get (D := D) (ci := 13) (v := .ref (a0 59)) (C := RX13) (T := TX13) (N := 87) hx hb hts hiX13 hown hK hP 0 rfl rfl 59 (by decide) (hts _ flX13_231) (fun _ h9 => h9) rfl dX13_run_103 ?_
      refine lv_iload_n hx hb dX13_run_106 rfl (lv_at hl 1 rfl) ?_
      refine va_iald (f := r0 59) hx hb hK hP 36 0 rfl rfl (ck_in hf) dX13_run_107 ?_
      have hf := ck_2 hf
      refine va_iast (f := r0 58) hx hb hK hP hD hS 35 0 rfl rfl (ck_in hf) dX13_run_108 (fun H locs hP hD hS => ?_)
      have hf := ck_2 hf
      obtain ⟨hP, hD⟩ := st13_58 hP hD
      refine lv_iinc (v := x3 + 1) (lv' := [(3, .int (x3 + 1)), (0, .ref h0)]) hx hb dX13_run_109 hl (k := 1) rfl rfl (by decide) rfl (fun ls hl => ?_)
      refine lv_goto (tgt := 91) hx hb dX13_run_112 (by decide) ?_
      exact ih _ _ _ _ _ _ hf hP hD hS (lv_sub hl [1, 0] rfl)
def f_X13_run_21 (l0 : Nat → Nat → Int64)  : Nat → (Nat → Int32) → (Nat → Nat → Int32) → Int32 → Int32 → Int32 → Option (Int32 × (Nat → Int32) × (Nat → Nat → Int32))
  | 0, _, _, _, _, _ => none
  | n + 1, i0, r0, x1, x2, x3 => if 18 ≤ x3 then (ck (inb x1 12) (ck (inb x1 12) (bd (f_X13_goBody 160 (upd (upd (upd i0 61 0) 62 0) 63 0) r0 l0 (r0 42 x1.toNatClampNeg) (r0 43 x1.toNatClampNeg) x2) (fun q3 => if (q3.1 61) = 0 then (some (q3.1 62, q3.1, q3.2)) else (f_X13_run_91 l0 2000000 q3.1 q3.2 0))))) else (ck (inb x3 18) (ck (inb x3 18) (f_X13_run_21 l0 n i0 (va_up r0 59 (upd (r0 59) x3.toNatClampNeg (r0 58 x3.toNatClampNeg))) x1 x2 (x3 + 1))))
set_option maxRecDepth 100000 in
set_option maxHeartbeats 4000000 in
theorem w_X13_run_21 {p : Program} {l : Launch} {e : Env} {s : State} {m : MethodId} {args : Array Value} {below : List Frame} {meth : Method} {c : Code} {A : Nat → Prop} {D : va_G} {cs zs : Nat → Nat} {h0 : Nat} {a0 : Nat → Nat} {l0 : Nat → Nat → Int64} {q : Int32 × (Nat → Int32) × (Nat → Nat → Int32)} (C : Cx p s m args meth c A D cs zs cX13_run 4 (some .int) RX13)  : ∀ (n : Nat), ∀ (i0 : Nat → Int32) (r0 : Nat → Nat → Int32) (x1 : Int32) (x2 : Int32) (x3 : Int32) (H : Heap) (locs : List Loc) (ls : Array Slot), f_X13_run_21 l0 n i0 r0 x1 x2 x3 = some q → va_P D vwCl (W13 cs h0 a0 i0 r0 l0) H → va_D A (W13 cs h0 a0 i0 r0 l0) → va_S A s.heap H locs → lv_has ls 4 [(0, .ref h0), (1, .int x1), (2, .int x2), (3, .int x3)] → W p l e rmX13_run s m args below meth c H locs 0 0 (MQ below (Qi D cs A q.1 (W13 cs h0 a0 q.2.1 q.2.2 l0)) args s 0 0 A) (F0 m 21 ls []) := by
  obtain ⟨hx, hb, hr, hml, hown, hts, hK, hA, hlocks, hZ⟩ := id C
  intro n
  induction n with
  | zero =>
    intro i0 r0 x1 x2 x3 H locs ls hf
    rw [f_X13_run_21] at hf
    cases hf
  | succ n ih =>
    intro i0 r0 x1 x2 x3 H locs ls hf hP hD hS hl
    rw [f_X13_run_21] at hf
    refine lv_iload_n hx hb dX13_run_21 rfl (lv_at hl 3 rfl) ?_
    refine lv_bipush (v := 18) hx hb dX13_run_22 (by decide) ?_
    refine lv_icmp_ge (tgt := 45) hx hb dX13_run_24 (by decide) (fun hc => ?_) (fun hc => ?_)
    · have hf := ite_t hf hc
      refine lv_aload_n hx hb dX13_run_45 rfl (lv_at hl 0 rfl) ?_
      refine lv_iconst (v := 0) hx hb dX13_run_46 (by decide) ?_
      refine va_put (D := D) (ci := 13) (v := .int 0) (ty := .int) (C := RX13) (T := TX13) (N := 87) hx hb hts hiX13 tyX13 tyX13_ok nmX13 hown hK hP hD hS 0 rfl rfl 61 (by decide) (hts _ flX13_511) (fun _ h9 => h9) rfl (tyX13_ok 61 (by decide)) rfl rfl (Nat.le_of_ble_eq_true rfl) dX13_run_47 (fun H locs hP hD hS => ?_)
      obtain ⟨hP, hD⟩ := st13_61 hP hD
      refine lv_aload_n hx hb dX13_run_50 rfl (lv_at hl 0 rfl) ?_
      refine lv_iconst (v := 0) hx hb dX13_run_51 (by decide) ?_
      refine va_put (D := D) (ci := 13) (v := .int 0) (ty := .int) (C := RX13) (T := TX13) (N := 87) hx hb hts hiX13 tyX13 tyX13_ok nmX13 hown hK hP hD hS 0 rfl rfl 62 (by decide) (hts _ flX13_524) (fun _ h9 => h9) rfl (tyX13_ok 62 (by decide)) rfl rfl (Nat.le_of_ble_eq_true rfl) dX13_run_52 (fun H locs hP hD hS => ?_)
      obtain ⟨hP, hD⟩ := st13_62 hP hD
      refine lv_aload_n hx hb dX13_run_55 rfl (lv_at hl 0 rfl) ?_
      refine lv_iconst (v := 0) hx hb dX13_run_56 (by decide) ?_
      refine va_put (D := D) (ci := 13) (v := .int 0) (ty := .int) (C := RX13) (T := TX13) (N := 87) hx hb hts hiX13 tyX13 tyX13_ok nmX13 hown hK hP hD hS 0 rfl rfl 63 (by decide) (hts _ flX13_560) (fun _ h9 => h9) rfl (tyX13_ok 63 (by decide)) rfl rfl (Nat.le_of_ble_eq_true rfl) dX13_run_57 (fun H locs hP hD hS => ?_)
      obtain ⟨hP, hD⟩ := st13_63 hP hD
      refine lv_aload_n hx hb dX13_run_60 rfl (lv_at hl 0 rfl) ?_
      refine lv_aload_n hx hb dX13_run_61 rfl (lv_at hl 0 rfl) ?_
      refine va_get (D := D) (ci := 13) (v := .ref (a0 42)) (C := RX13) (T := TX13) (N := 87) hx hb hts hiX13 hown hK hP 0 rfl rfl 42 (by decide) (hts _ flX13_215) (fun _ h9 => h9) rfl dX13_run_62 ?_
      refine lv_iload_n hx hb dX13_run_65 rfl (lv_at hl 1 rfl) ?_
      refine va_iald (f := r0 42) hx hb hK hP 31 0 rfl rfl (ck_in hf) dX13_run_66 ?_
      have hf := ck_2 hf
      refine lv_aload_n hx hb dX13_run_67 rfl (lv_at hl 0 rfl) ?_
      refine va_get (D := D) (ci := 13) (v := .ref (a0 43)) (C := RX13) (T := TX13) (N := 87) hx hb hts hiX13 hown hK hP 0 rfl rfl 43 (by decide) (hts _ flX13_218) (fun _ h9 => h9) rfl dX13_run_68 ?_
      refine lv_iload_n hx hb dX13_run_71 rfl (lv_at hl 1 rfl) ?_
      refine va_iald (f := r0 43) hx hb hK hP 32 0 rfl rfl (ck_in hf) dX13_run_72 ?_
      have hf := ck_2 hf
      refine lv_iload_n hx hb dX13_run_73 rfl (lv_at hl 2 rfl) ?_
      obtain ⟨q3, hq3, hf⟩ := bd_s hf
      refine k_sVv (ws2 := W13 cs h0 a0 q3.1 q3.2 l0) (As := [.int (r0 42 x1.toNatClampNeg), .int (r0 43 x1.toNatClampNeg), .int x2]) (rest := []) hx hb hml hown hts hK hA hZ hl.1 hP hD hS (c_X13_goBody (h0 := h0) (a0 := a0) 160 hq3) (gVt mlX13_531 imX13_goBody seX13_goBody inX13 coX13_goBody) rfl qnX13_goBody rfl rfl ⟨Nat.le_of_ble_eq_true rfl, Nat.le_of_ble_eq_true rfl⟩ 0 13 rfl rfl rfl rfl rfl (Nat.le_of_ble_eq_true rfl) ⟨Nat.zero_le _, Nat.zero_le _⟩ dX13_run_74 (fun H locs hP hD hS => ?_)
      refine lv_aload_n hx hb dX13_run_77 rfl (lv_at hl 0 rfl) ?_
      refine va_get (D := D) (ci := 13) (v := .int (q3.1 61)) (C := RX13) (T := TX13) (N := 87) hx hb hts hiX13 hown hK hP 0 rfl rfl 61 (by decide) (hts _ flX13_511) (fun _ h9 => h9) rfl dX13_run_78 ?_
      refine lv_if_ne (tgt := 89) hx hb dX13_run_81 (by decide) (fun hc => ?_) (fun hc => ?_)
      · have hf := ite_f hf hc
        refine lv_iconst (v := 0) hx hb dX13_run_89 (by decide) ?_
        refine lv_istore_n (lv' := [(3, .int 0), (0, .ref h0), (1, .int x1), (2, .int x2)]) hx hb dX13_run_90 rfl hl (by decide) rfl (fun ls hl => ?_)
        exact w_X13_run_91 C  2000000 _ _ _ _ _ _ hf hP hD hS (lv_sub hl [1, 0] rfl)
      · have hf := ite_t hf hc
        refine lv_aload_n hx hb dX13_run_84 rfl (lv_at hl 0 rfl) ?_
        refine va_get (D := D) (ci := 13) (v := .int (q3.1 62)) (C := RX13) (T := TX13) (N := 87) hx hb hts hiX13 hown hK hP 0 rfl rfl 62 (by decide) (hts _ flX13_524) (fun _ h9 => h9) rfl dX13_run_85 ?_
        obtain rfl := Option.some.inj hf
        exact k_iret hx hb hr hlocks hK hP hD hS dX13_run_88
    · have hf := ite_f hf hc
      refine lv_aload_n hx hb dX13_run_27 rfl (lv_at hl 0 rfl) ?_
      refine va_get (D := D) (ci := 13) (v := .ref (a0 59)) (C := RX13) (T := TX13) (N := 87) hx hb hts hiX13 hown hK hP 0 rfl rfl 59 (by decide) (hts _ flX13_231) (fun _ h9 => h9) rfl dX13_run_28 ?_
      refine lv_iload_n hx hb dX13_run_31 rfl (lv_at hl 3 rfl) ?_
      refine lv_aload_n hx hb dX13_run_32 rfl (lv_at hl 0 rfl) ?_
      refine va_get (D := D) (ci := 13) (v := .ref (a0 58)) (C := RX13) (T := TX13) (N := 87) hx hb hts hiX13 hown hK hP 0 rfl rfl 58 (by decide) (hts _ flX13_228) (fun _ h9 => h9) rfl dX13_run_33 ?_
      refine lv_iload_n hx hb dX13_run_36 rfl (lv_at hl 3 rfl) ?_
      refine va_iald (f := r0 58) hx hb hK hP 35 0 rfl rfl (ck_in hf) dX13_run_37 ?_
      have hf := ck_2 hf
      refine va_iast (f := r0 59) hx hb hK hP hD hS 36 0 rfl rfl (ck_in hf) dX13_run_38 (fun H locs hP hD hS => ?_)
      have hf := ck_2 hf
      obtain ⟨hP, hD⟩ := st13_59 hP hD
      refine lv_iinc (v := x3 + 1) (lv' := [(3, .int (x3 + 1)), (0, .ref h0), (1, .int x1), (2, .int x2)]) hx hb dX13_run_39 hl (k := 3) rfl rfl (by decide) rfl (fun ls hl => ?_)
      refine lv_goto (tgt := 21) hx hb dX13_run_42 (by decide) ?_
      exact ih _ _ _ _ _ _ _ _ hf hP hD hS (lv_sub hl [1, 2, 3, 0] rfl)
def f_X13_run  (i0 : Nat → Int32) (r0 : Nat → Nat → Int32) (l0 : Nat → Nat → Int64) (x1 : Int32) (x2 : Int32) : Option (Int32 × (Nat → Int32) × (Nat → Nat → Int32)) := bd (f_X13_in x1.toInt64 0 (((i0 46).toInt64) - 1)) (fun q4 => if q4 = 0 then (some ((-2), i0, r0)) else (f_X13_run_21 l0 2000000 i0 r0 x1 x2 0))
set_option maxRecDepth 100000 in
set_option maxHeartbeats 4000000 in
theorem c_X13_run {l : Launch} {D : va_G} {cs zs : Nat → Nat} {h0 : Nat} {a0 : Nat → Nat} {i0 : Nat → Int32} {r0 : Nat → Nat → Int32} {l0 : Nat → Nat → Int64} {x1 : Int32} {x2 : Int32} {q : Int32 × (Nat → Int32) × (Nat → Nat → Int32)} (hf : f_X13_run i0 r0 l0 x1 x2 = some q) : Mi l yX13_run wlX13_run rmX13_run D cs zs [.ref h0, .int x1, .int x2] (W13 cs h0 a0 i0 r0 l0) q.1 (W13 cs h0 a0 q.2.1 q.2.2 l0) := by
  refine Mi.of RX13 (by decide) rfl (Nat.le_of_ble_eq_true rfl) (fun p e s m below meth c A C hP hD hS ls hl => ?_)
  generalize ([.ref h0, .int x1, .int x2] : List Value).toArray = args at C ⊢
  obtain ⟨hx, hb, hr, hml, hown, hts, hK, hA, hlocks, hZ⟩ := id C
  have hl : lv_has ls 4 [(0, .ref h0), (1, .int x1), (2, .int x2)] := hl
  rw [f_X13_run] at hf
  refine lv_iload_n hx hb dX13_run_0 rfl (lv_at hl 1 rfl) ?_
  refine lv_i2l hx hb dX13_run_1 rfl ?_
  refine lv_lconst (v := 0) hx hb dX13_run_2 (by decide) ?_
  refine lv_aload_n hx hb dX13_run_3 rfl (lv_at hl 0 rfl) ?_
  refine va_get (D := D) (ci := 13) (v := .int (i0 46)) (C := RX13) (T := TX13) (N := 87) hx hb hts hiX13 hown hK hP 0 rfl rfl 46 (by decide) (hts _ flX13_497) (fun _ h9 => h9) rfl dX13_run_4 ?_
  refine lv_i2l hx hb dX13_run_7 rfl ?_
  refine lv_lconst (v := 1) hx hb dX13_run_8 (by decide) ?_
  refine lv_lsub hx hb dX13_run_9 ?_
  obtain ⟨q4, hq4, hf⟩ := bd_s hf
  refine k_eSi (As := [.long x1.toInt64, .long 0, .long (((i0 46).toInt64) - 1)]) (rest := []) hx hb hml hown hts hK hA hZ hl.1 hP hD hS (c_X13_in  hq4) (gSt mlX13_64 stX13_in inX13 coX13_in) rfl qnX13_in rfl rfl ⟨Nat.le_of_ble_eq_true rfl, Nat.le_of_ble_eq_true rfl⟩ rfl rfl (Nat.le_of_ble_eq_true rfl) ⟨Nat.zero_le _, Nat.zero_le _⟩ dX13_run_10 (fun H locs hP hD hS => ?_)
  refine lv_if_ne (tgt := 19) hx hb dX13_run_13 (by decide) (fun hc => ?_) (fun hc => ?_)
  · have hf := ite_f hf hc
    refine lv_iconst (v := 0) hx hb dX13_run_19 (by decide) ?_
    refine lv_istore_n (lv' := [(3, .int 0), (0, .ref h0), (1, .int x1), (2, .int x2)]) hx hb dX13_run_20 rfl hl (by decide) rfl (fun ls hl => ?_)
    exact w_X13_run_21 C  2000000 _ _ _ _ _ _ _ _ hf hP hD hS (lv_sub hl [1, 2, 3, 0] rfl)
  · have hf := ite_t hf hc
    refine lv_bipush (v := (-2)) hx hb dX13_run_16 (by decide) ?_
    obtain rfl := Option.some.inj hf
    exact k_iret hx hb hr hlocks hK hP hD hS dX13_run_18
