/-! MarbleFloorModel.counts()Z -/
abbrev wlX13_counts : List Cond := Cond.code yX13_counts cX13_counts 1 (some .boolean) :: tbG
abbrev rmX13_counts : Room := { frames := 0, cells := 0, slots := 0, locals := 0 }
theorem qnX13_counts : yX13_counts.cls = RX13 ∧ yX13_counts.cls ≠ "java/lang/invoke/MethodHandle" ∧ yX13_counts.cls ≠ "java/lang/invoke/VarHandle" ∧ (parseMethodDescriptor yX13_counts.desc).map (fun d => d.parameters.length) = some 0 := by decide +kernel
def f_X13_counts_25 (r0 : Nat → Nat → Int32) (l0 : Nat → Nat → Int64)  (i0 : Nat → Int32) : Option (Int32 × (Nat → Int32)) := if (i0 61) = 0 then (some (1, i0)) else (some (0, i0))
set_option maxRecDepth 100000 in
set_option maxHeartbeats 4000000 in
theorem w_X13_counts_25 {p : Program} {l : Launch} {e : Env} {s : State} {m : MethodId} {args : Array Value} {below : List Frame} {meth : Method} {c : Code} {A : Nat → Prop} {D : va_G} {cs zs : Nat → Nat} {h0 : Nat} {a0 : Nat → Nat} {r0 : Nat → Nat → Int32} {l0 : Nat → Nat → Int64} {q : Int32 × (Nat → Int32)} (C : Cx p s m args meth c A D cs zs cX13_counts 1 (some .boolean) RX13)  : ∀ (i0 : Nat → Int32) (H : Heap) (locs : List Loc) (ls : Array Slot), f_X13_counts_25 r0 l0 i0 = some q → va_P D vwCl (W13 cs h0 a0 i0 r0 l0) H → va_D A (W13 cs h0 a0 i0 r0 l0) → va_S A s.heap H locs → lv_has ls 1 [(0, .ref h0)] → W p l e rmX13_counts s m args below meth c H locs 0 0 (MQ below (Qi D cs A q.1 (W13 cs h0 a0 q.2 r0 l0)) args s 0 0 A) (F0 m 25 ls []) := by
  obtain ⟨hx, hb, hr, hml, hown, hts, hK, hA, hlocks, hZ⟩ := id C
  intro i0 H locs ls hf hP hD hS hl
  rw [f_X13_counts_25] at hf
  refine lv_aload_n hx hb dX13_counts_25 rfl (lv_at hl 0 rfl) ?_
  refine va_get (D := D) (ci := 13) (v := .int (i0 61)) (C := RX13) (T := TX13) (N := 87) hx hb hts hiX13 hown hK hP 0 rfl rfl 61 (by decide) (hts _ flX13_511) (fun _ h9 => h9) rfl dX13_counts_26 ?_
  refine lv_if_ne (tgt := 36) hx hb dX13_counts_29 (by decide) (fun hc => ?_) (fun hc => ?_)
  · have hf := ite_f hf hc
    refine lv_iconst (v := 0) hx hb dX13_counts_36 (by decide) ?_
    obtain rfl := Option.some.inj hf
    exact k_zret (r := 0) hx hb hr hlocks rfl hK hP hD hS dX13_counts_37
  · have hf := ite_t hf hc
    refine lv_iconst (v := 1) hx hb dX13_counts_32 (by decide) ?_
    refine lv_goto (tgt := 37) hx hb dX13_counts_33 (by decide) ?_
    obtain rfl := Option.some.inj hf
    exact k_zret (r := 1) hx hb hr hlocks rfl hK hP hD hS dX13_counts_37
def f_X13_counts  (i0 : Nat → Int32) (r0 : Nat → Nat → Int32) (l0 : Nat → Nat → Int64)  : Option (Int32 × (Nat → Int32)) := if ((i0 62) + 1) ≤ 5000 then (f_X13_counts_25 r0 l0 (upd i0 62 ((i0 62) + 1))) else (f_X13_counts_25 r0 l0 (upd (upd i0 62 ((i0 62) + 1)) 61 3))
set_option maxRecDepth 100000 in
set_option maxHeartbeats 4000000 in
theorem c_X13_counts {l : Launch} {D : va_G} {cs zs : Nat → Nat} {h0 : Nat} {a0 : Nat → Nat} {i0 : Nat → Int32} {r0 : Nat → Nat → Int32} {l0 : Nat → Nat → Int64}  {q : Int32 × (Nat → Int32)} (hf : f_X13_counts i0 r0 l0 = some q) : Mi l yX13_counts wlX13_counts rmX13_counts D cs zs [.ref h0] (W13 cs h0 a0 i0 r0 l0) q.1 (W13 cs h0 a0 q.2 r0 l0) := by
  refine Mi.of RX13 (by decide) rfl (Nat.le_of_ble_eq_true rfl) (fun p e s m below meth c A C hP hD hS ls hl => ?_)
  generalize ([.ref h0] : List Value).toArray = args at C ⊢
  obtain ⟨hx, hb, hr, hml, hown, hts, hK, hA, hlocks, hZ⟩ := id C
  have hl : lv_has ls 1 [(0, .ref h0)] := hl
  rw [f_X13_counts] at hf
  refine lv_aload_n hx hb dX13_counts_0 rfl (lv_at hl 0 rfl) ?_
  refine lv_dup hx hb dX13_counts_1 rfl ?_
  refine va_get (D := D) (ci := 13) (v := .int (i0 62)) (C := RX13) (T := TX13) (N := 87) hx hb hts hiX13 hown hK hP 0 rfl rfl 62 (by decide) (hts _ flX13_524) (fun _ h9 => h9) rfl dX13_counts_2 ?_
  refine lv_iconst (v := 1) hx hb dX13_counts_5 (by decide) ?_
  refine lv_iadd hx hb dX13_counts_6 ?_
  refine va_put (D := D) (ci := 13) (v := .int ((i0 62) + 1)) (ty := .int) (C := RX13) (T := TX13) (N := 87) hx hb hts hiX13 tyX13 tyX13_ok nmX13 hown hK hP hD hS 0 rfl rfl 62 (by decide) (hts _ flX13_524) (fun _ h9 => h9) rfl (tyX13_ok 62 (by decide)) rfl rfl (Nat.le_of_ble_eq_true rfl) dX13_counts_7 (fun H locs hP hD hS => ?_)
  obtain ⟨hP, hD⟩ := st13_62 hP hD
  refine lv_aload_n hx hb dX13_counts_10 rfl (lv_at hl 0 rfl) ?_
  refine va_get (D := D) (ci := 13) (v := .int ((i0 62) + 1)) (C := RX13) (T := TX13) (N := 87) hx hb hts hiX13 hown hK hP 0 rfl rfl 62 (by decide) (hts _ flX13_524) (fun _ h9 => h9) rfl dX13_counts_11 ?_
  refine lv_sipush (v := 5000) hx hb dX13_counts_14 (by decide) ?_
  refine lv_icmp_le (tgt := 25) hx hb dX13_counts_17 (by decide) (fun hc => ?_) (fun hc => ?_)
  · have hf := ite_t hf hc
    exact w_X13_counts_25 C  _ _ _ _ hf hP hD hS (lv_sub hl [0] rfl)
  · have hf := ite_f hf hc
    refine lv_aload_n hx hb dX13_counts_20 rfl (lv_at hl 0 rfl) ?_
    refine lv_iconst (v := 3) hx hb dX13_counts_21 (by decide) ?_
    refine va_put (D := D) (ci := 13) (v := .int 3) (ty := .int) (C := RX13) (T := TX13) (N := 87) hx hb hts hiX13 tyX13 tyX13_ok nmX13 hown hK hP hD hS 0 rfl rfl 61 (by decide) (hts _ flX13_511) (fun _ h9 => h9) rfl (tyX13_ok 61 (by decide)) rfl rfl (Nat.le_of_ble_eq_true rfl) dX13_counts_22 (fun H locs hP hD hS => ?_)
    obtain ⟨hP, hD⟩ := st13_61 hP hD
    exact w_X13_counts_25 C  _ _ _ _ hf hP hD hS (lv_sub hl [0] rfl)
/-! MarbleFloorModel.must(Z)V -/
abbrev wlX13_must : List Cond := Cond.code yX13_must cX13_must 2 none :: tbG
abbrev rmX13_must : Room := { frames := 0, cells := 0, slots := 0, locals := 0 }
theorem qnX13_must : yX13_must.cls = RX13 ∧ yX13_must.cls ≠ "java/lang/invoke/MethodHandle" ∧ yX13_must.cls ≠ "java/lang/invoke/VarHandle" ∧ (parseMethodDescriptor yX13_must.desc).map (fun d => d.parameters.length) = some 1 := by decide +kernel
def f_X13_must  (i0 : Nat → Int32) (r0 : Nat → Nat → Int32) (l0 : Nat → Nat → Int64) (x1 : Int32) : Option ((Nat → Int32)) := if x1 = 0 then (if (i0 61) = 0 then (some ((upd i0 61 1))) else (some (i0))) else (some (i0))
set_option maxRecDepth 100000 in
set_option maxHeartbeats 4000000 in
theorem c_X13_must {l : Launch} {D : va_G} {cs zs : Nat → Nat} {h0 : Nat} {a0 : Nat → Nat} {i0 : Nat → Int32} {r0 : Nat → Nat → Int32} {l0 : Nat → Nat → Int64} {x1 : Int32} {q : (Nat → Int32)} (hf : f_X13_must i0 r0 l0 x1 = some q) : Mv l yX13_must wlX13_must rmX13_must D cs zs [.ref h0, .int x1] (W13 cs h0 a0 i0 r0 l0) (W13 cs h0 a0 q r0 l0) := by
  refine Mv.of RX13 (by decide) rfl (Nat.le_of_ble_eq_true rfl) (fun p e s m below meth c A C hP hD hS ls hl => ?_)
  generalize ([.ref h0, .int x1] : List Value).toArray = args at C ⊢
  obtain ⟨hx, hb, hr, hml, hown, hts, hK, hA, hlocks, hZ⟩ := id C
  have hl : lv_has ls 2 [(0, .ref h0), (1, .int x1)] := hl
  rw [f_X13_must] at hf
  refine lv_iload_n hx hb dX13_must_0 rfl (lv_at hl 1 rfl) ?_
  refine lv_if_ne (tgt := 16) hx hb dX13_must_1 (by decide) (fun hc => ?_) (fun hc => ?_)
  · have hf := ite_f hf hc
    obtain rfl := Option.some.inj hf
    exact k_vret hx hb hr hlocks hK hP hD hS dX13_must_16
  · have hf := ite_t hf hc
    refine lv_aload_n hx hb dX13_must_4 rfl (lv_at hl 0 rfl) ?_
    refine va_get (D := D) (ci := 13) (v := .int (i0 61)) (C := RX13) (T := TX13) (N := 87) hx hb hts hiX13 hown hK hP 0 rfl rfl 61 (by decide) (hts _ flX13_511) (fun _ h9 => h9) rfl dX13_must_5 ?_
    refine lv_if_ne (tgt := 16) hx hb dX13_must_8 (by decide) (fun hc => ?_) (fun hc => ?_)
    · have hf := ite_f hf hc
      obtain rfl := Option.some.inj hf
      exact k_vret hx hb hr hlocks hK hP hD hS dX13_must_16
    · have hf := ite_t hf hc
      refine lv_aload_n hx hb dX13_must_11 rfl (lv_at hl 0 rfl) ?_
      refine lv_iconst (v := 1) hx hb dX13_must_12 (by decide) ?_
      refine va_put (D := D) (ci := 13) (v := .int 1) (ty := .int) (C := RX13) (T := TX13) (N := 87) hx hb hts hiX13 tyX13 tyX13_ok nmX13 hown hK hP hD hS 0 rfl rfl 61 (by decide) (hts _ flX13_511) (fun _ h9 => h9) rfl (tyX13_ok 61 (by decide)) rfl rfl (Nat.le_of_ble_eq_true rfl) dX13_must_13 (fun H locs hP hD hS => ?_)
      obtain ⟨hP, hD⟩ := st13_61 hP hD
      obtain rfl := Option.some.inj hf
      exact k_vret hx hb hr hlocks hK hP hD hS dX13_must_16
/-! MarbleFloorModel.change(IZ)V -/
abbrev wlX13_change : List Cond := Cond.code yX13_change cX13_change 7 none :: tbG
abbrev rmX13_change : Room := { frames := 3, cells := 0, slots := 0, locals := 73 }
theorem qnX13_change : yX13_change.cls = RX13 ∧ yX13_change.cls ≠ "java/lang/invoke/MethodHandle" ∧ yX13_change.cls ≠ "java/lang/invoke/VarHandle" ∧ (parseMethodDescriptor yX13_change.desc).map (fun d => d.parameters.length) = some 2 := by decide +kernel
def f_X13_change_152 (l0 : Nat → Nat → Int64)  (i0 : Nat → Int32) (r0 : Nat → Nat → Int32) (x2 : Int32) (x3 : Int32) (x5 : Int32) (y0 : Int32) : Option ((Nat → Int32) × (Nat → Nat → Int32)) := if y0 = x2 then (ck (inb x3 18) (ck (inb x3 18) (some (i0, (va_up r0 58 (upd (r0 58) x3.toNatClampNeg ((r0 58 x3.toNatClampNeg) - x5))))))) else (ck (inb x3 18) (ck (inb x3 18) (some (i0, (va_up r0 58 (upd (r0 58) x3.toNatClampNeg ((r0 58 x3.toNatClampNeg) + x5)))))))
set_option maxRecDepth 100000 in
set_option maxHeartbeats 4000000 in
theorem w_X13_change_152 {p : Program} {l : Launch} {e : Env} {s : State} {m : MethodId} {args : Array Value} {below : List Frame} {meth : Method} {c : Code} {A : Nat → Prop} {D : va_G} {cs zs : Nat → Nat} {h0 : Nat} {a0 : Nat → Nat} {l0 : Nat → Nat → Int64} {q : (Nat → Int32) × (Nat → Nat → Int32)} (C : Cx p s m args meth c A D cs zs cX13_change 7 none RX13)  : ∀ (i0 : Nat → Int32) (r0 : Nat → Nat → Int32) (x2 : Int32) (x3 : Int32) (x5 : Int32) (y0 : Int32) (H : Heap) (locs : List Loc) (ls : Array Slot), f_X13_change_152 l0 i0 r0 x2 x3 x5 y0 = some q → va_P D vwCl (W13 cs h0 a0 i0 r0 l0) H → va_D A (W13 cs h0 a0 i0 r0 l0) → va_S A s.heap H locs → lv_has ls 7 [(0, .ref h0), (2, .int x2), (3, .int x3), (5, .int x5)] → W p l e rmX13_change s m args below meth c H locs 0 0 (MQ below (Qv D cs A (W13 cs h0 a0 q.1 q.2 l0)) args s 0 0 A) (F0 m 152 ls [.int y0]) := by
  obtain ⟨hx, hb, hr, hml, hown, hts, hK, hA, hlocks, hZ⟩ := id C
  intro i0 r0 x2 x3 x5 y0 H locs ls hf hP hD hS hl
  rw [f_X13_change_152] at hf
  refine lv_iload_n hx hb dX13_change_152 rfl (lv_at hl 1 rfl) ?_
  refine lv_icmp_eq (tgt := 170) hx hb dX13_change_153 (by decide) (fun hc => ?_) (fun hc => ?_)
  · have hf := ite_t hf hc
    refine lv_aload_n hx hb dX13_change_170 rfl (lv_at hl 0 rfl) ?_
    refine va_get (D := D) (ci := 13) (v := .ref (a0 58)) (C := RX13) (T := TX13) (N := 87) hx hb hts hiX13 hown hK hP 0 rfl rfl 58 (by decide) (hts _ flX13_228) (fun _ h9 => h9) rfl dX13_change_171 ?_
    refine lv_iload_n hx hb dX13_change_174 rfl (lv_at hl 2 rfl) ?_
    refine lv_dup2_11 hx hb dX13_change_175 rfl rfl ?_
    refine va_iald (f := r0 58) hx hb hK hP 35 0 rfl rfl (ck_in hf) dX13_change_176 ?_
    have hf := ck_2 hf
    refine lv_iload hx hb dX13_change_177 (lv_at hl 3 rfl) ?_
    refine lv_isub hx hb dX13_change_179 ?_
    refine va_iast (f := r0 58) hx hb hK hP hD hS 35 0 rfl rfl (ck_in hf) dX13_change_180 (fun H locs hP hD hS => ?_)
    have hf := ck_2 hf
    obtain ⟨hP, hD⟩ := st13_58 hP hD
    obtain rfl := Option.some.inj hf
    exact k_vret hx hb hr hlocks hK hP hD hS dX13_change_181
  · have hf := ite_f hf hc
    refine lv_aload_n hx hb dX13_change_156 rfl (lv_at hl 0 rfl) ?_
    refine va_get (D := D) (ci := 13) (v := .ref (a0 58)) (C := RX13) (T := TX13) (N := 87) hx hb hts hiX13 hown hK hP 0 rfl rfl 58 (by decide) (hts _ flX13_228) (fun _ h9 => h9) rfl dX13_change_157 ?_
    refine lv_iload_n hx hb dX13_change_160 rfl (lv_at hl 2 rfl) ?_
    refine lv_dup2_11 hx hb dX13_change_161 rfl rfl ?_
    refine va_iald (f := r0 58) hx hb hK hP 35 0 rfl rfl (ck_in hf) dX13_change_162 ?_
    have hf := ck_2 hf
    refine lv_iload hx hb dX13_change_163 (lv_at hl 3 rfl) ?_
    refine lv_iadd hx hb dX13_change_165 ?_
    refine va_iast (f := r0 58) hx hb hK hP hD hS 35 0 rfl rfl (ck_in hf) dX13_change_166 (fun H locs hP hD hS => ?_)
    have hf := ck_2 hf
    obtain ⟨hP, hD⟩ := st13_58 hP hD
    refine lv_goto (tgt := 181) hx hb dX13_change_167 (by decide) ?_
    obtain rfl := Option.some.inj hf
    exact k_vret hx hb hr hlocks hK hP hD hS dX13_change_181
def f_X13_change  (i0 : Nat → Int32) (r0 : Nat → Nat → Int32) (l0 : Nat → Nat → Int64) (x1 : Int32) (x2 : Int32) : Option ((Nat → Int32) × (Nat → Nat → Int32)) := ck (inb (2 * x1) 240) (ck (inb (2 * x1) 240) (bd (f_X13_placeOf i0 r0 l0 (r0 32 (2 * x1).toNatClampNeg) (r0 33 (2 * x1).toNatClampNeg)) (fun q4 => if q4.1 = (-1) then (some (q4.2, r0)) else (ck (inb x1 120) (if (r0 28 x1.toNatClampNeg) = 3 then (ck (inb ((2 * x1) + 1) 240) (ck (inb ((2 * x1) + 1) 240) (bd (f_X13_placeOf q4.2 r0 l0 (r0 32 ((2 * x1) + 1).toNatClampNeg) (r0 33 ((2 * x1) + 1).toNatClampNeg)) (fun q6 => if q6.1 = (-1) then (some (q6.2, r0)) else (ck (inb q4.1 18) (ck (inb q6.1 18) (ck (inb q4.1 18) (ck (inb q6.1 18) (some (q6.2, (va_up (va_up r0 58 (upd (r0 58) q4.1.toNatClampNeg (r0 58 q6.1.toNatClampNeg))) 58 (upd (upd (r0 58) q4.1.toNatClampNeg (r0 58 q6.1.toNatClampNeg)) q6.1.toNatClampNeg (r0 58 q4.1.toNatClampNeg))))))))))))) else (bd (f_X13_sumOf q4.2 r0 l0 (4 * x1)) (fun q5 => if (q5.2.1 61) ≤ 0 then (if (r0 28 x1.toNatClampNeg) = 2 then (ck (inb q4.1 18) (ck (inb q4.1 18) (some (q5.2.1, (va_up q5.2.2 58 (upd (q5.2.2 58) q4.1.toNatClampNeg ((q5.2.2 58 q4.1.toNatClampNeg) ^^^ q5.1))))))) else (if (r0 28 x1.toNatClampNeg) = 0 then (f_X13_change_152 l0 q5.2.1 q5.2.2 x2 q4.1 q5.1 1) else (f_X13_change_152 l0 q5.2.1 q5.2.2 x2 q4.1 q5.1 0))) else (some (q5.2.1, q5.2.2)))))))))
set_option maxRecDepth 100000 in
set_option maxHeartbeats 4000000 in
theorem c_X13_change {l : Launch} {D : va_G} {cs zs : Nat → Nat} {h0 : Nat} {a0 : Nat → Nat} {i0 : Nat → Int32} {r0 : Nat → Nat → Int32} {l0 : Nat → Nat → Int64} {x1 : Int32} {x2 : Int32} {q : (Nat → Int32) × (Nat → Nat → Int32)} (hf : f_X13_change i0 r0 l0 x1 x2 = some q) : Mv l yX13_change wlX13_change rmX13_change D cs zs [.ref h0, .int x1, .int x2] (W13 cs h0 a0 i0 r0 l0) (W13 cs h0 a0 q.1 q.2 l0) := by
  refine Mv.of RX13 (by decide) rfl (Nat.le_of_ble_eq_true rfl) (fun p e s m below meth c A C hP hD hS ls hl => ?_)
  generalize ([.ref h0, .int x1, .int x2] : List Value).toArray = args at C ⊢
  obtain ⟨hx, hb, hr, hml, hown, hts, hK, hA, hlocks, hZ⟩ := id C
  have hl : lv_has ls 7 [(0, .ref h0), (1, .int x1), (2, .int x2)] := hl
  rw [f_X13_change] at hf
  refine lv_aload_n hx hb dX13_change_0 rfl (lv_at hl 0 rfl) ?_
  refine lv_aload_n hx hb dX13_change_1 rfl (lv_at hl 0 rfl) ?_
  refine va_get (D := D) (ci := 13) (v := .ref (a0 32)) (C := RX13) (T := TX13) (N := 87) hx hb hts hiX13 hown hK hP 0 rfl rfl 32 (by decide) (hts _ flX13_185) (fun _ h9 => h9) rfl dX13_change_2 ?_
  refine lv_iconst (v := 2) hx hb dX13_change_5 (by decide) ?_
  refine lv_iload_n hx hb dX13_change_6 rfl (lv_at hl 1 rfl) ?_
  refine lv_imul hx hb dX13_change_7 ?_
  refine va_iald (f := r0 32) hx hb hK hP 21 0 rfl rfl (ck_in hf) dX13_change_8 ?_
  have hf := ck_2 hf
  refine lv_aload_n hx hb dX13_change_9 rfl (lv_at hl 0 rfl) ?_
  refine va_get (D := D) (ci := 13) (v := .ref (a0 33)) (C := RX13) (T := TX13) (N := 87) hx hb hts hiX13 hown hK hP 0 rfl rfl 33 (by decide) (hts _ flX13_188) (fun _ h9 => h9) rfl dX13_change_10 ?_
  refine lv_iconst (v := 2) hx hb dX13_change_13 (by decide) ?_
  refine lv_iload_n hx hb dX13_change_14 rfl (lv_at hl 1 rfl) ?_
  refine lv_imul hx hb dX13_change_15 ?_
  refine va_iald (f := r0 33) hx hb hK hP 22 0 rfl rfl (ck_in hf) dX13_change_16 ?_
  have hf := ck_2 hf
  obtain ⟨q4, hq4, hf⟩ := bd_s hf
  refine k_sVi (ws2 := W13 cs h0 a0 q4.2 r0 l0) (As := [.int (r0 32 (2 * x1).toNatClampNeg), .int (r0 33 (2 * x1).toNatClampNeg)]) (rest := []) hx hb hml hown hts hK hA hZ hl.1 hP hD hS (c_X13_placeOf (h0 := h0) (a0 := a0) hq4) (gVt mlX13_518 imX13_placeOf seX13_placeOf inX13 coX13_placeOf) rfl qnX13_placeOf rfl rfl ⟨Nat.le_of_ble_eq_true rfl, Nat.le_of_ble_eq_true rfl⟩ 0 13 rfl rfl rfl rfl rfl (Nat.le_of_ble_eq_true rfl) ⟨Nat.zero_le _, Nat.zero_le _⟩ dX13_change_17 (fun H locs hP hD hS => ?_)
  refine lv_istore_n (lv' := [(3, .int q4.1), (0, .ref h0), (1, .int x1), (2, .int x2)]) hx hb dX13_change_20 rfl hl (by decide) rfl (fun ls hl => ?_)
  refine lv_iload_n hx hb dX13_change_21 rfl (lv_at hl 0 rfl) ?_
  refine lv_iconst (v := (-1)) hx hb dX13_change_22 (by decide) ?_
  refine lv_icmp_ne (tgt := 27) hx hb dX13_change_23 (by decide) (fun hc => ?_) (fun hc => ?_)
  · have hf := ite_f hf hc
    refine lv_aload_n hx hb dX13_change_27 rfl (lv_at hl 1 rfl) ?_
    refine va_get (D := D) (ci := 13) (v := .ref (a0 28)) (C := RX13) (T := TX13) (N := 87) hx hb hts hiX13 hown hK hP 0 rfl rfl 28 (by decide) (hts _ flX13_173) (fun _ h9 => h9) rfl dX13_change_28 ?_
    refine lv_iload_n hx hb dX13_change_31 rfl (lv_at hl 2 rfl) ?_
    refine va_iald (f := r0 28) hx hb hK hP 17 0 rfl rfl (ck_in hf) dX13_change_32 ?_
    have hf := ck_2 hf
    refine lv_istore (lv' := [(4, .int (r0 28 x1.toNatClampNeg)), (3, .int q4.1), (0, .ref h0), (1, .int x1), (2, .int x2)]) hx hb dX13_change_33 hl (by decide) rfl (fun ls hl => ?_)
    refine lv_iload hx hb dX13_change_35 (lv_at hl 0 rfl) ?_
    refine lv_iconst (v := 3) hx hb dX13_change_37 (by decide) ?_
    refine lv_icmp_ne (tgt := 105) hx hb dX13_change_38 (by decide) (fun hc => ?_) (fun hc => ?_)
    · have hf := ite_f hf hc
      refine lv_aload_n hx hb dX13_change_105 rfl (lv_at hl 2 rfl) ?_
      refine lv_iconst (v := 4) hx hb dX13_change_106 (by decide) ?_
      refine lv_iload_n hx hb dX13_change_107 rfl (lv_at hl 3 rfl) ?_
      refine lv_imul hx hb dX13_change_108 ?_
      obtain ⟨q5, hq5, hf⟩ := bd_s hf
      refine k_sVi (ws2 := W13 cs h0 a0 q5.2.1 q5.2.2 l0) (As := [.int (4 * x1)]) (rest := []) hx hb hml hown hts hK hA hZ hl.1 hP hD hS (c_X13_sumOf (h0 := h0) (a0 := a0) hq5) (gVt mlX13_521 imX13_sumOf seX13_sumOf inX13 coX13_sumOf) rfl qnX13_sumOf rfl rfl ⟨Nat.le_of_ble_eq_true rfl, Nat.le_of_ble_eq_true rfl⟩ 0 13 rfl rfl rfl rfl rfl (Nat.le_of_ble_eq_true rfl) ⟨Nat.zero_le _, Nat.zero_le _⟩ dX13_change_109 (fun H locs hP hD hS => ?_)
      refine lv_istore (lv' := [(5, .int q5.1), (4, .int (r0 28 x1.toNatClampNeg)), (3, .int q4.1), (0, .ref h0), (1, .int x1), (2, .int x2)]) hx hb dX13_change_112 hl (by decide) rfl (fun ls hl => ?_)
      refine lv_aload_n hx hb dX13_change_114 rfl (lv_at hl 3 rfl) ?_
      refine va_get (D := D) (ci := 13) (v := .int (q5.2.1 61)) (C := RX13) (T := TX13) (N := 87) hx hb hts hiX13 hown hK hP 0 rfl rfl 61 (by decide) (hts _ flX13_511) (fun _ h9 => h9) rfl dX13_change_115 ?_
      refine lv_if_le (tgt := 122) hx hb dX13_change_118 (by decide) (fun hc => ?_) (fun hc => ?_)
      · have hf := ite_t hf hc
        refine lv_iload hx hb dX13_change_122 (lv_at hl 1 rfl) ?_
        refine lv_iconst (v := 2) hx hb dX13_change_124 (by decide) ?_
        refine lv_icmp_ne (tgt := 142) hx hb dX13_change_125 (by decide) (fun hc => ?_) (fun hc => ?_)
        · have hf := ite_f hf hc
          refine lv_iload hx hb dX13_change_142 (lv_at hl 1 rfl) ?_
          refine lv_if_ne (tgt := 151) hx hb dX13_change_144 (by decide) (fun hc => ?_) (fun hc => ?_)
          · have hf := ite_f hf hc
            refine lv_iconst (v := 0) hx hb dX13_change_151 (by decide) ?_
            exact w_X13_change_152 C  _ _ _ _ _ _ _ _ _ hf hP hD hS (lv_sub hl [3, 5, 2, 0] rfl)
          · have hf := ite_t hf hc
            refine lv_iconst (v := 1) hx hb dX13_change_147 (by decide) ?_
            refine lv_goto (tgt := 152) hx hb dX13_change_148 (by decide) ?_
            exact w_X13_change_152 C  _ _ _ _ _ _ _ _ _ hf hP hD hS (lv_sub hl [3, 5, 2, 0] rfl)
        · have hf := ite_t hf hc
          refine lv_aload_n hx hb dX13_change_128 rfl (lv_at hl 3 rfl) ?_
          refine va_get (D := D) (ci := 13) (v := .ref (a0 58)) (C := RX13) (T := TX13) (N := 87) hx hb hts hiX13 hown hK hP 0 rfl rfl 58 (by decide) (hts _ flX13_228) (fun _ h9 => h9) rfl dX13_change_129 ?_
          refine lv_iload_n hx hb dX13_change_132 rfl (lv_at hl 2 rfl) ?_
          refine lv_dup2_11 hx hb dX13_change_133 rfl rfl ?_
          refine va_iald (f := q5.2.2 58) hx hb hK hP 35 0 rfl rfl (ck_in hf) dX13_change_134 ?_
          have hf := ck_2 hf
          refine lv_iload hx hb dX13_change_135 (lv_at hl 0 rfl) ?_
          refine lv_ixor hx hb dX13_change_137 ?_
          refine va_iast (f := q5.2.2 58) hx hb hK hP hD hS 35 0 rfl rfl (ck_in hf) dX13_change_138 (fun H locs hP hD hS => ?_)
          have hf := ck_2 hf
          obtain ⟨hP, hD⟩ := st13_58 hP hD
          refine lv_goto (tgt := 181) hx hb dX13_change_139 (by decide) ?_
          obtain rfl := Option.some.inj hf
          exact k_vret hx hb hr hlocks hK hP hD hS dX13_change_181
      · have hf := ite_f hf hc
        obtain rfl := Option.some.inj hf
        exact k_vret hx hb hr hlocks hK hP hD hS dX13_change_121
    · have hf := ite_t hf hc
      refine lv_aload_n hx hb dX13_change_41 rfl (lv_at hl 2 rfl) ?_
      refine lv_aload_n hx hb dX13_change_42 rfl (lv_at hl 2 rfl) ?_
      refine va_get (D := D) (ci := 13) (v := .ref (a0 32)) (C := RX13) (T := TX13) (N := 87) hx hb hts hiX13 hown hK hP 0 rfl rfl 32 (by decide) (hts _ flX13_185) (fun _ h9 => h9) rfl dX13_change_43 ?_
      refine lv_iconst (v := 2) hx hb dX13_change_46 (by decide) ?_
      refine lv_iload_n hx hb dX13_change_47 rfl (lv_at hl 3 rfl) ?_
      refine lv_imul hx hb dX13_change_48 ?_
      refine lv_iconst (v := 1) hx hb dX13_change_49 (by decide) ?_
      refine lv_iadd hx hb dX13_change_50 ?_
      refine va_iald (f := r0 32) hx hb hK hP 21 0 rfl rfl (ck_in hf) dX13_change_51 ?_
      have hf := ck_2 hf
      refine lv_aload_n hx hb dX13_change_52 rfl (lv_at hl 2 rfl) ?_
      refine va_get (D := D) (ci := 13) (v := .ref (a0 33)) (C := RX13) (T := TX13) (N := 87) hx hb hts hiX13 hown hK hP 0 rfl rfl 33 (by decide) (hts _ flX13_188) (fun _ h9 => h9) rfl dX13_change_53 ?_
      refine lv_iconst (v := 2) hx hb dX13_change_56 (by decide) ?_
      refine lv_iload_n hx hb dX13_change_57 rfl (lv_at hl 3 rfl) ?_
      refine lv_imul hx hb dX13_change_58 ?_
      refine lv_iconst (v := 1) hx hb dX13_change_59 (by decide) ?_
      refine lv_iadd hx hb dX13_change_60 ?_
      refine va_iald (f := r0 33) hx hb hK hP 22 0 rfl rfl (ck_in hf) dX13_change_61 ?_
      have hf := ck_2 hf
      obtain ⟨q6, hq6, hf⟩ := bd_s hf
      refine k_sVi (ws2 := W13 cs h0 a0 q6.2 r0 l0) (As := [.int (r0 32 ((2 * x1) + 1).toNatClampNeg), .int (r0 33 ((2 * x1) + 1).toNatClampNeg)]) (rest := []) hx hb hml hown hts hK hA hZ hl.1 hP hD hS (c_X13_placeOf (h0 := h0) (a0 := a0) hq6) (gVt mlX13_518 imX13_placeOf seX13_placeOf inX13 coX13_placeOf) rfl qnX13_placeOf rfl rfl ⟨Nat.le_of_ble_eq_true rfl, Nat.le_of_ble_eq_true rfl⟩ 0 13 rfl rfl rfl rfl rfl (Nat.le_of_ble_eq_true rfl) ⟨Nat.zero_le _, Nat.zero_le _⟩ dX13_change_62 (fun H locs hP hD hS => ?_)
      refine lv_istore (lv' := [(5, .int q6.1), (4, .int (r0 28 x1.toNatClampNeg)), (3, .int q4.1), (0, .ref h0), (1, .int x1), (2, .int x2)]) hx hb dX13_change_65 hl (by decide) rfl (fun ls hl => ?_)
      refine lv_iload hx hb dX13_change_67 (lv_at hl 0 rfl) ?_
      refine lv_iconst (v := (-1)) hx hb dX13_change_69 (by decide) ?_
      refine lv_icmp_ne (tgt := 74) hx hb dX13_change_70 (by decide) (fun hc => ?_) (fun hc => ?_)
      · have hf := ite_f hf hc
        refine lv_aload_n hx hb dX13_change_74 rfl (lv_at hl 3 rfl) ?_
        refine va_get (D := D) (ci := 13) (v := .ref (a0 58)) (C := RX13) (T := TX13) (N := 87) hx hb hts hiX13 hown hK hP 0 rfl rfl 58 (by decide) (hts _ flX13_228) (fun _ h9 => h9) rfl dX13_change_75 ?_
        refine lv_iload_n hx hb dX13_change_78 rfl (lv_at hl 2 rfl) ?_
        refine va_iald (f := r0 58) hx hb hK hP 35 0 rfl rfl (ck_in hf) dX13_change_79 ?_
        have hf := ck_2 hf
        refine lv_istore (lv' := [(6, .int (r0 58 q4.1.toNatClampNeg)), (5, .int q6.1), (4, .int (r0 28 x1.toNatClampNeg)), (3, .int q4.1), (0, .ref h0), (1, .int x1), (2, .int x2)]) hx hb dX13_change_80 hl (by decide) rfl (fun ls hl => ?_)
        refine lv_aload_n hx hb dX13_change_82 rfl (lv_at hl 4 rfl) ?_
        refine va_get (D := D) (ci := 13) (v := .ref (a0 58)) (C := RX13) (T := TX13) (N := 87) hx hb hts hiX13 hown hK hP 0 rfl rfl 58 (by decide) (hts _ flX13_228) (fun _ h9 => h9) rfl dX13_change_83 ?_
        refine lv_iload_n hx hb dX13_change_86 rfl (lv_at hl 3 rfl) ?_
        refine lv_aload_n hx hb dX13_change_87 rfl (lv_at hl 4 rfl) ?_
        refine va_get (D := D) (ci := 13) (v := .ref (a0 58)) (C := RX13) (T := TX13) (N := 87) hx hb hts hiX13 hown hK hP 0 rfl rfl 58 (by decide) (hts _ flX13_228) (fun _ h9 => h9) rfl dX13_change_88 ?_
        refine lv_iload hx hb dX13_change_91 (lv_at hl 1 rfl) ?_
        refine va_iald (f := r0 58) hx hb hK hP 35 0 rfl rfl (ck_in hf) dX13_change_93 ?_
        have hf := ck_2 hf
        refine va_iast (f := r0 58) hx hb hK hP hD hS 35 0 rfl rfl (ck_in hf) dX13_change_94 (fun H locs hP hD hS => ?_)
        have hf := ck_2 hf
        obtain ⟨hP, hD⟩ := st13_58 hP hD
        refine lv_aload_n hx hb dX13_change_95 rfl (lv_at hl 4 rfl) ?_
        refine va_get (D := D) (ci := 13) (v := .ref (a0 58)) (C := RX13) (T := TX13) (N := 87) hx hb hts hiX13 hown hK hP 0 rfl rfl 58 (by decide) (hts _ flX13_228) (fun _ h9 => h9) rfl dX13_change_96 ?_
        refine lv_iload hx hb dX13_change_99 (lv_at hl 1 rfl) ?_
        refine lv_iload hx hb dX13_change_101 (lv_at hl 0 rfl) ?_
        refine va_iast (f := upd (r0 58) q4.1.toNatClampNeg (r0 58 q6.1.toNatClampNeg)) hx hb hK hP hD hS 35 0 rfl rfl (ck_in hf) dX13_change_103 (fun H locs hP hD hS => ?_)
        have hf := ck_2 hf
        obtain ⟨hP, hD⟩ := st13_58 hP hD
        obtain rfl := Option.some.inj hf
        exact k_vret hx hb hr hlocks hK hP hD hS dX13_change_104
      · have hf := ite_t hf hc
        obtain rfl := Option.some.inj hf
        exact k_vret hx hb hr hlocks hK hP hD hS dX13_change_73
  · have hf := ite_t hf hc
    obtain rfl := Option.some.inj hf
    exact k_vret hx hb hr hlocks hK hP hD hS dX13_change_26
/-! MarbleFloorModel.varOf(I)I -/
abbrev wlX13_varOf : List Cond := Cond.code yX13_varOf cX13_varOf 1 (some .int) :: tbG
abbrev rmX13_varOf : Room := { frames := 1, cells := 0, slots := 0, locals := 25 }
theorem qnX13_varOf : yX13_varOf.cls ≠ "java/lang/invoke/MethodHandle" ∧ yX13_varOf.cls ≠ "java/lang/invoke/VarHandle" ∧ (parseMethodDescriptor yX13_varOf.desc).map (fun d => d.parameters.length) = some 1 := by decide +kernel
def f_X13_varOf   (x0 : Int32) : Option (Int32) := bd (f_X13_in x0.toInt64 0 7) (fun q3 => if q3 = 0 then (bd (f_X13_in x0.toInt64 10 19) (fun q4 => if q4 = 0 then (some ((-1))) else (some (x0 - 2)))) else (some (x0)))
set_option maxRecDepth 100000 in
set_option maxHeartbeats 4000000 in
theorem c_X13_varOf {l : Launch} {D : va_G} {cs zs : Nat → Nat}   {x0 : Int32} {q : Int32} (hf : f_X13_varOf x0 = some q) : Mi l yX13_varOf wlX13_varOf rmX13_varOf D cs zs [.int x0] (([] : va_W)) q (([] : va_W)) := by
  refine Mi.of RX13 (by decide) rfl (Nat.le_of_ble_eq_true rfl) (fun p e s m below meth c A C hP hD hS ls hl => ?_)
  generalize ([.int x0] : List Value).toArray = args at C ⊢
  obtain ⟨hx, hb, hr, hml, hown, hts, hK, hA, hlocks, hZ⟩ := id C
  have hl : lv_has ls 1 [(0, .int x0)] := hl
  rw [f_X13_varOf] at hf
  refine lv_iload_n hx hb dX13_varOf_0 rfl (lv_at hl 0 rfl) ?_
  refine lv_i2l hx hb dX13_varOf_1 rfl ?_
  refine lv_lconst (v := 0) hx hb dX13_varOf_2 (by decide) ?_
  refine lv_ldc2 (v := 7) hx hb hown (hts _ kcX13_563) dX13_varOf_3 ?_
  obtain ⟨q3, hq3, hf⟩ := bd_s hf
  refine k_eSi (As := [.long x0.toInt64, .long 0, .long 7]) (rest := []) hx hb hml hown hts hK hA hZ hl.1 hP hD hS (c_X13_in  hq3) (gSt mlX13_64 stX13_in inX13 coX13_in) rfl qnX13_in rfl rfl ⟨Nat.le_of_ble_eq_true rfl, Nat.le_of_ble_eq_true rfl⟩ rfl rfl (Nat.le_of_ble_eq_true rfl) ⟨Nat.zero_le _, Nat.zero_le _⟩ dX13_varOf_6 (fun H locs hP hD hS => ?_)
  refine lv_if_eq (tgt := 16) hx hb dX13_varOf_9 (by decide) (fun hc => ?_) (fun hc => ?_)
  · have hf := ite_t hf hc
    refine lv_iload_n hx hb dX13_varOf_16 rfl (lv_at hl 0 rfl) ?_
    refine lv_i2l hx hb dX13_varOf_17 rfl ?_
    refine lv_ldc2 (v := 10) hx hb hown (hts _ kcX13_565) dX13_varOf_18 ?_
    refine lv_ldc2 (v := 19) hx hb hown (hts _ kcX13_567) dX13_varOf_21 ?_
    obtain ⟨q4, hq4, hf⟩ := bd_s hf
    refine k_eSi (As := [.long x0.toInt64, .long 10, .long 19]) (rest := []) hx hb hml hown hts hK hA hZ hl.1 hP hD hS (c_X13_in  hq4) (gSt mlX13_64 stX13_in inX13 coX13_in) rfl qnX13_in rfl rfl ⟨Nat.le_of_ble_eq_true rfl, Nat.le_of_ble_eq_true rfl⟩ rfl rfl (Nat.le_of_ble_eq_true rfl) ⟨Nat.zero_le _, Nat.zero_le _⟩ dX13_varOf_24 (fun H locs hP hD hS => ?_)
    refine lv_if_eq (tgt := 36) hx hb dX13_varOf_27 (by decide) (fun hc => ?_) (fun hc => ?_)
    · have hf := ite_t hf hc
      refine lv_iconst (v := (-1)) hx hb dX13_varOf_36 (by decide) ?_
      obtain rfl := Option.some.inj hf
      exact k_iret hx hb hr hlocks hK hP hD hS dX13_varOf_37
    · have hf := ite_f hf hc
      refine lv_iload_n hx hb dX13_varOf_30 rfl (lv_at hl 0 rfl) ?_
      refine lv_iconst (v := 2) hx hb dX13_varOf_31 (by decide) ?_
      refine lv_isub hx hb dX13_varOf_32 ?_
      refine lv_goto (tgt := 37) hx hb dX13_varOf_33 (by decide) ?_
      obtain rfl := Option.some.inj hf
      exact k_iret hx hb hr hlocks hK hP hD hS dX13_varOf_37
  · have hf := ite_f hf hc
    refine lv_iload_n hx hb dX13_varOf_12 rfl (lv_at hl 0 rfl) ?_
    refine lv_goto (tgt := 37) hx hb dX13_varOf_13 (by decide) ?_
    obtain rfl := Option.some.inj hf
    exact k_iret hx hb hr hlocks hK hP hD hS dX13_varOf_37
/-! MarbleFloorModel.let(II)I -/
abbrev wlX13_let : List Cond := Cond.code yX13_let cX13_let 5 (some .int) :: tbG
abbrev rmX13_let : Room := { frames := 2, cells := 0, slots := 0, locals := 45 }
theorem qnX13_let : yX13_let.cls = RX13 ∧ yX13_let.cls ≠ "java/lang/invoke/MethodHandle" ∧ yX13_let.cls ≠ "java/lang/invoke/VarHandle" ∧ (parseMethodDescriptor yX13_let.desc).map (fun d => d.parameters.length) = some 2 := by decide +kernel
def f_X13_let  (i0 : Nat → Int32) (r0 : Nat → Nat → Int32) (l0 : Nat → Nat → Int64) (x1 : Int32) (x2 : Int32) : Option (Int32 × (Nat → Nat → Int32)) := bd (f_X13_varOf x1) (fun q2 => if q2 = (-1) then (some ((-2000000000), r0)) else (ck (inb q2 18) (ck (inb q2 18) (some (r0 58 q2.toNatClampNeg, (va_up r0 58 (upd (r0 58) q2.toNatClampNeg x2)))))))
set_option maxRecDepth 100000 in
set_option maxHeartbeats 4000000 in
theorem c_X13_let {l : Launch} {D : va_G} {cs zs : Nat → Nat} {h0 : Nat} {a0 : Nat → Nat} {i0 : Nat → Int32} {r0 : Nat → Nat → Int32} {l0 : Nat → Nat → Int64} {x1 : Int32} {x2 : Int32} {q : Int32 × (Nat → Nat → Int32)} (hf : f_X13_let i0 r0 l0 x1 x2 = some q) : Mi l yX13_let wlX13_let rmX13_let D cs zs [.ref h0, .int x1, .int x2] (W13 cs h0 a0 i0 r0 l0) q.1 (W13 cs h0 a0 i0 q.2 l0) := by
  refine Mi.of RX13 (by decide) rfl (Nat.le_of_ble_eq_true rfl) (fun p e s m below meth c A C hP hD hS ls hl => ?_)
  generalize ([.ref h0, .int x1, .int x2] : List Value).toArray = args at C ⊢
  obtain ⟨hx, hb, hr, hml, hown, hts, hK, hA, hlocks, hZ⟩ := id C
  have hl : lv_has ls 5 [(0, .ref h0), (1, .int x1), (2, .int x2)] := hl
  rw [f_X13_let] at hf
  refine lv_iload_n hx hb dX13_let_0 rfl (lv_at hl 1 rfl) ?_
  obtain ⟨q2, hq2, hf⟩ := bd_s hf
  refine k_eSi (As := [.int x1]) (rest := []) hx hb hml hown hts hK hA hZ hl.1 hP hD hS (c_X13_varOf  hq2) (gSt mlX13_569 stX13_varOf inX13 coX13_varOf) rfl qnX13_varOf rfl rfl ⟨Nat.le_of_ble_eq_true rfl, Nat.le_of_ble_eq_true rfl⟩ rfl rfl (Nat.le_of_ble_eq_true rfl) ⟨Nat.zero_le _, Nat.zero_le _⟩ dX13_let_1 (fun H locs hP hD hS => ?_)
  refine lv_istore_n (lv' := [(3, .int q2), (0, .ref h0), (1, .int x1), (2, .int x2)]) hx hb dX13_let_4 rfl hl (by decide) rfl (fun ls hl => ?_)
  refine lv_iload_n hx hb dX13_let_5 rfl (lv_at hl 0 rfl) ?_
  refine lv_iconst (v := (-1)) hx hb dX13_let_6 (by decide) ?_
  refine lv_icmp_ne (tgt := 14) hx hb dX13_let_7 (by decide) (fun hc => ?_) (fun hc => ?_)
  · have hf := ite_f hf hc
    refine lv_aload_n hx hb dX13_let_14 rfl (lv_at hl 1 rfl) ?_
    refine va_get (D := D) (ci := 13) (v := .ref (a0 58)) (C := RX13) (T := TX13) (N := 87) hx hb hts hiX13 hown hK hP 0 rfl rfl 58 (by decide) (hts _ flX13_228) (fun _ h9 => h9) rfl dX13_let_15 ?_
    refine lv_iload_n hx hb dX13_let_18 rfl (lv_at hl 0 rfl) ?_
    refine va_iald (f := r0 58) hx hb hK hP 35 0 rfl rfl (ck_in hf) dX13_let_19 ?_
    have hf := ck_2 hf
    refine lv_istore (lv' := [(4, .int (r0 58 q2.toNatClampNeg)), (3, .int q2), (0, .ref h0), (1, .int x1), (2, .int x2)]) hx hb dX13_let_20 hl (by decide) rfl (fun ls hl => ?_)
    refine lv_aload_n hx hb dX13_let_22 rfl (lv_at hl 2 rfl) ?_
    refine va_get (D := D) (ci := 13) (v := .ref (a0 58)) (C := RX13) (T := TX13) (N := 87) hx hb hts hiX13 hown hK hP 0 rfl rfl 58 (by decide) (hts _ flX13_228) (fun _ h9 => h9) rfl dX13_let_23 ?_
    refine lv_iload_n hx hb dX13_let_26 rfl (lv_at hl 1 rfl) ?_
    refine lv_iload_n hx hb dX13_let_27 rfl (lv_at hl 4 rfl) ?_
    refine va_iast (f := r0 58) hx hb hK hP hD hS 35 0 rfl rfl (ck_in hf) dX13_let_28 (fun H locs hP hD hS => ?_)
    have hf := ck_2 hf
    obtain ⟨hP, hD⟩ := st13_58 hP hD
    refine lv_iload hx hb dX13_let_29 (lv_at hl 0 rfl) ?_
    obtain rfl := Option.some.inj hf
    exact k_iret hx hb hr hlocks hK hP hD hS dX13_let_31
  · have hf := ite_t hf hc
    refine lv_ldcw (v := (-2000000000)) hx hb hown (hts _ kcX13_572) dX13_let_10 ?_
    obtain rfl := Option.some.inj hf
    exact k_iret hx hb hr hlocks hK hP hD hS dX13_let_13
/-! MarbleFloorModel.value(I)I -/
abbrev wlX13_value : List Cond := Cond.code yX13_value cX13_value 2 (some .int) :: tbG
abbrev rmX13_value : Room := { frames := 2, cells := 0, slots := 0, locals := 45 }
theorem qnX13_value : yX13_value.cls = RX13 ∧ yX13_value.cls ≠ "java/lang/invoke/MethodHandle" ∧ yX13_value.cls ≠ "java/lang/invoke/VarHandle" ∧ (parseMethodDescriptor yX13_value.desc).map (fun d => d.parameters.length) = some 1 := by decide +kernel
def f_X13_value  (i0 : Nat → Int32) (r0 : Nat → Nat → Int32) (l0 : Nat → Nat → Int64) (x1 : Int32) : Option (Int32) := bd (f_X13_varOf x1) (fun q3 => if q3 = (-1) then (some ((-2000000000))) else (bd (f_X13_varOf x1) (fun q4 => ck (inb q4 18) (some (r0 58 q4.toNatClampNeg)))))
set_option maxRecDepth 100000 in
set_option maxHeartbeats 4000000 in
theorem c_X13_value {l : Launch} {D : va_G} {cs zs : Nat → Nat} {h0 : Nat} {a0 : Nat → Nat} {i0 : Nat → Int32} {r0 : Nat → Nat → Int32} {l0 : Nat → Nat → Int64} {x1 : Int32} {q : Int32} (hf : f_X13_value i0 r0 l0 x1 = some q) : Mi l yX13_value wlX13_value rmX13_value D cs zs [.ref h0, .int x1] (W13 cs h0 a0 i0 r0 l0) q (W13 cs h0 a0 i0 r0 l0) := by
  refine Mi.of RX13 (by decide) rfl (Nat.le_of_ble_eq_true rfl) (fun p e s m below meth c A C hP hD hS ls hl => ?_)
  generalize ([.ref h0, .int x1] : List Value).toArray = args at C ⊢
  obtain ⟨hx, hb, hr, hml, hown, hts, hK, hA, hlocks, hZ⟩ := id C
  have hl : lv_has ls 2 [(0, .ref h0), (1, .int x1)] := hl
  rw [f_X13_value] at hf
  refine lv_iload_n hx hb dX13_value_0 rfl (lv_at hl 1 rfl) ?_
  obtain ⟨q3, hq3, hf⟩ := bd_s hf
  refine k_eSi (As := [.int x1]) (rest := []) hx hb hml hown hts hK hA hZ hl.1 hP hD hS (c_X13_varOf  hq3) (gSt mlX13_569 stX13_varOf inX13 coX13_varOf) rfl qnX13_varOf rfl rfl ⟨Nat.le_of_ble_eq_true rfl, Nat.le_of_ble_eq_true rfl⟩ rfl rfl (Nat.le_of_ble_eq_true rfl) ⟨Nat.zero_le _, Nat.zero_le _⟩ dX13_value_1 (fun H locs hP hD hS => ?_)
  refine lv_iconst (v := (-1)) hx hb dX13_value_4 (by decide) ?_
  refine lv_icmp_ne (tgt := 14) hx hb dX13_value_5 (by decide) (fun hc => ?_) (fun hc => ?_)
  · have hf := ite_f hf hc
    refine lv_aload_n hx hb dX13_value_14 rfl (lv_at hl 0 rfl) ?_
    refine va_get (D := D) (ci := 13) (v := .ref (a0 58)) (C := RX13) (T := TX13) (N := 87) hx hb hts hiX13 hown hK hP 0 rfl rfl 58 (by decide) (hts _ flX13_228) (fun _ h9 => h9) rfl dX13_value_15 ?_
    refine lv_iload_n hx hb dX13_value_18 rfl (lv_at hl 1 rfl) ?_
    obtain ⟨q4, hq4, hf⟩ := bd_s hf
    refine k_eSi (As := [.int x1]) (rest := [.ref (a0 58)]) hx hb hml hown hts hK hA hZ hl.1 hP hD hS (c_X13_varOf  hq4) (gSt mlX13_569 stX13_varOf inX13 coX13_varOf) rfl qnX13_varOf rfl rfl ⟨Nat.le_of_ble_eq_true rfl, Nat.le_of_ble_eq_true rfl⟩ rfl rfl (Nat.le_of_ble_eq_true rfl) ⟨Nat.zero_le _, Nat.zero_le _⟩ dX13_value_19 (fun H locs hP hD hS => ?_)
    refine va_iald (f := r0 58) hx hb hK hP 35 0 rfl rfl (ck_in hf) dX13_value_22 ?_
    have hf := ck_2 hf
    obtain rfl := Option.some.inj hf
    exact k_iret hx hb hr hlocks hK hP hD hS dX13_value_23
  · have hf := ite_t hf hc
    refine lv_ldcw (v := (-2000000000)) hx hb hown (hts _ kcX13_572) dX13_value_8 ?_
    refine lv_goto (tgt := 23) hx hb dX13_value_11 (by decide) ?_
    obtain rfl := Option.some.inj hf
    exact k_iret hx hb hr hlocks hK hP hD hS dX13_value_23
/-! MarbleFloorModel.trouble(I)I -/
abbrev wlX13_trouble : List Cond := Cond.code yX13_trouble cX13_trouble 2 (some .int) :: tbG
abbrev rmX13_trouble : Room := { frames := 0, cells := 0, slots := 0, locals := 0 }
theorem qnX13_trouble : yX13_trouble.cls = RX13 ∧ yX13_trouble.cls ≠ "java/lang/invoke/MethodHandle" ∧ yX13_trouble.cls ≠ "java/lang/invoke/VarHandle" ∧ (parseMethodDescriptor yX13_trouble.desc).map (fun d => d.parameters.length) = some 1 := by decide +kernel
def f_X13_trouble  (i0 : Nat → Int32) (r0 : Nat → Nat → Int32) (l0 : Nat → Nat → Int64) (x1 : Int32) : Option (Int32) := if x1 = 0 then (some (i0 61)) else (if x1 = 1 then (some (i0 62)) else (some ((-1))))
set_option maxRecDepth 100000 in
set_option maxHeartbeats 4000000 in
theorem c_X13_trouble {l : Launch} {D : va_G} {cs zs : Nat → Nat} {h0 : Nat} {a0 : Nat → Nat} {i0 : Nat → Int32} {r0 : Nat → Nat → Int32} {l0 : Nat → Nat → Int64} {x1 : Int32} {q : Int32} (hf : f_X13_trouble i0 r0 l0 x1 = some q) : Mi l yX13_trouble wlX13_trouble rmX13_trouble D cs zs [.ref h0, .int x1] (W13 cs h0 a0 i0 r0 l0) q (W13 cs h0 a0 i0 r0 l0) := by
  refine Mi.of RX13 (by decide) rfl (Nat.le_of_ble_eq_true rfl) (fun p e s m below meth c A C hP hD hS ls hl => ?_)
  generalize ([.ref h0, .int x1] : List Value).toArray = args at C ⊢
  obtain ⟨hx, hb, hr, hml, hown, hts, hK, hA, hlocks, hZ⟩ := id C
  have hl : lv_has ls 2 [(0, .ref h0), (1, .int x1)] := hl
  rw [f_X13_trouble] at hf
  refine lv_iload_n hx hb dX13_trouble_0 rfl (lv_at hl 1 rfl) ?_
  refine lv_if_ne (tgt := 11) hx hb dX13_trouble_1 (by decide) (fun hc => ?_) (fun hc => ?_)
  · have hf := ite_f hf hc
    refine lv_iload_n hx hb dX13_trouble_11 rfl (lv_at hl 1 rfl) ?_
    refine lv_iconst (v := 1) hx hb dX13_trouble_12 (by decide) ?_
    refine lv_icmp_ne (tgt := 23) hx hb dX13_trouble_13 (by decide) (fun hc => ?_) (fun hc => ?_)
    · have hf := ite_f hf hc
      refine lv_iconst (v := (-1)) hx hb dX13_trouble_23 (by decide) ?_
      obtain rfl := Option.some.inj hf
      exact k_iret hx hb hr hlocks hK hP hD hS dX13_trouble_24
    · have hf := ite_t hf hc
      refine lv_aload_n hx hb dX13_trouble_16 rfl (lv_at hl 0 rfl) ?_
      refine va_get (D := D) (ci := 13) (v := .int (i0 62)) (C := RX13) (T := TX13) (N := 87) hx hb hts hiX13 hown hK hP 0 rfl rfl 62 (by decide) (hts _ flX13_524) (fun _ h9 => h9) rfl dX13_trouble_17 ?_
      refine lv_goto (tgt := 24) hx hb dX13_trouble_20 (by decide) ?_
      obtain rfl := Option.some.inj hf
      exact k_iret hx hb hr hlocks hK hP hD hS dX13_trouble_24
  · have hf := ite_t hf hc
    refine lv_aload_n hx hb dX13_trouble_4 rfl (lv_at hl 0 rfl) ?_
    refine va_get (D := D) (ci := 13) (v := .int (i0 61)) (C := RX13) (T := TX13) (N := 87) hx hb hts hiX13 hown hK hP 0 rfl rfl 61 (by decide) (hts _ flX13_511) (fun _ h9 => h9) rfl dX13_trouble_5 ?_
    refine lv_goto (tgt := 24) hx hb dX13_trouble_8 (by decide) ?_
    obtain rfl := Option.some.inj hf
    exact k_iret hx hb hr hlocks hK hP hD hS dX13_trouble_24
/-! MarbleFloorModel.isCell(II)Z -/
abbrev wlX13_isCell : List Cond := Cond.code yX13_isCell cX13_isCell 3 (some .boolean) :: tbG
abbrev rmX13_isCell : Room := { frames := 1, cells := 0, slots := 0, locals := 25 }
theorem qnX13_isCell : yX13_isCell.cls = RX13 ∧ yX13_isCell.cls ≠ "java/lang/invoke/MethodHandle" ∧ yX13_isCell.cls ≠ "java/lang/invoke/VarHandle" ∧ (parseMethodDescriptor yX13_isCell.desc).map (fun d => d.parameters.length) = some 2 := by decide +kernel
def f_X13_isCell  (i0 : Nat → Int32) (r0 : Nat → Nat → Int32) (l0 : Nat → Nat → Int64) (x1 : Int32) (x2 : Int32) : Option (Int32) := bd (f_X13_in x1.toInt64 0 (((i0 64).toInt64) - 1)) (fun q3 => if q3 = 0 then (some (0)) else (bd (f_X13_in x2.toInt64 0 (((i0 65).toInt64) - 1)) (fun q4 => if q4 = 0 then (some (0)) else (some (1)))))
set_option maxRecDepth 100000 in
set_option maxHeartbeats 4000000 in
theorem c_X13_isCell {l : Launch} {D : va_G} {cs zs : Nat → Nat} {h0 : Nat} {a0 : Nat → Nat} {i0 : Nat → Int32} {r0 : Nat → Nat → Int32} {l0 : Nat → Nat → Int64} {x1 : Int32} {x2 : Int32} {q : Int32} (hf : f_X13_isCell i0 r0 l0 x1 x2 = some q) : Mi l yX13_isCell wlX13_isCell rmX13_isCell D cs zs [.ref h0, .int x1, .int x2] (W13 cs h0 a0 i0 r0 l0) q (W13 cs h0 a0 i0 r0 l0) := by
  refine Mi.of RX13 (by decide) rfl (Nat.le_of_ble_eq_true rfl) (fun p e s m below meth c A C hP hD hS ls hl => ?_)
  generalize ([.ref h0, .int x1, .int x2] : List Value).toArray = args at C ⊢
  obtain ⟨hx, hb, hr, hml, hown, hts, hK, hA, hlocks, hZ⟩ := id C
  have hl : lv_has ls 3 [(0, .ref h0), (1, .int x1), (2, .int x2)] := hl
  rw [f_X13_isCell] at hf
  refine lv_iload_n hx hb dX13_isCell_0 rfl (lv_at hl 1 rfl) ?_
  refine lv_i2l hx hb dX13_isCell_1 rfl ?_
  refine lv_lconst (v := 0) hx hb dX13_isCell_2 (by decide) ?_
  refine lv_aload_n hx hb dX13_isCell_3 rfl (lv_at hl 0 rfl) ?_
  refine va_get (D := D) (ci := 13) (v := .int (i0 64)) (C := RX13) (T := TX13) (N := 87) hx hb hts hiX13 hown hK hP 0 rfl rfl 64 (by decide) (hts _ flX13_279) (fun _ h9 => h9) rfl dX13_isCell_4 ?_
  refine lv_i2l hx hb dX13_isCell_7 rfl ?_
  refine lv_lconst (v := 1) hx hb dX13_isCell_8 (by decide) ?_
  refine lv_lsub hx hb dX13_isCell_9 ?_
  obtain ⟨q3, hq3, hf⟩ := bd_s hf
  refine k_eSi (As := [.long x1.toInt64, .long 0, .long (((i0 64).toInt64) - 1)]) (rest := []) hx hb hml hown hts hK hA hZ hl.1 hP hD hS (c_X13_in  hq3) (gSt mlX13_64 stX13_in inX13 coX13_in) rfl qnX13_in rfl rfl ⟨Nat.le_of_ble_eq_true rfl, Nat.le_of_ble_eq_true rfl⟩ rfl rfl (Nat.le_of_ble_eq_true rfl) ⟨Nat.zero_le _, Nat.zero_le _⟩ dX13_isCell_10 (fun H locs hP hD hS => ?_)
  refine lv_if_eq (tgt := 36) hx hb dX13_isCell_13 (by decide) (fun hc => ?_) (fun hc => ?_)
  · have hf := ite_t hf hc
    refine lv_iconst (v := 0) hx hb dX13_isCell_36 (by decide) ?_
    obtain rfl := Option.some.inj hf
    exact k_zret (r := 0) hx hb hr hlocks rfl hK hP hD hS dX13_isCell_37
  · have hf := ite_f hf hc
    refine lv_iload_n hx hb dX13_isCell_16 rfl (lv_at hl 2 rfl) ?_
    refine lv_i2l hx hb dX13_isCell_17 rfl ?_
    refine lv_lconst (v := 0) hx hb dX13_isCell_18 (by decide) ?_
    refine lv_aload_n hx hb dX13_isCell_19 rfl (lv_at hl 0 rfl) ?_
    refine va_get (D := D) (ci := 13) (v := .int (i0 65)) (C := RX13) (T := TX13) (N := 87) hx hb hts hiX13 hown hK hP 0 rfl rfl 65 (by decide) (hts _ flX13_282) (fun _ h9 => h9) rfl dX13_isCell_20 ?_
    refine lv_i2l hx hb dX13_isCell_23 rfl ?_
    refine lv_lconst (v := 1) hx hb dX13_isCell_24 (by decide) ?_
    refine lv_lsub hx hb dX13_isCell_25 ?_
    obtain ⟨q4, hq4, hf⟩ := bd_s hf
    refine k_eSi (As := [.long x2.toInt64, .long 0, .long (((i0 65).toInt64) - 1)]) (rest := []) hx hb hml hown hts hK hA hZ hl.1 hP hD hS (c_X13_in  hq4) (gSt mlX13_64 stX13_in inX13 coX13_in) rfl qnX13_in rfl rfl ⟨Nat.le_of_ble_eq_true rfl, Nat.le_of_ble_eq_true rfl⟩ rfl rfl (Nat.le_of_ble_eq_true rfl) ⟨Nat.zero_le _, Nat.zero_le _⟩ dX13_isCell_26 (fun H locs hP hD hS => ?_)
    refine lv_if_eq (tgt := 36) hx hb dX13_isCell_29 (by decide) (fun hc => ?_) (fun hc => ?_)
    · have hf := ite_t hf hc
      refine lv_iconst (v := 0) hx hb dX13_isCell_36 (by decide) ?_
      obtain rfl := Option.some.inj hf
      exact k_zret (r := 0) hx hb hr hlocks rfl hK hP hD hS dX13_isCell_37
    · have hf := ite_f hf hc
      refine lv_iconst (v := 1) hx hb dX13_isCell_32 (by decide) ?_
      refine lv_goto (tgt := 37) hx hb dX13_isCell_33 (by decide) ?_
      obtain rfl := Option.some.inj hf
      exact k_zret (r := 1) hx hb hr hlocks rfl hK hP hD hS dX13_isCell_37
/-! MarbleFloorModel.at(II)I -/
abbrev wlX13_at : List Cond := Cond.code yX13_at cX13_at 2 (some .int) :: tbG
abbrev rmX13_at : Room := { frames := 0, cells := 0, slots := 0, locals := 0 }
theorem qnX13_at : yX13_at.cls ≠ "java/lang/invoke/MethodHandle" ∧ yX13_at.cls ≠ "java/lang/invoke/VarHandle" ∧ (parseMethodDescriptor yX13_at.desc).map (fun d => d.parameters.length) = some 2 := by decide +kernel
def f_X13_at   (x0 : Int32) (x1 : Int32) : Option (Int32) := some ((10 * x1) + x0)
set_option maxRecDepth 100000 in
set_option maxHeartbeats 4000000 in
theorem c_X13_at {l : Launch} {D : va_G} {cs zs : Nat → Nat}   {x0 : Int32} {x1 : Int32} {q : Int32} (hf : f_X13_at x0 x1 = some q) : Mi l yX13_at wlX13_at rmX13_at D cs zs [.int x0, .int x1] (([] : va_W)) q (([] : va_W)) := by
  refine Mi.of RX13 (by decide) rfl (Nat.le_of_ble_eq_true rfl) (fun p e s m below meth c A C hP hD hS ls hl => ?_)
  generalize ([.int x0, .int x1] : List Value).toArray = args at C ⊢
  obtain ⟨hx, hb, hr, hml, hown, hts, hK, hA, hlocks, hZ⟩ := id C
  have hl : lv_has ls 2 [(0, .int x0), (1, .int x1)] := hl
  rw [f_X13_at] at hf
  refine lv_bipush (v := 10) hx hb dX13_at_0 (by decide) ?_
  refine lv_iload_n hx hb dX13_at_2 rfl (lv_at hl 1 rfl) ?_
  refine lv_imul hx hb dX13_at_3 ?_
  refine lv_iload_n hx hb dX13_at_4 rfl (lv_at hl 0 rfl) ?_
  refine lv_iadd hx hb dX13_at_5 ?_
  obtain rfl := Option.some.inj hf
  exact k_iret hx hb hr hlocks hK hP hD hS dX13_at_6
/-! MarbleFloorModel.table(II)I -/
abbrev wlX13_table : List Cond := Cond.code yX13_table cX13_table 4 (some .int) :: tbG
abbrev rmX13_table : Room := { frames := 1, cells := 0, slots := 0, locals := 25 }
theorem qnX13_table : yX13_table.cls = RX13 ∧ yX13_table.cls ≠ "java/lang/invoke/MethodHandle" ∧ yX13_table.cls ≠ "java/lang/invoke/VarHandle" ∧ (parseMethodDescriptor yX13_table.desc).map (fun d => d.parameters.length) = some 2 := by decide +kernel
def f_X13_table_63 (l0 : Nat → Nat → Int64) (K43 : (Nat → Int32) → (Nat → Nat → Int32) → Int32 → Option (Int32 × (Nat → Int32) × (Nat → Nat → Int32))) (i0 : Nat → Int32) (r0 : Nat → Nat → Int32) (x3 : Int32) : Option (Int32 × (Nat → Int32) × (Nat → Nat → Int32)) := K43 i0 r0 (x3 + 1)
set_option maxRecDepth 100000 in
set_option maxHeartbeats 4000000 in
theorem w_X13_table_63 {p : Program} {l : Launch} {e : Env} {s : State} {m : MethodId} {args : Array Value} {below : List Frame} {meth : Method} {c : Code} {A : Nat → Prop} {D : va_G} {cs zs : Nat → Nat} {h0 : Nat} {a0 : Nat → Nat} {l0 : Nat → Nat → Int64} {q : Int32 × (Nat → Int32) × (Nat → Nat → Int32)} (C : Cx p s m args meth c A D cs zs cX13_table 4 (some .int) RX13) (K43 : (Nat → Int32) → (Nat → Nat → Int32) → Int32 → Option (Int32 × (Nat → Int32) × (Nat → Nat → Int32))) (hK43 : ∀ (i0 : Nat → Int32) (r0 : Nat → Nat → Int32) (x3 : Int32) (H : Heap) (locs : List Loc) (ls : Array Slot), K43 i0 r0 x3 = some q → va_P D vwCl (W13 cs h0 a0 i0 r0 l0) H → va_D A (W13 cs h0 a0 i0 r0 l0) → va_S A s.heap H locs → lv_has ls 4 [(0, .ref h0), (3, .int x3)] → W p l e rmX13_table s m args below meth c H locs 0 0 (MQ below (Qi D cs A q.1 (W13 cs h0 a0 q.2.1 q.2.2 l0)) args s 0 0 A) (F0 m 43 ls [])) : ∀ (i0 : Nat → Int32) (r0 : Nat → Nat → Int32) (x3 : Int32) (H : Heap) (locs : List Loc) (ls : Array Slot), f_X13_table_63 l0 K43 i0 r0 x3 = some q → va_P D vwCl (W13 cs h0 a0 i0 r0 l0) H → va_D A (W13 cs h0 a0 i0 r0 l0) → va_S A s.heap H locs → lv_has ls 4 [(0, .ref h0), (3, .int x3)] → W p l e rmX13_table s m args below meth c H locs 0 0 (MQ below (Qi D cs A q.1 (W13 cs h0 a0 q.2.1 q.2.2 l0)) args s 0 0 A) (F0 m 63 ls []) := by
  obtain ⟨hx, hb, hr, hml, hown, hts, hK, hA, hlocks, hZ⟩ := id C
  intro i0 r0 x3 H locs ls hf hP hD hS hl
  rw [f_X13_table_63] at hf
  refine lv_iinc (v := x3 + 1) (lv' := [(3, .int (x3 + 1)), (0, .ref h0)]) hx hb dX13_table_63 hl (k := 1) rfl rfl (by decide) rfl (fun ls hl => ?_)
  refine lv_goto (tgt := 43) hx hb dX13_table_66 (by decide) ?_
  exact hK43 _ _ _ _ _ _ hf hP hD hS (lv_sub hl [1, 0] rfl)
def f_X13_table_43 (l0 : Nat → Nat → Int64)  : Nat → (Nat → Int32) → (Nat → Nat → Int32) → Int32 → Option (Int32 × (Nat → Int32) × (Nat → Nat → Int32))
  | 0, _, _, _ => none
  | n + 1, i0, r0, x3 => if 100 ≤ x3 then (some (1, (upd (upd i0 66 0) 67 0), r0)) else (ck (inb x3 100) (ck (inb x3 100) (f_X13_table_63 l0 (f_X13_table_43 l0 n) i0 (va_up (va_up r0 68 (upd (r0 68) x3.toNatClampNeg 0)) 69 (upd (r0 69) x3.toNatClampNeg 0)) x3)))
set_option maxRecDepth 100000 in
set_option maxHeartbeats 4000000 in
theorem w_X13_table_43 {p : Program} {l : Launch} {e : Env} {s : State} {m : MethodId} {args : Array Value} {below : List Frame} {meth : Method} {c : Code} {A : Nat → Prop} {D : va_G} {cs zs : Nat → Nat} {h0 : Nat} {a0 : Nat → Nat} {l0 : Nat → Nat → Int64} {q : Int32 × (Nat → Int32) × (Nat → Nat → Int32)} (C : Cx p s m args meth c A D cs zs cX13_table 4 (some .int) RX13)  : ∀ (n : Nat), ∀ (i0 : Nat → Int32) (r0 : Nat → Nat → Int32) (x3 : Int32) (H : Heap) (locs : List Loc) (ls : Array Slot), f_X13_table_43 l0 n i0 r0 x3 = some q → va_P D vwCl (W13 cs h0 a0 i0 r0 l0) H → va_D A (W13 cs h0 a0 i0 r0 l0) → va_S A s.heap H locs → lv_has ls 4 [(0, .ref h0), (3, .int x3)] → W p l e rmX13_table s m args below meth c H locs 0 0 (MQ below (Qi D cs A q.1 (W13 cs h0 a0 q.2.1 q.2.2 l0)) args s 0 0 A) (F0 m 43 ls []) := by
  obtain ⟨hx, hb, hr, hml, hown, hts, hK, hA, hlocks, hZ⟩ := id C
  intro n
  induction n with
  | zero =>
    intro i0 r0 x3 H locs ls hf
    rw [f_X13_table_43] at hf
    cases hf
  | succ n ih =>
    intro i0 r0 x3 H locs ls hf hP hD hS hl
    rw [f_X13_table_43] at hf
    refine lv_iload_n hx hb dX13_table_43 rfl (lv_at hl 1 rfl) ?_
    refine lv_bipush (v := 100) hx hb dX13_table_44 (by decide) ?_
    refine lv_icmp_ge (tgt := 69) hx hb dX13_table_46 (by decide) (fun hc => ?_) (fun hc => ?_)
    · have hf := ite_t hf hc
      refine lv_aload_n hx hb dX13_table_69 rfl (lv_at hl 0 rfl) ?_
      refine lv_iconst (v := 0) hx hb dX13_table_70 (by decide) ?_
      refine va_put (D := D) (ci := 13) (v := .int 0) (ty := .int) (C := RX13) (T := TX13) (N := 87) hx hb hts hiX13 tyX13 tyX13_ok nmX13 hown hK hP hD hS 0 rfl rfl 66 (by decide) (hts _ flX13_575) (fun _ h9 => h9) rfl (tyX13_ok 66 (by decide)) rfl rfl (Nat.le_of_ble_eq_true rfl) dX13_table_71 (fun H locs hP hD hS => ?_)
      obtain ⟨hP, hD⟩ := st13_66 hP hD
      refine lv_aload_n hx hb dX13_table_74 rfl (lv_at hl 0 rfl) ?_
      refine lv_iconst (v := 0) hx hb dX13_table_75 (by decide) ?_
      refine va_put (D := D) (ci := 13) (v := .int 0) (ty := .int) (C := RX13) (T := TX13) (N := 87) hx hb hts hiX13 tyX13 tyX13_ok nmX13 hown hK hP hD hS 0 rfl rfl 67 (by decide) (hts _ flX13_578) (fun _ h9 => h9) rfl (tyX13_ok 67 (by decide)) rfl rfl (Nat.le_of_ble_eq_true rfl) dX13_table_76 (fun H locs hP hD hS => ?_)
      obtain ⟨hP, hD⟩ := st13_67 hP hD
      refine lv_iconst (v := 1) hx hb dX13_table_79 (by decide) ?_
      obtain rfl := Option.some.inj hf
      exact k_iret hx hb hr hlocks hK hP hD hS dX13_table_80
    · have hf := ite_f hf hc
      refine lv_aload_n hx hb dX13_table_49 rfl (lv_at hl 0 rfl) ?_
      refine va_get (D := D) (ci := 13) (v := .ref (a0 68)) (C := RX13) (T := TX13) (N := 87) hx hb hts hiX13 hown hK hP 0 rfl rfl 68 (by decide) (hts _ flX13_237) (fun _ h9 => h9) rfl dX13_table_50 ?_
      refine lv_iload_n hx hb dX13_table_53 rfl (lv_at hl 1 rfl) ?_
      refine lv_iconst (v := 0) hx hb dX13_table_54 (by decide) ?_
      refine va_iast (f := r0 68) hx hb hK hP hD hS 38 0 rfl rfl (ck_in hf) dX13_table_55 (fun H locs hP hD hS => ?_)
      have hf := ck_2 hf
      obtain ⟨hP, hD⟩ := st13_68 hP hD
      refine lv_aload_n hx hb dX13_table_56 rfl (lv_at hl 0 rfl) ?_
      refine va_get (D := D) (ci := 13) (v := .ref (a0 69)) (C := RX13) (T := TX13) (N := 87) hx hb hts hiX13 hown hK hP 0 rfl rfl 69 (by decide) (hts _ flX13_240) (fun _ h9 => h9) rfl dX13_table_57 ?_
      refine lv_iload_n hx hb dX13_table_60 rfl (lv_at hl 1 rfl) ?_
      refine lv_iconst (v := 0) hx hb dX13_table_61 (by decide) ?_
      refine va_iast (f := r0 69) hx hb hK hP hD hS 39 0 rfl rfl (ck_in hf) dX13_table_62 (fun H locs hP hD hS => ?_)
      have hf := ck_2 hf
      obtain ⟨hP, hD⟩ := st13_69 hP hD
      exact w_X13_table_63 C _ (ih) _ _ _ _ _ _ hf hP hD hS (lv_sub hl [0, 1] rfl)
def f_X13_table  (i0 : Nat → Int32) (r0 : Nat → Nat → Int32) (l0 : Nat → Nat → Int64) (x1 : Int32) (x2 : Int32) : Option (Int32 × (Nat → Int32) × (Nat → Nat → Int32)) := bd (f_X13_in x1.toInt64 2 10) (fun q3 => if q3 = 0 then (some ((-2), i0, r0)) else (bd (f_X13_in x2.toInt64 2 10) (fun q4 => if q4 = 0 then (some ((-2), i0, r0)) else (f_X13_table_43 l0 2000000 (upd (upd i0 64 x1) 65 x2) r0 0))))
set_option maxRecDepth 100000 in
set_option maxHeartbeats 4000000 in
theorem c_X13_table {l : Launch} {D : va_G} {cs zs : Nat → Nat} {h0 : Nat} {a0 : Nat → Nat} {i0 : Nat → Int32} {r0 : Nat → Nat → Int32} {l0 : Nat → Nat → Int64} {x1 : Int32} {x2 : Int32} {q : Int32 × (Nat → Int32) × (Nat → Nat → Int32)} (hf : f_X13_table i0 r0 l0 x1 x2 = some q) : Mi l yX13_table wlX13_table rmX13_table D cs zs [.ref h0, .int x1, .int x2] (W13 cs h0 a0 i0 r0 l0) q.1 (W13 cs h0 a0 q.2.1 q.2.2 l0) := by
  refine Mi.of RX13 (by decide) rfl (Nat.le_of_ble_eq_true rfl) (fun p e s m below meth c A C hP hD hS ls hl => ?_)
  generalize ([.ref h0, .int x1, .int x2] : List Value).toArray = args at C ⊢
  obtain ⟨hx, hb, hr, hml, hown, hts, hK, hA, hlocks, hZ⟩ := id C
  have hl : lv_has ls 4 [(0, .ref h0), (1, .int x1), (2, .int x2)] := hl
  rw [f_X13_table] at hf
  refine lv_iload_n hx hb dX13_table_0 rfl (lv_at hl 1 rfl) ?_
  refine lv_i2l hx hb dX13_table_1 rfl ?_
  refine lv_ldc2 (v := 2) hx hb hown (hts _ kcX13_573) dX13_table_2 ?_
  refine lv_ldc2 (v := 10) hx hb hown (hts _ kcX13_565) dX13_table_5 ?_
  obtain ⟨q3, hq3, hf⟩ := bd_s hf
  refine k_eSi (As := [.long x1.toInt64, .long 2, .long 10]) (rest := []) hx hb hml hown hts hK hA hZ hl.1 hP hD hS (c_X13_in  hq3) (gSt mlX13_64 stX13_in inX13 coX13_in) rfl qnX13_in rfl rfl ⟨Nat.le_of_ble_eq_true rfl, Nat.le_of_ble_eq_true rfl⟩ rfl rfl (Nat.le_of_ble_eq_true rfl) ⟨Nat.zero_le _, Nat.zero_le _⟩ dX13_table_8 (fun H locs hP hD hS => ?_)
  refine lv_if_eq (tgt := 28) hx hb dX13_table_11 (by decide) (fun hc => ?_) (fun hc => ?_)
  · have hf := ite_t hf hc
    refine lv_bipush (v := (-2)) hx hb dX13_table_28 (by decide) ?_
    obtain rfl := Option.some.inj hf
    exact k_iret hx hb hr hlocks hK hP hD hS dX13_table_30
  · have hf := ite_f hf hc
    refine lv_iload_n hx hb dX13_table_14 rfl (lv_at hl 2 rfl) ?_
    refine lv_i2l hx hb dX13_table_15 rfl ?_
    refine lv_ldc2 (v := 2) hx hb hown (hts _ kcX13_573) dX13_table_16 ?_
    refine lv_ldc2 (v := 10) hx hb hown (hts _ kcX13_565) dX13_table_19 ?_
    obtain ⟨q4, hq4, hf⟩ := bd_s hf
    refine k_eSi (As := [.long x2.toInt64, .long 2, .long 10]) (rest := []) hx hb hml hown hts hK hA hZ hl.1 hP hD hS (c_X13_in  hq4) (gSt mlX13_64 stX13_in inX13 coX13_in) rfl qnX13_in rfl rfl ⟨Nat.le_of_ble_eq_true rfl, Nat.le_of_ble_eq_true rfl⟩ rfl rfl (Nat.le_of_ble_eq_true rfl) ⟨Nat.zero_le _, Nat.zero_le _⟩ dX13_table_22 (fun H locs hP hD hS => ?_)
    refine lv_if_ne (tgt := 31) hx hb dX13_table_25 (by decide) (fun hc => ?_) (fun hc => ?_)
    · have hf := ite_f hf hc
      refine lv_aload_n hx hb dX13_table_31 rfl (lv_at hl 0 rfl) ?_
      refine lv_iload_n hx hb dX13_table_32 rfl (lv_at hl 1 rfl) ?_
      refine va_put (D := D) (ci := 13) (v := .int x1) (ty := .int) (C := RX13) (T := TX13) (N := 87) hx hb hts hiX13 tyX13 tyX13_ok nmX13 hown hK hP hD hS 0 rfl rfl 64 (by decide) (hts _ flX13_279) (fun _ h9 => h9) rfl (tyX13_ok 64 (by decide)) rfl rfl (Nat.le_of_ble_eq_true rfl) dX13_table_33 (fun H locs hP hD hS => ?_)
      obtain ⟨hP, hD⟩ := st13_64 hP hD
      refine lv_aload_n hx hb dX13_table_36 rfl (lv_at hl 0 rfl) ?_
      refine lv_iload_n hx hb dX13_table_37 rfl (lv_at hl 2 rfl) ?_
      refine va_put (D := D) (ci := 13) (v := .int x2) (ty := .int) (C := RX13) (T := TX13) (N := 87) hx hb hts hiX13 tyX13 tyX13_ok nmX13 hown hK hP hD hS 0 rfl rfl 65 (by decide) (hts _ flX13_282) (fun _ h9 => h9) rfl (tyX13_ok 65 (by decide)) rfl rfl (Nat.le_of_ble_eq_true rfl) dX13_table_38 (fun H locs hP hD hS => ?_)
      obtain ⟨hP, hD⟩ := st13_65 hP hD
      refine lv_iconst (v := 0) hx hb dX13_table_41 (by decide) ?_
      refine lv_istore_n (lv' := [(3, .int 0), (0, .ref h0), (1, .int x1), (2, .int x2)]) hx hb dX13_table_42 rfl hl (by decide) rfl (fun ls hl => ?_)
      exact w_X13_table_43 C  2000000 _ _ _ _ _ _ hf hP hD hS (lv_sub hl [1, 0] rfl)
    · have hf := ite_t hf hc
      refine lv_bipush (v := (-2)) hx hb dX13_table_28 (by decide) ?_
      obtain rfl := Option.some.inj hf
      exact k_iret hx hb hr hlocks hK hP hD hS dX13_table_30
/-! MarbleFloorModel.part(III)I -/
abbrev wlX13_part : List Cond := Cond.code yX13_part cX13_part 5 (some .int) :: tbG
abbrev rmX13_part : Room := { frames := 2, cells := 0, slots := 0, locals := 47 }
theorem qnX13_part : yX13_part.cls = RX13 ∧ yX13_part.cls ≠ "java/lang/invoke/MethodHandle" ∧ yX13_part.cls ≠ "java/lang/invoke/VarHandle" ∧ (parseMethodDescriptor yX13_part.desc).map (fun d => d.parameters.length) = some 3 := by decide +kernel
def f_X13_part  (i0 : Nat → Int32) (r0 : Nat → Nat → Int32) (l0 : Nat → Nat → Int64) (x1 : Int32) (x2 : Int32) (x3 : Int32) : Option (Int32 × (Nat → Int32) × (Nat → Nat → Int32)) := bd (f_X13_isCell i0 r0 l0 x1 x2) (fun q5 => if q5 = 0 then (some ((-2), i0, r0)) else (bd (f_X13_in x3.toInt64 0 3) (fun q6 => if q6 = 0 then (some ((-2), i0, r0)) else (bd (f_X13_at x1 x2) (fun q7 => ck (inb q7 100) (bd (f_X13_at x1 x2) (fun q8 => ck (inb q8 100) (some (r0 68 q7.toNatClampNeg, (upd i0 67 0), (va_up r0 68 (upd (r0 68) q8.toNatClampNeg x3)))))))))))
set_option maxRecDepth 100000 in
set_option maxHeartbeats 4000000 in
theorem c_X13_part {l : Launch} {D : va_G} {cs zs : Nat → Nat} {h0 : Nat} {a0 : Nat → Nat} {i0 : Nat → Int32} {r0 : Nat → Nat → Int32} {l0 : Nat → Nat → Int64} {x1 : Int32} {x2 : Int32} {x3 : Int32} {q : Int32 × (Nat → Int32) × (Nat → Nat → Int32)} (hf : f_X13_part i0 r0 l0 x1 x2 x3 = some q) : Mi l yX13_part wlX13_part rmX13_part D cs zs [.ref h0, .int x1, .int x2, .int x3] (W13 cs h0 a0 i0 r0 l0) q.1 (W13 cs h0 a0 q.2.1 q.2.2 l0) := by
  refine Mi.of RX13 (by decide) rfl (Nat.le_of_ble_eq_true rfl) (fun p e s m below meth c A C hP hD hS ls hl => ?_)
  generalize ([.ref h0, .int x1, .int x2, .int x3] : List Value).toArray = args at C ⊢
  obtain ⟨hx, hb, hr, hml, hown, hts, hK, hA, hlocks, hZ⟩ := id C
  have hl : lv_has ls 5 [(0, .ref h0), (1, .int x1), (2, .int x2), (3, .int x3)] := hl
  rw [f_X13_part] at hf
  refine lv_aload_n hx hb dX13_part_0 rfl (lv_at hl 0 rfl) ?_
  refine lv_iload_n hx hb dX13_part_1 rfl (lv_at hl 1 rfl) ?_
  refine lv_iload_n hx hb dX13_part_2 rfl (lv_at hl 2 rfl) ?_
  obtain ⟨q5, hq5, hf⟩ := bd_s hf
  refine k_sVi (ws2 := W13 cs h0 a0 i0 r0 l0) (As := [.int x1, .int x2]) (rest := []) hx hb hml hown hts hK hA hZ hl.1 hP hD hS (c_X13_isCell (h0 := h0) (a0 := a0) hq5) (gVt mlX13_581 imX13_isCell seX13_isCell inX13 coX13_isCell) rfl qnX13_isCell rfl rfl ⟨Nat.le_of_ble_eq_true rfl, Nat.le_of_ble_eq_true rfl⟩ 0 13 rfl rfl rfl rfl rfl (Nat.le_of_ble_eq_true rfl) ⟨Nat.zero_le _, Nat.zero_le _⟩ dX13_part_3 (fun H locs hP hD hS => ?_)
  refine lv_if_eq (tgt := 21) hx hb dX13_part_6 (by decide) (fun hc => ?_) (fun hc => ?_)
  · have hf := ite_t hf hc
    refine lv_bipush (v := (-2)) hx hb dX13_part_21 (by decide) ?_
    obtain rfl := Option.some.inj hf
    exact k_iret hx hb hr hlocks hK hP hD hS dX13_part_23
  · have hf := ite_f hf hc
    refine lv_iload_n hx hb dX13_part_9 rfl (lv_at hl 3 rfl) ?_
    refine lv_i2l hx hb dX13_part_10 rfl ?_
    refine lv_lconst (v := 0) hx hb dX13_part_11 (by decide) ?_
    refine lv_ldc2 (v := 3) hx hb hown (hts _ kcX13_584) dX13_part_12 ?_
    obtain ⟨q6, hq6, hf⟩ := bd_s hf
    refine k_eSi (As := [.long x3.toInt64, .long 0, .long 3]) (rest := []) hx hb hml hown hts hK hA hZ hl.1 hP hD hS (c_X13_in  hq6) (gSt mlX13_64 stX13_in inX13 coX13_in) rfl qnX13_in rfl rfl ⟨Nat.le_of_ble_eq_true rfl, Nat.le_of_ble_eq_true rfl⟩ rfl rfl (Nat.le_of_ble_eq_true rfl) ⟨Nat.zero_le _, Nat.zero_le _⟩ dX13_part_15 (fun H locs hP hD hS => ?_)
    refine lv_if_ne (tgt := 24) hx hb dX13_part_18 (by decide) (fun hc => ?_) (fun hc => ?_)
    · have hf := ite_f hf hc
      refine lv_aload_n hx hb dX13_part_24 rfl (lv_at hl 0 rfl) ?_
      refine va_get (D := D) (ci := 13) (v := .ref (a0 68)) (C := RX13) (T := TX13) (N := 87) hx hb hts hiX13 hown hK hP 0 rfl rfl 68 (by decide) (hts _ flX13_237) (fun _ h9 => h9) rfl dX13_part_25 ?_
      refine lv_iload_n hx hb dX13_part_28 rfl (lv_at hl 1 rfl) ?_
      refine lv_iload_n hx hb dX13_part_29 rfl (lv_at hl 2 rfl) ?_
      obtain ⟨q7, hq7, hf⟩ := bd_s hf
      refine k_eSi (As := [.int x1, .int x2]) (rest := [.ref (a0 68)]) hx hb hml hown hts hK hA hZ hl.1 hP hD hS (c_X13_at  hq7) (gSt mlX13_586 stX13_at inX13 coX13_at) rfl qnX13_at rfl rfl ⟨Nat.le_of_ble_eq_true rfl, Nat.le_of_ble_eq_true rfl⟩ rfl rfl (Nat.le_of_ble_eq_true rfl) ⟨Nat.zero_le _, Nat.zero_le _⟩ dX13_part_30 (fun H locs hP hD hS => ?_)
      refine va_iald (f := r0 68) hx hb hK hP 38 0 rfl rfl (ck_in hf) dX13_part_33 ?_
      have hf := ck_2 hf
      refine lv_istore (lv' := [(4, .int (r0 68 q7.toNatClampNeg)), (0, .ref h0), (1, .int x1), (2, .int x2), (3, .int x3)]) hx hb dX13_part_34 hl (by decide) rfl (fun ls hl => ?_)
      refine lv_aload_n hx hb dX13_part_36 rfl (lv_at hl 1 rfl) ?_
      refine va_get (D := D) (ci := 13) (v := .ref (a0 68)) (C := RX13) (T := TX13) (N := 87) hx hb hts hiX13 hown hK hP 0 rfl rfl 68 (by decide) (hts _ flX13_237) (fun _ h9 => h9) rfl dX13_part_37 ?_
      refine lv_iload_n hx hb dX13_part_40 rfl (lv_at hl 2 rfl) ?_
      refine lv_iload_n hx hb dX13_part_41 rfl (lv_at hl 3 rfl) ?_
      obtain ⟨q8, hq8, hf⟩ := bd_s hf
      refine k_eSi (As := [.int x1, .int x2]) (rest := [.ref (a0 68)]) hx hb hml hown hts hK hA hZ hl.1 hP hD hS (c_X13_at  hq8) (gSt mlX13_586 stX13_at inX13 coX13_at) rfl qnX13_at rfl rfl ⟨Nat.le_of_ble_eq_true rfl, Nat.le_of_ble_eq_true rfl⟩ rfl rfl (Nat.le_of_ble_eq_true rfl) ⟨Nat.zero_le _, Nat.zero_le _⟩ dX13_part_42 (fun H locs hP hD hS => ?_)
      refine lv_iload_n hx hb dX13_part_45 rfl (lv_at hl 4 rfl) ?_
      refine va_iast (f := r0 68) hx hb hK hP hD hS 38 0 rfl rfl (ck_in hf) dX13_part_46 (fun H locs hP hD hS => ?_)
      have hf := ck_2 hf
      obtain ⟨hP, hD⟩ := st13_68 hP hD
      refine lv_aload_n hx hb dX13_part_47 rfl (lv_at hl 1 rfl) ?_
      refine lv_iconst (v := 0) hx hb dX13_part_48 (by decide) ?_
      refine va_put (D := D) (ci := 13) (v := .int 0) (ty := .int) (C := RX13) (T := TX13) (N := 87) hx hb hts hiX13 tyX13 tyX13_ok nmX13 hown hK hP hD hS 0 rfl rfl 67 (by decide) (hts _ flX13_578) (fun _ h9 => h9) rfl (tyX13_ok 67 (by decide)) rfl rfl (Nat.le_of_ble_eq_true rfl) dX13_part_49 (fun H locs hP hD hS => ?_)
      obtain ⟨hP, hD⟩ := st13_67 hP hD
      refine lv_iload hx hb dX13_part_52 (lv_at hl 0 rfl) ?_
      obtain rfl := Option.some.inj hf
      exact k_iret hx hb hr hlocks hK hP hD hS dX13_part_54
    · have hf := ite_t hf hc
      refine lv_bipush (v := (-2)) hx hb dX13_part_21 (by decide) ?_
      obtain rfl := Option.some.inj hf
      exact k_iret hx hb hr hlocks hK hP hD hS dX13_part_23
/-! MarbleFloorModel.ball(IIIZ)I -/
abbrev wlX13_ball : List Cond := Cond.code yX13_ball cX13_ball 6 (some .int) :: tbG
abbrev rmX13_ball : Room := { frames := 2, cells := 0, slots := 0, locals := 47 }
theorem qnX13_ball : yX13_ball.cls = RX13 ∧ yX13_ball.cls ≠ "java/lang/invoke/MethodHandle" ∧ yX13_ball.cls ≠ "java/lang/invoke/VarHandle" ∧ (parseMethodDescriptor yX13_ball.desc).map (fun d => d.parameters.length) = some 4 := by decide +kernel
def f_X13_ball_73 (l0 : Nat → Nat → Int64)  (i0 : Nat → Int32) (r0 : Nat → Nat → Int32) (x1 : Int32) (x2 : Int32) (x5 : Int32) : Option (Int32 × (Nat → Int32) × (Nat → Nat → Int32)) := bd (f_X13_at x1 x2) (fun q6 => ck (inb q6 100) (if x5 = (r0 69 q6.toNatClampNeg) then (some (0, i0, r0)) else (some (1, i0, r0))))
set_option maxRecDepth 100000 in
set_option maxHeartbeats 4000000 in
theorem w_X13_ball_73 {p : Program} {l : Launch} {e : Env} {s : State} {m : MethodId} {args : Array Value} {below : List Frame} {meth : Method} {c : Code} {A : Nat → Prop} {D : va_G} {cs zs : Nat → Nat} {h0 : Nat} {a0 : Nat → Nat} {l0 : Nat → Nat → Int64} {q : Int32 × (Nat → Int32) × (Nat → Nat → Int32)} (C : Cx p s m args meth c A D cs zs cX13_ball 6 (some .int) RX13)  : ∀ (i0 : Nat → Int32) (r0 : Nat → Nat → Int32) (x1 : Int32) (x2 : Int32) (x5 : Int32) (H : Heap) (locs : List Loc) (ls : Array Slot), f_X13_ball_73 l0 i0 r0 x1 x2 x5 = some q → va_P D vwCl (W13 cs h0 a0 i0 r0 l0) H → va_D A (W13 cs h0 a0 i0 r0 l0) → va_S A s.heap H locs → lv_has ls 6 [(0, .ref h0), (1, .int x1), (2, .int x2), (5, .int x5)] → W p l e rmX13_ball s m args below meth c H locs 0 0 (MQ below (Qi D cs A q.1 (W13 cs h0 a0 q.2.1 q.2.2 l0)) args s 0 0 A) (F0 m 73 ls []) := by
  obtain ⟨hx, hb, hr, hml, hown, hts, hK, hA, hlocks, hZ⟩ := id C
  intro i0 r0 x1 x2 x5 H locs ls hf hP hD hS hl
  rw [f_X13_ball_73] at hf
  refine lv_iload hx hb dX13_ball_73 (lv_at hl 3 rfl) ?_
  refine lv_aload_n hx hb dX13_ball_75 rfl (lv_at hl 0 rfl) ?_
  refine va_get (D := D) (ci := 13) (v := .ref (a0 69)) (C := RX13) (T := TX13) (N := 87) hx hb hts hiX13 hown hK hP 0 rfl rfl 69 (by decide) (hts _ flX13_240) (fun _ h9 => h9) rfl dX13_ball_76 ?_
  refine lv_iload_n hx hb dX13_ball_79 rfl (lv_at hl 1 rfl) ?_
  refine lv_iload_n hx hb dX13_ball_80 rfl (lv_at hl 2 rfl) ?_
  obtain ⟨q6, hq6, hf⟩ := bd_s hf
  refine k_eSi (As := [.int x1, .int x2]) (rest := [.ref (a0 69), .int x5]) hx hb hml hown hts hK hA hZ hl.1 hP hD hS (c_X13_at  hq6) (gSt mlX13_586 stX13_at inX13 coX13_at) rfl qnX13_at rfl rfl ⟨Nat.le_of_ble_eq_true rfl, Nat.le_of_ble_eq_true rfl⟩ rfl rfl (Nat.le_of_ble_eq_true rfl) ⟨Nat.zero_le _, Nat.zero_le _⟩ dX13_ball_81 (fun H locs hP hD hS => ?_)
  refine va_iald (f := r0 69) hx hb hK hP 39 0 rfl rfl (ck_in hf) dX13_ball_84 ?_
  have hf := ck_2 hf
  refine lv_icmp_ne (tgt := 92) hx hb dX13_ball_85 (by decide) (fun hc => ?_) (fun hc => ?_)
  · have hf := ite_f hf hc
    refine lv_iconst (v := 1) hx hb dX13_ball_92 (by decide) ?_
    obtain rfl := Option.some.inj hf
    exact k_iret hx hb hr hlocks hK hP hD hS dX13_ball_93
  · have hf := ite_t hf hc
    refine lv_iconst (v := 0) hx hb dX13_ball_88 (by decide) ?_
    refine lv_goto (tgt := 93) hx hb dX13_ball_89 (by decide) ?_
    obtain rfl := Option.some.inj hf
    exact k_iret hx hb hr hlocks hK hP hD hS dX13_ball_93
def f_X13_ball_67 (l0 : Nat → Nat → Int64)  (i0 : Nat → Int32) (r0 : Nat → Nat → Int32) (x1 : Int32) (x2 : Int32) (x5 : Int32) (y0 : Int32) (y1 : Int32) : Option (Int32 × (Nat → Int32) × (Nat → Nat → Int32)) := ck (inb y1 100) (f_X13_ball_73 l0 (upd i0 67 0) (va_up r0 69 (upd (r0 69) y1.toNatClampNeg y0)) x1 x2 x5)
set_option maxRecDepth 100000 in
set_option maxHeartbeats 4000000 in
theorem w_X13_ball_67 {p : Program} {l : Launch} {e : Env} {s : State} {m : MethodId} {args : Array Value} {below : List Frame} {meth : Method} {c : Code} {A : Nat → Prop} {D : va_G} {cs zs : Nat → Nat} {h0 : Nat} {a0 : Nat → Nat} {l0 : Nat → Nat → Int64} {q : Int32 × (Nat → Int32) × (Nat → Nat → Int32)} (C : Cx p s m args meth c A D cs zs cX13_ball 6 (some .int) RX13)  : ∀ (i0 : Nat → Int32) (r0 : Nat → Nat → Int32) (x1 : Int32) (x2 : Int32) (x5 : Int32) (y0 : Int32) (y1 : Int32) (H : Heap) (locs : List Loc) (ls : Array Slot), f_X13_ball_67 l0 i0 r0 x1 x2 x5 y0 y1 = some q → va_P D vwCl (W13 cs h0 a0 i0 r0 l0) H → va_D A (W13 cs h0 a0 i0 r0 l0) → va_S A s.heap H locs → lv_has ls 6 [(0, .ref h0), (1, .int x1), (2, .int x2), (5, .int x5)] → W p l e rmX13_ball s m args below meth c H locs 0 0 (MQ below (Qi D cs A q.1 (W13 cs h0 a0 q.2.1 q.2.2 l0)) args s 0 0 A) (F0 m 67 ls [.int y0, .int y1, .ref (a0 69)]) := by
  obtain ⟨hx, hb, hr, hml, hown, hts, hK, hA, hlocks, hZ⟩ := id C
  intro i0 r0 x1 x2 x5 y0 y1 H locs ls hf hP hD hS hl
  rw [f_X13_ball_67] at hf
  refine va_iast (f := r0 69) hx hb hK hP hD hS 39 0 rfl rfl (ck_in hf) dX13_ball_67 (fun H locs hP hD hS => ?_)
  have hf := ck_2 hf
  obtain ⟨hP, hD⟩ := st13_69 hP hD
  refine lv_aload_n hx hb dX13_ball_68 rfl (lv_at hl 0 rfl) ?_
  refine lv_iconst (v := 0) hx hb dX13_ball_69 (by decide) ?_
  refine va_put (D := D) (ci := 13) (v := .int 0) (ty := .int) (C := RX13) (T := TX13) (N := 87) hx hb hts hiX13 tyX13 tyX13_ok nmX13 hown hK hP hD hS 0 rfl rfl 67 (by decide) (hts _ flX13_578) (fun _ h9 => h9) rfl (tyX13_ok 67 (by decide)) rfl rfl (Nat.le_of_ble_eq_true rfl) dX13_ball_70 (fun H locs hP hD hS => ?_)
  obtain ⟨hP, hD⟩ := st13_67 hP hD
  exact w_X13_ball_73 C  _ _ _ _ _ _ _ _ hf hP hD hS (lv_sub hl [0, 1, 2, 3] rfl)
def f_X13_ball  (i0 : Nat → Int32) (r0 : Nat → Nat → Int32) (l0 : Nat → Nat → Int64) (x1 : Int32) (x2 : Int32) (x3 : Int32) (x4 : Int32) : Option (Int32 × (Nat → Int32) × (Nat → Nat → Int32)) := bd (f_X13_isCell i0 r0 l0 x1 x2) (fun q7 => if q7 = 0 then (some ((-2), i0, r0)) else (bd (f_X13_in x3.toInt64 0 3) (fun q8 => if q8 = 0 then (some ((-2), i0, r0)) else (bd (f_X13_at x1 x2) (fun q9 => ck (inb q9 100) (bd (f_X13_at x1 x2) (fun q10 => if x4 = 0 then (f_X13_ball_67 l0 i0 r0 x1 x2 (r0 69 q9.toNatClampNeg) ((r0 69 q9.toNatClampNeg) &&& (((1 : Int32) <<< (x3 &&& 31)) ^^^ (-1))) q10) else (f_X13_ball_67 l0 i0 r0 x1 x2 (r0 69 q9.toNatClampNeg) ((r0 69 q9.toNatClampNeg) ||| ((1 : Int32) <<< (x3 &&& 31))) q10))))))))
set_option maxRecDepth 100000 in
set_option maxHeartbeats 4000000 in
theorem c_X13_ball {l : Launch} {D : va_G} {cs zs : Nat → Nat} {h0 : Nat} {a0 : Nat → Nat} {i0 : Nat → Int32} {r0 : Nat → Nat → Int32} {l0 : Nat → Nat → Int64} {x1 : Int32} {x2 : Int32} {x3 : Int32} {x4 : Int32} {q : Int32 × (Nat → Int32) × (Nat → Nat → Int32)} (hf : f_X13_ball i0 r0 l0 x1 x2 x3 x4 = some q) : Mi l yX13_ball wlX13_ball rmX13_ball D cs zs [.ref h0, .int x1, .int x2, .int x3, .int x4] (W13 cs h0 a0 i0 r0 l0) q.1 (W13 cs h0 a0 q.2.1 q.2.2 l0) := by
  refine Mi.of RX13 (by decide) rfl (Nat.le_of_ble_eq_true rfl) (fun p e s m below meth c A C hP hD hS ls hl => ?_)
  generalize ([.ref h0, .int x1, .int x2, .int x3, .int x4] : List Value).toArray = args at C ⊢
  obtain ⟨hx, hb, hr, hml, hown, hts, hK, hA, hlocks, hZ⟩ := id C
  have hl : lv_has ls 6 [(0, .ref h0), (1, .int x1), (2, .int x2), (3, .int x3), (4, .int x4)] := hl
  rw [f_X13_ball] at hf
  refine lv_aload_n hx hb dX13_ball_0 rfl (lv_at hl 0 rfl) ?_
  refine lv_iload_n hx hb dX13_ball_1 rfl (lv_at hl 1 rfl) ?_
  refine lv_iload_n hx hb dX13_ball_2 rfl (lv_at hl 2 rfl) ?_
  obtain ⟨q7, hq7, hf⟩ := bd_s hf
  refine k_sVi (ws2 := W13 cs h0 a0 i0 r0 l0) (As := [.int x1, .int x2]) (rest := []) hx hb hml hown hts hK hA hZ hl.1 hP hD hS (c_X13_isCell (h0 := h0) (a0 := a0) hq7) (gVt mlX13_581 imX13_isCell seX13_isCell inX13 coX13_isCell) rfl qnX13_isCell rfl rfl ⟨Nat.le_of_ble_eq_true rfl, Nat.le_of_ble_eq_true rfl⟩ 0 13 rfl rfl rfl rfl rfl (Nat.le_of_ble_eq_true rfl) ⟨Nat.zero_le _, Nat.zero_le _⟩ dX13_ball_3 (fun H locs hP hD hS => ?_)
  refine lv_if_eq (tgt := 21) hx hb dX13_ball_6 (by decide) (fun hc => ?_) (fun hc => ?_)
  · have hf := ite_t hf hc
    refine lv_bipush (v := (-2)) hx hb dX13_ball_21 (by decide) ?_
    obtain rfl := Option.some.inj hf
    exact k_iret hx hb hr hlocks hK hP hD hS dX13_ball_23
  · have hf := ite_f hf hc
    refine lv_iload_n hx hb dX13_ball_9 rfl (lv_at hl 3 rfl) ?_
    refine lv_i2l hx hb dX13_ball_10 rfl ?_
    refine lv_lconst (v := 0) hx hb dX13_ball_11 (by decide) ?_
    refine lv_ldc2 (v := 3) hx hb hown (hts _ kcX13_584) dX13_ball_12 ?_
    obtain ⟨q8, hq8, hf⟩ := bd_s hf
    refine k_eSi (As := [.long x3.toInt64, .long 0, .long 3]) (rest := []) hx hb hml hown hts hK hA hZ hl.1 hP hD hS (c_X13_in  hq8) (gSt mlX13_64 stX13_in inX13 coX13_in) rfl qnX13_in rfl rfl ⟨Nat.le_of_ble_eq_true rfl, Nat.le_of_ble_eq_true rfl⟩ rfl rfl (Nat.le_of_ble_eq_true rfl) ⟨Nat.zero_le _, Nat.zero_le _⟩ dX13_ball_15 (fun H locs hP hD hS => ?_)
    refine lv_if_ne (tgt := 24) hx hb dX13_ball_18 (by decide) (fun hc => ?_) (fun hc => ?_)
    · have hf := ite_f hf hc
      refine lv_aload_n hx hb dX13_ball_24 rfl (lv_at hl 0 rfl) ?_
      refine va_get (D := D) (ci := 13) (v := .ref (a0 69)) (C := RX13) (T := TX13) (N := 87) hx hb hts hiX13 hown hK hP 0 rfl rfl 69 (by decide) (hts _ flX13_240) (fun _ h9 => h9) rfl dX13_ball_25 ?_
      refine lv_iload_n hx hb dX13_ball_28 rfl (lv_at hl 1 rfl) ?_
      refine lv_iload_n hx hb dX13_ball_29 rfl (lv_at hl 2 rfl) ?_
      obtain ⟨q9, hq9, hf⟩ := bd_s hf
      refine k_eSi (As := [.int x1, .int x2]) (rest := [.ref (a0 69)]) hx hb hml hown hts hK hA hZ hl.1 hP hD hS (c_X13_at  hq9) (gSt mlX13_586 stX13_at inX13 coX13_at) rfl qnX13_at rfl rfl ⟨Nat.le_of_ble_eq_true rfl, Nat.le_of_ble_eq_true rfl⟩ rfl rfl (Nat.le_of_ble_eq_true rfl) ⟨Nat.zero_le _, Nat.zero_le _⟩ dX13_ball_30 (fun H locs hP hD hS => ?_)
      refine va_iald (f := r0 69) hx hb hK hP 39 0 rfl rfl (ck_in hf) dX13_ball_33 ?_
      have hf := ck_2 hf
      refine lv_istore (lv' := [(5, .int (r0 69 q9.toNatClampNeg)), (0, .ref h0), (1, .int x1), (2, .int x2), (3, .int x3), (4, .int x4)]) hx hb dX13_ball_34 hl (by decide) rfl (fun ls hl => ?_)
      refine lv_aload_n hx hb dX13_ball_36 rfl (lv_at hl 1 rfl) ?_
      refine va_get (D := D) (ci := 13) (v := .ref (a0 69)) (C := RX13) (T := TX13) (N := 87) hx hb hts hiX13 hown hK hP 0 rfl rfl 69 (by decide) (hts _ flX13_240) (fun _ h9 => h9) rfl dX13_ball_37 ?_
      refine lv_iload_n hx hb dX13_ball_40 rfl (lv_at hl 2 rfl) ?_
      refine lv_iload_n hx hb dX13_ball_41 rfl (lv_at hl 3 rfl) ?_
      obtain ⟨q10, hq10, hf⟩ := bd_s hf
      refine k_eSi (As := [.int x1, .int x2]) (rest := [.ref (a0 69)]) hx hb hml hown hts hK hA hZ hl.1 hP hD hS (c_X13_at  hq10) (gSt mlX13_586 stX13_at inX13 coX13_at) rfl qnX13_at rfl rfl ⟨Nat.le_of_ble_eq_true rfl, Nat.le_of_ble_eq_true rfl⟩ rfl rfl (Nat.le_of_ble_eq_true rfl) ⟨Nat.zero_le _, Nat.zero_le _⟩ dX13_ball_42 (fun H locs hP hD hS => ?_)
      refine lv_iload hx hb dX13_ball_45 (lv_at hl 5 rfl) ?_
      refine lv_if_eq (tgt := 59) hx hb dX13_ball_47 (by decide) (fun hc => ?_) (fun hc => ?_)
      · have hf := ite_t hf hc
        refine lv_iload hx hb dX13_ball_59 (lv_at hl 0 rfl) ?_
        refine lv_iconst (v := 1) hx hb dX13_ball_61 (by decide) ?_
        refine lv_iload_n hx hb dX13_ball_62 rfl (lv_at hl 4 rfl) ?_
        refine lv_ishl hx hb dX13_ball_63 ?_
        refine lv_iconst (v := (-1)) hx hb dX13_ball_64 (by decide) ?_
        refine lv_ixor hx hb dX13_ball_65 ?_
        refine lv_iand hx hb dX13_ball_66 ?_
        exact w_X13_ball_67 C  _ _ _ _ _ _ _ _ _ _ hf hP hD hS (lv_sub hl [1, 2, 3, 0] rfl)
      · have hf := ite_f hf hc
        refine lv_iload hx hb dX13_ball_50 (lv_at hl 0 rfl) ?_
        refine lv_iconst (v := 1) hx hb dX13_ball_52 (by decide) ?_
        refine lv_iload_n hx hb dX13_ball_53 rfl (lv_at hl 4 rfl) ?_
        refine lv_ishl hx hb dX13_ball_54 ?_
        refine lv_ior hx hb dX13_ball_55 ?_
        refine lv_goto (tgt := 67) hx hb dX13_ball_56 (by decide) ?_
        exact w_X13_ball_67 C  _ _ _ _ _ _ _ _ _ _ hf hP hD hS (lv_sub hl [1, 2, 3, 0] rfl)
    · have hf := ite_t hf hc
      refine lv_bipush (v := (-2)) hx hb dX13_ball_21 (by decide) ?_
      obtain rfl := Option.some.inj hf
      exact k_iret hx hb hr hlocks hK hP hD hS dX13_ball_23
/-! MarbleFloorModel.cell(II)I -/
abbrev wlX13_cell : List Cond := Cond.code yX13_cell cX13_cell 3 (some .int) :: tbG
abbrev rmX13_cell : Room := { frames := 2, cells := 0, slots := 0, locals := 47 }
theorem qnX13_cell : yX13_cell.cls = RX13 ∧ yX13_cell.cls ≠ "java/lang/invoke/MethodHandle" ∧ yX13_cell.cls ≠ "java/lang/invoke/VarHandle" ∧ (parseMethodDescriptor yX13_cell.desc).map (fun d => d.parameters.length) = some 2 := by decide +kernel
def f_X13_cell  (i0 : Nat → Int32) (r0 : Nat → Nat → Int32) (l0 : Nat → Nat → Int64) (x1 : Int32) (x2 : Int32) : Option (Int32) := bd (f_X13_isCell i0 r0 l0 x1 x2) (fun q3 => if q3 = 0 then (some ((-2))) else (bd (f_X13_at x1 x2) (fun q4 => ck (inb q4 100) (some (r0 69 q4.toNatClampNeg)))))
set_option maxRecDepth 100000 in
set_option maxHeartbeats 4000000 in
theorem c_X13_cell {l : Launch} {D : va_G} {cs zs : Nat → Nat} {h0 : Nat} {a0 : Nat → Nat} {i0 : Nat → Int32} {r0 : Nat → Nat → Int32} {l0 : Nat → Nat → Int64} {x1 : Int32} {x2 : Int32} {q : Int32} (hf : f_X13_cell i0 r0 l0 x1 x2 = some q) : Mi l yX13_cell wlX13_cell rmX13_cell D cs zs [.ref h0, .int x1, .int x2] (W13 cs h0 a0 i0 r0 l0) q (W13 cs h0 a0 i0 r0 l0) := by
  refine Mi.of RX13 (by decide) rfl (Nat.le_of_ble_eq_true rfl) (fun p e s m below meth c A C hP hD hS ls hl => ?_)
  generalize ([.ref h0, .int x1, .int x2] : List Value).toArray = args at C ⊢
  obtain ⟨hx, hb, hr, hml, hown, hts, hK, hA, hlocks, hZ⟩ := id C
  have hl : lv_has ls 3 [(0, .ref h0), (1, .int x1), (2, .int x2)] := hl
  rw [f_X13_cell] at hf
  refine lv_aload_n hx hb dX13_cell_0 rfl (lv_at hl 0 rfl) ?_
  refine lv_iload_n hx hb dX13_cell_1 rfl (lv_at hl 1 rfl) ?_
  refine lv_iload_n hx hb dX13_cell_2 rfl (lv_at hl 2 rfl) ?_
  obtain ⟨q3, hq3, hf⟩ := bd_s hf
  refine k_sVi (ws2 := W13 cs h0 a0 i0 r0 l0) (As := [.int x1, .int x2]) (rest := []) hx hb hml hown hts hK hA hZ hl.1 hP hD hS (c_X13_isCell (h0 := h0) (a0 := a0) hq3) (gVt mlX13_581 imX13_isCell seX13_isCell inX13 coX13_isCell) rfl qnX13_isCell rfl rfl ⟨Nat.le_of_ble_eq_true rfl, Nat.le_of_ble_eq_true rfl⟩ 0 13 rfl rfl rfl rfl rfl (Nat.le_of_ble_eq_true rfl) ⟨Nat.zero_le _, Nat.zero_le _⟩ dX13_cell_3 (fun H locs hP hD hS => ?_)
  refine lv_if_eq (tgt := 22) hx hb dX13_cell_6 (by decide) (fun hc => ?_) (fun hc => ?_)
  · have hf := ite_t hf hc
    refine lv_bipush (v := (-2)) hx hb dX13_cell_22 (by decide) ?_
    obtain rfl := Option.some.inj hf
    exact k_iret hx hb hr hlocks hK hP hD hS dX13_cell_24
  · have hf := ite_f hf hc
    refine lv_aload_n hx hb dX13_cell_9 rfl (lv_at hl 0 rfl) ?_
    refine va_get (D := D) (ci := 13) (v := .ref (a0 69)) (C := RX13) (T := TX13) (N := 87) hx hb hts hiX13 hown hK hP 0 rfl rfl 69 (by decide) (hts _ flX13_240) (fun _ h9 => h9) rfl dX13_cell_10 ?_
    refine lv_iload_n hx hb dX13_cell_13 rfl (lv_at hl 1 rfl) ?_
    refine lv_iload_n hx hb dX13_cell_14 rfl (lv_at hl 2 rfl) ?_
    obtain ⟨q4, hq4, hf⟩ := bd_s hf
    refine k_eSi (As := [.int x1, .int x2]) (rest := [.ref (a0 69)]) hx hb hml hown hts hK hA hZ hl.1 hP hD hS (c_X13_at  hq4) (gSt mlX13_586 stX13_at inX13 coX13_at) rfl qnX13_at rfl rfl ⟨Nat.le_of_ble_eq_true rfl, Nat.le_of_ble_eq_true rfl⟩ rfl rfl (Nat.le_of_ble_eq_true rfl) ⟨Nat.zero_le _, Nat.zero_le _⟩ dX13_cell_15 (fun H locs hP hD hS => ?_)
    refine va_iald (f := r0 69) hx hb hK hP 39 0 rfl rfl (ck_in hf) dX13_cell_18 ?_
    have hf := ck_2 hf
    refine lv_goto (tgt := 24) hx hb dX13_cell_19 (by decide) ?_
    obtain rfl := Option.some.inj hf
    exact k_iret hx hb hr hlocks hK hP hD hS dX13_cell_24
/-! MarbleFloorModel.ballsNow()I -/
abbrev wlX13_ballsNow : List Cond := Cond.code yX13_ballsNow cX13_ballsNow 3 (some .int) :: tbG
abbrev rmX13_ballsNow : Room := { frames := 1, cells := 0, slots := 0, locals := 22 }
theorem qnX13_ballsNow : yX13_ballsNow.cls = RX13 ∧ yX13_ballsNow.cls ≠ "java/lang/invoke/MethodHandle" ∧ yX13_ballsNow.cls ≠ "java/lang/invoke/VarHandle" ∧ (parseMethodDescriptor yX13_ballsNow.desc).map (fun d => d.parameters.length) = some 0 := by decide +kernel
def f_X13_ballsNow_4 (i0 : Nat → Int32) (r0 : Nat → Nat → Int32) (l0 : Nat → Nat → Int64)  : Nat → Int32 → Int32 → Option (Int32)
  | 0, _, _ => none
  | n + 1, x1, x2 => if 100 ≤ x2 then (some (x1)) else (ck (inb x2 100) (bd (f_X13_bits (r0 69 x2.toNatClampNeg)) (fun q2 => f_X13_ballsNow_4 i0 r0 l0 n (x1 + q2) (x2 + 1))))
set_option maxRecDepth 100000 in
set_option maxHeartbeats 4000000 in
theorem w_X13_ballsNow_4 {p : Program} {l : Launch} {e : Env} {s : State} {m : MethodId} {args : Array Value} {below : List Frame} {meth : Method} {c : Code} {A : Nat → Prop} {D : va_G} {cs zs : Nat → Nat} {h0 : Nat} {a0 : Nat → Nat} {i0 : Nat → Int32} {r0 : Nat → Nat → Int32} {l0 : Nat → Nat → Int64} {q : Int32} (C : Cx p s m args meth c A D cs zs cX13_ballsNow 3 (some .int) RX13)  : ∀ (n : Nat), ∀ (x1 : Int32) (x2 : Int32) (H : Heap) (locs : List Loc) (ls : Array Slot), f_X13_ballsNow_4 i0 r0 l0 n x1 x2 = some q → va_P D vwCl (W13 cs h0 a0 i0 r0 l0) H → va_D A (W13 cs h0 a0 i0 r0 l0) → va_S A s.heap H locs → lv_has ls 3 [(0, .ref h0), (1, .int x1), (2, .int x2)] → W p l e rmX13_ballsNow s m args below meth c H locs 0 0 (MQ below (Qi D cs A q (W13 cs h0 a0 i0 r0 l0)) args s 0 0 A) (F0 m 4 ls []) := by
  obtain ⟨hx, hb, hr, hml, hown, hts, hK, hA, hlocks, hZ⟩ := id C
  intro n
  induction n with
  | zero =>
    intro x1 x2 H locs ls hf
    rw [f_X13_ballsNow_4] at hf
    cases hf
  | succ n ih =>
    intro x1 x2 H locs ls hf hP hD hS hl
    rw [f_X13_ballsNow_4] at hf
    refine lv_iload_n hx hb dX13_ballsNow_4 rfl (lv_at hl 2 rfl) ?_
    refine lv_bipush (v := 100) hx hb dX13_ballsNow_5 (by decide) ?_
    refine lv_icmp_ge (tgt := 28) hx hb dX13_ballsNow_7 (by decide) (fun hc => ?_) (fun hc => ?_)
    · have hf := ite_t hf hc
      refine lv_iload_n hx hb dX13_ballsNow_28 rfl (lv_at hl 1 rfl) ?_
      obtain rfl := Option.some.inj hf
      exact k_iret hx hb hr hlocks hK hP hD hS dX13_ballsNow_29
    · have hf := ite_f hf hc
      refine lv_iload_n hx hb dX13_ballsNow_10 rfl (lv_at hl 1 rfl) ?_
      refine lv_aload_n hx hb dX13_ballsNow_11 rfl (lv_at hl 0 rfl) ?_
      refine va_get (D := D) (ci := 13) (v := .ref (a0 69)) (C := RX13) (T := TX13) (N := 87) hx hb hts hiX13 hown hK hP 0 rfl rfl 69 (by decide) (hts _ flX13_240) (fun _ h9 => h9) rfl dX13_ballsNow_12 ?_
      refine lv_iload_n hx hb dX13_ballsNow_15 rfl (lv_at hl 2 rfl) ?_
      refine va_iald (f := r0 69) hx hb hK hP 39 0 rfl rfl (ck_in hf) dX13_ballsNow_16 ?_
      have hf := ck_2 hf
      obtain ⟨q2, hq2, hf⟩ := bd_s hf
      refine k_eSi (As := [.int (r0 69 x2.toNatClampNeg)]) (rest := [.int x1]) hx hb hml hown hts hK hA hZ hl.1 hP hD hS (c_X13_bits  hq2) (gSt mlX13_333 stX13_bits inX13 coX13_bits) rfl qnX13_bits rfl rfl ⟨Nat.le_of_ble_eq_true rfl, Nat.le_of_ble_eq_true rfl⟩ rfl rfl (Nat.le_of_ble_eq_true rfl) ⟨Nat.zero_le _, Nat.zero_le _⟩ dX13_ballsNow_17 (fun H locs hP hD hS => ?_)
      refine lv_iadd hx hb dX13_ballsNow_20 ?_
      refine lv_istore_n (lv' := [(1, .int (x1 + q2)), (0, .ref h0), (2, .int x2)]) hx hb dX13_ballsNow_21 rfl hl (by decide) rfl (fun ls hl => ?_)
      refine lv_iinc (v := x2 + 1) (lv' := [(2, .int (x2 + 1)), (1, .int (x1 + q2)), (0, .ref h0)]) hx hb dX13_ballsNow_22 hl (k := 2) rfl rfl (by decide) rfl (fun ls hl => ?_)
      refine lv_goto (tgt := 4) hx hb dX13_ballsNow_25 (by decide) ?_
      exact ih _ _ _ _ _ hf hP hD hS (lv_sub hl [2, 1, 0] rfl)
def f_X13_ballsNow  (i0 : Nat → Int32) (r0 : Nat → Nat → Int32) (l0 : Nat → Nat → Int64)  : Option (Int32) := f_X13_ballsNow_4 i0 r0 l0 2000000 0 0
set_option maxRecDepth 100000 in
set_option maxHeartbeats 4000000 in
theorem c_X13_ballsNow {l : Launch} {D : va_G} {cs zs : Nat → Nat} {h0 : Nat} {a0 : Nat → Nat} {i0 : Nat → Int32} {r0 : Nat → Nat → Int32} {l0 : Nat → Nat → Int64}  {q : Int32} (hf : f_X13_ballsNow i0 r0 l0 = some q) : Mi l yX13_ballsNow wlX13_ballsNow rmX13_ballsNow D cs zs [.ref h0] (W13 cs h0 a0 i0 r0 l0) q (W13 cs h0 a0 i0 r0 l0) := by
  refine Mi.of RX13 (by decide) rfl (Nat.le_of_ble_eq_true rfl) (fun p e s m below meth c A C hP hD hS ls hl => ?_)
  generalize ([.ref h0] : List Value).toArray = args at C ⊢
  obtain ⟨hx, hb, hr, hml, hown, hts, hK, hA, hlocks, hZ⟩ := id C
  have hl : lv_has ls 3 [(0, .ref h0)] := hl
  rw [f_X13_ballsNow] at hf
  refine lv_iconst (v := 0) hx hb dX13_ballsNow_0 (by decide) ?_
  refine lv_istore_n (lv' := [(1, .int 0), (0, .ref h0)]) hx hb dX13_ballsNow_1 rfl hl (by decide) rfl (fun ls hl => ?_)
  refine lv_iconst (v := 0) hx hb dX13_ballsNow_2 (by decide) ?_
  refine lv_istore_n (lv' := [(2, .int 0), (1, .int 0), (0, .ref h0)]) hx hb dX13_ballsNow_3 rfl hl (by decide) rfl (fun ls hl => ?_)
  exact w_X13_ballsNow_4 C  2000000 _ _ _ _ _ hf hP hD hS (lv_sub hl [2, 1, 0] rfl)
/-! MarbleFloorModel.turn(II)I -/
abbrev wlX13_turn : List Cond := Cond.code yX13_turn cX13_turn 5 (some .int) :: tbG
abbrev rmX13_turn : Room := { frames := 0, cells := 0, slots := 0, locals := 0 }
theorem qnX13_turn : yX13_turn.cls = RX13 ∧ yX13_turn.cls ≠ "java/lang/invoke/MethodHandle" ∧ yX13_turn.cls ≠ "java/lang/invoke/VarHandle" ∧ (parseMethodDescriptor yX13_turn.desc).map (fun d => d.parameters.length) = some 2 := by decide +kernel
def f_X13_turn_68 (i0 : Nat → Int32) (r0 : Nat → Nat → Int32) (l0 : Nat → Nat → Int64) (K31 : Int32 → Int32 → Int32 → Int32 → Option (Int32)) (x1 : Int32) (x2 : Int32) (x3 : Int32) (x4 : Int32) : Option (Int32) := K31 x1 x2 x3 (x4 + 1)
set_option maxRecDepth 100000 in
set_option maxHeartbeats 4000000 in
theorem w_X13_turn_68 {p : Program} {l : Launch} {e : Env} {s : State} {m : MethodId} {args : Array Value} {below : List Frame} {meth : Method} {c : Code} {A : Nat → Prop} {D : va_G} {cs zs : Nat → Nat} {h0 : Nat} {a0 : Nat → Nat} {i0 : Nat → Int32} {r0 : Nat → Nat → Int32} {l0 : Nat → Nat → Int64} {q : Int32} (C : Cx p s m args meth c A D cs zs cX13_turn 5 (some .int) RX13) (K31 : Int32 → Int32 → Int32 → Int32 → Option (Int32)) (hK31 : ∀ (x1 : Int32) (x2 : Int32) (x3 : Int32) (x4 : Int32) (H : Heap) (locs : List Loc) (ls : Array Slot), K31 x1 x2 x3 x4 = some q → va_P D vwCl (W13 cs h0 a0 i0 r0 l0) H → va_D A (W13 cs h0 a0 i0 r0 l0) → va_S A s.heap H locs → lv_has ls 5 [(1, .int x1), (2, .int x2), (3, .int x3), (4, .int x4)] → W p l e rmX13_turn s m args below meth c H locs 0 0 (MQ below (Qi D cs A q (W13 cs h0 a0 i0 r0 l0)) args s 0 0 A) (F0 m 31 ls [])) : ∀ (x1 : Int32) (x2 : Int32) (x3 : Int32) (x4 : Int32) (H : Heap) (locs : List Loc) (ls : Array Slot), f_X13_turn_68 i0 r0 l0 K31 x1 x2 x3 x4 = some q → va_P D vwCl (W13 cs h0 a0 i0 r0 l0) H → va_D A (W13 cs h0 a0 i0 r0 l0) → va_S A s.heap H locs → lv_has ls 5 [(1, .int x1), (2, .int x2), (3, .int x3), (4, .int x4)] → W p l e rmX13_turn s m args below meth c H locs 0 0 (MQ below (Qi D cs A q (W13 cs h0 a0 i0 r0 l0)) args s 0 0 A) (F0 m 68 ls []) := by
  obtain ⟨hx, hb, hr, hml, hown, hts, hK, hA, hlocks, hZ⟩ := id C
  intro x1 x2 x3 x4 H locs ls hf hP hD hS hl
  rw [f_X13_turn_68] at hf
  refine lv_iinc (v := x4 + 1) (lv' := [(4, .int (x4 + 1)), (1, .int x1), (2, .int x2), (3, .int x3)]) hx hb dX13_turn_68 hl (k := 3) rfl rfl (by decide) rfl (fun ls hl => ?_)
  refine lv_goto (tgt := 31) hx hb dX13_turn_71 (by decide) ?_
  exact hK31 _ _ _ _ _ _ _ hf hP hD hS (lv_sub hl [1, 2, 3, 0] rfl)
def f_X13_turn_65 (i0 : Nat → Int32) (r0 : Nat → Nat → Int32) (l0 : Nat → Nat → Int64) (K31 : Int32 → Int32 → Int32 → Int32 → Option (Int32)) (x1 : Int32) (x2 : Int32) (x4 : Int32) (y0 : Int32) (y1 : Int32) (y2 : Int32) : Option (Int32) := f_X13_turn_68 i0 r0 l0 K31 x1 x2 (y2 ||| (y1 <<< (y0 &&& 31))) x4
set_option maxRecDepth 100000 in
set_option maxHeartbeats 4000000 in
theorem w_X13_turn_65 {p : Program} {l : Launch} {e : Env} {s : State} {m : MethodId} {args : Array Value} {below : List Frame} {meth : Method} {c : Code} {A : Nat → Prop} {D : va_G} {cs zs : Nat → Nat} {h0 : Nat} {a0 : Nat → Nat} {i0 : Nat → Int32} {r0 : Nat → Nat → Int32} {l0 : Nat → Nat → Int64} {q : Int32} (C : Cx p s m args meth c A D cs zs cX13_turn 5 (some .int) RX13) (K31 : Int32 → Int32 → Int32 → Int32 → Option (Int32)) (hK31 : ∀ (x1 : Int32) (x2 : Int32) (x3 : Int32) (x4 : Int32) (H : Heap) (locs : List Loc) (ls : Array Slot), K31 x1 x2 x3 x4 = some q → va_P D vwCl (W13 cs h0 a0 i0 r0 l0) H → va_D A (W13 cs h0 a0 i0 r0 l0) → va_S A s.heap H locs → lv_has ls 5 [(1, .int x1), (2, .int x2), (3, .int x3), (4, .int x4)] → W p l e rmX13_turn s m args below meth c H locs 0 0 (MQ below (Qi D cs A q (W13 cs h0 a0 i0 r0 l0)) args s 0 0 A) (F0 m 31 ls [])) : ∀ (x1 : Int32) (x2 : Int32) (x4 : Int32) (y0 : Int32) (y1 : Int32) (y2 : Int32) (H : Heap) (locs : List Loc) (ls : Array Slot), f_X13_turn_65 i0 r0 l0 K31 x1 x2 x4 y0 y1 y2 = some q → va_P D vwCl (W13 cs h0 a0 i0 r0 l0) H → va_D A (W13 cs h0 a0 i0 r0 l0) → va_S A s.heap H locs → lv_has ls 5 [(1, .int x1), (2, .int x2), (4, .int x4)] → W p l e rmX13_turn s m args below meth c H locs 0 0 (MQ below (Qi D cs A q (W13 cs h0 a0 i0 r0 l0)) args s 0 0 A) (F0 m 65 ls [.int y0, .int y1, .int y2]) := by
  obtain ⟨hx, hb, hr, hml, hown, hts, hK, hA, hlocks, hZ⟩ := id C
  intro x1 x2 x4 y0 y1 y2 H locs ls hf hP hD hS hl
  rw [f_X13_turn_65] at hf
  refine lv_ishl hx hb dX13_turn_65 ?_
  refine lv_ior hx hb dX13_turn_66 ?_
  refine lv_istore_n (lv' := [(3, .int (y2 ||| (y1 <<< (y0 &&& 31)))), (1, .int x1), (2, .int x2), (4, .int x4)]) hx hb dX13_turn_67 rfl hl (by decide) rfl (fun ls hl => ?_)
  exact w_X13_turn_68 C _ (hK31) _ _ _ _ _ _ _ hf hP hD hS (lv_sub hl [1, 2, 0, 3] rfl)
def f_X13_turn_31 (i0 : Nat → Int32) (r0 : Nat → Nat → Int32) (l0 : Nat → Nat → Int64)  : Nat → Int32 → Int32 → Int32 → Int32 → Option (Int32)
  | 0, _, _, _, _ => none
  | n + 1, x1, x2, x3, x4 => if 4 ≤ x4 then (some (x3)) else (if ((x2 >>> (x4 &&& 31)) &&& 1) = 1 then (if x1 = 1 then (f_X13_turn_65 i0 r0 l0 (f_X13_turn_31 i0 r0 l0 n) x1 x2 x4 (x4 ^^^ 1) 1 x3) else (f_X13_turn_65 i0 r0 l0 (f_X13_turn_31 i0 r0 l0 n) x1 x2 x4 (3 - x4) 1 x3)) else (f_X13_turn_68 i0 r0 l0 (f_X13_turn_31 i0 r0 l0 n) x1 x2 x3 x4))
set_option maxRecDepth 100000 in
set_option maxHeartbeats 4000000 in
theorem w_X13_turn_31 {p : Program} {l : Launch} {e : Env} {s : State} {m : MethodId} {args : Array Value} {below : List Frame} {meth : Method} {c : Code} {A : Nat → Prop} {D : va_G} {cs zs : Nat → Nat} {h0 : Nat} {a0 : Nat → Nat} {i0 : Nat → Int32} {r0 : Nat → Nat → Int32} {l0 : Nat → Nat → Int64} {q : Int32} (C : Cx p s m args meth c A D cs zs cX13_turn 5 (some .int) RX13)  : ∀ (n : Nat), ∀ (x1 : Int32) (x2 : Int32) (x3 : Int32) (x4 : Int32) (H : Heap) (locs : List Loc) (ls : Array Slot), f_X13_turn_31 i0 r0 l0 n x1 x2 x3 x4 = some q → va_P D vwCl (W13 cs h0 a0 i0 r0 l0) H → va_D A (W13 cs h0 a0 i0 r0 l0) → va_S A s.heap H locs → lv_has ls 5 [(1, .int x1), (2, .int x2), (3, .int x3), (4, .int x4)] → W p l e rmX13_turn s m args below meth c H locs 0 0 (MQ below (Qi D cs A q (W13 cs h0 a0 i0 r0 l0)) args s 0 0 A) (F0 m 31 ls []) := by
  obtain ⟨hx, hb, hr, hml, hown, hts, hK, hA, hlocks, hZ⟩ := id C
  intro n
  induction n with
  | zero =>
    intro x1 x2 x3 x4 H locs ls hf
    rw [f_X13_turn_31] at hf
    cases hf
  | succ n ih =>
    intro x1 x2 x3 x4 H locs ls hf hP hD hS hl
    rw [f_X13_turn_31] at hf
    refine lv_iload hx hb dX13_turn_31 (lv_at hl 3 rfl) ?_
    refine lv_iconst (v := 4) hx hb dX13_turn_33 (by decide) ?_
    refine lv_icmp_ge (tgt := 74) hx hb dX13_turn_34 (by decide) (fun hc => ?_) (fun hc => ?_)
    · have hf := ite_t hf hc
      refine lv_iload_n hx hb dX13_turn_74 rfl (lv_at hl 2 rfl) ?_
      obtain rfl := Option.some.inj hf
      exact k_iret hx hb hr hlocks hK hP hD hS dX13_turn_75
    · have hf := ite_f hf hc
      refine lv_iload_n hx hb dX13_turn_37 rfl (lv_at hl 1 rfl) ?_
      refine lv_iload hx hb dX13_turn_38 (lv_at hl 3 rfl) ?_
      refine lv_ishr hx hb dX13_turn_40 ?_
      refine lv_iconst (v := 1) hx hb dX13_turn_41 (by decide) ?_
      refine lv_iand hx hb dX13_turn_42 ?_
      refine lv_iconst (v := 1) hx hb dX13_turn_43 (by decide) ?_
      refine lv_icmp_ne (tgt := 68) hx hb dX13_turn_44 (by decide) (fun hc => ?_) (fun hc => ?_)
      · have hf := ite_f hf hc
        exact w_X13_turn_68 C _ (ih) _ _ _ _ _ _ _ hf hP hD hS (lv_sub hl [0, 1, 2, 3] rfl)
      · have hf := ite_t hf hc
        refine lv_iload_n hx hb dX13_turn_47 rfl (lv_at hl 2 rfl) ?_
        refine lv_iconst (v := 1) hx hb dX13_turn_48 (by decide) ?_
        refine lv_iload_n hx hb dX13_turn_49 rfl (lv_at hl 0 rfl) ?_
        refine lv_iconst (v := 1) hx hb dX13_turn_50 (by decide) ?_
        refine lv_icmp_ne (tgt := 61) hx hb dX13_turn_51 (by decide) (fun hc => ?_) (fun hc => ?_)
        · have hf := ite_f hf hc
          refine lv_iconst (v := 3) hx hb dX13_turn_61 (by decide) ?_
          refine lv_iload hx hb dX13_turn_62 (lv_at hl 3 rfl) ?_
          refine lv_isub hx hb dX13_turn_64 ?_
          exact w_X13_turn_65 C _ (ih) _ _ _ _ _ _ _ _ _ hf hP hD hS (lv_sub hl [0, 1, 3] rfl)
        · have hf := ite_t hf hc
          refine lv_iload hx hb dX13_turn_54 (lv_at hl 3 rfl) ?_
          refine lv_iconst (v := 1) hx hb dX13_turn_56 (by decide) ?_
          refine lv_ixor hx hb dX13_turn_57 ?_
          refine lv_goto (tgt := 65) hx hb dX13_turn_58 (by decide) ?_
          exact w_X13_turn_65 C _ (ih) _ _ _ _ _ _ _ _ _ hf hP hD hS (lv_sub hl [0, 1, 3] rfl)
def f_X13_turn  (i0 : Nat → Int32) (r0 : Nat → Nat → Int32) (l0 : Nat → Nat → Int64) (x1 : Int32) (x2 : Int32) : Option (Int32) := if x1 = 0 then (if x2 = 5 then (some (10)) else (if x2 = 10 then (some (5)) else (some (x2)))) else (f_X13_turn_31 i0 r0 l0 2000000 x1 x2 0 0)
set_option maxRecDepth 100000 in
set_option maxHeartbeats 4000000 in
theorem c_X13_turn {l : Launch} {D : va_G} {cs zs : Nat → Nat} {h0 : Nat} {a0 : Nat → Nat} {i0 : Nat → Int32} {r0 : Nat → Nat → Int32} {l0 : Nat → Nat → Int64} {x1 : Int32} {x2 : Int32} {q : Int32} (hf : f_X13_turn i0 r0 l0 x1 x2 = some q) : Mi l yX13_turn wlX13_turn rmX13_turn D cs zs [.ref h0, .int x1, .int x2] (W13 cs h0 a0 i0 r0 l0) q (W13 cs h0 a0 i0 r0 l0) := by
  refine Mi.of RX13 (by decide) rfl (Nat.le_of_ble_eq_true rfl) (fun p e s m below meth c A C hP hD hS ls hl => ?_)
  generalize ([.ref h0, .int x1, .int x2] : List Value).toArray = args at C ⊢
  obtain ⟨hx, hb, hr, hml, hown, hts, hK, hA, hlocks, hZ⟩ := id C
  have hl : lv_has ls 5 [(0, .ref h0), (1, .int x1), (2, .int x2)] := hl
  rw [f_X13_turn] at hf
  refine lv_iload_n hx hb dX13_turn_0 rfl (lv_at hl 1 rfl) ?_
  refine lv_if_ne (tgt := 26) hx hb dX13_turn_1 (by decide) (fun hc => ?_) (fun hc => ?_)
  · have hf := ite_f hf hc
    refine lv_iconst (v := 0) hx hb dX13_turn_26 (by decide) ?_
    refine lv_istore_n (lv' := [(3, .int 0), (0, .ref h0), (1, .int x1), (2, .int x2)]) hx hb dX13_turn_27 rfl hl (by decide) rfl (fun ls hl => ?_)
    refine lv_iconst (v := 0) hx hb dX13_turn_28 (by decide) ?_
    refine lv_istore (lv' := [(4, .int 0), (3, .int 0), (0, .ref h0), (1, .int x1), (2, .int x2)]) hx hb dX13_turn_29 hl (by decide) rfl (fun ls hl => ?_)
    exact w_X13_turn_31 C  2000000 _ _ _ _ _ _ _ hf hP hD hS (lv_sub hl [3, 4, 1, 0] rfl)
  · have hf := ite_t hf hc
    refine lv_iload_n hx hb dX13_turn_4 rfl (lv_at hl 2 rfl) ?_
    refine lv_iconst (v := 5) hx hb dX13_turn_5 (by decide) ?_
    refine lv_icmp_ne (tgt := 14) hx hb dX13_turn_6 (by decide) (fun hc => ?_) (fun hc => ?_)
    · have hf := ite_f hf hc
      refine lv_iload_n hx hb dX13_turn_14 rfl (lv_at hl 2 rfl) ?_
      refine lv_bipush (v := 10) hx hb dX13_turn_15 (by decide) ?_
      refine lv_icmp_ne (tgt := 24) hx hb dX13_turn_17 (by decide) (fun hc => ?_) (fun hc => ?_)
      · have hf := ite_f hf hc
        refine lv_iload_n hx hb dX13_turn_24 rfl (lv_at hl 2 rfl) ?_
        obtain rfl := Option.some.inj hf
        exact k_iret hx hb hr hlocks hK hP hD hS dX13_turn_25
      · have hf := ite_t hf hc
        refine lv_iconst (v := 5) hx hb dX13_turn_20 (by decide) ?_
        refine lv_goto (tgt := 25) hx hb dX13_turn_21 (by decide) ?_
        obtain rfl := Option.some.inj hf
        exact k_iret hx hb hr hlocks hK hP hD hS dX13_turn_25
    · have hf := ite_t hf hc
      refine lv_bipush (v := 10) hx hb dX13_turn_9 (by decide) ?_
      refine lv_goto (tgt := 25) hx hb dX13_turn_11 (by decide) ?_
      obtain rfl := Option.some.inj hf
      exact k_iret hx hb hr hlocks hK hP hD hS dX13_turn_25
/-! MarbleFloorModel.right(I)I -/
abbrev wlX13_right : List Cond := Cond.code yX13_right cX13_right 1 (some .int) :: tbG
abbrev rmX13_right : Room := { frames := 0, cells := 0, slots := 0, locals := 0 }
theorem qnX13_right : yX13_right.cls ≠ "java/lang/invoke/MethodHandle" ∧ yX13_right.cls ≠ "java/lang/invoke/VarHandle" ∧ (parseMethodDescriptor yX13_right.desc).map (fun d => d.parameters.length) = some 1 := by decide +kernel
def f_X13_right   (x0 : Int32) : Option (Int32) := if x0 = 0 then (some (1)) else (if x0 = 2 then (some ((-1))) else (some (0)))
set_option maxRecDepth 100000 in
set_option maxHeartbeats 4000000 in
theorem c_X13_right {l : Launch} {D : va_G} {cs zs : Nat → Nat}   {x0 : Int32} {q : Int32} (hf : f_X13_right x0 = some q) : Mi l yX13_right wlX13_right rmX13_right D cs zs [.int x0] (([] : va_W)) q (([] : va_W)) := by
  refine Mi.of RX13 (by decide) rfl (Nat.le_of_ble_eq_true rfl) (fun p e s m below meth c A C hP hD hS ls hl => ?_)
  generalize ([.int x0] : List Value).toArray = args at C ⊢
  obtain ⟨hx, hb, hr, hml, hown, hts, hK, hA, hlocks, hZ⟩ := id C
  have hl : lv_has ls 1 [(0, .int x0)] := hl
  rw [f_X13_right] at hf
  refine lv_iload_n hx hb dX13_right_0 rfl (lv_at hl 0 rfl) ?_
  refine lv_if_ne (tgt := 8) hx hb dX13_right_1 (by decide) (fun hc => ?_) (fun hc => ?_)
  · have hf := ite_f hf hc
    refine lv_iload_n hx hb dX13_right_8 rfl (lv_at hl 0 rfl) ?_
    refine lv_iconst (v := 2) hx hb dX13_right_9 (by decide) ?_
    refine lv_icmp_ne (tgt := 17) hx hb dX13_right_10 (by decide) (fun hc => ?_) (fun hc => ?_)
    · have hf := ite_f hf hc
      refine lv_iconst (v := 0) hx hb dX13_right_17 (by decide) ?_
      obtain rfl := Option.some.inj hf
      exact k_iret hx hb hr hlocks hK hP hD hS dX13_right_18
    · have hf := ite_t hf hc
      refine lv_iconst (v := (-1)) hx hb dX13_right_13 (by decide) ?_
      refine lv_goto (tgt := 18) hx hb dX13_right_14 (by decide) ?_
      obtain rfl := Option.some.inj hf
      exact k_iret hx hb hr hlocks hK hP hD hS dX13_right_18
  · have hf := ite_t hf hc
    refine lv_iconst (v := 1) hx hb dX13_right_4 (by decide) ?_
    refine lv_goto (tgt := 18) hx hb dX13_right_5 (by decide) ?_
    obtain rfl := Option.some.inj hf
    exact k_iret hx hb hr hlocks hK hP hD hS dX13_right_18
/-! MarbleFloorModel.up(I)I -/
abbrev wlX13_up : List Cond := Cond.code yX13_up cX13_up 1 (some .int) :: tbG
abbrev rmX13_up : Room := { frames := 0, cells := 0, slots := 0, locals := 0 }
theorem qnX13_up : yX13_up.cls ≠ "java/lang/invoke/MethodHandle" ∧ yX13_up.cls ≠ "java/lang/invoke/VarHandle" ∧ (parseMethodDescriptor yX13_up.desc).map (fun d => d.parameters.length) = some 1 := by decide +kernel
def f_X13_up   (x0 : Int32) : Option (Int32) := if x0 = 1 then (some (1)) else (if x0 = 3 then (some ((-1))) else (some (0)))
set_option maxRecDepth 100000 in
set_option maxHeartbeats 4000000 in
theorem c_X13_up {l : Launch} {D : va_G} {cs zs : Nat → Nat}   {x0 : Int32} {q : Int32} (hf : f_X13_up x0 = some q) : Mi l yX13_up wlX13_up rmX13_up D cs zs [.int x0] (([] : va_W)) q (([] : va_W)) := by
  refine Mi.of RX13 (by decide) rfl (Nat.le_of_ble_eq_true rfl) (fun p e s m below meth c A C hP hD hS ls hl => ?_)
  generalize ([.int x0] : List Value).toArray = args at C ⊢
  obtain ⟨hx, hb, hr, hml, hown, hts, hK, hA, hlocks, hZ⟩ := id C
  have hl : lv_has ls 1 [(0, .int x0)] := hl
  rw [f_X13_up] at hf
  refine lv_iload_n hx hb dX13_up_0 rfl (lv_at hl 0 rfl) ?_
  refine lv_iconst (v := 1) hx hb dX13_up_1 (by decide) ?_
  refine lv_icmp_ne (tgt := 9) hx hb dX13_up_2 (by decide) (fun hc => ?_) (fun hc => ?_)
  · have hf := ite_f hf hc
    refine lv_iload_n hx hb dX13_up_9 rfl (lv_at hl 0 rfl) ?_
    refine lv_iconst (v := 3) hx hb dX13_up_10 (by decide) ?_
    refine lv_icmp_ne (tgt := 18) hx hb dX13_up_11 (by decide) (fun hc => ?_) (fun hc => ?_)
    · have hf := ite_f hf hc
      refine lv_iconst (v := 0) hx hb dX13_up_18 (by decide) ?_
      obtain rfl := Option.some.inj hf
      exact k_iret hx hb hr hlocks hK hP hD hS dX13_up_19
    · have hf := ite_t hf hc
      refine lv_iconst (v := (-1)) hx hb dX13_up_14 (by decide) ?_
      refine lv_goto (tgt := 19) hx hb dX13_up_15 (by decide) ?_
      obtain rfl := Option.some.inj hf
      exact k_iret hx hb hr hlocks hK hP hD hS dX13_up_19
  · have hf := ite_t hf hc
    refine lv_iconst (v := 1) hx hb dX13_up_5 (by decide) ?_
    refine lv_goto (tgt := 19) hx hb dX13_up_6 (by decide) ?_
    obtain rfl := Option.some.inj hf
    exact k_iret hx hb hr hlocks hK hP hD hS dX13_up_19
