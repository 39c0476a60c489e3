/-! java/lang/StringLatin1.charAt([BI)C -/
abbrev wlJ1_charAt_3b067 : List Cond := Cond.code yJ1_charAt_3b067 cJ1_charAt_3b067 2 (some .char) :: tbG
abbrev rmJ1_charAt_3b067 : Room := { frames := 2, cells := 0, slots := 0, locals := 43 }
theorem qnJ1_charAt_3b067 : yJ1_charAt_3b067.cls ≠ "java/lang/invoke/MethodHandle" ∧ yJ1_charAt_3b067.cls ≠ "java/lang/invoke/VarHandle" ∧ (parseMethodDescriptor yJ1_charAt_3b067.desc).map (fun d => d.parameters.length) = some 2 := by decide +kernel
def f_J1_charAt_3b067 (w : Nat)   (x1 : Int32) : Option (Int32) := bd (f_J0_checkIndex_df160 x1 (Int32.ofNat (zLen.getD w 0))) (fun q2 => ck (inb x1 (zLen.getD w 0)) (some (((((zByt.getD w []).getD x1.toNatClampNeg 0) &&& 255).toUInt32 % 65536).toInt32)))
set_option maxRecDepth 100000 in
set_option maxHeartbeats 4000000 in
theorem c_J1_charAt_3b067 {l : Launch} {D : va_G} {cs zs : Nat → Nat}   {x1 : Int32} {q : Int32} {w : Nat} (hw : w < 20) (hf : f_J1_charAt_3b067 w x1 = some q) : Mi l yJ1_charAt_3b067 wlJ1_charAt_3b067 rmJ1_charAt_3b067 D cs zs [.ref (zs (40 + w)), .int x1] (([] : va_W)) q (([] : va_W)) := by
  refine Mi.of RJ1 (by decide) rfl (Nat.le_of_ble_eq_true rfl) (fun p e s m below meth c A C hP hD hS ls hl => ?_)
  generalize ([.ref (zs (40 + w)), .int x1] : List Value).toArray = args at C ⊢
  obtain ⟨hx, hb, hr, hml, hown, hts, hK, hA, hlocks, hZ⟩ := id C
  have hl : lv_has ls 2 [(0, .ref (zs (40 + w))), (1, .int x1)] := hl
  rw [f_J1_charAt_3b067] at hf
  refine lv_iload_n hx hb dJ1_charAt_3b067_0 rfl (lv_at hl 1 rfl) ?_
  refine lv_aload_n hx hb dJ1_charAt_3b067_1 rfl (lv_at hl 0 rfl) ?_
  refine va_tlen (v := Int32.ofNat (zLen.getD w 0)) hx hb (hZ.2.2.2.2.2.1.1 w hw).2.2.2 hS rfl dJ1_charAt_3b067_2 ?_
  obtain ⟨q2, hq2, hf⟩ := bd_s hf
  refine k_eSv (As := [.int x1, .int (Int32.ofNat (zLen.getD w 0))]) (rest := []) hx hb hml hown hts hK hA hZ hl.1 hP hD hS (c_J0_checkIndex_df160  hq2) (gSt mlJ1_9 stJ0_checkIndex_df160 inJ0 coJ0_checkIndex_df160) rfl qnJ0_checkIndex_df160 rfl rfl ⟨Nat.le_of_ble_eq_true rfl, Nat.le_of_ble_eq_true rfl⟩ rfl rfl (Nat.le_of_ble_eq_true rfl) ⟨Nat.zero_le _, Nat.zero_le _⟩ dJ1_charAt_3b067_3 (fun H locs hP hD hS => ?_)
  refine lv_aload_n hx hb dJ1_charAt_3b067_6 rfl (lv_at hl 0 rfl) ?_
  refine lv_iload_n hx hb dJ1_charAt_3b067_7 rfl (lv_at hl 1 rfl) ?_
  refine va_tb hx hb (hZ.2.2.2.2.2.1.1 w hw).2.2.2 hS (ck_in hf) rfl dJ1_charAt_3b067_8 ?_
  have hf := ck_2 hf
  refine lv_sipush (v := 255) hx hb dJ1_charAt_3b067_9 (by decide) ?_
  refine lv_iand hx hb dJ1_charAt_3b067_12 ?_
  refine lv_i2c hx hb dJ1_charAt_3b067_13 rfl ?_
  obtain rfl := Option.some.inj hf
  exact k_nret (r := ((((zByt.getD w []).getD x1.toNatClampNeg 0) &&& 255).toUInt32 % 65536).toInt32) hx hb hr hlocks (pk_nc _) hK hP hD hS dJ1_charAt_3b067_14
/-! java/lang/String.coder()B -/
abbrev wlJ0_coder_7d493 : List Cond := Cond.code yJ0_coder_7d493 cJ0_coder_7d493 1 (some .byte) :: tbG
abbrev rmJ0_coder_7d493 : Room := { frames := 0, cells := 0, slots := 0, locals := 0 }
theorem qnJ0_coder_7d493 : yJ0_coder_7d493.cls = RJ0 ∧ yJ0_coder_7d493.cls ≠ "java/lang/invoke/MethodHandle" ∧ yJ0_coder_7d493.cls ≠ "java/lang/invoke/VarHandle" ∧ (parseMethodDescriptor yJ0_coder_7d493.desc).map (fun d => d.parameters.length) = some 0 := by decide +kernel
def f_J0_coder_7d493 (w : Nat)    : Option (Int32) := if (1 : Int32) = 0 then (some (1)) else (some (0))
set_option maxRecDepth 100000 in
set_option maxHeartbeats 4000000 in
theorem c_J0_coder_7d493 {l : Launch} {D : va_G} {cs zs : Nat → Nat}    {q : Int32} {w : Nat} (hw : w < 20) (hf : f_J0_coder_7d493 w = some q) : Mi l yJ0_coder_7d493 wlJ0_coder_7d493 rmJ0_coder_7d493 D cs zs [.ref (zs (10 + w))] (([] : va_W)) q (([] : va_W)) := by
  refine Mi.of RJ0 (by decide) rfl (Nat.le_of_ble_eq_true rfl) (fun p e s m below meth c A C hP hD hS ls hl => ?_)
  generalize ([.ref (zs (10 + w))] : List Value).toArray = args at C ⊢
  obtain ⟨hx, hb, hr, hml, hown, hts, hK, hA, hlocks, hZ⟩ := id C
  have hl : lv_has ls 1 [(0, .ref (zs (10 + w)))] := hl
  rw [f_J0_coder_7d493] at hf
  refine va_gets hx hb hZ.2.2.2.2.1 hS hown (hts _ flJ0_38) (fun _ h9 => h9) dJ0_coder_7d493_0 ?_
  refine lv_if_eq (tgt := 13) hx hb dJ0_coder_7d493_3 (by decide) (fun hc => ?_) (fun hc => ?_)
  · have hf := ite_t hf hc
    refine lv_iconst (v := 1) hx hb dJ0_coder_7d493_13 (by decide) ?_
    obtain rfl := Option.some.inj hf
    exact k_nret (r := 1) hx hb hr hlocks rfl hK hP hD hS dJ0_coder_7d493_14
  · have hf := ite_f hf hc
    refine lv_aload_n hx hb dJ0_coder_7d493_6 rfl (lv_at hl 0 rfl) ?_
    refine vk_getf (v := .int 0) hx hb (hZ.2.2.2.2.2.1.1 w hw).2.1 hS hown (hts _ flJ0_15) (fun _ h9 => h9) dJ0_coder_7d493_7 ?_
    refine lv_goto (tgt := 14) hx hb dJ0_coder_7d493_10 (by decide) ?_
    obtain rfl := Option.some.inj hf
    exact k_nret (r := 0) hx hb hr hlocks rfl hK hP hD hS dJ0_coder_7d493_14
/-! java/lang/String.length()I -/
abbrev wlJ0_length_8abf5 : List Cond := Cond.code yJ0_length_8abf5 cJ0_length_8abf5 1 (some .int) :: tbG
abbrev rmJ0_length_8abf5 : Room := { frames := 1, cells := 0, slots := 0, locals := 20 }
theorem qnJ0_length_8abf5 : yJ0_length_8abf5.cls = RJ0 ∧ yJ0_length_8abf5.cls ≠ "java/lang/invoke/MethodHandle" ∧ yJ0_length_8abf5.cls ≠ "java/lang/invoke/VarHandle" ∧ (parseMethodDescriptor yJ0_length_8abf5.desc).map (fun d => d.parameters.length) = some 0 := by decide +kernel
def f_J0_length_8abf5 (w : Nat)    : Option (Int32) := bd (f_J0_coder_7d493 w) (fun q2 => some ((Int32.ofNat (zLen.getD w 0)) >>> (q2 &&& 31)))
set_option maxRecDepth 100000 in
set_option maxHeartbeats 4000000 in
theorem c_J0_length_8abf5 {l : Launch} {D : va_G} {cs zs : Nat → Nat}    {q : Int32} {w : Nat} (hw : w < 20) (hf : f_J0_length_8abf5 w = some q) : Mi l yJ0_length_8abf5 wlJ0_length_8abf5 rmJ0_length_8abf5 D cs zs [.ref (zs (10 + w))] (([] : va_W)) q (([] : va_W)) := by
  refine Mi.of RJ0 (by decide) rfl (Nat.le_of_ble_eq_true rfl) (fun p e s m below meth c A C hP hD hS ls hl => ?_)
  generalize ([.ref (zs (10 + w))] : List Value).toArray = args at C ⊢
  obtain ⟨hx, hb, hr, hml, hown, hts, hK, hA, hlocks, hZ⟩ := id C
  have hl : lv_has ls 1 [(0, .ref (zs (10 + w)))] := hl
  rw [f_J0_length_8abf5] at hf
  refine lv_aload_n hx hb dJ0_length_8abf5_0 rfl (lv_at hl 0 rfl) ?_
  refine vk_getf (v := .ref (zs (40 + w))) hx hb (hZ.2.2.2.2.2.1.1 w hw).2.2.1 hS hown (hts _ flJ0_9) (fun _ h9 => h9) dJ0_length_8abf5_1 ?_
  refine va_tlen (v := Int32.ofNat (zLen.getD w 0)) hx hb (hZ.2.2.2.2.2.1.1 w hw).2.2.2 hS rfl dJ0_length_8abf5_4 ?_
  refine lv_aload_n hx hb dJ0_length_8abf5_5 rfl (lv_at hl 0 rfl) ?_
  obtain ⟨q2, hq2, hf⟩ := bd_s hf
  refine k_eVi (As := []) (rest := [.int (Int32.ofNat (zLen.getD w 0))]) hx hb hml hown hts hK hA hZ hl.1 hP hD hS (c_J0_coder_7d493 (w := w) hw hq2) (gVt mlJ0_335 imJ0_coder_7d493 seJ0_coder_7d493 inJ0 coJ0_coder_7d493) rfl qnJ0_coder_7d493 rfl rfl ⟨Nat.le_of_ble_eq_true rfl, Nat.le_of_ble_eq_true rfl⟩ (vk_recv (i := w) (adK := fun i => zs (10 + i)) hZ.2.2.2.2.2.1 hw hS) rfl rfl (Nat.le_of_ble_eq_true rfl) ⟨Nat.zero_le _, Nat.zero_le _⟩ dJ0_length_8abf5_6 (fun H locs hP hD hS => ?_)
  refine lv_ishr hx hb dJ0_length_8abf5_9 ?_
  obtain rfl := Option.some.inj hf
  exact k_iret hx hb hr hlocks hK hP hD hS dJ0_length_8abf5_10
/-! java/lang/String.isLatin1()Z -/
abbrev wlJ0_isLatin1_aae02 : List Cond := Cond.code yJ0_isLatin1_aae02 cJ0_isLatin1_aae02 1 (some .boolean) :: tbG
abbrev rmJ0_isLatin1_aae02 : Room := { frames := 0, cells := 0, slots := 0, locals := 0 }
theorem qnJ0_isLatin1_aae02 : yJ0_isLatin1_aae02.cls = RJ0 ∧ yJ0_isLatin1_aae02.cls ≠ "java/lang/invoke/MethodHandle" ∧ yJ0_isLatin1_aae02.cls ≠ "java/lang/invoke/VarHandle" ∧ (parseMethodDescriptor yJ0_isLatin1_aae02.desc).map (fun d => d.parameters.length) = some 0 := by decide +kernel
def f_J0_isLatin1_aae02 (w : Nat)    : Option (Int32) := if (1 : Int32) = 0 then (some (0)) else (if (0 : Int32) = 0 then (some (1)) else (some (0)))
set_option maxRecDepth 100000 in
set_option maxHeartbeats 4000000 in
theorem c_J0_isLatin1_aae02 {l : Launch} {D : va_G} {cs zs : Nat → Nat}    {q : Int32} {w : Nat} (hw : w < 20) (hf : f_J0_isLatin1_aae02 w = some q) : Mi l yJ0_isLatin1_aae02 wlJ0_isLatin1_aae02 rmJ0_isLatin1_aae02 D cs zs [.ref (zs (10 + w))] (([] : va_W)) q (([] : va_W)) := by
  refine Mi.of RJ0 (by decide) rfl (Nat.le_of_ble_eq_true rfl) (fun p e s m below meth c A C hP hD hS ls hl => ?_)
  generalize ([.ref (zs (10 + w))] : List Value).toArray = args at C ⊢
  obtain ⟨hx, hb, hr, hml, hown, hts, hK, hA, hlocks, hZ⟩ := id C
  have hl : lv_has ls 1 [(0, .ref (zs (10 + w)))] := hl
  rw [f_J0_isLatin1_aae02] at hf
  refine va_gets hx hb hZ.2.2.2.2.1 hS hown (hts _ flJ0_38) (fun _ h9 => h9) dJ0_isLatin1_aae02_0 ?_
  refine lv_if_eq (tgt := 17) hx hb dJ0_isLatin1_aae02_3 (by decide) (fun hc => ?_) (fun hc => ?_)
  · have hf := ite_t hf hc
    refine lv_iconst (v := 0) hx hb dJ0_isLatin1_aae02_17 (by decide) ?_
    obtain rfl := Option.some.inj hf
    exact k_zret (r := 0) hx hb hr hlocks rfl hK hP hD hS dJ0_isLatin1_aae02_18
  · have hf := ite_f hf hc
    refine lv_aload_n hx hb dJ0_isLatin1_aae02_6 rfl (lv_at hl 0 rfl) ?_
    refine vk_getf (v := .int 0) hx hb (hZ.2.2.2.2.2.1.1 w hw).2.1 hS hown (hts _ flJ0_15) (fun _ h9 => h9) dJ0_isLatin1_aae02_7 ?_
    refine lv_if_ne (tgt := 17) hx hb dJ0_isLatin1_aae02_10 (by decide) (fun hc => ?_) (fun hc => ?_)
    · have hf := ite_f hf hc
      refine lv_iconst (v := 0) hx hb dJ0_isLatin1_aae02_17 (by decide) ?_
      obtain rfl := Option.some.inj hf
      exact k_zret (r := 0) hx hb hr hlocks rfl hK hP hD hS dJ0_isLatin1_aae02_18
    · have hf := ite_t hf hc
      refine lv_iconst (v := 1) hx hb dJ0_isLatin1_aae02_13 (by decide) ?_
      refine lv_goto (tgt := 18) hx hb dJ0_isLatin1_aae02_14 (by decide) ?_
      obtain rfl := Option.some.inj hf
      exact k_zret (r := 1) hx hb hr hlocks rfl hK hP hD hS dJ0_isLatin1_aae02_18
/-! java/lang/String.charAt(I)C -/
abbrev wlJ0_charAt_5068e : List Cond := Cond.code yJ0_charAt_5068e cJ0_charAt_5068e 2 (some .char) :: tbG
abbrev rmJ0_charAt_5068e : Room := { frames := 3, cells := 0, slots := 0, locals := 64 }
theorem qnJ0_charAt_5068e : yJ0_charAt_5068e.cls = RJ0 ∧ yJ0_charAt_5068e.cls ≠ "java/lang/invoke/MethodHandle" ∧ yJ0_charAt_5068e.cls ≠ "java/lang/invoke/VarHandle" ∧ (parseMethodDescriptor yJ0_charAt_5068e.desc).map (fun d => d.parameters.length) = some 1 := by decide +kernel
def f_J0_charAt_5068e (w : Nat)   (x1 : Int32) : Option (Int32) := bd (f_J0_isLatin1_aae02 w) (fun q3 => if q3 = 0 then (none) else (bd (f_J1_charAt_3b067 w x1) (fun q4 => ck (cz q4) (some (q4)))))
set_option maxRecDepth 100000 in
set_option maxHeartbeats 4000000 in
theorem c_J0_charAt_5068e {l : Launch} {D : va_G} {cs zs : Nat → Nat}   {x1 : Int32} {q : Int32} {w : Nat} (hw : w < 20) (hf : f_J0_charAt_5068e w x1 = some q) : Mi l yJ0_charAt_5068e wlJ0_charAt_5068e rmJ0_charAt_5068e D cs zs [.ref (zs (10 + w)), .int x1] (([] : va_W)) q (([] : va_W)) := by
  refine Mi.of RJ0 (by decide) rfl (Nat.le_of_ble_eq_true rfl) (fun p e s m below meth c A C hP hD hS ls hl => ?_)
  generalize ([.ref (zs (10 + w)), .int x1] : List Value).toArray = args at C ⊢
  obtain ⟨hx, hb, hr, hml, hown, hts, hK, hA, hlocks, hZ⟩ := id C
  have hl : lv_has ls 2 [(0, .ref (zs (10 + w))), (1, .int x1)] := hl
  rw [f_J0_charAt_5068e] at hf
  refine lv_aload_n hx hb dJ0_charAt_5068e_0 rfl (lv_at hl 0 rfl) ?_
  obtain ⟨q3, hq3, hf⟩ := bd_s hf
  refine k_eVi (As := []) (rest := []) hx hb hml hown hts hK hA hZ hl.1 hP hD hS (c_J0_isLatin1_aae02 (w := w) hw hq3) (gVt mlJ0_492 imJ0_isLatin1_aae02 seJ0_isLatin1_aae02 inJ0 coJ0_isLatin1_aae02) rfl qnJ0_isLatin1_aae02 rfl rfl ⟨Nat.le_of_ble_eq_true rfl, Nat.le_of_ble_eq_true rfl⟩ (vk_recv (i := w) (adK := fun i => zs (10 + i)) hZ.2.2.2.2.2.1 hw hS) rfl rfl (Nat.le_of_ble_eq_true rfl) ⟨Nat.zero_le _, Nat.zero_le _⟩ dJ0_charAt_5068e_1 (fun H locs hP hD hS => ?_)
  refine lv_if_eq (tgt := 16) hx hb dJ0_charAt_5068e_4 (by decide) (fun hc => ?_) (fun hc => ?_)
  · have hf := ite_t hf hc
    refine lv_aload_n hx hb dJ0_charAt_5068e_16 rfl (lv_at hl 0 rfl) ?_
    refine vk_getf (v := .ref (zs (40 + w))) hx hb (hZ.2.2.2.2.2.1.1 w hw).2.2.1 hS hown (hts _ flJ0_9) (fun _ h9 => h9) dJ0_charAt_5068e_17 ?_
    refine lv_iload_n hx hb dJ0_charAt_5068e_20 rfl (lv_at hl 1 rfl) ?_
    cases hf
  · have hf := ite_f hf hc
    refine lv_aload_n hx hb dJ0_charAt_5068e_7 rfl (lv_at hl 0 rfl) ?_
    refine vk_getf (v := .ref (zs (40 + w))) hx hb (hZ.2.2.2.2.2.1.1 w hw).2.2.1 hS hown (hts _ flJ0_9) (fun _ h9 => h9) dJ0_charAt_5068e_8 ?_
    refine lv_iload_n hx hb dJ0_charAt_5068e_11 rfl (lv_at hl 1 rfl) ?_
    obtain ⟨q4, hq4, hf⟩ := bd_s hf
    refine k_eSi (As := [.ref (zs (40 + w)), .int x1]) (rest := []) hx hb hml hown hts hK hA hZ hl.1 hP hD hS (c_J1_charAt_3b067 (w := w) hw hq4) (gSt mlJ0_495 stJ1_charAt_3b067 inJ1 coJ1_charAt_3b067) rfl qnJ1_charAt_3b067 rfl rfl ⟨Nat.le_of_ble_eq_true rfl, Nat.le_of_ble_eq_true rfl⟩ rfl rfl (Nat.le_of_ble_eq_true rfl) ⟨Nat.zero_le _, Nat.zero_le _⟩ dJ0_charAt_5068e_12 (fun H locs hP hD hS => ?_)
    have hz := ck_cz hf
    have hf := ck_2 hf
    obtain rfl := Option.some.inj hf
    exact k_nret (r := q4) hx hb hr hlocks hz hK hP hD hS dJ0_charAt_5068e_15
/-! MarbleFloorModel.is(Ljava/lang/String;)Z -/
abbrev wlX13_is : List Cond := Cond.code yX13_is cX13_is 4 (some .boolean) :: tbG
abbrev rmX13_is : Room := { frames := 4, cells := 0, slots := 0, locals := 85 }
theorem qnX13_is : yX13_is.cls = RX13 ∧ yX13_is.cls ≠ "java/lang/invoke/MethodHandle" ∧ yX13_is.cls ≠ "java/lang/invoke/VarHandle" ∧ (parseMethodDescriptor yX13_is.desc).map (fun d => d.parameters.length) = some 1 := by decide +kernel
def f_X13_is_68 (w : Nat) (i0 : Nat → Int32) (r0 : Nat → Nat → Int32) (l0 : Nat → Nat → Int64) (K32 : Int32 → Int32 → Option (Int32)) (x3 : Int32) (y0 : Int32) : Option (Int32) := K32 y0 (x3 + 1)
set_option maxRecDepth 100000 in
set_option maxHeartbeats 4000000 in
theorem w_X13_is_68 {p : Program} {l : Launch} {e : Env} {s : State} {m : MethodId} {args : Array Value} {below : List Frame} {meth : Method} {c : Code} {A : Nat → Prop} {D : va_G} {cs zs : Nat → Nat} {h0 : Nat} {a0 : Nat → Nat} {i0 : Nat → Int32} {r0 : Nat → Nat → Int32} {l0 : Nat → Nat → Int64} {q : Int32} (C : Cx p s m args meth c A D cs zs cX13_is 4 (some .boolean) RX13) {w : Nat} (hw : w < 20) (K32 : Int32 → Int32 → Option (Int32)) (hK32 : ∀ (x2 : Int32) (x3 : Int32) (H : Heap) (locs : List Loc) (ls : Array Slot), K32 x2 x3 = some q → va_P D vwCl (W13 cs h0 a0 i0 r0 l0) H → va_D A (W13 cs h0 a0 i0 r0 l0) → va_S A s.heap H locs → lv_has ls 4 [(0, .ref h0), (1, .ref (zs (10 + w))), (2, .int x2), (3, .int x3)] → W p l e rmX13_is s m args below meth c H locs 0 0 (MQ below (Qi D cs A q (W13 cs h0 a0 i0 r0 l0)) args s 0 0 A) (F0 m 32 ls [])) : ∀ (x3 : Int32) (y0 : Int32) (H : Heap) (locs : List Loc) (ls : Array Slot), f_X13_is_68 w i0 r0 l0 K32 x3 y0 = some q → va_P D vwCl (W13 cs h0 a0 i0 r0 l0) H → va_D A (W13 cs h0 a0 i0 r0 l0) → va_S A s.heap H locs → lv_has ls 4 [(0, .ref h0), (1, .ref (zs (10 + w))), (3, .int x3)] → W p l e rmX13_is s m args below meth c H locs 0 0 (MQ below (Qi D cs A q (W13 cs h0 a0 i0 r0 l0)) args s 0 0 A) (F0 m 68 ls [.int y0]) := by
  obtain ⟨hx, hb, hr, hml, hown, hts, hK, hA, hlocks, hZ⟩ := id C
  intro x3 y0 H locs ls hf hP hD hS hl
  rw [f_X13_is_68] at hf
  refine lv_istore_n (lv' := [(2, .int y0), (0, .ref h0), (1, .ref (zs (10 + w))), (3, .int x3)]) hx hb dX13_is_68 rfl hl (by decide) rfl (fun ls hl => ?_)
  refine lv_iinc (v := x3 + 1) (lv' := [(3, .int (x3 + 1)), (2, .int y0), (0, .ref h0), (1, .ref (zs (10 + w)))]) hx hb dX13_is_69 hl (k := 3) rfl rfl (by decide) rfl (fun ls hl => ?_)
  refine lv_goto (tgt := 32) hx hb dX13_is_72 (by decide) ?_
  exact hK32 _ _ _ _ _ hf hP hD hS (lv_sub hl [2, 3, 1, 0] rfl)
def f_X13_is_32 (w : Nat) (i0 : Nat → Int32) (r0 : Nat → Nat → Int32) (l0 : Nat → Nat → Int64)  : Nat → Int32 → Int32 → Option (Int32)
  | 0, _, _ => none
  | n + 1, x2, x3 => bd (f_J0_length_8abf5 w) (fun q4 => if q4 ≤ x3 then (ck (bz x2) (some (x2))) else (if x2 = 0 then (ck (bz x2) (some (x2))) else (ck (inb ((i0 4) + x3) 900) (bd (f_J0_charAt_5068e w x3) (fun q5 => if (r0 1 ((i0 4) + x3).toNatClampNeg) = q5 then (f_X13_is_68 w i0 r0 l0 (f_X13_is_32 w i0 r0 l0 n) x3 1) else (f_X13_is_68 w i0 r0 l0 (f_X13_is_32 w i0 r0 l0 n) x3 0))))))
set_option maxRecDepth 100000 in
set_option maxHeartbeats 4000000 in
theorem w_X13_is_32 {p : Program} {l : Launch} {e : Env} {s : State} {m : MethodId} {args : Array Value} {below : List Frame} {meth : Method} {c : Code} {A : Nat → Prop} {D : va_G} {cs zs : Nat → Nat} {h0 : Nat} {a0 : Nat → Nat} {i0 : Nat → Int32} {r0 : Nat → Nat → Int32} {l0 : Nat → Nat → Int64} {q : Int32} (C : Cx p s m args meth c A D cs zs cX13_is 4 (some .boolean) RX13) {w : Nat} (hw : w < 20)  : ∀ (n : Nat), ∀ (x2 : Int32) (x3 : Int32) (H : Heap) (locs : List Loc) (ls : Array Slot), f_X13_is_32 w i0 r0 l0 n x2 x3 = some q → va_P D vwCl (W13 cs h0 a0 i0 r0 l0) H → va_D A (W13 cs h0 a0 i0 r0 l0) → va_S A s.heap H locs → lv_has ls 4 [(0, .ref h0), (1, .ref (zs (10 + w))), (2, .int x2), (3, .int x3)] → W p l e rmX13_is s m args below meth c H locs 0 0 (MQ below (Qi D cs A q (W13 cs h0 a0 i0 r0 l0)) args s 0 0 A) (F0 m 32 ls []) := by
  obtain ⟨hx, hb, hr, hml, hown, hts, hK, hA, hlocks, hZ⟩ := id C
  intro n
  induction n with
  | zero =>
    intro x2 x3 H locs ls hf
    rw [f_X13_is_32] at hf
    cases hf
  | succ n ih =>
    intro x2 x3 H locs ls hf hP hD hS hl
    rw [f_X13_is_32] at hf
    refine lv_iload_n hx hb dX13_is_32 rfl (lv_at hl 3 rfl) ?_
    refine lv_aload_n hx hb dX13_is_33 rfl (lv_at hl 1 rfl) ?_
    obtain ⟨q4, hq4, hf⟩ := bd_s hf
    refine k_eVi (As := []) (rest := [.int x3]) hx hb hml hown hts hK hA hZ hl.1 hP hD hS (c_J0_length_8abf5 (w := w) hw hq4) (gVt mlX13_47 imJ0_length_8abf5 seJ0_length_8abf5 inJ0 coJ0_length_8abf5) rfl qnJ0_length_8abf5 rfl rfl ⟨Nat.le_of_ble_eq_true rfl, Nat.le_of_ble_eq_true rfl⟩ (vk_recv (i := w) (adK := fun i => zs (10 + i)) hZ.2.2.2.2.2.1 hw hS) rfl rfl (Nat.le_of_ble_eq_true rfl) ⟨Nat.zero_le _, Nat.zero_le _⟩ dX13_is_34 (fun H locs hP hD hS => ?_)
    refine lv_icmp_ge (tgt := 75) hx hb dX13_is_37 (by decide) (fun hc => ?_) (fun hc => ?_)
    · have hf := ite_t hf hc
      refine lv_iload_n hx hb dX13_is_75 rfl (lv_at hl 2 rfl) ?_
      have hz := ck_bz hf
      have hf := ck_2 hf
      obtain rfl := Option.some.inj hf
      exact k_zret (r := x2) hx hb hr hlocks hz hK hP hD hS dX13_is_76
    · have hf := ite_f hf hc
      refine lv_iload_n hx hb dX13_is_40 rfl (lv_at hl 2 rfl) ?_
      refine lv_if_eq (tgt := 75) hx hb dX13_is_41 (by decide) (fun hc => ?_) (fun hc => ?_)
      · have hf := ite_t hf hc
        refine lv_iload_n hx hb dX13_is_75 rfl (lv_at hl 2 rfl) ?_
        have hz := ck_bz hf
        have hf := ck_2 hf
        obtain rfl := Option.some.inj hf
        exact k_zret (r := x2) hx hb hr hlocks hz hK hP hD hS dX13_is_76
      · have hf := ite_f hf hc
        refine lv_aload_n hx hb dX13_is_44 rfl (lv_at hl 0 rfl) ?_
        refine va_get (D := D) (ci := 13) (v := .ref (a0 1)) (C := RX13) (T := TX13) (N := 87) hx hb hts hiX13 hown hK hP 0 rfl rfl 1 (by decide) (hts _ flX13_20) (fun _ h9 => h9) rfl dX13_is_45 ?_
        refine lv_aload_n hx hb dX13_is_48 rfl (lv_at hl 0 rfl) ?_
        refine va_get (D := D) (ci := 13) (v := .int (i0 4)) (C := RX13) (T := TX13) (N := 87) hx hb hts hiX13 hown hK hP 0 rfl rfl 4 (by decide) (hts _ flX13_7) (fun _ h9 => h9) rfl dX13_is_49 ?_
        refine lv_iload_n hx hb dX13_is_52 rfl (lv_at hl 3 rfl) ?_
        refine lv_iadd hx hb dX13_is_53 ?_
        refine va_bald (f := r0 1) hx hb hK hP 1 3 rfl rfl (ck_in hf) dX13_is_54 ?_
        have hf := ck_2 hf
        refine lv_aload_n hx hb dX13_is_55 rfl (lv_at hl 1 rfl) ?_
        refine lv_iload_n hx hb dX13_is_56 rfl (lv_at hl 3 rfl) ?_
        obtain ⟨q5, hq5, hf⟩ := bd_s hf
        refine k_eVi (As := [.int x3]) (rest := [.int (r0 1 ((i0 4) + x3).toNatClampNeg)]) hx hb hml hown hts hK hA hZ hl.1 hP hD hS (c_J0_charAt_5068e (w := w) hw hq5) (gVt mlX13_52 imJ0_charAt_5068e seJ0_charAt_5068e inJ0 coJ0_charAt_5068e) rfl qnJ0_charAt_5068e rfl rfl ⟨Nat.le_of_ble_eq_true rfl, Nat.le_of_ble_eq_true rfl⟩ (vk_recv (i := w) (adK := fun i => zs (10 + i)) hZ.2.2.2.2.2.1 hw hS) rfl rfl (Nat.le_of_ble_eq_true rfl) ⟨Nat.zero_le _, Nat.zero_le _⟩ dX13_is_57 (fun H locs hP hD hS => ?_)
        refine lv_icmp_ne (tgt := 67) hx hb dX13_is_60 (by decide) (fun hc => ?_) (fun hc => ?_)
        · have hf := ite_f hf hc
          refine lv_iconst (v := 0) hx hb dX13_is_67 (by decide) ?_
          exact w_X13_is_68 C hw _ (ih) _ _ _ _ _ hf hP hD hS (lv_sub hl [0, 1, 3] rfl)
        · have hf := ite_t hf hc
          refine lv_iconst (v := 1) hx hb dX13_is_63 (by decide) ?_
          refine lv_goto (tgt := 68) hx hb dX13_is_64 (by decide) ?_
          exact w_X13_is_68 C hw _ (ih) _ _ _ _ _ hf hP hD hS (lv_sub hl [0, 1, 3] rfl)
def f_X13_is_29 (w : Nat) (i0 : Nat → Int32) (r0 : Nat → Nat → Int32) (l0 : Nat → Nat → Int64)  (y0 : Int32) : Option (Int32) := f_X13_is_32 w i0 r0 l0 2000000 y0 0
set_option maxRecDepth 100000 in
set_option maxHeartbeats 4000000 in
theorem w_X13_is_29 {p : Program} {l : Launch} {e : Env} {s : State} {m : MethodId} {args : Array Value} {below : List Frame} {meth : Method} {c : Code} {A : Nat → Prop} {D : va_G} {cs zs : Nat → Nat} {h0 : Nat} {a0 : Nat → Nat} {i0 : Nat → Int32} {r0 : Nat → Nat → Int32} {l0 : Nat → Nat → Int64} {q : Int32} (C : Cx p s m args meth c A D cs zs cX13_is 4 (some .boolean) RX13) {w : Nat} (hw : w < 20)  : ∀ (y0 : Int32) (H : Heap) (locs : List Loc) (ls : Array Slot), f_X13_is_29 w i0 r0 l0 y0 = some q → va_P D vwCl (W13 cs h0 a0 i0 r0 l0) H → va_D A (W13 cs h0 a0 i0 r0 l0) → va_S A s.heap H locs → lv_has ls 4 [(0, .ref h0), (1, .ref (zs (10 + w)))] → W p l e rmX13_is s m args below meth c H locs 0 0 (MQ below (Qi D cs A q (W13 cs h0 a0 i0 r0 l0)) args s 0 0 A) (F0 m 29 ls [.int y0]) := by
  obtain ⟨hx, hb, hr, hml, hown, hts, hK, hA, hlocks, hZ⟩ := id C
  intro y0 H locs ls hf hP hD hS hl
  rw [f_X13_is_29] at hf
  refine lv_istore_n (lv' := [(2, .int y0), (0, .ref h0), (1, .ref (zs (10 + w)))]) hx hb dX13_is_29 rfl hl (by decide) rfl (fun ls hl => ?_)
  refine lv_iconst (v := 0) hx hb dX13_is_30 (by decide) ?_
  refine lv_istore_n (lv' := [(3, .int 0), (2, .int y0), (0, .ref h0), (1, .ref (zs (10 + w)))]) hx hb dX13_is_31 rfl hl (by decide) rfl (fun ls hl => ?_)
  exact w_X13_is_32 C hw  2000000 _ _ _ _ _ hf hP hD hS (lv_sub hl [2, 3, 1, 0] rfl)
def f_X13_is_28 (w : Nat) (i0 : Nat → Int32) (r0 : Nat → Nat → Int32) (l0 : Nat → Nat → Int64)   : Option (Int32) := f_X13_is_29 w i0 r0 l0 0
set_option maxRecDepth 100000 in
set_option maxHeartbeats 4000000 in
theorem w_X13_is_28 {p : Program} {l : Launch} {e : Env} {s : State} {m : MethodId} {args : Array Value} {below : List Frame} {meth : Method} {c : Code} {A : Nat → Prop} {D : va_G} {cs zs : Nat → Nat} {h0 : Nat} {a0 : Nat → Nat} {i0 : Nat → Int32} {r0 : Nat → Nat → Int32} {l0 : Nat → Nat → Int64} {q : Int32} (C : Cx p s m args meth c A D cs zs cX13_is 4 (some .boolean) RX13) {w : Nat} (hw : w < 20)  : ∀  (H : Heap) (locs : List Loc) (ls : Array Slot), f_X13_is_28 w i0 r0 l0 = some q → va_P D vwCl (W13 cs h0 a0 i0 r0 l0) H → va_D A (W13 cs h0 a0 i0 r0 l0) → va_S A s.heap H locs → lv_has ls 4 [(0, .ref h0), (1, .ref (zs (10 + w)))] → W p l e rmX13_is s m args below meth c H locs 0 0 (MQ below (Qi D cs A q (W13 cs h0 a0 i0 r0 l0)) args s 0 0 A) (F0 m 28 ls []) := by
  obtain ⟨hx, hb, hr, hml, hown, hts, hK, hA, hlocks, hZ⟩ := id C
  intro  H locs ls hf hP hD hS hl
  rw [f_X13_is_28] at hf
  refine lv_iconst (v := 0) hx hb dX13_is_28 (by decide) ?_
  exact w_X13_is_29 C hw  _ _ _ _ hf hP hD hS (lv_sub hl [0, 1] rfl)
def f_X13_is (w : Nat)  (i0 : Nat → Int32) (r0 : Nat → Nat → Int32) (l0 : Nat → Nat → Int64)  : Option (Int32) := if (i0 6) = 1 then (bd (f_J0_length_8abf5 w) (fun q6 => if ((i0 5) - (i0 4)) = q6 then (f_X13_is_29 w i0 r0 l0 1) else (f_X13_is_28 w i0 r0 l0))) else (f_X13_is_28 w i0 r0 l0)
set_option maxRecDepth 100000 in
set_option maxHeartbeats 4000000 in
theorem c_X13_is {l : Launch} {D : va_G} {cs zs : Nat → Nat} {h0 : Nat} {a0 : Nat → Nat} {i0 : Nat → Int32} {r0 : Nat → Nat → Int32} {l0 : Nat → Nat → Int64}  {q : Int32} {w : Nat} (hw : w < 20) (hf : f_X13_is w i0 r0 l0 = some q) : Mi l yX13_is wlX13_is rmX13_is D cs zs [.ref h0, .ref (zs (10 + w))] (W13 cs h0 a0 i0 r0 l0) q (W13 cs h0 a0 i0 r0 l0) := by
  refine Mi.of RX13 (by decide) rfl (Nat.le_of_ble_eq_true rfl) (fun p e s m below meth c A C hP hD hS ls hl => ?_)
  generalize ([.ref h0, .ref (zs (10 + w))] : List Value).toArray = args at C ⊢
  obtain ⟨hx, hb, hr, hml, hown, hts, hK, hA, hlocks, hZ⟩ := id C
  have hl : lv_has ls 4 [(0, .ref h0), (1, .ref (zs (10 + w)))] := hl
  rw [f_X13_is] at hf
  refine lv_aload_n hx hb dX13_is_0 rfl (lv_at hl 0 rfl) ?_
  refine va_get (D := D) (ci := 13) (v := .int (i0 6)) (C := RX13) (T := TX13) (N := 87) hx hb hts hiX13 hown hK hP 0 rfl rfl 6 (by decide) (hts _ flX13_31) (fun _ h9 => h9) rfl dX13_is_1 ?_
  refine lv_iconst (v := 1) hx hb dX13_is_4 (by decide) ?_
  refine lv_icmp_ne (tgt := 28) hx hb dX13_is_5 (by decide) (fun hc => ?_) (fun hc => ?_)
  · have hf := ite_f hf hc
    exact w_X13_is_28 C hw   _ _ _ hf hP hD hS (lv_sub hl [0, 1] rfl)
  · have hf := ite_t hf hc
    refine lv_aload_n hx hb dX13_is_8 rfl (lv_at hl 0 rfl) ?_
    refine va_get (D := D) (ci := 13) (v := .int (i0 5)) (C := RX13) (T := TX13) (N := 87) hx hb hts hiX13 hown hK hP 0 rfl rfl 5 (by decide) (hts _ flX13_24) (fun _ h9 => h9) rfl dX13_is_9 ?_
    refine lv_aload_n hx hb dX13_is_12 rfl (lv_at hl 0 rfl) ?_
    refine va_get (D := D) (ci := 13) (v := .int (i0 4)) (C := RX13) (T := TX13) (N := 87) hx hb hts hiX13 hown hK hP 0 rfl rfl 4 (by decide) (hts _ flX13_7) (fun _ h9 => h9) rfl dX13_is_13 ?_
    refine lv_isub hx hb dX13_is_16 ?_
    refine lv_aload_n hx hb dX13_is_17 rfl (lv_at hl 1 rfl) ?_
    obtain ⟨q6, hq6, hf⟩ := bd_s hf
    refine k_eVi (As := []) (rest := [.int ((i0 5) - (i0 4))]) hx hb hml hown hts hK hA hZ hl.1 hP hD hS (c_J0_length_8abf5 (w := w) hw hq6) (gVt mlX13_47 imJ0_length_8abf5 seJ0_length_8abf5 inJ0 coJ0_length_8abf5) rfl qnJ0_length_8abf5 rfl rfl ⟨Nat.le_of_ble_eq_true rfl, Nat.le_of_ble_eq_true rfl⟩ (vk_recv (i := w) (adK := fun i => zs (10 + i)) hZ.2.2.2.2.2.1 hw hS) rfl rfl (Nat.le_of_ble_eq_true rfl) ⟨Nat.zero_le _, Nat.zero_le _⟩ dX13_is_18 (fun H locs hP hD hS => ?_)
    refine lv_icmp_ne (tgt := 28) hx hb dX13_is_21 (by decide) (fun hc => ?_) (fun hc => ?_)
    · have hf := ite_f hf hc
      exact w_X13_is_28 C hw   _ _ _ hf hP hD hS (lv_sub hl [0, 1] rfl)
    · have hf := ite_t hf hc
      refine lv_iconst (v := 1) hx hb dX13_is_24 (by decide) ?_
      refine lv_goto (tgt := 29) hx hb dX13_is_25 (by decide) ?_
      exact w_X13_is_29 C hw  _ _ _ _ hf hP hD hS (lv_sub hl [0, 1] rfl)
/-! MarbleFloorModel.isVar()Z -/
abbrev wlX13_isVar : List Cond := Cond.code yX13_isVar cX13_isVar 1 (some .boolean) :: tbG
abbrev rmX13_isVar : Room := { frames := 5, cells := 0, slots := 0, locals := 108 }
theorem qnX13_isVar : yX13_isVar.cls = RX13 ∧ yX13_isVar.cls ≠ "java/lang/invoke/MethodHandle" ∧ yX13_isVar.cls ≠ "java/lang/invoke/VarHandle" ∧ (parseMethodDescriptor yX13_isVar.desc).map (fun d => d.parameters.length) = some 0 := by decide +kernel
def f_X13_isVar  (i0 : Nat → Int32) (r0 : Nat → Nat → Int32) (l0 : Nat → Nat → Int64)  : Option (Int32) := bd (f_X13_isLetter i0 r0 l0) (fun q3 => if q3 = 0 then (bd (f_X13_is 19 i0 r0 l0) (fun q4 => if q4 = 0 then (some (0)) else (some (1)))) else (some (1)))
set_option maxRecDepth 100000 in
set_option maxHeartbeats 4000000 in
theorem c_X13_isVar {l : Launch} {D : va_G} {cs zs : Nat → Nat} {h0 : Nat} {a0 : Nat → Nat} {i0 : Nat → Int32} {r0 : Nat → Nat → Int32} {l0 : Nat → Nat → Int64}  {q : Int32} (hf : f_X13_isVar i0 r0 l0 = some q) : Mi l yX13_isVar wlX13_isVar rmX13_isVar D cs zs [.ref h0] (W13 cs h0 a0 i0 r0 l0) q (W13 cs h0 a0 i0 r0 l0) := by
  refine Mi.of RX13 (by decide) rfl (Nat.le_of_ble_eq_true rfl) (fun p e s m below meth c A C hP hD hS ls hl => ?_)
  generalize ([.ref h0] : List Value).toArray = args at C ⊢
  obtain ⟨hx, hb, hr, hml, hown, hts, hK, hA, hlocks, hZ⟩ := id C
  have hl : lv_has ls 1 [(0, .ref h0)] := hl
  rw [f_X13_isVar] at hf
  refine lv_aload_n hx hb dX13_isVar_0 rfl (lv_at hl 0 rfl) ?_
  obtain ⟨q3, hq3, hf⟩ := bd_s hf
  refine k_sVi (ws2 := W13 cs h0 a0 i0 r0 l0) (As := []) (rest := []) hx hb hml hown hts hK hA hZ hl.1 hP hD hS (c_X13_isLetter (h0 := h0) (a0 := a0) hq3) (gVt mlX13_375 imX13_isLetter seX13_isLetter inX13 coX13_isLetter) rfl qnX13_isLetter rfl rfl ⟨Nat.le_of_ble_eq_true rfl, Nat.le_of_ble_eq_true rfl⟩ 0 13 rfl rfl rfl rfl rfl (Nat.le_of_ble_eq_true rfl) ⟨Nat.zero_le _, Nat.zero_le _⟩ dX13_isVar_1 (fun H locs hP hD hS => ?_)
  refine lv_if_ne (tgt := 17) hx hb dX13_isVar_4 (by decide) (fun hc => ?_) (fun hc => ?_)
  · have hf := ite_f hf hc
    refine lv_iconst (v := 1) hx hb dX13_isVar_17 (by decide) ?_
    refine lv_goto (tgt := 22) hx hb dX13_isVar_18 (by decide) ?_
    obtain rfl := Option.some.inj hf
    exact k_zret (r := 1) hx hb hr hlocks rfl hK hP hD hS dX13_isVar_22
  · have hf := ite_t hf hc
    refine lv_aload_n hx hb dX13_isVar_7 rfl (lv_at hl 0 rfl) ?_
    refine k_ldcSw hx hb hown (hZ.2.2.2.2.2.2.1 19 (379, "z") rfl) dX13_isVar_8 ?_
    obtain ⟨q4, hq4, hf⟩ := bd_s hf
    refine k_sVi (ws2 := W13 cs h0 a0 i0 r0 l0) (As := [.ref (zs (10 + 19))]) (rest := []) hx hb hml hown hts hK hA hZ hl.1 hP hD hS (c_X13_is (h0 := h0) (a0 := a0) (w := 19) (by decide : 19 < 20) hq4) (gVt mlX13_76 imX13_is seX13_is inX13 coX13_is) rfl qnX13_is rfl rfl ⟨Nat.le_of_ble_eq_true rfl, Nat.le_of_ble_eq_true rfl⟩ 0 13 rfl rfl rfl rfl rfl (Nat.le_of_ble_eq_true rfl) ⟨Nat.zero_le _, Nat.zero_le _⟩ dX13_isVar_11 (fun H locs hP hD hS => ?_)
    refine lv_if_eq (tgt := 21) hx hb dX13_isVar_14 (by decide) (fun hc => ?_) (fun hc => ?_)
    · have hf := ite_t hf hc
      refine lv_iconst (v := 0) hx hb dX13_isVar_21 (by decide) ?_
      obtain rfl := Option.some.inj hf
      exact k_zret (r := 0) hx hb hr hlocks rfl hK hP hD hS dX13_isVar_22
    · have hf := ite_f hf hc
      refine lv_iconst (v := 1) hx hb dX13_isVar_17 (by decide) ?_
      refine lv_goto (tgt := 22) hx hb dX13_isVar_18 (by decide) ?_
      obtain rfl := Option.some.inj hf
      exact k_zret (r := 1) hx hb hr hlocks rfl hK hP hD hS dX13_isVar_22
/-! MarbleFloorModel.stepAtHand()I -/
abbrev wlX13_stepAtHand : List Cond := Cond.code yX13_stepAtHand cX13_stepAtHand 1 (some .int) :: tbG
abbrev rmX13_stepAtHand : Room := { frames := 5, cells := 0, slots := 0, locals := 108 }
theorem qnX13_stepAtHand : yX13_stepAtHand.cls = RX13 ∧ yX13_stepAtHand.cls ≠ "java/lang/invoke/MethodHandle" ∧ yX13_stepAtHand.cls ≠ "java/lang/invoke/VarHandle" ∧ (parseMethodDescriptor yX13_stepAtHand.desc).map (fun d => d.parameters.length) = some 0 := by decide +kernel
def f_X13_stepAtHand  (i0 : Nat → Int32) (r0 : Nat → Nat → Int32) (l0 : Nat → Nat → Int64)  : Option (Int32) := bd (f_X13_is 5 i0 r0 l0) (fun q9 => if q9 = 0 then (bd (f_X13_is 6 i0 r0 l0) (fun q10 => if q10 = 0 then (bd (f_X13_is 7 i0 r0 l0) (fun q11 => if q11 = 0 then (bd (f_X13_is 1 i0 r0 l0) (fun q12 => if q12 = 0 then (bd (f_X13_is 3 i0 r0 l0) (fun q13 => if q13 = 0 then (bd (f_X13_is 8 i0 r0 l0) (fun q14 => if q14 = 0 then (bd (f_X13_is 9 i0 r0 l0) (fun q15 => if q15 = 0 then (bd (f_X13_is 10 i0 r0 l0) (fun q16 => if q16 = 0 then (some ((-1))) else (some (7)))) else (some (6)))) else (some (5)))) else (some (4)))) else (some (3)))) else (some (2)))) else (some (1)))) else (some (0)))
set_option maxRecDepth 100000 in
set_option maxHeartbeats 4000000 in
theorem c_X13_stepAtHand {l : Launch} {D : va_G} {cs zs : Nat → Nat} {h0 : Nat} {a0 : Nat → Nat} {i0 : Nat → Int32} {r0 : Nat → Nat → Int32} {l0 : Nat → Nat → Int64}  {q : Int32} (hf : f_X13_stepAtHand i0 r0 l0 = some q) : Mi l yX13_stepAtHand wlX13_stepAtHand rmX13_stepAtHand D cs zs [.ref h0] (W13 cs h0 a0 i0 r0 l0) q (W13 cs h0 a0 i0 r0 l0) := by
  refine Mi.of RX13 (by decide) rfl (Nat.le_of_ble_eq_true rfl) (fun p e s m below meth c A C hP hD hS ls hl => ?_)
  generalize ([.ref h0] : List Value).toArray = args at C ⊢
  obtain ⟨hx, hb, hr, hml, hown, hts, hK, hA, hlocks, hZ⟩ := id C
  have hl : lv_has ls 1 [(0, .ref h0)] := hl
  rw [f_X13_stepAtHand] at hf
  refine lv_aload_n hx hb dX13_stepAtHand_0 rfl (lv_at hl 0 rfl) ?_
  refine k_ldcSw hx hb hown (hZ.2.2.2.2.2.2.1 5 (446, "add") rfl) dX13_stepAtHand_1 ?_
  obtain ⟨q9, hq9, hf⟩ := bd_s hf
  refine k_sVi (ws2 := W13 cs h0 a0 i0 r0 l0) (As := [.ref (zs (10 + 5))]) (rest := []) hx hb hml hown hts hK hA hZ hl.1 hP hD hS (c_X13_is (h0 := h0) (a0 := a0) (w := 5) (by decide : 5 < 20) hq9) (gVt mlX13_76 imX13_is seX13_is inX13 coX13_is) rfl qnX13_is rfl rfl ⟨Nat.le_of_ble_eq_true rfl, Nat.le_of_ble_eq_true rfl⟩ 0 13 rfl rfl rfl rfl rfl (Nat.le_of_ble_eq_true rfl) ⟨Nat.zero_le _, Nat.zero_le _⟩ dX13_stepAtHand_4 (fun H locs hP hD hS => ?_)
  refine lv_if_eq (tgt := 14) hx hb dX13_stepAtHand_7 (by decide) (fun hc => ?_) (fun hc => ?_)
  · have hf := ite_t hf hc
    refine lv_aload_n hx hb dX13_stepAtHand_14 rfl (lv_at hl 0 rfl) ?_
    refine k_ldcSw hx hb hown (hZ.2.2.2.2.2.2.1 6 (447, "sub") rfl) dX13_stepAtHand_15 ?_
    obtain ⟨q10, hq10, hf⟩ := bd_s hf
    refine k_sVi (ws2 := W13 cs h0 a0 i0 r0 l0) (As := [.ref (zs (10 + 6))]) (rest := []) hx hb hml hown hts hK hA hZ hl.1 hP hD hS (c_X13_is (h0 := h0) (a0 := a0) (w := 6) (by decide : 6 < 20) hq10) (gVt mlX13_76 imX13_is seX13_is inX13 coX13_is) rfl qnX13_is rfl rfl ⟨Nat.le_of_ble_eq_true rfl, Nat.le_of_ble_eq_true rfl⟩ 0 13 rfl rfl rfl rfl rfl (Nat.le_of_ble_eq_true rfl) ⟨Nat.zero_le _, Nat.zero_le _⟩ dX13_stepAtHand_18 (fun H locs hP hD hS => ?_)
    refine lv_if_eq (tgt := 28) hx hb dX13_stepAtHand_21 (by decide) (fun hc => ?_) (fun hc => ?_)
    · have hf := ite_t hf hc
      refine lv_aload_n hx hb dX13_stepAtHand_28 rfl (lv_at hl 0 rfl) ?_
      refine k_ldcSw hx hb hown (hZ.2.2.2.2.2.2.1 7 (449, "xor") rfl) dX13_stepAtHand_29 ?_
      obtain ⟨q11, hq11, hf⟩ := bd_s hf
      refine k_sVi (ws2 := W13 cs h0 a0 i0 r0 l0) (As := [.ref (zs (10 + 7))]) (rest := []) hx hb hml hown hts hK hA hZ hl.1 hP hD hS (c_X13_is (h0 := h0) (a0 := a0) (w := 7) (by decide : 7 < 20) hq11) (gVt mlX13_76 imX13_is seX13_is inX13 coX13_is) rfl qnX13_is rfl rfl ⟨Nat.le_of_ble_eq_true rfl, Nat.le_of_ble_eq_true rfl⟩ 0 13 rfl rfl rfl rfl rfl (Nat.le_of_ble_eq_true rfl) ⟨Nat.zero_le _, Nat.zero_le _⟩ dX13_stepAtHand_32 (fun H locs hP hD hS => ?_)
      refine lv_if_eq (tgt := 42) hx hb dX13_stepAtHand_35 (by decide) (fun hc => ?_) (fun hc => ?_)
      · have hf := ite_t hf hc
        refine lv_aload_n hx hb dX13_stepAtHand_42 rfl (lv_at hl 0 rfl) ?_
        refine va_ldcS hx hb hown (hZ.2.2.2.2.2.2.1 1 (102, "swap") rfl) dX13_stepAtHand_43 ?_
        obtain ⟨q12, hq12, hf⟩ := bd_s hf
        refine k_sVi (ws2 := W13 cs h0 a0 i0 r0 l0) (As := [.ref (zs (10 + 1))]) (rest := []) hx hb hml hown hts hK hA hZ hl.1 hP hD hS (c_X13_is (h0 := h0) (a0 := a0) (w := 1) (by decide : 1 < 20) hq12) (gVt mlX13_76 imX13_is seX13_is inX13 coX13_is) rfl qnX13_is rfl rfl ⟨Nat.le_of_ble_eq_true rfl, Nat.le_of_ble_eq_true rfl⟩ 0 13 rfl rfl rfl rfl rfl (Nat.le_of_ble_eq_true rfl) ⟨Nat.zero_le _, Nat.zero_le _⟩ dX13_stepAtHand_45 (fun H locs hP hD hS => ?_)
        refine lv_if_eq (tgt := 55) hx hb dX13_stepAtHand_48 (by decide) (fun hc => ?_) (fun hc => ?_)
        · have hf := ite_t hf hc
          refine lv_aload_n hx hb dX13_stepAtHand_55 rfl (lv_at hl 0 rfl) ?_
          refine va_ldcS hx hb hown (hZ.2.2.2.2.2.2.1 3 (109, "if") rfl) dX13_stepAtHand_56 ?_
          obtain ⟨q13, hq13, hf⟩ := bd_s hf
          refine k_sVi (ws2 := W13 cs h0 a0 i0 r0 l0) (As := [.ref (zs (10 + 3))]) (rest := []) hx hb hml hown hts hK hA hZ hl.1 hP hD hS (c_X13_is (h0 := h0) (a0 := a0) (w := 3) (by decide : 3 < 20) hq13) (gVt mlX13_76 imX13_is seX13_is inX13 coX13_is) rfl qnX13_is rfl rfl ⟨Nat.le_of_ble_eq_true rfl, Nat.le_of_ble_eq_true rfl⟩ 0 13 rfl rfl rfl rfl rfl (Nat.le_of_ble_eq_true rfl) ⟨Nat.zero_le _, Nat.zero_le _⟩ dX13_stepAtHand_58 (fun H locs hP hD hS => ?_)
          refine lv_if_eq (tgt := 68) hx hb dX13_stepAtHand_61 (by decide) (fun hc => ?_) (fun hc => ?_)
          · have hf := ite_t hf hc
            refine lv_aload_n hx hb dX13_stepAtHand_68 rfl (lv_at hl 0 rfl) ?_
            refine k_ldcSw hx hb hown (hZ.2.2.2.2.2.2.1 8 (451, "from") rfl) dX13_stepAtHand_69 ?_
            obtain ⟨q14, hq14, hf⟩ := bd_s hf
            refine k_sVi (ws2 := W13 cs h0 a0 i0 r0 l0) (As := [.ref (zs (10 + 8))]) (rest := []) hx hb hml hown hts hK hA hZ hl.1 hP hD hS (c_X13_is (h0 := h0) (a0 := a0) (w := 8) (by decide : 8 < 20) hq14) (gVt mlX13_76 imX13_is seX13_is inX13 coX13_is) rfl qnX13_is rfl rfl ⟨Nat.le_of_ble_eq_true rfl, Nat.le_of_ble_eq_true rfl⟩ 0 13 rfl rfl rfl rfl rfl (Nat.le_of_ble_eq_true rfl) ⟨Nat.zero_le _, Nat.zero_le _⟩ dX13_stepAtHand_72 (fun H locs hP hD hS => ?_)
            refine lv_if_eq (tgt := 82) hx hb dX13_stepAtHand_75 (by decide) (fun hc => ?_) (fun hc => ?_)
            · have hf := ite_t hf hc
              refine lv_aload_n hx hb dX13_stepAtHand_82 rfl (lv_at hl 0 rfl) ?_
              refine k_ldcSw hx hb hown (hZ.2.2.2.2.2.2.1 9 (452, "call") rfl) dX13_stepAtHand_83 ?_
              obtain ⟨q15, hq15, hf⟩ := bd_s hf
              refine k_sVi (ws2 := W13 cs h0 a0 i0 r0 l0) (As := [.ref (zs (10 + 9))]) (rest := []) hx hb hml hown hts hK hA hZ hl.1 hP hD hS (c_X13_is (h0 := h0) (a0 := a0) (w := 9) (by decide : 9 < 20) hq15) (gVt mlX13_76 imX13_is seX13_is inX13 coX13_is) rfl qnX13_is rfl rfl ⟨Nat.le_of_ble_eq_true rfl, Nat.le_of_ble_eq_true rfl⟩ 0 13 rfl rfl rfl rfl rfl (Nat.le_of_ble_eq_true rfl) ⟨Nat.zero_le _, Nat.zero_le _⟩ dX13_stepAtHand_86 (fun H locs hP hD hS => ?_)
              refine lv_if_eq (tgt := 97) hx hb dX13_stepAtHand_89 (by decide) (fun hc => ?_) (fun hc => ?_)
              · have hf := ite_t hf hc
                refine lv_aload_n hx hb dX13_stepAtHand_97 rfl (lv_at hl 0 rfl) ?_
                refine k_ldcSw hx hb hown (hZ.2.2.2.2.2.2.1 10 (454, "uncall") rfl) dX13_stepAtHand_98 ?_
                obtain ⟨q16, hq16, hf⟩ := bd_s hf
                refine k_sVi (ws2 := W13 cs h0 a0 i0 r0 l0) (As := [.ref (zs (10 + 10))]) (rest := []) hx hb hml hown hts hK hA hZ hl.1 hP hD hS (c_X13_is (h0 := h0) (a0 := a0) (w := 10) (by decide : 10 < 20) hq16) (gVt mlX13_76 imX13_is seX13_is inX13 coX13_is) rfl qnX13_is rfl rfl ⟨Nat.le_of_ble_eq_true rfl, Nat.le_of_ble_eq_true rfl⟩ 0 13 rfl rfl rfl rfl rfl (Nat.le_of_ble_eq_true rfl) ⟨Nat.zero_le _, Nat.zero_le _⟩ dX13_stepAtHand_101 (fun H locs hP hD hS => ?_)
                refine lv_if_eq (tgt := 112) hx hb dX13_stepAtHand_104 (by decide) (fun hc => ?_) (fun hc => ?_)
                · have hf := ite_t hf hc
                  refine lv_iconst (v := (-1)) hx hb dX13_stepAtHand_112 (by decide) ?_
                  obtain rfl := Option.some.inj hf
                  exact k_iret hx hb hr hlocks hK hP hD hS dX13_stepAtHand_113
                · have hf := ite_f hf hc
                  refine lv_bipush (v := 7) hx hb dX13_stepAtHand_107 (by decide) ?_
                  refine lv_goto (tgt := 113) hx hb dX13_stepAtHand_109 (by decide) ?_
                  obtain rfl := Option.some.inj hf
                  exact k_iret hx hb hr hlocks hK hP hD hS dX13_stepAtHand_113
              · have hf := ite_f hf hc
                refine lv_bipush (v := 6) hx hb dX13_stepAtHand_92 (by decide) ?_
                refine lv_goto (tgt := 113) hx hb dX13_stepAtHand_94 (by decide) ?_
                obtain rfl := Option.some.inj hf
                exact k_iret hx hb hr hlocks hK hP hD hS dX13_stepAtHand_113
            · have hf := ite_f hf hc
              refine lv_iconst (v := 5) hx hb dX13_stepAtHand_78 (by decide) ?_
              refine lv_goto (tgt := 113) hx hb dX13_stepAtHand_79 (by decide) ?_
              obtain rfl := Option.some.inj hf
              exact k_iret hx hb hr hlocks hK hP hD hS dX13_stepAtHand_113
          · have hf := ite_f hf hc
            refine lv_iconst (v := 4) hx hb dX13_stepAtHand_64 (by decide) ?_
            refine lv_goto (tgt := 113) hx hb dX13_stepAtHand_65 (by decide) ?_
            obtain rfl := Option.some.inj hf
            exact k_iret hx hb hr hlocks hK hP hD hS dX13_stepAtHand_113
        · have hf := ite_f hf hc
          refine lv_iconst (v := 3) hx hb dX13_stepAtHand_51 (by decide) ?_
          refine lv_goto (tgt := 113) hx hb dX13_stepAtHand_52 (by decide) ?_
          obtain rfl := Option.some.inj hf
          exact k_iret hx hb hr hlocks hK hP hD hS dX13_stepAtHand_113
      · have hf := ite_f hf hc
        refine lv_iconst (v := 2) hx hb dX13_stepAtHand_38 (by decide) ?_
        refine lv_goto (tgt := 113) hx hb dX13_stepAtHand_39 (by decide) ?_
        obtain rfl := Option.some.inj hf
        exact k_iret hx hb hr hlocks hK hP hD hS dX13_stepAtHand_113
    · have hf := ite_f hf hc
      refine lv_iconst (v := 1) hx hb dX13_stepAtHand_24 (by decide) ?_
      refine lv_goto (tgt := 113) hx hb dX13_stepAtHand_25 (by decide) ?_
      obtain rfl := Option.some.inj hf
      exact k_iret hx hb hr hlocks hK hP hD hS dX13_stepAtHand_113
  · have hf := ite_f hf hc
    refine lv_iconst (v := 0) hx hb dX13_stepAtHand_10 (by decide) ?_
    refine lv_goto (tgt := 113) hx hb dX13_stepAtHand_11 (by decide) ?_
    obtain rfl := Option.some.inj hf
    exact k_iret hx hb hr hlocks hK hP hD hS dX13_stepAtHand_113
/-! MarbleFloorModel.isHeld()Z -/
abbrev wlX13_isHeld : List Cond := Cond.code yX13_isHeld cX13_isHeld 1 (some .boolean) :: tbG
abbrev rmX13_isHeld : Room := { frames := 6, cells := 0, slots := 0, locals := 128 }
theorem qnX13_isHeld : yX13_isHeld.cls = RX13 ∧ yX13_isHeld.cls ≠ "java/lang/invoke/MethodHandle" ∧ yX13_isHeld.cls ≠ "java/lang/invoke/VarHandle" ∧ (parseMethodDescriptor yX13_isHeld.desc).map (fun d => d.parameters.length) = some 0 := by decide +kernel
def f_X13_isHeld  (i0 : Nat → Int32) (r0 : Nat → Nat → Int32) (l0 : Nat → Nat → Int64)  : Option (Int32) := bd (f_X13_stepAtHand i0 r0 l0) (fun q11 => if q11 = (-1) then (bd (f_X13_is 4 i0 r0 l0) (fun q12 => if q12 = 0 then (bd (f_X13_is 11 i0 r0 l0) (fun q13 => if q13 = 0 then (bd (f_X13_is 12 i0 r0 l0) (fun q14 => if q14 = 0 then (bd (f_X13_is 13 i0 r0 l0) (fun q15 => if q15 = 0 then (bd (f_X13_is 14 i0 r0 l0) (fun q16 => if q16 = 0 then (bd (f_X13_is 15 i0 r0 l0) (fun q17 => if q17 = 0 then (bd (f_X13_is 16 i0 r0 l0) (fun q18 => if q18 = 0 then (bd (f_X13_is 17 i0 r0 l0) (fun q19 => if q19 = 0 then (bd (f_X13_is 18 i0 r0 l0) (fun q20 => if q20 = 0 then (some (0)) else (some (1)))) else (some (1)))) else (some (1)))) else (some (1)))) else (some (1)))) else (some (1)))) else (some (1)))) else (some (1)))) else (some (1)))) else (some (1)))
set_option maxRecDepth 100000 in
set_option maxHeartbeats 4000000 in
theorem c_X13_isHeld {l : Launch} {D : va_G} {cs zs : Nat → Nat} {h0 : Nat} {a0 : Nat → Nat} {i0 : Nat → Int32} {r0 : Nat → Nat → Int32} {l0 : Nat → Nat → Int64}  {q : Int32} (hf : f_X13_isHeld i0 r0 l0 = some q) : Mi l yX13_isHeld wlX13_isHeld rmX13_isHeld D cs zs [.ref h0] (W13 cs h0 a0 i0 r0 l0) q (W13 cs h0 a0 i0 r0 l0) := by
  refine Mi.of RX13 (by decide) rfl (Nat.le_of_ble_eq_true rfl) (fun p e s m below meth c A C hP hD hS ls hl => ?_)
  generalize ([.ref h0] : List Value).toArray = args at C ⊢
  obtain ⟨hx, hb, hr, hml, hown, hts, hK, hA, hlocks, hZ⟩ := id C
  have hl : lv_has ls 1 [(0, .ref h0)] := hl
  rw [f_X13_isHeld] at hf
  refine lv_aload_n hx hb dX13_isHeld_0 rfl (lv_at hl 0 rfl) ?_
  obtain ⟨q11, hq11, hf⟩ := bd_s hf
  refine k_sVi (ws2 := W13 cs h0 a0 i0 r0 l0) (As := []) (rest := []) hx hb hml hown hts hK hA hZ hl.1 hP hD hS (c_X13_stepAtHand (h0 := h0) (a0 := a0) hq11) (gVt mlX13_423 imX13_stepAtHand seX13_stepAtHand inX13 coX13_stepAtHand) rfl qnX13_stepAtHand rfl rfl ⟨Nat.le_of_ble_eq_true rfl, Nat.le_of_ble_eq_true rfl⟩ 0 13 rfl rfl rfl rfl rfl (Nat.le_of_ble_eq_true rfl) ⟨Nat.zero_le _, Nat.zero_le _⟩ dX13_isHeld_1 (fun H locs hP hD hS => ?_)
  refine lv_iconst (v := (-1)) hx hb dX13_isHeld_4 (by decide) ?_
  refine lv_icmp_ne (tgt := 38) hx hb dX13_isHeld_5 (by decide) (fun hc => ?_) (fun hc => ?_)
  · have hf := ite_f hf hc
    refine lv_iconst (v := 1) hx hb dX13_isHeld_38 (by decide) ?_
    obtain rfl := Option.some.inj hf
    exact k_zret (r := 1) hx hb hr hlocks rfl hK hP hD hS dX13_isHeld_39
  · have hf := ite_t hf hc
    refine lv_aload_n hx hb dX13_isHeld_8 rfl (lv_at hl 0 rfl) ?_
    refine k_ldcSw hx hb hown (hZ.2.2.2.2.2.2.1 4 (426, "proc") rfl) dX13_isHeld_9 ?_
    obtain ⟨q12, hq12, hf⟩ := bd_s hf
    refine k_sVi (ws2 := W13 cs h0 a0 i0 r0 l0) (As := [.ref (zs (10 + 4))]) (rest := []) hx hb hml hown hts hK hA hZ hl.1 hP hD hS (c_X13_is (h0 := h0) (a0 := a0) (w := 4) (by decide : 4 < 20) hq12) (gVt mlX13_76 imX13_is seX13_is inX13 coX13_is) rfl qnX13_is rfl rfl ⟨Nat.le_of_ble_eq_true rfl, Nat.le_of_ble_eq_true rfl⟩ 0 13 rfl rfl rfl rfl rfl (Nat.le_of_ble_eq_true rfl) ⟨Nat.zero_le _, Nat.zero_le _⟩ dX13_isHeld_12 (fun H locs hP hD hS => ?_)
    refine lv_if_ne (tgt := 38) hx hb dX13_isHeld_15 (by decide) (fun hc => ?_) (fun hc => ?_)
    · have hf := ite_f hf hc
      refine lv_iconst (v := 1) hx hb dX13_isHeld_38 (by decide) ?_
      obtain rfl := Option.some.inj hf
      exact k_zret (r := 1) hx hb hr hlocks rfl hK hP hD hS dX13_isHeld_39
    · have hf := ite_t hf hc
      refine lv_aload_n hx hb dX13_isHeld_18 rfl (lv_at hl 0 rfl) ?_
      refine k_ldcSw hx hb hown (hZ.2.2.2.2.2.2.1 11 (428, "is") rfl) dX13_isHeld_19 ?_
      obtain ⟨q13, hq13, hf⟩ := bd_s hf
      refine k_sVi (ws2 := W13 cs h0 a0 i0 r0 l0) (As := [.ref (zs (10 + 11))]) (rest := []) hx hb hml hown hts hK hA hZ hl.1 hP hD hS (c_X13_is (h0 := h0) (a0 := a0) (w := 11) (by decide : 11 < 20) hq13) (gVt mlX13_76 imX13_is seX13_is inX13 coX13_is) rfl qnX13_is rfl rfl ⟨Nat.le_of_ble_eq_true rfl, Nat.le_of_ble_eq_true rfl⟩ 0 13 rfl rfl rfl rfl rfl (Nat.le_of_ble_eq_true rfl) ⟨Nat.zero_le _, Nat.zero_le _⟩ dX13_isHeld_22 (fun H locs hP hD hS => ?_)
      refine lv_if_ne (tgt := 38) hx hb dX13_isHeld_25 (by decide) (fun hc => ?_) (fun hc => ?_)
      · have hf := ite_f hf hc
        refine lv_iconst (v := 1) hx hb dX13_isHeld_38 (by decide) ?_
        obtain rfl := Option.some.inj hf
        exact k_zret (r := 1) hx hb hr hlocks rfl hK hP hD hS dX13_isHeld_39
      · have hf := ite_t hf hc
        refine lv_aload_n hx hb dX13_isHeld_28 rfl (lv_at hl 0 rfl) ?_
        refine k_ldcSw hx hb hown (hZ.2.2.2.2.2.2.1 12 (429, "end") rfl) dX13_isHeld_29 ?_
        obtain ⟨q14, hq14, hf⟩ := bd_s hf
        refine k_sVi (ws2 := W13 cs h0 a0 i0 r0 l0) (As := [.ref (zs (10 + 12))]) (rest := []) hx hb hml hown hts hK hA hZ hl.1 hP hD hS (c_X13_is (h0 := h0) (a0 := a0) (w := 12) (by decide : 12 < 20) hq14) (gVt mlX13_76 imX13_is seX13_is inX13 coX13_is) rfl qnX13_is rfl rfl ⟨Nat.le_of_ble_eq_true rfl, Nat.le_of_ble_eq_true rfl⟩ 0 13 rfl rfl rfl rfl rfl (Nat.le_of_ble_eq_true rfl) ⟨Nat.zero_le _, Nat.zero_le _⟩ dX13_isHeld_32 (fun H locs hP hD hS => ?_)
        refine lv_if_eq (tgt := 40) hx hb dX13_isHeld_35 (by decide) (fun hc => ?_) (fun hc => ?_)
        · have hf := ite_t hf hc
          refine lv_aload_n hx hb dX13_isHeld_40 rfl (lv_at hl 0 rfl) ?_
          refine k_ldcSw hx hb hown (hZ.2.2.2.2.2.2.1 13 (431, "then") rfl) dX13_isHeld_41 ?_
          obtain ⟨q15, hq15, hf⟩ := bd_s hf
          refine k_sVi (ws2 := W13 cs h0 a0 i0 r0 l0) (As := [.ref (zs (10 + 13))]) (rest := []) hx hb hml hown hts hK hA hZ hl.1 hP hD hS (c_X13_is (h0 := h0) (a0 := a0) (w := 13) (by decide : 13 < 20) hq15) (gVt mlX13_76 imX13_is seX13_is inX13 coX13_is) rfl qnX13_is rfl rfl ⟨Nat.le_of_ble_eq_true rfl, Nat.le_of_ble_eq_true rfl⟩ 0 13 rfl rfl rfl rfl rfl (Nat.le_of_ble_eq_true rfl) ⟨Nat.zero_le _, Nat.zero_le _⟩ dX13_isHeld_44 (fun H locs hP hD hS => ?_)
          refine lv_if_ne (tgt := 100) hx hb dX13_isHeld_47 (by decide) (fun hc => ?_) (fun hc => ?_)
          · have hf := ite_f hf hc
            refine lv_iconst (v := 1) hx hb dX13_isHeld_100 (by decide) ?_
            refine lv_goto (tgt := 105) hx hb dX13_isHeld_101 (by decide) ?_
            obtain rfl := Option.some.inj hf
            exact k_zret (r := 1) hx hb hr hlocks rfl hK hP hD hS dX13_isHeld_105
          · have hf := ite_t hf hc
            refine lv_aload_n hx hb dX13_isHeld_50 rfl (lv_at hl 0 rfl) ?_
            refine k_ldcSw hx hb hown (hZ.2.2.2.2.2.2.1 14 (433, "else") rfl) dX13_isHeld_51 ?_
            obtain ⟨q16, hq16, hf⟩ := bd_s hf
            refine k_sVi (ws2 := W13 cs h0 a0 i0 r0 l0) (As := [.ref (zs (10 + 14))]) (rest := []) hx hb hml hown hts hK hA hZ hl.1 hP hD hS (c_X13_is (h0 := h0) (a0 := a0) (w := 14) (by decide : 14 < 20) hq16) (gVt mlX13_76 imX13_is seX13_is inX13 coX13_is) rfl qnX13_is rfl rfl ⟨Nat.le_of_ble_eq_true rfl, Nat.le_of_ble_eq_true rfl⟩ 0 13 rfl rfl rfl rfl rfl (Nat.le_of_ble_eq_true rfl) ⟨Nat.zero_le _, Nat.zero_le _⟩ dX13_isHeld_54 (fun H locs hP hD hS => ?_)
            refine lv_if_ne (tgt := 100) hx hb dX13_isHeld_57 (by decide) (fun hc => ?_) (fun hc => ?_)
            · have hf := ite_f hf hc
              refine lv_iconst (v := 1) hx hb dX13_isHeld_100 (by decide) ?_
              refine lv_goto (tgt := 105) hx hb dX13_isHeld_101 (by decide) ?_
              obtain rfl := Option.some.inj hf
              exact k_zret (r := 1) hx hb hr hlocks rfl hK hP hD hS dX13_isHeld_105
            · have hf := ite_t hf hc
              refine lv_aload_n hx hb dX13_isHeld_60 rfl (lv_at hl 0 rfl) ?_
              refine k_ldcSw hx hb hown (hZ.2.2.2.2.2.2.1 15 (435, "fi") rfl) dX13_isHeld_61 ?_
              obtain ⟨q17, hq17, hf⟩ := bd_s hf
              refine k_sVi (ws2 := W13 cs h0 a0 i0 r0 l0) (As := [.ref (zs (10 + 15))]) (rest := []) hx hb hml hown hts hK hA hZ hl.1 hP hD hS (c_X13_is (h0 := h0) (a0 := a0) (w := 15) (by decide : 15 < 20) hq17) (gVt mlX13_76 imX13_is seX13_is inX13 coX13_is) rfl qnX13_is rfl rfl ⟨Nat.le_of_ble_eq_true rfl, Nat.le_of_ble_eq_true rfl⟩ 0 13 rfl rfl rfl rfl rfl (Nat.le_of_ble_eq_true rfl) ⟨Nat.zero_le _, Nat.zero_le _⟩ dX13_isHeld_64 (fun H locs hP hD hS => ?_)
              refine lv_if_ne (tgt := 100) hx hb dX13_isHeld_67 (by decide) (fun hc => ?_) (fun hc => ?_)
              · have hf := ite_f hf hc
                refine lv_iconst (v := 1) hx hb dX13_isHeld_100 (by decide) ?_
                refine lv_goto (tgt := 105) hx hb dX13_isHeld_101 (by decide) ?_
                obtain rfl := Option.some.inj hf
                exact k_zret (r := 1) hx hb hr hlocks rfl hK hP hD hS dX13_isHeld_105
              · have hf := ite_t hf hc
                refine lv_aload_n hx hb dX13_isHeld_70 rfl (lv_at hl 0 rfl) ?_
                refine k_ldcSw hx hb hown (hZ.2.2.2.2.2.2.1 16 (437, "do") rfl) dX13_isHeld_71 ?_
                obtain ⟨q18, hq18, hf⟩ := bd_s hf
                refine k_sVi (ws2 := W13 cs h0 a0 i0 r0 l0) (As := [.ref (zs (10 + 16))]) (rest := []) hx hb hml hown hts hK hA hZ hl.1 hP hD hS (c_X13_is (h0 := h0) (a0 := a0) (w := 16) (by decide : 16 < 20) hq18) (gVt mlX13_76 imX13_is seX13_is inX13 coX13_is) rfl qnX13_is rfl rfl ⟨Nat.le_of_ble_eq_true rfl, Nat.le_of_ble_eq_true rfl⟩ 0 13 rfl rfl rfl rfl rfl (Nat.le_of_ble_eq_true rfl) ⟨Nat.zero_le _, Nat.zero_le _⟩ dX13_isHeld_74 (fun H locs hP hD hS => ?_)
                refine lv_if_ne (tgt := 100) hx hb dX13_isHeld_77 (by decide) (fun hc => ?_) (fun hc => ?_)
                · have hf := ite_f hf hc
                  refine lv_iconst (v := 1) hx hb dX13_isHeld_100 (by decide) ?_
                  refine lv_goto (tgt := 105) hx hb dX13_isHeld_101 (by decide) ?_
                  obtain rfl := Option.some.inj hf
                  exact k_zret (r := 1) hx hb hr hlocks rfl hK hP hD hS dX13_isHeld_105
                · have hf := ite_t hf hc
                  refine lv_aload_n hx hb dX13_isHeld_80 rfl (lv_at hl 0 rfl) ?_
                  refine k_ldcSw hx hb hown (hZ.2.2.2.2.2.2.1 17 (439, "loop") rfl) dX13_isHeld_81 ?_
                  obtain ⟨q19, hq19, hf⟩ := bd_s hf
                  refine k_sVi (ws2 := W13 cs h0 a0 i0 r0 l0) (As := [.ref (zs (10 + 17))]) (rest := []) hx hb hml hown hts hK hA hZ hl.1 hP hD hS (c_X13_is (h0 := h0) (a0 := a0) (w := 17) (by decide : 17 < 20) hq19) (gVt mlX13_76 imX13_is seX13_is inX13 coX13_is) rfl qnX13_is rfl rfl ⟨Nat.le_of_ble_eq_true rfl, Nat.le_of_ble_eq_true rfl⟩ 0 13 rfl rfl rfl rfl rfl (Nat.le_of_ble_eq_true rfl) ⟨Nat.zero_le _, Nat.zero_le _⟩ dX13_isHeld_84 (fun H locs hP hD hS => ?_)
                  refine lv_if_ne (tgt := 100) hx hb dX13_isHeld_87 (by decide) (fun hc => ?_) (fun hc => ?_)
                  · have hf := ite_f hf hc
                    refine lv_iconst (v := 1) hx hb dX13_isHeld_100 (by decide) ?_
                    refine lv_goto (tgt := 105) hx hb dX13_isHeld_101 (by decide) ?_
                    obtain rfl := Option.some.inj hf
                    exact k_zret (r := 1) hx hb hr hlocks rfl hK hP hD hS dX13_isHeld_105
                  · have hf := ite_t hf hc
                    refine lv_aload_n hx hb dX13_isHeld_90 rfl (lv_at hl 0 rfl) ?_
                    refine k_ldcSw hx hb hown (hZ.2.2.2.2.2.2.1 18 (441, "until") rfl) dX13_isHeld_91 ?_
                    obtain ⟨q20, hq20, hf⟩ := bd_s hf
                    refine k_sVi (ws2 := W13 cs h0 a0 i0 r0 l0) (As := [.ref (zs (10 + 18))]) (rest := []) hx hb hml hown hts hK hA hZ hl.1 hP hD hS (c_X13_is (h0 := h0) (a0 := a0) (w := 18) (by decide : 18 < 20) hq20) (gVt mlX13_76 imX13_is seX13_is inX13 coX13_is) rfl qnX13_is rfl rfl ⟨Nat.le_of_ble_eq_true rfl, Nat.le_of_ble_eq_true rfl⟩ 0 13 rfl rfl rfl rfl rfl (Nat.le_of_ble_eq_true rfl) ⟨Nat.zero_le _, Nat.zero_le _⟩ dX13_isHeld_94 (fun H locs hP hD hS => ?_)
                    refine lv_if_eq (tgt := 104) hx hb dX13_isHeld_97 (by decide) (fun hc => ?_) (fun hc => ?_)
                    · have hf := ite_t hf hc
                      refine lv_iconst (v := 0) hx hb dX13_isHeld_104 (by decide) ?_
                      obtain rfl := Option.some.inj hf
                      exact k_zret (r := 0) hx hb hr hlocks rfl hK hP hD hS dX13_isHeld_105
                    · have hf := ite_f hf hc
                      refine lv_iconst (v := 1) hx hb dX13_isHeld_100 (by decide) ?_
                      refine lv_goto (tgt := 105) hx hb dX13_isHeld_101 (by decide) ?_
                      obtain rfl := Option.some.inj hf
                      exact k_zret (r := 1) hx hb hr hlocks rfl hK hP hD hS dX13_isHeld_105
        · have hf := ite_f hf hc
          refine lv_iconst (v := 1) hx hb dX13_isHeld_38 (by decide) ?_
          obtain rfl := Option.some.inj hf
          exact k_zret (r := 1) hx hb hr hlocks rfl hK hP hD hS dX13_isHeld_39
/-! MarbleFloorModel.wrong(I)LMarbleFloorModel$Stop; -/
abbrev wlX13_wrong : List Cond := Cond.code yX13_wrong cX13_wrong 2 (some (.object "MarbleFloorModel$Stop")) :: tbG
abbrev rmX13_wrong : Room := { frames := 0, cells := 0, slots := 0, locals := 0 }
theorem qnX13_wrong : yX13_wrong.cls = RX13 ∧ yX13_wrong.cls ≠ "java/lang/invoke/MethodHandle" ∧ yX13_wrong.cls ≠ "java/lang/invoke/VarHandle" ∧ (parseMethodDescriptor yX13_wrong.desc).map (fun d => d.parameters.length) = some 1 := by decide +kernel
def f_X13_wrong  (i0 : Nat → Int32) (r0 : Nat → Nat → Int32) (l0 : Nat → Nat → Int64) (x1 : Int32) : Option ((Nat → Int32)) := some ((upd (upd i0 8 x1) 9 (i0 4)))
set_option maxRecDepth 100000 in
set_option maxHeartbeats 4000000 in
theorem c_X13_wrong {l : Launch} {D : va_G} {cs zs : Nat → Nat} {h0 : Nat} {a0 : Nat → Nat} {i0 : Nat → Int32} {r0 : Nat → Nat → Int32} {l0 : Nat → Nat → Int64} {x1 : Int32} {q : (Nat → Int32)} (hf : f_X13_wrong i0 r0 l0 x1 = some q) : Mr l yX13_wrong wlX13_wrong rmX13_wrong D cs zs [.ref h0, .int x1] (W13 cs h0 a0 i0 r0 l0) (a0 0) (W13 cs h0 a0 q r0 l0) := by
  refine Mr.of RX13 (by decide) rfl (Nat.le_of_ble_eq_true rfl) (fun p e s m below meth c A C hP hD hS ls hl => ?_)
  generalize ([.ref h0, .int x1] : List Value).toArray = args at C ⊢
  obtain ⟨hx, hb, hr, hml, hown, hts, hK, hA, hlocks, hZ⟩ := id C
  have hl : lv_has ls 2 [(0, .ref h0), (1, .int x1)] := hl
  rw [f_X13_wrong] at hf
  refine lv_aload_n hx hb dX13_wrong_0 rfl (lv_at hl 0 rfl) ?_
  refine lv_iload_n hx hb dX13_wrong_1 rfl (lv_at hl 1 rfl) ?_
  refine va_put (D := D) (ci := 13) (v := .int x1) (ty := .int) (C := RX13) (T := TX13) (N := 87) hx hb hts hiX13 tyX13 tyX13_ok nmX13 hown hK hP hD hS 0 rfl rfl 8 (by decide) (hts _ flX13_3) (fun _ h9 => h9) rfl (tyX13_ok 8 (by decide)) rfl rfl (Nat.le_of_ble_eq_true rfl) dX13_wrong_2 (fun H locs hP hD hS => ?_)
  obtain ⟨hP, hD⟩ := st13_8 hP hD
  refine lv_aload_n hx hb dX13_wrong_5 rfl (lv_at hl 0 rfl) ?_
  refine lv_aload_n hx hb dX13_wrong_6 rfl (lv_at hl 0 rfl) ?_
  refine va_get (D := D) (ci := 13) (v := .int (i0 4)) (C := RX13) (T := TX13) (N := 87) hx hb hts hiX13 hown hK hP 0 rfl rfl 4 (by decide) (hts _ flX13_7) (fun _ h9 => h9) rfl dX13_wrong_7 ?_
  refine va_put (D := D) (ci := 13) (v := .int (i0 4)) (ty := .int) (C := RX13) (T := TX13) (N := 87) hx hb hts hiX13 tyX13 tyX13_ok nmX13 hown hK hP hD hS 0 rfl rfl 9 (by decide) (hts _ flX13_10) (fun _ h9 => h9) rfl (tyX13_ok 9 (by decide)) rfl rfl (Nat.le_of_ble_eq_true rfl) dX13_wrong_10 (fun H locs hP hD hS => ?_)
  obtain ⟨hP, hD⟩ := st13_9 hP hD
  refine lv_aload_n hx hb dX13_wrong_13 rfl (lv_at hl 0 rfl) ?_
  refine va_get (D := D) (ci := 13) (v := .ref (a0 0)) (C := RX13) (T := TX13) (N := 87) hx hb hts hiX13 hown hK hP 0 rfl rfl 0 (by decide) (hts _ flX13_13) (fun _ h9 => h9) rfl dX13_wrong_14 ?_
  obtain rfl := Option.some.inj hf
  exact k_aret hx hb hr (Or.inl ⟨_, rfl⟩) hlocks hK hP hD hS dX13_wrong_17
