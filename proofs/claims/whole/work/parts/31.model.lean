/-! MarbleFloorModel.done(IIII)I -/
abbrev wlX13_done : List Cond := Cond.code yX13_done cX13_done 4 (some .int) :: tbG
abbrev rmX13_done : Room := { frames := 1, cells := 0, slots := 0, locals := 21 }
theorem qnX13_done : yX13_done.cls ≠ "java/lang/invoke/MethodHandle" ∧ yX13_done.cls ≠ "java/lang/invoke/VarHandle" ∧ (parseMethodDescriptor yX13_done.desc).map (fun d => d.parameters.length) = some 4 := by decide +kernel
def f_X13_done   (x0 : Int32) (x1 : Int32) (x2 : Int32) (x3 : Int32) : Option (Int32) := if (x3 &&& x2) = x2 then (if x1 = (-1) then (some (x3 ^^^ ((1 : Int32) <<< (x0 &&& 31)))) else (bd (f_X13_bit x3 x0) (fun q3 => bd (f_X13_bit x3 x1) (fun q4 => if q3 = q4 then (some (x3)) else (some (x3 ^^^ (((1 : Int32) <<< (x0 &&& 31)) ||| ((1 : Int32) <<< (x1 &&& 31))))))))) else (some (x3))
set_option maxRecDepth 100000 in
set_option maxHeartbeats 4000000 in
theorem c_X13_done {l : Launch} {D : va_G} {cs zs : Nat → Nat}   {x0 : Int32} {x1 : Int32} {x2 : Int32} {x3 : Int32} {q : Int32} (hf : f_X13_done x0 x1 x2 x3 = some q) : Mi l yX13_done wlX13_done rmX13_done D cs zs [.int x0, .int x1, .int x2, .int x3] (([] : va_W)) q (([] : va_W)) := by
  refine Mi.of RX13 (by decide) rfl (Nat.le_of_ble_eq_true rfl) (fun p e s m below meth c A C hP hD hS ls hl => ?_)
  generalize ([.int x0, .int x1, .int x2, .int x3] : List Value).toArray = args at C ⊢
  obtain ⟨hx, hb, hr, hml, hown, hts, hK, hA, hlocks, hZ⟩ := id C
  have hl : lv_has ls 4 [(0, .int x0), (1, .int x1), (2, .int x2), (3, .int x3)] := hl
  rw [f_X13_done] at hf
  refine lv_iload_n hx hb dX13_done_0 rfl (lv_at hl 3 rfl) ?_
  refine lv_iload_n hx hb dX13_done_1 rfl (lv_at hl 2 rfl) ?_
  refine lv_iand hx hb dX13_done_2 ?_
  refine lv_iload_n hx hb dX13_done_3 rfl (lv_at hl 2 rfl) ?_
  refine lv_icmp_eq (tgt := 9) hx hb dX13_done_4 (by decide) (fun hc => ?_) (fun hc => ?_)
  · have hf := ite_t hf hc
    refine lv_iload_n hx hb dX13_done_9 rfl (lv_at hl 1 rfl) ?_
    refine lv_iconst (v := (-1)) hx hb dX13_done_10 (by decide) ?_
    refine lv_icmp_ne (tgt := 20) hx hb dX13_done_11 (by decide) (fun hc => ?_) (fun hc => ?_)
    · have hf := ite_f hf hc
      refine lv_iload_n hx hb dX13_done_20 rfl (lv_at hl 3 rfl) ?_
      refine lv_iload_n hx hb dX13_done_21 rfl (lv_at hl 0 rfl) ?_
      obtain ⟨q3, hq3, hf⟩ := bd_s hf
      refine k_eSi (As := [.int x3, .int x0]) (rest := []) hx hb hml hown hts hK hA hZ hl.1 hP hD hS (c_X13_bit  hq3) (gSt mlX13_303 stX13_bit inX13 coX13_bit) rfl qnX13_bit rfl rfl ⟨Nat.le_of_ble_eq_true rfl, Nat.le_of_ble_eq_true rfl⟩ rfl rfl (Nat.le_of_ble_eq_true rfl) ⟨Nat.zero_le _, Nat.zero_le _⟩ dX13_done_22 (fun H locs hP hD hS => ?_)
      refine lv_iload_n hx hb dX13_done_25 rfl (lv_at hl 3 rfl) ?_
      refine lv_iload_n hx hb dX13_done_26 rfl (lv_at hl 1 rfl) ?_
      obtain ⟨q4, hq4, hf⟩ := bd_s hf
      refine k_eSi (As := [.int x3, .int x1]) (rest := [.int q3]) hx hb hml hown hts hK hA hZ hl.1 hP hD hS (c_X13_bit  hq4) (gSt mlX13_303 stX13_bit inX13 coX13_bit) rfl qnX13_bit rfl rfl ⟨Nat.le_of_ble_eq_true rfl, Nat.le_of_ble_eq_true rfl⟩ rfl rfl (Nat.le_of_ble_eq_true rfl) ⟨Nat.zero_le _, Nat.zero_le _⟩ dX13_done_27 (fun H locs hP hD hS => ?_)
      refine lv_icmp_ne (tgt := 37) hx hb dX13_done_30 (by decide) (fun hc => ?_) (fun hc => ?_)
      · have hf := ite_f hf hc
        refine lv_iload_n hx hb dX13_done_37 rfl (lv_at hl 3 rfl) ?_
        refine lv_iconst (v := 1) hx hb dX13_done_38 (by decide) ?_
        refine lv_iload_n hx hb dX13_done_39 rfl (lv_at hl 0 rfl) ?_
        refine lv_ishl hx hb dX13_done_40 ?_
        refine lv_iconst (v := 1) hx hb dX13_done_41 (by decide) ?_
        refine lv_iload_n hx hb dX13_done_42 rfl (lv_at hl 1 rfl) ?_
        refine lv_ishl hx hb dX13_done_43 ?_
        refine lv_ior hx hb dX13_done_44 ?_
        refine lv_ixor hx hb dX13_done_45 ?_
        obtain rfl := Option.some.inj hf
        exact k_iret hx hb hr hlocks hK hP hD hS dX13_done_46
      · have hf := ite_t hf hc
        refine lv_iload_n hx hb dX13_done_33 rfl (lv_at hl 3 rfl) ?_
        refine lv_goto (tgt := 46) hx hb dX13_done_34 (by decide) ?_
        obtain rfl := Option.some.inj hf
        exact k_iret hx hb hr hlocks hK hP hD hS dX13_done_46
    · have hf := ite_t hf hc
      refine lv_iload_n hx hb dX13_done_14 rfl (lv_at hl 3 rfl) ?_
      refine lv_iconst (v := 1) hx hb dX13_done_15 (by decide) ?_
      refine lv_iload_n hx hb dX13_done_16 rfl (lv_at hl 0 rfl) ?_
      refine lv_ishl hx hb dX13_done_17 ?_
      refine lv_ixor hx hb dX13_done_18 ?_
      obtain rfl := Option.some.inj hf
      exact k_iret hx hb hr hlocks hK hP hD hS dX13_done_19
  · have hf := ite_f hf hc
    refine lv_iload_n hx hb dX13_done_7 rfl (lv_at hl 3 rfl) ?_
    obtain rfl := Option.some.inj hf
    exact k_iret hx hb hr hlocks hK hP hD hS dX13_done_8
/-! MarbleFloorModel.outBut(IIZI)I -/
abbrev wlX13_outBut : List Cond := Cond.code yX13_outBut cX13_outBut 9 (some .int) :: tbG
abbrev rmX13_outBut : Room := { frames := 2, cells := 0, slots := 0, locals := 44 }
theorem qnX13_outBut : yX13_outBut.cls = RX13 ∧ yX13_outBut.cls ≠ "java/lang/invoke/MethodHandle" ∧ yX13_outBut.cls ≠ "java/lang/invoke/VarHandle" ∧ (parseMethodDescriptor yX13_outBut.desc).map (fun d => d.parameters.length) = some 4 := by decide +kernel
def f_X13_outBut_83 (i0 : Nat → Int32) (r0 : Nat → Nat → Int32) (l0 : Nat → Nat → Int64) (K6 : Int32 → Int32 → Int32 → Int32 → Int32 → Option (Int32)) (x1 : Int32) (x3 : Int32) (x4 : Int32) (x5 : Int32) (x6 : Int32) : Option (Int32) := K6 x1 x3 x4 x5 (x6 + 1)
set_option maxRecDepth 100000 in
set_option maxHeartbeats 4000000 in
theorem w_X13_outBut_83 {p : Program} {l : Launch} {e : Env} {s : State} {m : MethodId} {args : Array Value} {below : List Frame} {meth : Method} {c : Code} {A : Nat → Prop} {D : va_G} {cs zs : Nat → Nat} {h0 : Nat} {a0 : Nat → Nat} {i0 : Nat → Int32} {r0 : Nat → Nat → Int32} {l0 : Nat → Nat → Int64} {q : Int32} (C : Cx p s m args meth c A D cs zs cX13_outBut 9 (some .int) RX13) (K6 : Int32 → Int32 → Int32 → Int32 → Int32 → Option (Int32)) (hK6 : ∀ (x1 : Int32) (x3 : Int32) (x4 : Int32) (x5 : Int32) (x6 : Int32) (H : Heap) (locs : List Loc) (ls : Array Slot), K6 x1 x3 x4 x5 x6 = some q → va_P D vwCl (W13 cs h0 a0 i0 r0 l0) H → va_D A (W13 cs h0 a0 i0 r0 l0) → va_S A s.heap H locs → lv_has ls 9 [(0, .ref h0), (1, .int x1), (3, .int x3), (4, .int x4), (5, .int x5), (6, .int x6)] → W p l e rmX13_outBut s m args below meth c H locs 0 0 (MQ below (Qi D cs A q (W13 cs h0 a0 i0 r0 l0)) args s 0 0 A) (F0 m 6 ls [])) : ∀ (x1 : Int32) (x3 : Int32) (x4 : Int32) (x5 : Int32) (x6 : Int32) (H : Heap) (locs : List Loc) (ls : Array Slot), f_X13_outBut_83 i0 r0 l0 K6 x1 x3 x4 x5 x6 = some q → va_P D vwCl (W13 cs h0 a0 i0 r0 l0) H → va_D A (W13 cs h0 a0 i0 r0 l0) → va_S A s.heap H locs → lv_has ls 9 [(0, .ref h0), (1, .int x1), (3, .int x3), (4, .int x4), (5, .int x5), (6, .int x6)] → W p l e rmX13_outBut s m args below meth c H locs 0 0 (MQ below (Qi D cs A q (W13 cs h0 a0 i0 r0 l0)) args s 0 0 A) (F0 m 83 ls []) := by
  obtain ⟨hx, hb, hr, hml, hown, hts, hK, hA, hlocks, hZ⟩ := id C
  intro x1 x3 x4 x5 x6 H locs ls hf hP hD hS hl
  rw [f_X13_outBut_83] at hf
  refine lv_iinc (v := x6 + 1) (lv' := [(6, .int (x6 + 1)), (0, .ref h0), (1, .int x1), (3, .int x3), (4, .int x4), (5, .int x5)]) hx hb dX13_outBut_83 hl (k := 5) rfl rfl (by decide) rfl (fun ls hl => ?_)
  refine lv_goto (tgt := 6) hx hb dX13_outBut_86 (by decide) ?_
  exact hK6 _ _ _ _ _ _ _ _ hf hP hD hS (lv_sub hl [1, 2, 3, 4, 5, 0] rfl)
def f_X13_outBut_37 (i0 : Nat → Int32) (r0 : Nat → Nat → Int32) (l0 : Nat → Nat → Int64) (K6 : Int32 → Int32 → Int32 → Int32 → Int32 → Option (Int32)) (x1 : Int32) (x3 : Int32) (x4 : Int32) (x5 : Int32) (x6 : Int32) (y0 : Int32) : Option (Int32) := if y0 = x4 then (f_X13_outBut_83 i0 r0 l0 K6 x1 x3 x4 x5 x6) else (ck (inb ((40 * x1) + y0) 320) (ck (inb ((40 * x1) + y0) 320) (ck (inb ((40 * x1) + y0) 320) (bd (f_X13_done (r0 12 ((40 * x1) + y0).toNatClampNeg) (r0 13 ((40 * x1) + y0).toNatClampNeg) (r0 14 ((40 * x1) + y0).toNatClampNeg) x5) (fun q2 => f_X13_outBut_83 i0 r0 l0 K6 x1 x3 x4 q2 x6)))))
set_option maxRecDepth 100000 in
set_option maxHeartbeats 4000000 in
theorem w_X13_outBut_37 {p : Program} {l : Launch} {e : Env} {s : State} {m : MethodId} {args : Array Value} {below : List Frame} {meth : Method} {c : Code} {A : Nat → Prop} {D : va_G} {cs zs : Nat → Nat} {h0 : Nat} {a0 : Nat → Nat} {i0 : Nat → Int32} {r0 : Nat → Nat → Int32} {l0 : Nat → Nat → Int64} {q : Int32} (C : Cx p s m args meth c A D cs zs cX13_outBut 9 (some .int) RX13) (K6 : Int32 → Int32 → Int32 → Int32 → Int32 → Option (Int32)) (hK6 : ∀ (x1 : Int32) (x3 : Int32) (x4 : Int32) (x5 : Int32) (x6 : Int32) (H : Heap) (locs : List Loc) (ls : Array Slot), K6 x1 x3 x4 x5 x6 = some q → va_P D vwCl (W13 cs h0 a0 i0 r0 l0) H → va_D A (W13 cs h0 a0 i0 r0 l0) → va_S A s.heap H locs → lv_has ls 9 [(0, .ref h0), (1, .int x1), (3, .int x3), (4, .int x4), (5, .int x5), (6, .int x6)] → W p l e rmX13_outBut s m args below meth c H locs 0 0 (MQ below (Qi D cs A q (W13 cs h0 a0 i0 r0 l0)) args s 0 0 A) (F0 m 6 ls [])) : ∀ (x1 : Int32) (x3 : Int32) (x4 : Int32) (x5 : Int32) (x6 : Int32) (y0 : Int32) (H : Heap) (locs : List Loc) (ls : Array Slot), f_X13_outBut_37 i0 r0 l0 K6 x1 x3 x4 x5 x6 y0 = some q → va_P D vwCl (W13 cs h0 a0 i0 r0 l0) H → va_D A (W13 cs h0 a0 i0 r0 l0) → va_S A s.heap H locs → lv_has ls 9 [(0, .ref h0), (1, .int x1), (3, .int x3), (4, .int x4), (5, .int x5), (6, .int x6)] → W p l e rmX13_outBut s m args below meth c H locs 0 0 (MQ below (Qi D cs A q (W13 cs h0 a0 i0 r0 l0)) args s 0 0 A) (F0 m 37 ls [.int y0]) := by
  obtain ⟨hx, hb, hr, hml, hown, hts, hK, hA, hlocks, hZ⟩ := id C
  intro x1 x3 x4 x5 x6 y0 H locs ls hf hP hD hS hl
  rw [f_X13_outBut_37] at hf
  refine lv_istore (lv' := [(7, .int y0), (0, .ref h0), (1, .int x1), (3, .int x3), (4, .int x4), (5, .int x5), (6, .int x6)]) hx hb dX13_outBut_37 hl (by decide) rfl (fun ls hl => ?_)
  refine lv_bipush (v := 40) hx hb dX13_outBut_39 (by decide) ?_
  refine lv_iload_n hx hb dX13_outBut_41 rfl (lv_at hl 2 rfl) ?_
  refine lv_imul hx hb dX13_outBut_42 ?_
  refine lv_iload hx hb dX13_outBut_43 (lv_at hl 0 rfl) ?_
  refine lv_iadd hx hb dX13_outBut_45 ?_
  refine lv_istore (lv' := [(8, .int ((40 * x1) + y0)), (7, .int y0), (0, .ref h0), (1, .int x1), (3, .int x3), (4, .int x4), (5, .int x5), (6, .int x6)]) hx hb dX13_outBut_46 hl (by decide) rfl (fun ls hl => ?_)
  refine lv_iload hx hb dX13_outBut_48 (lv_at hl 1 rfl) ?_
  refine lv_iload hx hb dX13_outBut_50 (lv_at hl 5 rfl) ?_
  refine lv_icmp_eq (tgt := 83) hx hb dX13_outBut_52 (by decide) (fun hc => ?_) (fun hc => ?_)
  · have hf := ite_t hf hc
    exact w_X13_outBut_83 C _ (hK6) _ _ _ _ _ _ _ _ hf hP hD hS (lv_sub hl [2, 3, 4, 5, 6, 7] rfl)
  · have hf := ite_f hf hc
    refine lv_aload_n hx hb dX13_outBut_55 rfl (lv_at hl 2 rfl) ?_
    refine va_get (D := D) (ci := 13) (v := .ref (a0 12)) (C := RX13) (T := TX13) (N := 87) hx hb hts hiX13 hown hK hP 0 rfl rfl 12 (by decide) (hts _ flX13_90) (fun _ h9 => h9) rfl dX13_outBut_56 ?_
    refine lv_iload hx hb dX13_outBut_59 (lv_at hl 0 rfl) ?_
    refine va_iald (f := r0 12) hx hb hK hP 4 0 rfl rfl (ck_in hf) dX13_outBut_61 ?_
    have hf := ck_2 hf
    refine lv_aload_n hx hb dX13_outBut_62 rfl (lv_at hl 2 rfl) ?_
    refine va_get (D := D) (ci := 13) (v := .ref (a0 13)) (C := RX13) (T := TX13) (N := 87) hx hb hts hiX13 hown hK hP 0 rfl rfl 13 (by decide) (hts _ flX13_93) (fun _ h9 => h9) rfl dX13_outBut_63 ?_
    refine lv_iload hx hb dX13_outBut_66 (lv_at hl 0 rfl) ?_
    refine va_iald (f := r0 13) hx hb hK hP 5 0 rfl rfl (ck_in hf) dX13_outBut_68 ?_
    have hf := ck_2 hf
    refine lv_aload_n hx hb dX13_outBut_69 rfl (lv_at hl 2 rfl) ?_
    refine va_get (D := D) (ci := 13) (v := .ref (a0 14)) (C := RX13) (T := TX13) (N := 87) hx hb hts hiX13 hown hK hP 0 rfl rfl 14 (by decide) (hts _ flX13_96) (fun _ h9 => h9) rfl dX13_outBut_70 ?_
    refine lv_iload hx hb dX13_outBut_73 (lv_at hl 0 rfl) ?_
    refine va_iald (f := r0 14) hx hb hK hP 6 0 rfl rfl (ck_in hf) dX13_outBut_75 ?_
    have hf := ck_2 hf
    refine lv_iload hx hb dX13_outBut_76 (lv_at hl 6 rfl) ?_
    obtain ⟨q2, hq2, hf⟩ := bd_s hf
    refine k_eSi (As := [.int (r0 12 ((40 * x1) + y0).toNatClampNeg), .int (r0 13 ((40 * x1) + y0).toNatClampNeg), .int (r0 14 ((40 * x1) + y0).toNatClampNeg), .int x5]) (rest := []) hx hb hml hown hts hK hA hZ hl.1 hP hD hS (c_X13_done  hq2) (gSt mlX13_306 stX13_done inX13 coX13_done) rfl qnX13_done rfl rfl ⟨Nat.le_of_ble_eq_true rfl, Nat.le_of_ble_eq_true rfl⟩ rfl rfl (Nat.le_of_ble_eq_true rfl) ⟨Nat.zero_le _, Nat.zero_le _⟩ dX13_outBut_78 (fun H locs hP hD hS => ?_)
    refine lv_istore (lv' := [(5, .int q2), (8, .int ((40 * x1) + y0)), (7, .int y0), (0, .ref h0), (1, .int x1), (3, .int x3), (4, .int x4), (6, .int x6)]) hx hb dX13_outBut_81 hl (by decide) rfl (fun ls hl => ?_)
    exact w_X13_outBut_83 C _ (hK6) _ _ _ _ _ _ _ _ hf hP hD hS (lv_sub hl [3, 4, 5, 6, 0, 7] rfl)
def f_X13_outBut_6 (i0 : Nat → Int32) (r0 : Nat → Nat → Int32) (l0 : Nat → Nat → Int64)  : Nat → Int32 → Int32 → Int32 → Int32 → Int32 → Option (Int32)
  | 0, _, _, _, _, _ => none
  | n + 1, x1, x3, x4, x5, x6 => ck (inb x1 8) (if (r0 11 x1.toNatClampNeg) ≤ x6 then (some (x5)) else (if x3 = 0 then (f_X13_outBut_37 i0 r0 l0 (f_X13_outBut_6 i0 r0 l0 n) x1 x3 x4 x5 x6 x6) else (ck (inb x1 8) (f_X13_outBut_37 i0 r0 l0 (f_X13_outBut_6 i0 r0 l0 n) x1 x3 x4 x5 x6 (((r0 11 x1.toNatClampNeg) - 1) - x6)))))
set_option maxRecDepth 100000 in
set_option maxHeartbeats 4000000 in
theorem w_X13_outBut_6 {p : Program} {l : Launch} {e : Env} {s : State} {m : MethodId} {args : Array Value} {below : List Frame} {meth : Method} {c : Code} {A : Nat → Prop} {D : va_G} {cs zs : Nat → Nat} {h0 : Nat} {a0 : Nat → Nat} {i0 : Nat → Int32} {r0 : Nat → Nat → Int32} {l0 : Nat → Nat → Int64} {q : Int32} (C : Cx p s m args meth c A D cs zs cX13_outBut 9 (some .int) RX13)  : ∀ (n : Nat), ∀ (x1 : Int32) (x3 : Int32) (x4 : Int32) (x5 : Int32) (x6 : Int32) (H : Heap) (locs : List Loc) (ls : Array Slot), f_X13_outBut_6 i0 r0 l0 n x1 x3 x4 x5 x6 = some q → va_P D vwCl (W13 cs h0 a0 i0 r0 l0) H → va_D A (W13 cs h0 a0 i0 r0 l0) → va_S A s.heap H locs → lv_has ls 9 [(0, .ref h0), (1, .int x1), (3, .int x3), (4, .int x4), (5, .int x5), (6, .int x6)] → W p l e rmX13_outBut s m args below meth c H locs 0 0 (MQ below (Qi D cs A q (W13 cs h0 a0 i0 r0 l0)) args s 0 0 A) (F0 m 6 ls []) := by
  obtain ⟨hx, hb, hr, hml, hown, hts, hK, hA, hlocks, hZ⟩ := id C
  intro n
  induction n with
  | zero =>
    intro x1 x3 x4 x5 x6 H locs ls hf
    rw [f_X13_outBut_6] at hf
    cases hf
  | succ n ih =>
    intro x1 x3 x4 x5 x6 H locs ls hf hP hD hS hl
    rw [f_X13_outBut_6] at hf
    refine lv_iload hx hb dX13_outBut_6 (lv_at hl 5 rfl) ?_
    refine lv_aload_n hx hb dX13_outBut_8 rfl (lv_at hl 0 rfl) ?_
    refine va_get (D := D) (ci := 13) (v := .ref (a0 11)) (C := RX13) (T := TX13) (N := 87) hx hb hts hiX13 hown hK hP 0 rfl rfl 11 (by decide) (hts _ flX13_86) (fun _ h9 => h9) rfl dX13_outBut_9 ?_
    refine lv_iload_n hx hb dX13_outBut_12 rfl (lv_at hl 1 rfl) ?_
    refine va_iald (f := r0 11) hx hb hK hP 3 0 rfl rfl (ck_in hf) dX13_outBut_13 ?_
    have hf := ck_2 hf
    refine lv_icmp_ge (tgt := 89) hx hb dX13_outBut_14 (by decide) (fun hc => ?_) (fun hc => ?_)
    · have hf := ite_t hf hc
      refine lv_iload hx hb dX13_outBut_89 (lv_at hl 4 rfl) ?_
      obtain rfl := Option.some.inj hf
      exact k_iret hx hb hr hlocks hK hP hD hS dX13_outBut_91
    · have hf := ite_f hf hc
      refine lv_iload_n hx hb dX13_outBut_17 rfl (lv_at hl 2 rfl) ?_
      refine lv_if_eq (tgt := 35) hx hb dX13_outBut_18 (by decide) (fun hc => ?_) (fun hc => ?_)
      · have hf := ite_t hf hc
        refine lv_iload hx hb dX13_outBut_35 (lv_at hl 5 rfl) ?_
        exact w_X13_outBut_37 C _ (ih) _ _ _ _ _ _ _ _ _ hf hP hD hS (lv_sub hl [0, 1, 2, 3, 4, 5] rfl)
      · have hf := ite_f hf hc
        refine lv_aload_n hx hb dX13_outBut_21 rfl (lv_at hl 0 rfl) ?_
        refine va_get (D := D) (ci := 13) (v := .ref (a0 11)) (C := RX13) (T := TX13) (N := 87) hx hb hts hiX13 hown hK hP 0 rfl rfl 11 (by decide) (hts _ flX13_86) (fun _ h9 => h9) rfl dX13_outBut_22 ?_
        refine lv_iload_n hx hb dX13_outBut_25 rfl (lv_at hl 1 rfl) ?_
        refine va_iald (f := r0 11) hx hb hK hP 3 0 rfl rfl (ck_in hf) dX13_outBut_26 ?_
        have hf := ck_2 hf
        refine lv_iconst (v := 1) hx hb dX13_outBut_27 (by decide) ?_
        refine lv_isub hx hb dX13_outBut_28 ?_
        refine lv_iload hx hb dX13_outBut_29 (lv_at hl 5 rfl) ?_
        refine lv_isub hx hb dX13_outBut_31 ?_
        refine lv_goto (tgt := 37) hx hb dX13_outBut_32 (by decide) ?_
        exact w_X13_outBut_37 C _ (ih) _ _ _ _ _ _ _ _ _ hf hP hD hS (lv_sub hl [0, 1, 2, 3, 4, 5] rfl)
def f_X13_outBut  (i0 : Nat → Int32) (r0 : Nat → Nat → Int32) (l0 : Nat → Nat → Int64) (x1 : Int32) (x2 : Int32) (x3 : Int32) (x4 : Int32) : Option (Int32) := f_X13_outBut_6 i0 r0 l0 2000000 x1 x3 x4 x2 0
set_option maxRecDepth 100000 in
set_option maxHeartbeats 4000000 in
theorem c_X13_outBut {l : Launch} {D : va_G} {cs zs : Nat → Nat} {h0 : Nat} {a0 : Nat → Nat} {i0 : Nat → Int32} {r0 : Nat → Nat → Int32} {l0 : Nat → Nat → Int64} {x1 : Int32} {x2 : Int32} {x3 : Int32} {x4 : Int32} {q : Int32} (hf : f_X13_outBut i0 r0 l0 x1 x2 x3 x4 = some q) : Mi l yX13_outBut wlX13_outBut rmX13_outBut D cs zs [.ref h0, .int x1, .int x2, .int x3, .int x4] (W13 cs h0 a0 i0 r0 l0) q (W13 cs h0 a0 i0 r0 l0) := by
  refine Mi.of RX13 (by decide) rfl (Nat.le_of_ble_eq_true rfl) (fun p e s m below meth c A C hP hD hS ls hl => ?_)
  generalize ([.ref h0, .int x1, .int x2, .int x3, .int x4] : List Value).toArray = args at C ⊢
  obtain ⟨hx, hb, hr, hml, hown, hts, hK, hA, hlocks, hZ⟩ := id C
  have hl : lv_has ls 9 [(0, .ref h0), (1, .int x1), (2, .int x2), (3, .int x3), (4, .int x4)] := hl
  rw [f_X13_outBut] at hf
  refine lv_iload_n hx hb dX13_outBut_0 rfl (lv_at hl 2 rfl) ?_
  refine lv_istore (lv' := [(5, .int x2), (0, .ref h0), (1, .int x1), (2, .int x2), (3, .int x3), (4, .int x4)]) hx hb dX13_outBut_1 hl (by decide) rfl (fun ls hl => ?_)
  refine lv_iconst (v := 0) hx hb dX13_outBut_3 (by decide) ?_
  refine lv_istore (lv' := [(6, .int 0), (5, .int x2), (0, .ref h0), (1, .int x1), (2, .int x2), (3, .int x3), (4, .int x4)]) hx hb dX13_outBut_4 hl (by decide) rfl (fun ls hl => ?_)
  exact w_X13_outBut_6 C  2000000 _ _ _ _ _ _ _ _ hf hP hD hS (lv_sub hl [2, 3, 5, 6, 1, 0] rfl)
/-! MarbleFloorModel.isRow(II)Z -/
abbrev wlX13_isRow : List Cond := Cond.code yX13_isRow cX13_isRow 3 (some .boolean) :: tbG
abbrev rmX13_isRow : Room := { frames := 1, cells := 0, slots := 0, locals := 25 }
theorem qnX13_isRow : yX13_isRow.cls = RX13 ∧ yX13_isRow.cls ≠ "java/lang/invoke/MethodHandle" ∧ yX13_isRow.cls ≠ "java/lang/invoke/VarHandle" ∧ (parseMethodDescriptor yX13_isRow.desc).map (fun d => d.parameters.length) = some 2 := by decide +kernel
def f_X13_isRow  (i0 : Nat → Int32) (r0 : Nat → Nat → Int32) (l0 : Nat → Nat → Int64) (x1 : Int32) (x2 : Int32) : Option (Int32) := ck (inb x1 8) (bd (f_X13_in x2.toInt64 0 (((1 : Int64) <<< ((r0 10 x1.toNatClampNeg).toInt64 &&& 63)) - 1)) (fun q2 => ck (bz q2) (some (q2))))
set_option maxRecDepth 100000 in
set_option maxHeartbeats 4000000 in
theorem c_X13_isRow {l : Launch} {D : va_G} {cs zs : Nat → Nat} {h0 : Nat} {a0 : Nat → Nat} {i0 : Nat → Int32} {r0 : Nat → Nat → Int32} {l0 : Nat → Nat → Int64} {x1 : Int32} {x2 : Int32} {q : Int32} (hf : f_X13_isRow i0 r0 l0 x1 x2 = some q) : Mi l yX13_isRow wlX13_isRow rmX13_isRow D cs zs [.ref h0, .int x1, .int x2] (W13 cs h0 a0 i0 r0 l0) q (W13 cs h0 a0 i0 r0 l0) := by
  refine Mi.of RX13 (by decide) rfl (Nat.le_of_ble_eq_true rfl) (fun p e s m below meth c A C hP hD hS ls hl => ?_)
  generalize ([.ref h0, .int x1, .int x2] : List Value).toArray = args at C ⊢
  obtain ⟨hx, hb, hr, hml, hown, hts, hK, hA, hlocks, hZ⟩ := id C
  have hl : lv_has ls 3 [(0, .ref h0), (1, .int x1), (2, .int x2)] := hl
  rw [f_X13_isRow] at hf
  refine lv_iload_n hx hb dX13_isRow_0 rfl (lv_at hl 2 rfl) ?_
  refine lv_i2l hx hb dX13_isRow_1 rfl ?_
  refine lv_lconst (v := 0) hx hb dX13_isRow_2 (by decide) ?_
  refine lv_lconst (v := 1) hx hb dX13_isRow_3 (by decide) ?_
  refine lv_aload_n hx hb dX13_isRow_4 rfl (lv_at hl 0 rfl) ?_
  refine va_get (D := D) (ci := 13) (v := .ref (a0 10)) (C := RX13) (T := TX13) (N := 87) hx hb hts hiX13 hown hK hP 0 rfl rfl 10 (by decide) (hts _ flX13_99) (fun _ h9 => h9) rfl dX13_isRow_5 ?_
  refine lv_iload_n hx hb dX13_isRow_8 rfl (lv_at hl 1 rfl) ?_
  refine va_iald (f := r0 10) hx hb hK hP 2 0 rfl rfl (ck_in hf) dX13_isRow_9 ?_
  have hf := ck_2 hf
  refine lv_lshl hx hb dX13_isRow_10 rfl ?_
  refine lv_lconst (v := 1) hx hb dX13_isRow_11 (by decide) ?_
  refine lv_lsub hx hb dX13_isRow_12 ?_
  obtain ⟨q2, hq2, hf⟩ := bd_s hf
  refine k_eSi (As := [.long x2.toInt64, .long 0, .long (((1 : Int64) <<< ((r0 10 x1.toNatClampNeg).toInt64 &&& 63)) - 1)]) (rest := []) hx hb hml hown hts hK hA hZ hl.1 hP hD hS (c_X13_in  hq2) (gSt mlX13_64 stX13_in inX13 coX13_in) rfl qnX13_in rfl rfl ⟨Nat.le_of_ble_eq_true rfl, Nat.le_of_ble_eq_true rfl⟩ rfl rfl (Nat.le_of_ble_eq_true rfl) ⟨Nat.zero_le _, Nat.zero_le _⟩ dX13_isRow_13 (fun H locs hP hD hS => ?_)
  have hz := ck_bz hf
  have hf := ck_2 hf
  obtain rfl := Option.some.inj hf
  exact k_zret (r := q2) hx hb hr hlocks hz hK hP hD hS dX13_isRow_16
/-! MarbleFloorModel.out(IIZ)I -/
abbrev wlX13_out : List Cond := Cond.code yX13_out cX13_out 4 (some .int) :: tbG
abbrev rmX13_out : Room := { frames := 3, cells := 0, slots := 0, locals := 72 }
theorem qnX13_out : yX13_out.cls = RX13 ∧ yX13_out.cls ≠ "java/lang/invoke/MethodHandle" ∧ yX13_out.cls ≠ "java/lang/invoke/VarHandle" ∧ (parseMethodDescriptor yX13_out.desc).map (fun d => d.parameters.length) = some 3 := by decide +kernel
def f_X13_out  (i0 : Nat → Int32) (r0 : Nat → Nat → Int32) (l0 : Nat → Nat → Int64) (x1 : Int32) (x2 : Int32) (x3 : Int32) : Option (Int32) := bd (f_X13_isFloor x1) (fun q4 => if q4 = 0 then (some ((-2))) else (bd (f_X13_isRow i0 r0 l0 x1 x2) (fun q5 => if q5 = 0 then (some ((-2))) else (bd (f_X13_outBut i0 r0 l0 x1 x2 x3 (-1)) (fun q6 => some (q6))))))
set_option maxRecDepth 100000 in
set_option maxHeartbeats 4000000 in
theorem c_X13_out {l : Launch} {D : va_G} {cs zs : Nat → Nat} {h0 : Nat} {a0 : Nat → Nat} {i0 : Nat → Int32} {r0 : Nat → Nat → Int32} {l0 : Nat → Nat → Int64} {x1 : Int32} {x2 : Int32} {x3 : Int32} {q : Int32} (hf : f_X13_out i0 r0 l0 x1 x2 x3 = some q) : Mi l yX13_out wlX13_out rmX13_out D cs zs [.ref h0, .int x1, .int x2, .int x3] (W13 cs h0 a0 i0 r0 l0) q (W13 cs h0 a0 i0 r0 l0) := by
  refine Mi.of RX13 (by decide) rfl (Nat.le_of_ble_eq_true rfl) (fun p e s m below meth c A C hP hD hS ls hl => ?_)
  generalize ([.ref h0, .int x1, .int x2, .int x3] : List Value).toArray = args at C ⊢
  obtain ⟨hx, hb, hr, hml, hown, hts, hK, hA, hlocks, hZ⟩ := id C
  have hl : lv_has ls 4 [(0, .ref h0), (1, .int x1), (2, .int x2), (3, .int x3)] := hl
  rw [f_X13_out] at hf
  refine lv_iload_n hx hb dX13_out_0 rfl (lv_at hl 1 rfl) ?_
  obtain ⟨q4, hq4, hf⟩ := bd_s hf
  refine k_eSi (As := [.int x1]) (rest := []) hx hb hml hown hts hK hA hZ hl.1 hP hD hS (c_X13_isFloor  hq4) (gSt mlX13_290 stX13_isFloor inX13 coX13_isFloor) rfl qnX13_isFloor rfl rfl ⟨Nat.le_of_ble_eq_true rfl, Nat.le_of_ble_eq_true rfl⟩ rfl rfl (Nat.le_of_ble_eq_true rfl) ⟨Nat.zero_le _, Nat.zero_le _⟩ dX13_out_1 (fun H locs hP hD hS => ?_)
  refine lv_if_eq (tgt := 27) hx hb dX13_out_4 (by decide) (fun hc => ?_) (fun hc => ?_)
  · have hf := ite_t hf hc
    refine lv_bipush (v := (-2)) hx hb dX13_out_27 (by decide) ?_
    obtain rfl := Option.some.inj hf
    exact k_iret hx hb hr hlocks hK hP hD hS dX13_out_29
  · have hf := ite_f hf hc
    refine lv_aload_n hx hb dX13_out_7 rfl (lv_at hl 0 rfl) ?_
    refine lv_iload_n hx hb dX13_out_8 rfl (lv_at hl 1 rfl) ?_
    refine lv_iload_n hx hb dX13_out_9 rfl (lv_at hl 2 rfl) ?_
    obtain ⟨q5, hq5, hf⟩ := bd_s hf
    refine k_sVi (ws2 := W13 cs h0 a0 i0 r0 l0) (As := [.int x1, .int x2]) (rest := []) hx hb hml hown hts hK hA hZ hl.1 hP hD hS (c_X13_isRow (h0 := h0) (a0 := a0) hq5) (gVt mlX13_310 imX13_isRow seX13_isRow inX13 coX13_isRow) rfl qnX13_isRow rfl rfl ⟨Nat.le_of_ble_eq_true rfl, Nat.le_of_ble_eq_true rfl⟩ 0 13 rfl rfl rfl rfl rfl (Nat.le_of_ble_eq_true rfl) ⟨Nat.zero_le _, Nat.zero_le _⟩ dX13_out_10 (fun H locs hP hD hS => ?_)
    refine lv_if_eq (tgt := 27) hx hb dX13_out_13 (by decide) (fun hc => ?_) (fun hc => ?_)
    · have hf := ite_t hf hc
      refine lv_bipush (v := (-2)) hx hb dX13_out_27 (by decide) ?_
      obtain rfl := Option.some.inj hf
      exact k_iret hx hb hr hlocks hK hP hD hS dX13_out_29
    · have hf := ite_f hf hc
      refine lv_aload_n hx hb dX13_out_16 rfl (lv_at hl 0 rfl) ?_
      refine lv_iload_n hx hb dX13_out_17 rfl (lv_at hl 1 rfl) ?_
      refine lv_iload_n hx hb dX13_out_18 rfl (lv_at hl 2 rfl) ?_
      refine lv_iload_n hx hb dX13_out_19 rfl (lv_at hl 3 rfl) ?_
      refine lv_iconst (v := (-1)) hx hb dX13_out_20 (by decide) ?_
      obtain ⟨q6, hq6, hf⟩ := bd_s hf
      refine k_sVi (ws2 := W13 cs h0 a0 i0 r0 l0) (As := [.int x1, .int x2, .int x3, .int (-1)]) (rest := []) hx hb hml hown hts hK hA hZ hl.1 hP hD hS (c_X13_outBut (h0 := h0) (a0 := a0) hq6) (gVt mlX13_314 imX13_outBut seX13_outBut inX13 coX13_outBut) rfl qnX13_outBut rfl rfl ⟨Nat.le_of_ble_eq_true rfl, Nat.le_of_ble_eq_true rfl⟩ 0 13 rfl rfl rfl rfl rfl (Nat.le_of_ble_eq_true rfl) ⟨Nat.zero_le _, Nat.zero_le _⟩ dX13_out_21 (fun H locs hP hD hS => ?_)
      refine lv_goto (tgt := 29) hx hb dX13_out_24 (by decide) ?_
      obtain rfl := Option.some.inj hf
      exact k_iret hx hb hr hlocks hK hP hD hS dX13_out_29
/-! MarbleFloorModel.findTable(I)V -/
abbrev wlX13_findTable : List Cond := Cond.code yX13_findTable cX13_findTable 3 none :: tbG
abbrev rmX13_findTable : Room := { frames := 3, cells := 0, slots := 0, locals := 72 }
theorem qnX13_findTable : yX13_findTable.cls = RX13 ∧ yX13_findTable.cls ≠ "java/lang/invoke/MethodHandle" ∧ yX13_findTable.cls ≠ "java/lang/invoke/VarHandle" ∧ (parseMethodDescriptor yX13_findTable.desc).map (fun d => d.parameters.length) = some 1 := by decide +kernel
def f_X13_findTable_2 (i0 : Nat → Int32) (l0 : Nat → Nat → Int64)  : Nat → (Nat → Nat → Int32) → Int32 → Int32 → Option ((Nat → Nat → Int32))
  | 0, _, _, _ => none
  | n + 1, r0, x1, x2 => ck (inb x1 8) (if ((1 : Int32) <<< ((r0 10 x1.toNatClampNeg) &&& 31)) ≤ x2 then (some (r0)) else (bd (f_X13_outBut i0 r0 l0 x1 x2 0 (-1)) (fun q2 => ck (inb x2 256) (f_X13_findTable_2 i0 l0 n (va_up r0 15 (upd (r0 15) x2.toNatClampNeg q2)) x1 (x2 + 1)))))
set_option maxRecDepth 100000 in
set_option maxHeartbeats 4000000 in
theorem w_X13_findTable_2 {p : Program} {l : Launch} {e : Env} {s : State} {m : MethodId} {args : Array Value} {below : List Frame} {meth : Method} {c : Code} {A : Nat → Prop} {D : va_G} {cs zs : Nat → Nat} {h0 : Nat} {a0 : Nat → Nat} {i0 : Nat → Int32} {l0 : Nat → Nat → Int64} {q : (Nat → Nat → Int32)} (C : Cx p s m args meth c A D cs zs cX13_findTable 3 none RX13)  : ∀ (n : Nat), ∀ (r0 : Nat → Nat → Int32) (x1 : Int32) (x2 : Int32) (H : Heap) (locs : List Loc) (ls : Array Slot), f_X13_findTable_2 i0 l0 n r0 x1 x2 = some q → va_P D vwCl (W13 cs h0 a0 i0 r0 l0) H → va_D A (W13 cs h0 a0 i0 r0 l0) → va_S A s.heap H locs → lv_has ls 3 [(0, .ref h0), (1, .int x1), (2, .int x2)] → W p l e rmX13_findTable s m args below meth c H locs 0 0 (MQ below (Qv D cs A (W13 cs h0 a0 i0 q l0)) args s 0 0 A) (F0 m 2 ls []) := by
  obtain ⟨hx, hb, hr, hml, hown, hts, hK, hA, hlocks, hZ⟩ := id C
  intro n
  induction n with
  | zero =>
    intro r0 x1 x2 H locs ls hf
    rw [f_X13_findTable_2] at hf
    cases hf
  | succ n ih =>
    intro r0 x1 x2 H locs ls hf hP hD hS hl
    rw [f_X13_findTable_2] at hf
    refine lv_iload_n hx hb dX13_findTable_2 rfl (lv_at hl 2 rfl) ?_
    refine lv_iconst (v := 1) hx hb dX13_findTable_3 (by decide) ?_
    refine lv_aload_n hx hb dX13_findTable_4 rfl (lv_at hl 0 rfl) ?_
    refine va_get (D := D) (ci := 13) (v := .ref (a0 10)) (C := RX13) (T := TX13) (N := 87) hx hb hts hiX13 hown hK hP 0 rfl rfl 10 (by decide) (hts _ flX13_99) (fun _ h9 => h9) rfl dX13_findTable_5 ?_
    refine lv_iload_n hx hb dX13_findTable_8 rfl (lv_at hl 1 rfl) ?_
    refine va_iald (f := r0 10) hx hb hK hP 2 0 rfl rfl (ck_in hf) dX13_findTable_9 ?_
    have hf := ck_2 hf
    refine lv_ishl hx hb dX13_findTable_10 ?_
    refine lv_icmp_ge (tgt := 34) hx hb dX13_findTable_11 (by decide) (fun hc => ?_) (fun hc => ?_)
    · have hf := ite_t hf hc
      obtain rfl := Option.some.inj hf
      exact k_vret hx hb hr hlocks hK hP hD hS dX13_findTable_34
    · have hf := ite_f hf hc
      refine lv_aload_n hx hb dX13_findTable_14 rfl (lv_at hl 0 rfl) ?_
      refine va_get (D := D) (ci := 13) (v := .ref (a0 15)) (C := RX13) (T := TX13) (N := 87) hx hb hts hiX13 hown hK hP 0 rfl rfl 15 (by decide) (hts _ flX13_138) (fun _ h9 => h9) rfl dX13_findTable_15 ?_
      refine lv_iload_n hx hb dX13_findTable_18 rfl (lv_at hl 2 rfl) ?_
      refine lv_aload_n hx hb dX13_findTable_19 rfl (lv_at hl 0 rfl) ?_
      refine lv_iload_n hx hb dX13_findTable_20 rfl (lv_at hl 1 rfl) ?_
      refine lv_iload_n hx hb dX13_findTable_21 rfl (lv_at hl 2 rfl) ?_
      refine lv_iconst (v := 0) hx hb dX13_findTable_22 (by decide) ?_
      refine lv_iconst (v := (-1)) hx hb dX13_findTable_23 (by decide) ?_
      obtain ⟨q2, hq2, hf⟩ := bd_s hf
      refine k_sVi (ws2 := W13 cs h0 a0 i0 r0 l0) (As := [.int x1, .int x2, .int 0, .int (-1)]) (rest := [.int x2, .ref (a0 15)]) hx hb hml hown hts hK hA hZ hl.1 hP hD hS (c_X13_outBut (h0 := h0) (a0 := a0) hq2) (gVt mlX13_314 imX13_outBut seX13_outBut inX13 coX13_outBut) rfl qnX13_outBut rfl rfl ⟨Nat.le_of_ble_eq_true rfl, Nat.le_of_ble_eq_true rfl⟩ 0 13 rfl rfl rfl rfl rfl (Nat.le_of_ble_eq_true rfl) ⟨Nat.zero_le _, Nat.zero_le _⟩ dX13_findTable_24 (fun H locs hP hD hS => ?_)
      refine va_iast (f := r0 15) hx hb hK hP hD hS 7 0 rfl rfl (ck_in hf) dX13_findTable_27 (fun H locs hP hD hS => ?_)
      have hf := ck_2 hf
      obtain ⟨hP, hD⟩ := st13_15 hP hD
      refine lv_iinc (v := x2 + 1) (lv' := [(2, .int (x2 + 1)), (0, .ref h0), (1, .int x1)]) hx hb dX13_findTable_28 hl (k := 2) rfl rfl (by decide) rfl (fun ls hl => ?_)
      refine lv_goto (tgt := 2) hx hb dX13_findTable_31 (by decide) ?_
      exact ih _ _ _ _ _ _ hf hP hD hS (lv_sub hl [1, 2, 0] rfl)
def f_X13_findTable  (i0 : Nat → Int32) (r0 : Nat → Nat → Int32) (l0 : Nat → Nat → Int64) (x1 : Int32) : Option ((Nat → Nat → Int32)) := f_X13_findTable_2 i0 l0 2000000 r0 x1 0
set_option maxRecDepth 100000 in
set_option maxHeartbeats 4000000 in
theorem c_X13_findTable {l : Launch} {D : va_G} {cs zs : Nat → Nat} {h0 : Nat} {a0 : Nat → Nat} {i0 : Nat → Int32} {r0 : Nat → Nat → Int32} {l0 : Nat → Nat → Int64} {x1 : Int32} {q : (Nat → Nat → Int32)} (hf : f_X13_findTable i0 r0 l0 x1 = some q) : Mv l yX13_findTable wlX13_findTable rmX13_findTable D cs zs [.ref h0, .int x1] (W13 cs h0 a0 i0 r0 l0) (W13 cs h0 a0 i0 q l0) := by
  refine Mv.of RX13 (by decide) rfl (Nat.le_of_ble_eq_true rfl) (fun p e s m below meth c A C hP hD hS ls hl => ?_)
  generalize ([.ref h0, .int x1] : List Value).toArray = args at C ⊢
  obtain ⟨hx, hb, hr, hml, hown, hts, hK, hA, hlocks, hZ⟩ := id C
  have hl : lv_has ls 3 [(0, .ref h0), (1, .int x1)] := hl
  rw [f_X13_findTable] at hf
  refine lv_iconst (v := 0) hx hb dX13_findTable_0 (by decide) ?_
  refine lv_istore_n (lv' := [(2, .int 0), (0, .ref h0), (1, .int x1)]) hx hb dX13_findTable_1 rfl hl (by decide) rfl (fun ls hl => ?_)
  exact w_X13_findTable_2 C  2000000 _ _ _ _ _ _ hf hP hD hS (lv_sub hl [1, 2, 0] rfl)
/-! MarbleFloorModel.odd(I)I -/
abbrev wlX13_odd : List Cond := Cond.code yX13_odd cX13_odd 5 (some .int) :: tbG
abbrev rmX13_odd : Room := { frames := 4, cells := 0, slots := 0, locals := 94 }
theorem qnX13_odd : yX13_odd.cls = RX13 ∧ yX13_odd.cls ≠ "java/lang/invoke/MethodHandle" ∧ yX13_odd.cls ≠ "java/lang/invoke/VarHandle" ∧ (parseMethodDescriptor yX13_odd.desc).map (fun d => d.parameters.length) = some 1 := by decide +kernel
def f_X13_odd_96 (i0 : Nat → Int32) (l0 : Nat → Nat → Int64) (K46 : (Nat → Nat → Int32) → Int32 → Int32 → Int32 → Option (Int32 × (Nat → Nat → Int32))) (K61 : (Nat → Nat → Int32) → Int32 → Int32 → Int32 → Int32 → Option (Int32 × (Nat → Nat → Int32))) (r0 : Nat → Nat → Int32) (x1 : Int32) (x3 : Int32) (x4 : Int32) (y0 : Int32) (y1 : Int32) : Option (Int32 × (Nat → Nat → Int32)) := ck (inb x4 256) (K61 r0 x1 (y1 + y0) x3 (r0 15 x4.toNatClampNeg))
set_option maxRecDepth 100000 in
set_option maxHeartbeats 4000000 in
theorem w_X13_odd_96 {p : Program} {l : Launch} {e : Env} {s : State} {m : MethodId} {args : Array Value} {below : List Frame} {meth : Method} {c : Code} {A : Nat → Prop} {D : va_G} {cs zs : Nat → Nat} {h0 : Nat} {a0 : Nat → Nat} {i0 : Nat → Int32} {l0 : Nat → Nat → Int64} {q : Int32 × (Nat → Nat → Int32)} (C : Cx p s m args meth c A D cs zs cX13_odd 5 (some .int) RX13) (K46 : (Nat → Nat → Int32) → Int32 → Int32 → Int32 → Option (Int32 × (Nat → Nat → Int32))) (hK46 : ∀ (r0 : Nat → Nat → Int32) (x1 : Int32) (x2 : Int32) (x3 : Int32) (H : Heap) (locs : List Loc) (ls : Array Slot), K46 r0 x1 x2 x3 = some q → va_P D vwCl (W13 cs h0 a0 i0 r0 l0) H → va_D A (W13 cs h0 a0 i0 r0 l0) → va_S A s.heap H locs → lv_has ls 5 [(0, .ref h0), (1, .int x1), (2, .int x2), (3, .int x3)] → W p l e rmX13_odd s m args below meth c H locs 0 0 (MQ below (Qi D cs A q.1 (W13 cs h0 a0 i0 q.2 l0)) args s 0 0 A) (F0 m 46 ls [])) (K61 : (Nat → Nat → Int32) → Int32 → Int32 → Int32 → Int32 → Option (Int32 × (Nat → Nat → Int32))) (hK61 : ∀ (r0 : Nat → Nat → Int32) (x1 : Int32) (x2 : Int32) (x3 : Int32) (x4 : Int32) (H : Heap) (locs : List Loc) (ls : Array Slot), K61 r0 x1 x2 x3 x4 = some q → va_P D vwCl (W13 cs h0 a0 i0 r0 l0) H → va_D A (W13 cs h0 a0 i0 r0 l0) → va_S A s.heap H locs → lv_has ls 5 [(0, .ref h0), (1, .int x1), (2, .int x2), (3, .int x3), (4, .int x4)] → W p l e rmX13_odd s m args below meth c H locs 0 0 (MQ below (Qi D cs A q.1 (W13 cs h0 a0 i0 q.2 l0)) args s 0 0 A) (F0 m 61 ls [])) : ∀ (r0 : Nat → Nat → Int32) (x1 : Int32) (x3 : Int32) (x4 : Int32) (y0 : Int32) (y1 : Int32) (H : Heap) (locs : List Loc) (ls : Array Slot), f_X13_odd_96 i0 l0 K46 K61 r0 x1 x3 x4 y0 y1 = some q → va_P D vwCl (W13 cs h0 a0 i0 r0 l0) H → va_D A (W13 cs h0 a0 i0 r0 l0) → va_S A s.heap H locs → lv_has ls 5 [(0, .ref h0), (1, .int x1), (3, .int x3), (4, .int x4)] → W p l e rmX13_odd s m args below meth c H locs 0 0 (MQ below (Qi D cs A q.1 (W13 cs h0 a0 i0 q.2 l0)) args s 0 0 A) (F0 m 96 ls [.int y0, .int y1]) := by
  obtain ⟨hx, hb, hr, hml, hown, hts, hK, hA, hlocks, hZ⟩ := id C
  intro r0 x1 x3 x4 y0 y1 H locs ls hf hP hD hS hl
  rw [f_X13_odd_96] at hf
  refine lv_iadd hx hb dX13_odd_96 ?_
  refine lv_istore_n (lv' := [(2, .int (y1 + y0)), (0, .ref h0), (1, .int x1), (3, .int x3), (4, .int x4)]) hx hb dX13_odd_97 rfl hl (by decide) rfl (fun ls hl => ?_)
  refine lv_aload_n hx hb dX13_odd_98 rfl (lv_at hl 1 rfl) ?_
  refine va_get (D := D) (ci := 13) (v := .ref (a0 15)) (C := RX13) (T := TX13) (N := 87) hx hb hts hiX13 hown hK hP 0 rfl rfl 15 (by decide) (hts _ flX13_138) (fun _ h9 => h9) rfl dX13_odd_99 ?_
  refine lv_iload hx hb dX13_odd_102 (lv_at hl 4 rfl) ?_
  refine va_iald (f := r0 15) hx hb hK hP 7 0 rfl rfl (ck_in hf) dX13_odd_104 ?_
  have hf := ck_2 hf
  refine lv_istore (lv' := [(4, .int (r0 15 x4.toNatClampNeg)), (2, .int (y1 + y0)), (0, .ref h0), (1, .int x1), (3, .int x3)]) hx hb dX13_odd_105 hl (by decide) rfl (fun ls hl => ?_)
  refine lv_goto (tgt := 61) hx hb dX13_odd_107 (by decide) ?_
  exact hK61 _ _ _ _ _ _ _ _ hf hP hD hS (lv_sub hl [2, 3, 1, 4, 0] rfl)
def f_X13_odd_61 (i0 : Nat → Int32) (l0 : Nat → Nat → Int64) (K46 : (Nat → Nat → Int32) → Int32 → Int32 → Int32 → Option (Int32 × (Nat → Nat → Int32))) : Nat → (Nat → Nat → Int32) → Int32 → Int32 → Int32 → Int32 → Option (Int32 × (Nat → Nat → Int32))
  | 0, _, _, _, _, _ => none
  | n + 1, r0, x1, x2, x3, x4 => ck (inb x4 256) (if (r0 16 x4.toNatClampNeg) = 0 then (ck (inb x4 256) (ck (inb x4 256) (if (r0 15 x4.toNatClampNeg) = x3 then (f_X13_odd_96 i0 l0 K46 (f_X13_odd_61 i0 l0 K46 n) (va_up r0 16 (upd (r0 16) x4.toNatClampNeg (vp_nar .boolean 1))) x1 x3 x4 0 x2) else (f_X13_odd_96 i0 l0 K46 (f_X13_odd_61 i0 l0 K46 n) (va_up r0 16 (upd (r0 16) x4.toNatClampNeg (vp_nar .boolean 1))) x1 x3 x4 1 x2)))) else (K46 r0 x1 x2 (x3 + 1)))
set_option maxRecDepth 100000 in
set_option maxHeartbeats 4000000 in
theorem w_X13_odd_61 {p : Program} {l : Launch} {e : Env} {s : State} {m : MethodId} {args : Array Value} {below : List Frame} {meth : Method} {c : Code} {A : Nat → Prop} {D : va_G} {cs zs : Nat → Nat} {h0 : Nat} {a0 : Nat → Nat} {i0 : Nat → Int32} {l0 : Nat → Nat → Int64} {q : Int32 × (Nat → Nat → Int32)} (C : Cx p s m args meth c A D cs zs cX13_odd 5 (some .int) RX13) (K46 : (Nat → Nat → Int32) → Int32 → Int32 → Int32 → Option (Int32 × (Nat → Nat → Int32))) (hK46 : ∀ (r0 : Nat → Nat → Int32) (x1 : Int32) (x2 : Int32) (x3 : Int32) (H : Heap) (locs : List Loc) (ls : Array Slot), K46 r0 x1 x2 x3 = some q → va_P D vwCl (W13 cs h0 a0 i0 r0 l0) H → va_D A (W13 cs h0 a0 i0 r0 l0) → va_S A s.heap H locs → lv_has ls 5 [(0, .ref h0), (1, .int x1), (2, .int x2), (3, .int x3)] → W p l e rmX13_odd s m args below meth c H locs 0 0 (MQ below (Qi D cs A q.1 (W13 cs h0 a0 i0 q.2 l0)) args s 0 0 A) (F0 m 46 ls [])) : ∀ (n : Nat), ∀ (r0 : Nat → Nat → Int32) (x1 : Int32) (x2 : Int32) (x3 : Int32) (x4 : Int32) (H : Heap) (locs : List Loc) (ls : Array Slot), f_X13_odd_61 i0 l0 K46 n r0 x1 x2 x3 x4 = some q → va_P D vwCl (W13 cs h0 a0 i0 r0 l0) H → va_D A (W13 cs h0 a0 i0 r0 l0) → va_S A s.heap H locs → lv_has ls 5 [(0, .ref h0), (1, .int x1), (2, .int x2), (3, .int x3), (4, .int x4)] → W p l e rmX13_odd s m args below meth c H locs 0 0 (MQ below (Qi D cs A q.1 (W13 cs h0 a0 i0 q.2 l0)) args s 0 0 A) (F0 m 61 ls []) := by
  obtain ⟨hx, hb, hr, hml, hown, hts, hK, hA, hlocks, hZ⟩ := id C
  intro n
  induction n with
  | zero =>
    intro r0 x1 x2 x3 x4 H locs ls hf
    rw [f_X13_odd_61] at hf
    cases hf
  | succ n ih =>
    intro r0 x1 x2 x3 x4 H locs ls hf hP hD hS hl
    rw [f_X13_odd_61] at hf
    refine lv_aload_n hx hb dX13_odd_61 rfl (lv_at hl 0 rfl) ?_
    refine va_get (D := D) (ci := 13) (v := .ref (a0 16)) (C := RX13) (T := TX13) (N := 87) hx hb hts hiX13 hown hK hP 0 rfl rfl 16 (by decide) (hts _ flX13_141) (fun _ h9 => h9) rfl dX13_odd_62 ?_
    refine lv_iload hx hb dX13_odd_65 (lv_at hl 4 rfl) ?_
    refine va_zald (f := r0 16) hx hb hK hP 8 2 rfl rfl (ck_in hf) dX13_odd_67 ?_
    have hf := ck_2 hf
    refine lv_if_ne (tgt := 110) hx hb dX13_odd_68 (by decide) (fun hc => ?_) (fun hc => ?_)
    · have hf := ite_f hf hc
      refine lv_iinc (v := x3 + 1) (lv' := [(3, .int (x3 + 1)), (0, .ref h0), (1, .int x1), (2, .int x2), (4, .int x4)]) hx hb dX13_odd_110 hl (k := 3) rfl rfl (by decide) rfl (fun ls hl => ?_)
      refine lv_goto (tgt := 46) hx hb dX13_odd_113 (by decide) ?_
      exact hK46 _ _ _ _ _ _ _ hf hP hD hS (lv_sub hl [1, 2, 3, 0] rfl)
    · have hf := ite_t hf hc
      refine lv_aload_n hx hb dX13_odd_71 rfl (lv_at hl 0 rfl) ?_
      refine va_get (D := D) (ci := 13) (v := .ref (a0 16)) (C := RX13) (T := TX13) (N := 87) hx hb hts hiX13 hown hK hP 0 rfl rfl 16 (by decide) (hts _ flX13_141) (fun _ h9 => h9) rfl dX13_odd_72 ?_
      refine lv_iload hx hb dX13_odd_75 (lv_at hl 4 rfl) ?_
      refine lv_iconst (v := 1) hx hb dX13_odd_77 (by decide) ?_
      refine va_zast (f := r0 16) hx hb hK hP hD hS 8 2 rfl rfl (ck_in hf) dX13_odd_78 (fun H locs hP hD hS => ?_)
      have hf := ck_2 hf
      obtain ⟨hP, hD⟩ := st13_16 hP hD
      refine lv_iload_n hx hb dX13_odd_79 rfl (lv_at hl 2 rfl) ?_
      refine lv_aload_n hx hb dX13_odd_80 rfl (lv_at hl 0 rfl) ?_
      refine va_get (D := D) (ci := 13) (v := .ref (a0 15)) (C := RX13) (T := TX13) (N := 87) hx hb hts hiX13 hown hK hP 0 rfl rfl 15 (by decide) (hts _ flX13_138) (fun _ h9 => h9) rfl dX13_odd_81 ?_
      refine lv_iload hx hb dX13_odd_84 (lv_at hl 4 rfl) ?_
      refine va_iald (f := r0 15) hx hb hK hP 7 0 rfl rfl (ck_in hf) dX13_odd_86 ?_
      have hf := ck_2 hf
      refine lv_iload_n hx hb dX13_odd_87 rfl (lv_at hl 3 rfl) ?_
      refine lv_icmp_ne (tgt := 95) hx hb dX13_odd_88 (by decide) (fun hc => ?_) (fun hc => ?_)
      · have hf := ite_f hf hc
        refine lv_iconst (v := 1) hx hb dX13_odd_95 (by decide) ?_
        exact w_X13_odd_96 C _ (hK46) _ (ih) _ _ _ _ _ _ _ _ _ hf hP hD hS (lv_sub hl [0, 1, 3, 4] rfl)
      · have hf := ite_t hf hc
        refine lv_iconst (v := 0) hx hb dX13_odd_91 (by decide) ?_
        refine lv_goto (tgt := 96) hx hb dX13_odd_92 (by decide) ?_
        exact w_X13_odd_96 C _ (hK46) _ (ih) _ _ _ _ _ _ _ _ _ hf hP hD hS (lv_sub hl [0, 1, 3, 4] rfl)
def f_X13_odd_46 (i0 : Nat → Int32) (l0 : Nat → Nat → Int64)  : Nat → (Nat → Nat → Int32) → Int32 → Int32 → Int32 → Option (Int32 × (Nat → Nat → Int32))
  | 0, _, _, _, _ => none
  | n + 1, r0, x1, x2, x3 => ck (inb x1 8) (if ((1 : Int32) <<< ((r0 10 x1.toNatClampNeg) &&& 31)) ≤ x3 then (ck (nz 2) (some (x2 - x2 / 2 * 2, r0))) else (f_X13_odd_61 i0 l0 (f_X13_odd_46 i0 l0 n) 2000000 r0 x1 x2 x3 x3))
set_option maxRecDepth 100000 in
set_option maxHeartbeats 4000000 in
theorem w_X13_odd_46 {p : Program} {l : Launch} {e : Env} {s : State} {m : MethodId} {args : Array Value} {below : List Frame} {meth : Method} {c : Code} {A : Nat → Prop} {D : va_G} {cs zs : Nat → Nat} {h0 : Nat} {a0 : Nat → Nat} {i0 : Nat → Int32} {l0 : Nat → Nat → Int64} {q : Int32 × (Nat → Nat → Int32)} (C : Cx p s m args meth c A D cs zs cX13_odd 5 (some .int) RX13)  : ∀ (n : Nat), ∀ (r0 : Nat → Nat → Int32) (x1 : Int32) (x2 : Int32) (x3 : Int32) (H : Heap) (locs : List Loc) (ls : Array Slot), f_X13_odd_46 i0 l0 n r0 x1 x2 x3 = some q → va_P D vwCl (W13 cs h0 a0 i0 r0 l0) H → va_D A (W13 cs h0 a0 i0 r0 l0) → va_S A s.heap H locs → lv_has ls 5 [(0, .ref h0), (1, .int x1), (2, .int x2), (3, .int x3)] → W p l e rmX13_odd s m args below meth c H locs 0 0 (MQ below (Qi D cs A q.1 (W13 cs h0 a0 i0 q.2 l0)) args s 0 0 A) (F0 m 46 ls []) := by
  obtain ⟨hx, hb, hr, hml, hown, hts, hK, hA, hlocks, hZ⟩ := id C
  intro n
  induction n with
  | zero =>
    intro r0 x1 x2 x3 H locs ls hf
    rw [f_X13_odd_46] at hf
    cases hf
  | succ n ih =>
    intro r0 x1 x2 x3 H locs ls hf hP hD hS hl
    rw [f_X13_odd_46] at hf
    refine lv_iload_n hx hb dX13_odd_46 rfl (lv_at hl 3 rfl) ?_
    refine lv_iconst (v := 1) hx hb dX13_odd_47 (by decide) ?_
    refine lv_aload_n hx hb dX13_odd_48 rfl (lv_at hl 0 rfl) ?_
    refine va_get (D := D) (ci := 13) (v := .ref (a0 10)) (C := RX13) (T := TX13) (N := 87) hx hb hts hiX13 hown hK hP 0 rfl rfl 10 (by decide) (hts _ flX13_99) (fun _ h9 => h9) rfl dX13_odd_49 ?_
    refine lv_iload_n hx hb dX13_odd_52 rfl (lv_at hl 1 rfl) ?_
    refine va_iald (f := r0 10) hx hb hK hP 2 0 rfl rfl (ck_in hf) dX13_odd_53 ?_
    have hf := ck_2 hf
    refine lv_ishl hx hb dX13_odd_54 ?_
    refine lv_icmp_ge (tgt := 116) hx hb dX13_odd_55 (by decide) (fun hc => ?_) (fun hc => ?_)
    · have hf := ite_t hf hc
      refine lv_iload_n hx hb dX13_odd_116 rfl (lv_at hl 2 rfl) ?_
      refine lv_iconst (v := 2) hx hb dX13_odd_117 (by decide) ?_
      refine lv_irem hx hb dX13_odd_118 (ck_nz hf) ?_
      have hf := ck_2 hf
      obtain rfl := Option.some.inj hf
      exact k_iret hx hb hr hlocks hK hP hD hS dX13_odd_119
    · have hf := ite_f hf hc
      refine lv_iload_n hx hb dX13_odd_58 rfl (lv_at hl 3 rfl) ?_
      refine lv_istore (lv' := [(4, .int x3), (0, .ref h0), (1, .int x1), (2, .int x2), (3, .int x3)]) hx hb dX13_odd_59 hl (by decide) rfl (fun ls hl => ?_)
      exact w_X13_odd_61 C _ (ih) 2000000 _ _ _ _ _ _ _ _ hf hP hD hS (lv_sub hl [1, 2, 3, 4, 0] rfl)
def f_X13_odd_19 (i0 : Nat → Int32) (l0 : Nat → Nat → Int64)  : Nat → (Nat → Nat → Int32) → Int32 → Int32 → Int32 → Option (Int32 × (Nat → Nat → Int32))
  | 0, _, _, _, _ => none
  | n + 1, r0, x1, x2, x3 => ck (inb x1 8) (if ((1 : Int32) <<< ((r0 10 x1.toNatClampNeg) &&& 31)) ≤ x3 then (f_X13_odd_46 i0 l0 2000000 r0 x1 x2 0) else (ck (inb x3 256) (f_X13_odd_19 i0 l0 n (va_up r0 16 (upd (r0 16) x3.toNatClampNeg (vp_nar .boolean 0))) x1 x2 (x3 + 1))))
set_option maxRecDepth 100000 in
set_option maxHeartbeats 4000000 in
theorem w_X13_odd_19 {p : Program} {l : Launch} {e : Env} {s : State} {m : MethodId} {args : Array Value} {below : List Frame} {meth : Method} {c : Code} {A : Nat → Prop} {D : va_G} {cs zs : Nat → Nat} {h0 : Nat} {a0 : Nat → Nat} {i0 : Nat → Int32} {l0 : Nat → Nat → Int64} {q : Int32 × (Nat → Nat → Int32)} (C : Cx p s m args meth c A D cs zs cX13_odd 5 (some .int) RX13)  : ∀ (n : Nat), ∀ (r0 : Nat → Nat → Int32) (x1 : Int32) (x2 : Int32) (x3 : Int32) (H : Heap) (locs : List Loc) (ls : Array Slot), f_X13_odd_19 i0 l0 n r0 x1 x2 x3 = some q → va_P D vwCl (W13 cs h0 a0 i0 r0 l0) H → va_D A (W13 cs h0 a0 i0 r0 l0) → va_S A s.heap H locs → lv_has ls 5 [(0, .ref h0), (1, .int x1), (2, .int x2), (3, .int x3)] → W p l e rmX13_odd s m args below meth c H locs 0 0 (MQ below (Qi D cs A q.1 (W13 cs h0 a0 i0 q.2 l0)) args s 0 0 A) (F0 m 19 ls []) := by
  obtain ⟨hx, hb, hr, hml, hown, hts, hK, hA, hlocks, hZ⟩ := id C
  intro n
  induction n with
  | zero =>
    intro r0 x1 x2 x3 H locs ls hf
    rw [f_X13_odd_19] at hf
    cases hf
  | succ n ih =>
    intro r0 x1 x2 x3 H locs ls hf hP hD hS hl
    rw [f_X13_odd_19] at hf
    refine lv_iload_n hx hb dX13_odd_19 rfl (lv_at hl 3 rfl) ?_
    refine lv_iconst (v := 1) hx hb dX13_odd_20 (by decide) ?_
    refine lv_aload_n hx hb dX13_odd_21 rfl (lv_at hl 0 rfl) ?_
    refine va_get (D := D) (ci := 13) (v := .ref (a0 10)) (C := RX13) (T := TX13) (N := 87) hx hb hts hiX13 hown hK hP 0 rfl rfl 10 (by decide) (hts _ flX13_99) (fun _ h9 => h9) rfl dX13_odd_22 ?_
    refine lv_iload_n hx hb dX13_odd_25 rfl (lv_at hl 1 rfl) ?_
    refine va_iald (f := r0 10) hx hb hK hP 2 0 rfl rfl (ck_in hf) dX13_odd_26 ?_
    have hf := ck_2 hf
    refine lv_ishl hx hb dX13_odd_27 ?_
    refine lv_icmp_ge (tgt := 44) hx hb dX13_odd_28 (by decide) (fun hc => ?_) (fun hc => ?_)
    · have hf := ite_t hf hc
      refine lv_iconst (v := 0) hx hb dX13_odd_44 (by decide) ?_
      refine lv_istore_n (lv' := [(3, .int 0), (0, .ref h0), (1, .int x1), (2, .int x2)]) hx hb dX13_odd_45 rfl hl (by decide) rfl (fun ls hl => ?_)
      exact w_X13_odd_46 C  2000000 _ _ _ _ _ _ _ hf hP hD hS (lv_sub hl [1, 2, 3, 0] rfl)
    · have hf := ite_f hf hc
      refine lv_aload_n hx hb dX13_odd_31 rfl (lv_at hl 0 rfl) ?_
      refine va_get (D := D) (ci := 13) (v := .ref (a0 16)) (C := RX13) (T := TX13) (N := 87) hx hb hts hiX13 hown hK hP 0 rfl rfl 16 (by decide) (hts _ flX13_141) (fun _ h9 => h9) rfl dX13_odd_32 ?_
      refine lv_iload_n hx hb dX13_odd_35 rfl (lv_at hl 3 rfl) ?_
      refine lv_iconst (v := 0) hx hb dX13_odd_36 (by decide) ?_
      refine va_zast (f := r0 16) hx hb hK hP hD hS 8 2 rfl rfl (ck_in hf) dX13_odd_37 (fun H locs hP hD hS => ?_)
      have hf := ck_2 hf
      obtain ⟨hP, hD⟩ := st13_16 hP hD
      refine lv_iinc (v := x3 + 1) (lv' := [(3, .int (x3 + 1)), (0, .ref h0), (1, .int x1), (2, .int x2)]) hx hb dX13_odd_38 hl (k := 3) rfl rfl (by decide) rfl (fun ls hl => ?_)
      refine lv_goto (tgt := 19) hx hb dX13_odd_41 (by decide) ?_
      exact ih _ _ _ _ _ _ _ hf hP hD hS (lv_sub hl [1, 2, 3, 0] rfl)
def f_X13_odd  (i0 : Nat → Int32) (r0 : Nat → Nat → Int32) (l0 : Nat → Nat → Int64) (x1 : Int32) : Option (Int32 × (Nat → Nat → Int32)) := bd (f_X13_isFloor x1) (fun q3 => if q3 = 0 then (some ((-2), r0)) else (bd (f_X13_findTable i0 r0 l0 x1) (fun q4 => f_X13_odd_19 i0 l0 2000000 q4 x1 0 0)))
set_option maxRecDepth 100000 in
set_option maxHeartbeats 4000000 in
theorem c_X13_odd {l : Launch} {D : va_G} {cs zs : Nat → Nat} {h0 : Nat} {a0 : Nat → Nat} {i0 : Nat → Int32} {r0 : Nat → Nat → Int32} {l0 : Nat → Nat → Int64} {x1 : Int32} {q : Int32 × (Nat → Nat → Int32)} (hf : f_X13_odd i0 r0 l0 x1 = some q) : Mi l yX13_odd wlX13_odd rmX13_odd D cs zs [.ref h0, .int x1] (W13 cs h0 a0 i0 r0 l0) q.1 (W13 cs h0 a0 i0 q.2 l0) := by
  refine Mi.of RX13 (by decide) rfl (Nat.le_of_ble_eq_true rfl) (fun p e s m below meth c A C hP hD hS ls hl => ?_)
  generalize ([.ref h0, .int x1] : List Value).toArray = args at C ⊢
  obtain ⟨hx, hb, hr, hml, hown, hts, hK, hA, hlocks, hZ⟩ := id C
  have hl : lv_has ls 5 [(0, .ref h0), (1, .int x1)] := hl
  rw [f_X13_odd] at hf
  refine lv_iload_n hx hb dX13_odd_0 rfl (lv_at hl 1 rfl) ?_
  obtain ⟨q3, hq3, hf⟩ := bd_s hf
  refine k_eSi (As := [.int x1]) (rest := []) hx hb hml hown hts hK hA hZ hl.1 hP hD hS (c_X13_isFloor  hq3) (gSt mlX13_290 stX13_isFloor inX13 coX13_isFloor) rfl qnX13_isFloor rfl rfl ⟨Nat.le_of_ble_eq_true rfl, Nat.le_of_ble_eq_true rfl⟩ rfl rfl (Nat.le_of_ble_eq_true rfl) ⟨Nat.zero_le _, Nat.zero_le _⟩ dX13_odd_1 (fun H locs hP hD hS => ?_)
  refine lv_if_ne (tgt := 10) hx hb dX13_odd_4 (by decide) (fun hc => ?_) (fun hc => ?_)
  · have hf := ite_f hf hc
    refine lv_aload_n hx hb dX13_odd_10 rfl (lv_at hl 0 rfl) ?_
    refine lv_iload_n hx hb dX13_odd_11 rfl (lv_at hl 1 rfl) ?_
    obtain ⟨q4, hq4, hf⟩ := bd_s hf
    refine k_sVv (ws2 := W13 cs h0 a0 i0 q4 l0) (As := [.int x1]) (rest := []) hx hb hml hown hts hK hA hZ hl.1 hP hD hS (c_X13_findTable (h0 := h0) (a0 := a0) hq4) (gVt mlX13_318 imX13_findTable seX13_findTable inX13 coX13_findTable) rfl qnX13_findTable rfl rfl ⟨Nat.le_of_ble_eq_true rfl, Nat.le_of_ble_eq_true rfl⟩ 0 13 rfl rfl rfl rfl rfl (Nat.le_of_ble_eq_true rfl) ⟨Nat.zero_le _, Nat.zero_le _⟩ dX13_odd_12 (fun H locs hP hD hS => ?_)
    refine lv_iconst (v := 0) hx hb dX13_odd_15 (by decide) ?_
    refine lv_istore_n (lv' := [(2, .int 0), (0, .ref h0), (1, .int x1)]) hx hb dX13_odd_16 rfl hl (by decide) rfl (fun ls hl => ?_)
    refine lv_iconst (v := 0) hx hb dX13_odd_17 (by decide) ?_
    refine lv_istore_n (lv' := [(3, .int 0), (2, .int 0), (0, .ref h0), (1, .int x1)]) hx hb dX13_odd_18 rfl hl (by decide) rfl (fun ls hl => ?_)
    exact w_X13_odd_19 C  2000000 _ _ _ _ _ _ _ hf hP hD hS (lv_sub hl [2, 3, 1, 0] rfl)
  · have hf := ite_t hf hc
    refine lv_bipush (v := (-2)) hx hb dX13_odd_7 (by decide) ?_
    obtain rfl := Option.some.inj hf
    exact k_iret hx hb hr hlocks hK hP hD hS dX13_odd_9
/-! MarbleFloorModel.cycleOf(I)I -/
abbrev wlX13_cycleOf : List Cond := Cond.code yX13_cycleOf cX13_cycleOf 4 (some .int) :: tbG
abbrev rmX13_cycleOf : Room := { frames := 0, cells := 0, slots := 0, locals := 0 }
theorem qnX13_cycleOf : yX13_cycleOf.cls = RX13 ∧ yX13_cycleOf.cls ≠ "java/lang/invoke/MethodHandle" ∧ yX13_cycleOf.cls ≠ "java/lang/invoke/VarHandle" ∧ (parseMethodDescriptor yX13_cycleOf.desc).map (fun d => d.parameters.length) = some 1 := by decide +kernel
def f_X13_cycleOf_9 (i0 : Nat → Int32) (r0 : Nat → Nat → Int32) (l0 : Nat → Nat → Int64)  : Nat → Int32 → Int32 → Int32 → Option (Int32)
  | 0, _, _, _ => none
  | n + 1, x1, x2, x3 => if x3 = x1 then (some (x2)) else (ck (inb x3 256) (f_X13_cycleOf_9 i0 r0 l0 n x1 (x2 + 1) (r0 15 x3.toNatClampNeg)))
set_option maxRecDepth 100000 in
set_option maxHeartbeats 4000000 in
theorem w_X13_cycleOf_9 {p : Program} {l : Launch} {e : Env} {s : State} {m : MethodId} {args : Array Value} {below : List Frame} {meth : Method} {c : Code} {A : Nat → Prop} {D : va_G} {cs zs : Nat → Nat} {h0 : Nat} {a0 : Nat → Nat} {i0 : Nat → Int32} {r0 : Nat → Nat → Int32} {l0 : Nat → Nat → Int64} {q : Int32} (C : Cx p s m args meth c A D cs zs cX13_cycleOf 4 (some .int) RX13)  : ∀ (n : Nat), ∀ (x1 : Int32) (x2 : Int32) (x3 : Int32) (H : Heap) (locs : List Loc) (ls : Array Slot), f_X13_cycleOf_9 i0 r0 l0 n x1 x2 x3 = some q → va_P D vwCl (W13 cs h0 a0 i0 r0 l0) H → va_D A (W13 cs h0 a0 i0 r0 l0) → va_S A s.heap H locs → lv_has ls 4 [(0, .ref h0), (1, .int x1), (2, .int x2), (3, .int x3)] → W p l e rmX13_cycleOf s m args below meth c H locs 0 0 (MQ below (Qi D cs A q (W13 cs h0 a0 i0 r0 l0)) args s 0 0 A) (F0 m 9 ls []) := by
  obtain ⟨hx, hb, hr, hml, hown, hts, hK, hA, hlocks, hZ⟩ := id C
  intro n
  induction n with
  | zero =>
    intro x1 x2 x3 H locs ls hf
    rw [f_X13_cycleOf_9] at hf
    cases hf
  | succ n ih =>
    intro x1 x2 x3 H locs ls hf hP hD hS hl
    rw [f_X13_cycleOf_9] at hf
    refine lv_iload_n hx hb dX13_cycleOf_9 rfl (lv_at hl 3 rfl) ?_
    refine lv_iload_n hx hb dX13_cycleOf_10 rfl (lv_at hl 1 rfl) ?_
    refine lv_icmp_eq (tgt := 27) hx hb dX13_cycleOf_11 (by decide) (fun hc => ?_) (fun hc => ?_)
    · have hf := ite_t hf hc
      refine lv_iload_n hx hb dX13_cycleOf_27 rfl (lv_at hl 2 rfl) ?_
      obtain rfl := Option.some.inj hf
      exact k_iret hx hb hr hlocks hK hP hD hS dX13_cycleOf_28
    · have hf := ite_f hf hc
      refine lv_iinc (v := x2 + 1) (lv' := [(2, .int (x2 + 1)), (0, .ref h0), (1, .int x1), (3, .int x3)]) hx hb dX13_cycleOf_14 hl (k := 2) rfl rfl (by decide) rfl (fun ls hl => ?_)
      refine lv_aload_n hx hb dX13_cycleOf_17 rfl (lv_at hl 1 rfl) ?_
      refine va_get (D := D) (ci := 13) (v := .ref (a0 15)) (C := RX13) (T := TX13) (N := 87) hx hb hts hiX13 hown hK hP 0 rfl rfl 15 (by decide) (hts _ flX13_138) (fun _ h9 => h9) rfl dX13_cycleOf_18 ?_
      refine lv_iload_n hx hb dX13_cycleOf_21 rfl (lv_at hl 3 rfl) ?_
      refine va_iald (f := r0 15) hx hb hK hP 7 0 rfl rfl (ck_in hf) dX13_cycleOf_22 ?_
      have hf := ck_2 hf
      refine lv_istore_n (lv' := [(3, .int (r0 15 x3.toNatClampNeg)), (2, .int (x2 + 1)), (0, .ref h0), (1, .int x1)]) hx hb dX13_cycleOf_23 rfl hl (by decide) rfl (fun ls hl => ?_)
      refine lv_goto (tgt := 9) hx hb dX13_cycleOf_24 (by decide) ?_
      exact ih _ _ _ _ _ _ hf hP hD hS (lv_sub hl [2, 3, 1, 0] rfl)
def f_X13_cycleOf  (i0 : Nat → Int32) (r0 : Nat → Nat → Int32) (l0 : Nat → Nat → Int64) (x1 : Int32) : Option (Int32) := ck (inb x1 256) (f_X13_cycleOf_9 i0 r0 l0 2000000 x1 1 (r0 15 x1.toNatClampNeg))
set_option maxRecDepth 100000 in
set_option maxHeartbeats 4000000 in
theorem c_X13_cycleOf {l : Launch} {D : va_G} {cs zs : Nat → Nat} {h0 : Nat} {a0 : Nat → Nat} {i0 : Nat → Int32} {r0 : Nat → Nat → Int32} {l0 : Nat → Nat → Int64} {x1 : Int32} {q : Int32} (hf : f_X13_cycleOf i0 r0 l0 x1 = some q) : Mi l yX13_cycleOf wlX13_cycleOf rmX13_cycleOf D cs zs [.ref h0, .int x1] (W13 cs h0 a0 i0 r0 l0) q (W13 cs h0 a0 i0 r0 l0) := by
  refine Mi.of RX13 (by decide) rfl (Nat.le_of_ble_eq_true rfl) (fun p e s m below meth c A C hP hD hS ls hl => ?_)
  generalize ([.ref h0, .int x1] : List Value).toArray = args at C ⊢
  obtain ⟨hx, hb, hr, hml, hown, hts, hK, hA, hlocks, hZ⟩ := id C
  have hl : lv_has ls 4 [(0, .ref h0), (1, .int x1)] := hl
  rw [f_X13_cycleOf] at hf
  refine lv_iconst (v := 1) hx hb dX13_cycleOf_0 (by decide) ?_
  refine lv_istore_n (lv' := [(2, .int 1), (0, .ref h0), (1, .int x1)]) hx hb dX13_cycleOf_1 rfl hl (by decide) rfl (fun ls hl => ?_)
  refine lv_aload_n hx hb dX13_cycleOf_2 rfl (lv_at hl 1 rfl) ?_
  refine va_get (D := D) (ci := 13) (v := .ref (a0 15)) (C := RX13) (T := TX13) (N := 87) hx hb hts hiX13 hown hK hP 0 rfl rfl 15 (by decide) (hts _ flX13_138) (fun _ h9 => h9) rfl dX13_cycleOf_3 ?_
  refine lv_iload_n hx hb dX13_cycleOf_6 rfl (lv_at hl 2 rfl) ?_
  refine va_iald (f := r0 15) hx hb hK hP 7 0 rfl rfl (ck_in hf) dX13_cycleOf_7 ?_
  have hf := ck_2 hf
  refine lv_istore_n (lv' := [(3, .int (r0 15 x1.toNatClampNeg)), (2, .int 1), (0, .ref h0), (1, .int x1)]) hx hb dX13_cycleOf_8 rfl hl (by decide) rfl (fun ls hl => ?_)
  exact w_X13_cycleOf_9 C  2000000 _ _ _ _ _ _ hf hP hD hS (lv_sub hl [2, 3, 1, 0] rfl)
/-! MarbleFloorModel.cycle(II)I -/
abbrev wlX13_cycle : List Cond := Cond.code yX13_cycle cX13_cycle 3 (some .int) :: tbG
abbrev rmX13_cycle : Room := { frames := 4, cells := 0, slots := 0, locals := 94 }
theorem qnX13_cycle : yX13_cycle.cls = RX13 ∧ yX13_cycle.cls ≠ "java/lang/invoke/MethodHandle" ∧ yX13_cycle.cls ≠ "java/lang/invoke/VarHandle" ∧ (parseMethodDescriptor yX13_cycle.desc).map (fun d => d.parameters.length) = some 2 := by decide +kernel
def f_X13_cycle  (i0 : Nat → Int32) (r0 : Nat → Nat → Int32) (l0 : Nat → Nat → Int64) (x1 : Int32) (x2 : Int32) : Option (Int32 × (Nat → Nat → Int32)) := bd (f_X13_isFloor x1) (fun q5 => if q5 = 0 then (some ((-2), r0)) else (bd (f_X13_isRow i0 r0 l0 x1 x2) (fun q6 => if q6 = 0 then (some ((-2), r0)) else (bd (f_X13_findTable i0 r0 l0 x1) (fun q7 => bd (f_X13_cycleOf i0 q7 l0 x2) (fun q8 => some (q8, q7)))))))
set_option maxRecDepth 100000 in
set_option maxHeartbeats 4000000 in
theorem c_X13_cycle {l : Launch} {D : va_G} {cs zs : Nat → Nat} {h0 : Nat} {a0 : Nat → Nat} {i0 : Nat → Int32} {r0 : Nat → Nat → Int32} {l0 : Nat → Nat → Int64} {x1 : Int32} {x2 : Int32} {q : Int32 × (Nat → Nat → Int32)} (hf : f_X13_cycle i0 r0 l0 x1 x2 = some q) : Mi l yX13_cycle wlX13_cycle rmX13_cycle D cs zs [.ref h0, .int x1, .int x2] (W13 cs h0 a0 i0 r0 l0) q.1 (W13 cs h0 a0 i0 q.2 l0) := by
  refine Mi.of RX13 (by decide) rfl (Nat.le_of_ble_eq_true rfl) (fun p e s m below meth c A C hP hD hS ls hl => ?_)
  generalize ([.ref h0, .int x1, .int x2] : List Value).toArray = args at C ⊢
  obtain ⟨hx, hb, hr, hml, hown, hts, hK, hA, hlocks, hZ⟩ := id C
  have hl : lv_has ls 3 [(0, .ref h0), (1, .int x1), (2, .int x2)] := hl
  rw [f_X13_cycle] at hf
  refine lv_iload_n hx hb dX13_cycle_0 rfl (lv_at hl 1 rfl) ?_
  obtain ⟨q5, hq5, hf⟩ := bd_s hf
  refine k_eSi (As := [.int x1]) (rest := []) hx hb hml hown hts hK hA hZ hl.1 hP hD hS (c_X13_isFloor  hq5) (gSt mlX13_290 stX13_isFloor inX13 coX13_isFloor) rfl qnX13_isFloor rfl rfl ⟨Nat.le_of_ble_eq_true rfl, Nat.le_of_ble_eq_true rfl⟩ rfl rfl (Nat.le_of_ble_eq_true rfl) ⟨Nat.zero_le _, Nat.zero_le _⟩ dX13_cycle_1 (fun H locs hP hD hS => ?_)
  refine lv_if_eq (tgt := 16) hx hb dX13_cycle_4 (by decide) (fun hc => ?_) (fun hc => ?_)
  · have hf := ite_t hf hc
    refine lv_bipush (v := (-2)) hx hb dX13_cycle_16 (by decide) ?_
    obtain rfl := Option.some.inj hf
    exact k_iret hx hb hr hlocks hK hP hD hS dX13_cycle_18
  · have hf := ite_f hf hc
    refine lv_aload_n hx hb dX13_cycle_7 rfl (lv_at hl 0 rfl) ?_
    refine lv_iload_n hx hb dX13_cycle_8 rfl (lv_at hl 1 rfl) ?_
    refine lv_iload_n hx hb dX13_cycle_9 rfl (lv_at hl 2 rfl) ?_
    obtain ⟨q6, hq6, hf⟩ := bd_s hf
    refine k_sVi (ws2 := W13 cs h0 a0 i0 r0 l0) (As := [.int x1, .int x2]) (rest := []) hx hb hml hown hts hK hA hZ hl.1 hP hD hS (c_X13_isRow (h0 := h0) (a0 := a0) hq6) (gVt mlX13_310 imX13_isRow seX13_isRow inX13 coX13_isRow) rfl qnX13_isRow rfl rfl ⟨Nat.le_of_ble_eq_true rfl, Nat.le_of_ble_eq_true rfl⟩ 0 13 rfl rfl rfl rfl rfl (Nat.le_of_ble_eq_true rfl) ⟨Nat.zero_le _, Nat.zero_le _⟩ dX13_cycle_10 (fun H locs hP hD hS => ?_)
    refine lv_if_ne (tgt := 19) hx hb dX13_cycle_13 (by decide) (fun hc => ?_) (fun hc => ?_)
    · have hf := ite_f hf hc
      refine lv_aload_n hx hb dX13_cycle_19 rfl (lv_at hl 0 rfl) ?_
      refine lv_iload_n hx hb dX13_cycle_20 rfl (lv_at hl 1 rfl) ?_
      obtain ⟨q7, hq7, hf⟩ := bd_s hf
      refine k_sVv (ws2 := W13 cs h0 a0 i0 q7 l0) (As := [.int x1]) (rest := []) hx hb hml hown hts hK hA hZ hl.1 hP hD hS (c_X13_findTable (h0 := h0) (a0 := a0) hq7) (gVt mlX13_318 imX13_findTable seX13_findTable inX13 coX13_findTable) rfl qnX13_findTable rfl rfl ⟨Nat.le_of_ble_eq_true rfl, Nat.le_of_ble_eq_true rfl⟩ 0 13 rfl rfl rfl rfl rfl (Nat.le_of_ble_eq_true rfl) ⟨Nat.zero_le _, Nat.zero_le _⟩ dX13_cycle_21 (fun H locs hP hD hS => ?_)
      refine lv_aload_n hx hb dX13_cycle_24 rfl (lv_at hl 0 rfl) ?_
      refine lv_iload_n hx hb dX13_cycle_25 rfl (lv_at hl 2 rfl) ?_
      obtain ⟨q8, hq8, hf⟩ := bd_s hf
      refine k_sVi (ws2 := W13 cs h0 a0 i0 q7 l0) (As := [.int x2]) (rest := []) hx hb hml hown hts hK hA hZ hl.1 hP hD hS (c_X13_cycleOf (h0 := h0) (a0 := a0) hq8) (gVt mlX13_321 imX13_cycleOf seX13_cycleOf inX13 coX13_cycleOf) rfl qnX13_cycleOf rfl rfl ⟨Nat.le_of_ble_eq_true rfl, Nat.le_of_ble_eq_true rfl⟩ 0 13 rfl rfl rfl rfl rfl (Nat.le_of_ble_eq_true rfl) ⟨Nat.zero_le _, Nat.zero_le _⟩ dX13_cycle_26 (fun H locs hP hD hS => ?_)
      obtain rfl := Option.some.inj hf
      exact k_iret hx hb hr hlocks hK hP hD hS dX13_cycle_29
    · have hf := ite_t hf hc
      refine lv_bipush (v := (-2)) hx hb dX13_cycle_16 (by decide) ?_
      obtain rfl := Option.some.inj hf
      exact k_iret hx hb hr hlocks hK hP hD hS dX13_cycle_18
/-! MarbleFloorModel.common(JJ)J -/
abbrev wlX13_common : List Cond := Cond.code yX13_common cX13_common 10 (some .long) :: tbG
abbrev rmX13_common : Room := { frames := 0, cells := 0, slots := 0, locals := 0 }
theorem qnX13_common : yX13_common.cls ≠ "java/lang/invoke/MethodHandle" ∧ yX13_common.cls ≠ "java/lang/invoke/VarHandle" ∧ (parseMethodDescriptor yX13_common.desc).map (fun d => d.parameters.length) = some 2 := by decide +kernel
def f_X13_common_6   : Nat → Int64 → Int64 → Option (Int64)
  | 0, _, _ => none
  | n + 1, x4, x6 => if (lg_cmp x6 0) = 0 then (some (x4)) else (ck (nzl x6) (f_X13_common_6 n x6 (x4 - x4 / x6 * x6)))
set_option maxRecDepth 100000 in
set_option maxHeartbeats 4000000 in
theorem w_X13_common_6 {p : Program} {l : Launch} {e : Env} {s : State} {m : MethodId} {args : Array Value} {below : List Frame} {meth : Method} {c : Code} {A : Nat → Prop} {D : va_G} {cs zs : Nat → Nat}   {q : Int64} (C : Cx p s m args meth c A D cs zs cX13_common 10 (some .long) RX13)  : ∀ (n : Nat), ∀ (x4 : Int64) (x6 : Int64) (H : Heap) (locs : List Loc) (ls : Array Slot), f_X13_common_6 n x4 x6 = some q → va_P D vwCl (([] : va_W)) H → va_D A (([] : va_W)) → va_S A s.heap H locs → lv_has ls 10 [(4, .long x4), (6, .long x6)] → W p l e rmX13_common s m args below meth c H locs 0 0 (MQ below (Ql D cs A q (([] : va_W))) args s 0 0 A) (F0 m 6 ls []) := by
  obtain ⟨hx, hb, hr, hml, hown, hts, hK, hA, hlocks, hZ⟩ := id C
  intro n
  induction n with
  | zero =>
    intro x4 x6 H locs ls hf
    rw [f_X13_common_6] at hf
    cases hf
  | succ n ih =>
    intro x4 x6 H locs ls hf hP hD hS hl
    rw [f_X13_common_6] at hf
    refine lv_lload hx hb dX13_common_6 (lv_at hl 1 rfl) ?_
    refine lv_lconst (v := 0) hx hb dX13_common_8 (by decide) ?_
    refine W.lcmp hx hb dX13_common_9 ?_
    refine lv_if_eq (tgt := 31) hx hb dX13_common_10 (by decide) (fun hc => ?_) (fun hc => ?_)
    · have hf := ite_t hf hc
      refine lv_lload hx hb dX13_common_31 (lv_at hl 0 rfl) ?_
      obtain rfl := Option.some.inj hf
      exact k_lret hx hb hr hlocks hK hP hD hS dX13_common_33
    · have hf := ite_f hf hc
      refine lv_lload hx hb dX13_common_13 (lv_at hl 0 rfl) ?_
      refine lv_lload hx hb dX13_common_15 (lv_at hl 1 rfl) ?_
      refine lv_lrem hx hb dX13_common_17 (ck_nzl hf) ?_
      have hf := ck_2 hf
      refine lv_lstore (lv' := [(8, .long (x4 - x4 / x6 * x6)), (4, .long x4), (6, .long x6)]) hx hb dX13_common_18 hl (by decide) rfl (fun ls hl => ?_)
      refine lv_lload hx hb dX13_common_20 (lv_at hl 2 rfl) ?_
      refine lv_lstore (lv' := [(4, .long x6), (8, .long (x4 - x4 / x6 * x6)), (6, .long x6)]) hx hb dX13_common_22 hl (by decide) rfl (fun ls hl => ?_)
      refine lv_lload hx hb dX13_common_24 (lv_at hl 1 rfl) ?_
      refine lv_lstore (lv' := [(6, .long (x4 - x4 / x6 * x6)), (4, .long x6), (8, .long (x4 - x4 / x6 * x6))]) hx hb dX13_common_26 hl (by decide) rfl (fun ls hl => ?_)
      refine lv_goto (tgt := 6) hx hb dX13_common_28 (by decide) ?_
      exact ih _ _ _ _ _ hf hP hD hS (lv_sub hl [1, 0] rfl)
def f_X13_common   (x0 : Int64) (x2 : Int64) : Option (Int64) := f_X13_common_6 2000000 x0 x2
set_option maxRecDepth 100000 in
set_option maxHeartbeats 4000000 in
theorem c_X13_common {l : Launch} {D : va_G} {cs zs : Nat → Nat}   {x0 : Int64} {x2 : Int64} {q : Int64} (hf : f_X13_common x0 x2 = some q) : Ml l yX13_common wlX13_common rmX13_common D cs zs [.long x0, .long x2] (([] : va_W)) q (([] : va_W)) := by
  refine Ml.of RX13 (by decide) rfl (Nat.le_of_ble_eq_true rfl) (fun p e s m below meth c A C hP hD hS ls hl => ?_)
  generalize ([.long x0, .long x2] : List Value).toArray = args at C ⊢
  obtain ⟨hx, hb, hr, hml, hown, hts, hK, hA, hlocks, hZ⟩ := id C
  have hl : lv_has ls 10 [(0, .long x0), (2, .long x2)] := hl
  rw [f_X13_common] at hf
  refine lv_lload_n hx hb dX13_common_0 rfl (lv_at hl 0 rfl) ?_
  refine lv_lstore (lv' := [(4, .long x0), (0, .long x0), (2, .long x2)]) hx hb dX13_common_1 hl (by decide) rfl (fun ls hl => ?_)
  refine lv_lload_n hx hb dX13_common_3 rfl (lv_at hl 2 rfl) ?_
  refine lv_lstore (lv' := [(6, .long x2), (4, .long x0), (0, .long x0), (2, .long x2)]) hx hb dX13_common_4 hl (by decide) rfl (fun ls hl => ?_)
  exact w_X13_common_6 C  2000000 _ _ _ _ _ hf hP hD hS (lv_sub hl [1, 0] rfl)
/-! MarbleFloorModel.order(I)J -/
abbrev wlX13_order : List Cond := Cond.code yX13_order cX13_order 6 (some .long) :: tbG
abbrev rmX13_order : Room := { frames := 4, cells := 0, slots := 0, locals := 94 }
theorem qnX13_order : yX13_order.cls = RX13 ∧ yX13_order.cls ≠ "java/lang/invoke/MethodHandle" ∧ yX13_order.cls ≠ "java/lang/invoke/VarHandle" ∧ (parseMethodDescriptor yX13_order.desc).map (fun d => d.parameters.length) = some 1 := by decide +kernel
def f_X13_order_21 (i0 : Nat → Int32) (l0 : Nat → Nat → Int64)  : Nat → (Nat → Nat → Int32) → Int32 → Int64 → Int32 → Option (Int64 × (Nat → Nat → Int32))
  | 0, _, _, _, _ => none
  | n + 1, r0, x1, x2, x4 => ck (inb x1 8) (if ((1 : Int32) <<< ((r0 10 x1.toNatClampNeg) &&& 31)) ≤ x4 then (some (x2, r0)) else (bd (f_X13_cycleOf i0 r0 l0 x4) (fun q5 => bd (f_X13_common x2 q5.toInt64) (fun q6 => ck (nzl q6) (f_X13_order_21 i0 l0 n r0 x1 ((x2 / q6) * q5.toInt64) (x4 + 1))))))
set_option maxRecDepth 100000 in
set_option maxHeartbeats 4000000 in
theorem w_X13_order_21 {p : Program} {l : Launch} {e : Env} {s : State} {m : MethodId} {args : Array Value} {below : List Frame} {meth : Method} {c : Code} {A : Nat → Prop} {D : va_G} {cs zs : Nat → Nat} {h0 : Nat} {a0 : Nat → Nat} {i0 : Nat → Int32} {l0 : Nat → Nat → Int64} {q : Int64 × (Nat → Nat → Int32)} (C : Cx p s m args meth c A D cs zs cX13_order 6 (some .long) RX13)  : ∀ (n : Nat), ∀ (r0 : Nat → Nat → Int32) (x1 : Int32) (x2 : Int64) (x4 : Int32) (H : Heap) (locs : List Loc) (ls : Array Slot), f_X13_order_21 i0 l0 n r0 x1 x2 x4 = some q → va_P D vwCl (W13 cs h0 a0 i0 r0 l0) H → va_D A (W13 cs h0 a0 i0 r0 l0) → va_S A s.heap H locs → lv_has ls 6 [(0, .ref h0), (1, .int x1), (2, .long x2), (4, .int x4)] → W p l e rmX13_order s m args below meth c H locs 0 0 (MQ below (Ql D cs A q.1 (W13 cs h0 a0 i0 q.2 l0)) args s 0 0 A) (F0 m 21 ls []) := by
  obtain ⟨hx, hb, hr, hml, hown, hts, hK, hA, hlocks, hZ⟩ := id C
  intro n
  induction n with
  | zero =>
    intro r0 x1 x2 x4 H locs ls hf
    rw [f_X13_order_21] at hf
    cases hf
  | succ n ih =>
    intro r0 x1 x2 x4 H locs ls hf hP hD hS hl
    rw [f_X13_order_21] at hf
    refine lv_iload hx hb dX13_order_21 (lv_at hl 3 rfl) ?_
    refine lv_iconst (v := 1) hx hb dX13_order_23 (by decide) ?_
    refine lv_aload_n hx hb dX13_order_24 rfl (lv_at hl 0 rfl) ?_
    refine va_get (D := D) (ci := 13) (v := .ref (a0 10)) (C := RX13) (T := TX13) (N := 87) hx hb hts hiX13 hown hK hP 0 rfl rfl 10 (by decide) (hts _ flX13_99) (fun _ h9 => h9) rfl dX13_order_25 ?_
    refine lv_iload_n hx hb dX13_order_28 rfl (lv_at hl 1 rfl) ?_
    refine va_iald (f := r0 10) hx hb hK hP 2 0 rfl rfl (ck_in hf) dX13_order_29 ?_
    have hf := ck_2 hf
    refine lv_ishl hx hb dX13_order_30 ?_
    refine lv_icmp_ge (tgt := 62) hx hb dX13_order_31 (by decide) (fun hc => ?_) (fun hc => ?_)
    · have hf := ite_t hf hc
      refine lv_lload_n hx hb dX13_order_62 rfl (lv_at hl 2 rfl) ?_
      obtain rfl := Option.some.inj hf
      exact k_lret hx hb hr hlocks hK hP hD hS dX13_order_63
    · have hf := ite_f hf hc
      refine lv_aload_n hx hb dX13_order_34 rfl (lv_at hl 0 rfl) ?_
      refine lv_iload hx hb dX13_order_35 (lv_at hl 3 rfl) ?_
      obtain ⟨q5, hq5, hf⟩ := bd_s hf
      refine k_sVi (ws2 := W13 cs h0 a0 i0 r0 l0) (As := [.int x4]) (rest := []) hx hb hml hown hts hK hA hZ hl.1 hP hD hS (c_X13_cycleOf (h0 := h0) (a0 := a0) hq5) (gVt mlX13_321 imX13_cycleOf seX13_cycleOf inX13 coX13_cycleOf) rfl qnX13_cycleOf rfl rfl ⟨Nat.le_of_ble_eq_true rfl, Nat.le_of_ble_eq_true rfl⟩ 0 13 rfl rfl rfl rfl rfl (Nat.le_of_ble_eq_true rfl) ⟨Nat.zero_le _, Nat.zero_le _⟩ dX13_order_37 (fun H locs hP hD hS => ?_)
      refine lv_istore (lv' := [(5, .int q5), (0, .ref h0), (1, .int x1), (2, .long x2), (4, .int x4)]) hx hb dX13_order_40 hl (by decide) rfl (fun ls hl => ?_)
      refine lv_lload_n hx hb dX13_order_42 rfl (lv_at hl 3 rfl) ?_
      refine lv_lload_n hx hb dX13_order_43 rfl (lv_at hl 3 rfl) ?_
      refine lv_iload hx hb dX13_order_44 (lv_at hl 0 rfl) ?_
      refine lv_i2l hx hb dX13_order_46 rfl ?_
      obtain ⟨q6, hq6, hf⟩ := bd_s hf
      refine k_eSl (As := [.long x2, .long q5.toInt64]) (rest := [.long x2]) hx hb hml hown hts hK hA hZ hl.1 hP hD hS (c_X13_common  hq6) (gSt mlX13_326 stX13_common inX13 coX13_common) rfl qnX13_common rfl rfl ⟨Nat.le_of_ble_eq_true rfl, Nat.le_of_ble_eq_true rfl⟩ rfl rfl (Nat.le_of_ble_eq_true rfl) ⟨Nat.zero_le _, Nat.zero_le _⟩ dX13_order_47 (fun H locs hP hD hS => ?_)
      refine lv_ldiv hx hb dX13_order_50 (ck_nzl hf) ?_
      have hf := ck_2 hf
      refine lv_iload hx hb dX13_order_51 (lv_at hl 0 rfl) ?_
      refine lv_i2l hx hb dX13_order_53 rfl ?_
      refine lv_lmul hx hb dX13_order_54 ?_
      refine lv_lstore_n (lv' := [(2, .long ((x2 / q6) * q5.toInt64)), (5, .int q5), (0, .ref h0), (1, .int x1), (4, .int x4)]) hx hb dX13_order_55 rfl hl (by decide) rfl (fun ls hl => ?_)
      refine lv_iinc (v := x4 + 1) (lv' := [(4, .int (x4 + 1)), (2, .long ((x2 / q6) * q5.toInt64)), (5, .int q5), (0, .ref h0), (1, .int x1)]) hx hb dX13_order_56 hl (k := 4) rfl rfl (by decide) rfl (fun ls hl => ?_)
      refine lv_goto (tgt := 21) hx hb dX13_order_59 (by decide) ?_
      exact ih _ _ _ _ _ _ _ hf hP hD hS (lv_sub hl [3, 4, 1, 0] rfl)
def f_X13_order  (i0 : Nat → Int32) (r0 : Nat → Nat → Int32) (l0 : Nat → Nat → Int64) (x1 : Int32) : Option (Int64 × (Nat → Nat → Int32)) := bd (f_X13_isFloor x1) (fun q7 => if q7 = 0 then (some ((-2), r0)) else (bd (f_X13_findTable i0 r0 l0 x1) (fun q8 => f_X13_order_21 i0 l0 2000000 q8 x1 1 0)))
set_option maxRecDepth 100000 in
set_option maxHeartbeats 4000000 in
theorem c_X13_order {l : Launch} {D : va_G} {cs zs : Nat → Nat} {h0 : Nat} {a0 : Nat → Nat} {i0 : Nat → Int32} {r0 : Nat → Nat → Int32} {l0 : Nat → Nat → Int64} {x1 : Int32} {q : Int64 × (Nat → Nat → Int32)} (hf : f_X13_order i0 r0 l0 x1 = some q) : Ml l yX13_order wlX13_order rmX13_order D cs zs [.ref h0, .int x1] (W13 cs h0 a0 i0 r0 l0) q.1 (W13 cs h0 a0 i0 q.2 l0) := by
  refine Ml.of RX13 (by decide) rfl (Nat.le_of_ble_eq_true rfl) (fun p e s m below meth c A C hP hD hS ls hl => ?_)
  generalize ([.ref h0, .int x1] : List Value).toArray = args at C ⊢
  obtain ⟨hx, hb, hr, hml, hown, hts, hK, hA, hlocks, hZ⟩ := id C
  have hl : lv_has ls 6 [(0, .ref h0), (1, .int x1)] := hl
  rw [f_X13_order] at hf
  refine lv_iload_n hx hb dX13_order_0 rfl (lv_at hl 1 rfl) ?_
  obtain ⟨q7, hq7, hf⟩ := bd_s hf
  refine k_eSi (As := [.int x1]) (rest := []) hx hb hml hown hts hK hA hZ hl.1 hP hD hS (c_X13_isFloor  hq7) (gSt mlX13_290 stX13_isFloor inX13 coX13_isFloor) rfl qnX13_isFloor rfl rfl ⟨Nat.le_of_ble_eq_true rfl, Nat.le_of_ble_eq_true rfl⟩ rfl rfl (Nat.le_of_ble_eq_true rfl) ⟨Nat.zero_le _, Nat.zero_le _⟩ dX13_order_1 (fun H locs hP hD hS => ?_)
  refine lv_if_ne (tgt := 11) hx hb dX13_order_4 (by decide) (fun hc => ?_) (fun hc => ?_)
  · have hf := ite_f hf hc
    refine lv_aload_n hx hb dX13_order_11 rfl (lv_at hl 0 rfl) ?_
    refine lv_iload_n hx hb dX13_order_12 rfl (lv_at hl 1 rfl) ?_
    obtain ⟨q8, hq8, hf⟩ := bd_s hf
    refine k_sVv (ws2 := W13 cs h0 a0 i0 q8 l0) (As := [.int x1]) (rest := []) hx hb hml hown hts hK hA hZ hl.1 hP hD hS (c_X13_findTable (h0 := h0) (a0 := a0) hq8) (gVt mlX13_318 imX13_findTable seX13_findTable inX13 coX13_findTable) rfl qnX13_findTable rfl rfl ⟨Nat.le_of_ble_eq_true rfl, Nat.le_of_ble_eq_true rfl⟩ 0 13 rfl rfl rfl rfl rfl (Nat.le_of_ble_eq_true rfl) ⟨Nat.zero_le _, Nat.zero_le _⟩ dX13_order_13 (fun H locs hP hD hS => ?_)
    refine lv_lconst (v := 1) hx hb dX13_order_16 (by decide) ?_
    refine lv_lstore_n (lv' := [(2, .long 1), (0, .ref h0), (1, .int x1)]) hx hb dX13_order_17 rfl hl (by decide) rfl (fun ls hl => ?_)
    refine lv_iconst (v := 0) hx hb dX13_order_18 (by decide) ?_
    refine lv_istore (lv' := [(4, .int 0), (2, .long 1), (0, .ref h0), (1, .int x1)]) hx hb dX13_order_19 hl (by decide) rfl (fun ls hl => ?_)
    exact w_X13_order_21 C  2000000 _ _ _ _ _ _ _ hf hP hD hS (lv_sub hl [2, 3, 1, 0] rfl)
  · have hf := ite_t hf hc
    refine lv_ldc2 (v := (-2)) hx hb hown (hts _ kcX13_324) dX13_order_7 ?_
    obtain rfl := Option.some.inj hf
    exact k_lret hx hb hr hlocks hK hP hD hS dX13_order_10
/-! MarbleFloorModel.apart(II)I -/
abbrev wlX13_apart : List Cond := Cond.code yX13_apart cX13_apart 4 (some .int) :: tbG
abbrev rmX13_apart : Room := { frames := 3, cells := 0, slots := 0, locals := 72 }
theorem qnX13_apart : yX13_apart.cls = RX13 ∧ yX13_apart.cls ≠ "java/lang/invoke/MethodHandle" ∧ yX13_apart.cls ≠ "java/lang/invoke/VarHandle" ∧ (parseMethodDescriptor yX13_apart.desc).map (fun d => d.parameters.length) = some 2 := by decide +kernel
def f_X13_apart_37 (i0 : Nat → Int32) (r0 : Nat → Nat → Int32) (l0 : Nat → Nat → Int64)  : Nat → Int32 → Int32 → Int32 → Option (Int32)
  | 0, _, _, _ => none
  | n + 1, x1, x2, x3 => ck (inb x1 8) (if ((1 : Int32) <<< ((r0 10 x1.toNatClampNeg) &&& 31)) ≤ x3 then (some ((-1))) else (bd (f_X13_outBut i0 r0 l0 x1 x3 0 (-1)) (fun q5 => bd (f_X13_outBut i0 r0 l0 x2 x3 0 (-1)) (fun q6 => if q5 = q6 then (f_X13_apart_37 i0 r0 l0 n x1 x2 (x3 + 1)) else (some (x3))))))
set_option maxRecDepth 100000 in
set_option maxHeartbeats 4000000 in
theorem w_X13_apart_37 {p : Program} {l : Launch} {e : Env} {s : State} {m : MethodId} {args : Array Value} {below : List Frame} {meth : Method} {c : Code} {A : Nat → Prop} {D : va_G} {cs zs : Nat → Nat} {h0 : Nat} {a0 : Nat → Nat} {i0 : Nat → Int32} {r0 : Nat → Nat → Int32} {l0 : Nat → Nat → Int64} {q : Int32} (C : Cx p s m args meth c A D cs zs cX13_apart 4 (some .int) RX13)  : ∀ (n : Nat), ∀ (x1 : Int32) (x2 : Int32) (x3 : Int32) (H : Heap) (locs : List Loc) (ls : Array Slot), f_X13_apart_37 i0 r0 l0 n x1 x2 x3 = some q → va_P D vwCl (W13 cs h0 a0 i0 r0 l0) H → va_D A (W13 cs h0 a0 i0 r0 l0) → va_S A s.heap H locs → lv_has ls 4 [(0, .ref h0), (1, .int x1), (2, .int x2), (3, .int x3)] → W p l e rmX13_apart s m args below meth c H locs 0 0 (MQ below (Qi D cs A q (W13 cs h0 a0 i0 r0 l0)) args s 0 0 A) (F0 m 37 ls []) := by
  obtain ⟨hx, hb, hr, hml, hown, hts, hK, hA, hlocks, hZ⟩ := id C
  intro n
  induction n with
  | zero =>
    intro x1 x2 x3 H locs ls hf
    rw [f_X13_apart_37] at hf
    cases hf
  | succ n ih =>
    intro x1 x2 x3 H locs ls hf hP hD hS hl
    rw [f_X13_apart_37] at hf
    refine lv_iload_n hx hb dX13_apart_37 rfl (lv_at hl 3 rfl) ?_
    refine lv_iconst (v := 1) hx hb dX13_apart_38 (by decide) ?_
    refine lv_aload_n hx hb dX13_apart_39 rfl (lv_at hl 0 rfl) ?_
    refine va_get (D := D) (ci := 13) (v := .ref (a0 10)) (C := RX13) (T := TX13) (N := 87) hx hb hts hiX13 hown hK hP 0 rfl rfl 10 (by decide) (hts _ flX13_99) (fun _ h9 => h9) rfl dX13_apart_40 ?_
    refine lv_iload_n hx hb dX13_apart_43 rfl (lv_at hl 1 rfl) ?_
    refine va_iald (f := r0 10) hx hb hK hP 2 0 rfl rfl (ck_in hf) dX13_apart_44 ?_
    have hf := ck_2 hf
    refine lv_ishl hx hb dX13_apart_45 ?_
    refine lv_icmp_ge (tgt := 76) hx hb dX13_apart_46 (by decide) (fun hc => ?_) (fun hc => ?_)
    · have hf := ite_t hf hc
      refine lv_iconst (v := (-1)) hx hb dX13_apart_76 (by decide) ?_
      obtain rfl := Option.some.inj hf
      exact k_iret hx hb hr hlocks hK hP hD hS dX13_apart_77
    · have hf := ite_f hf hc
      refine lv_aload_n hx hb dX13_apart_49 rfl (lv_at hl 0 rfl) ?_
      refine lv_iload_n hx hb dX13_apart_50 rfl (lv_at hl 1 rfl) ?_
      refine lv_iload_n hx hb dX13_apart_51 rfl (lv_at hl 3 rfl) ?_
      refine lv_iconst (v := 0) hx hb dX13_apart_52 (by decide) ?_
      refine lv_iconst (v := (-1)) hx hb dX13_apart_53 (by decide) ?_
      obtain ⟨q5, hq5, hf⟩ := bd_s hf
      refine k_sVi (ws2 := W13 cs h0 a0 i0 r0 l0) (As := [.int x1, .int x3, .int 0, .int (-1)]) (rest := []) hx hb hml hown hts hK hA hZ hl.1 hP hD hS (c_X13_outBut (h0 := h0) (a0 := a0) hq5) (gVt mlX13_314 imX13_outBut seX13_outBut inX13 coX13_outBut) rfl qnX13_outBut rfl rfl ⟨Nat.le_of_ble_eq_true rfl, Nat.le_of_ble_eq_true rfl⟩ 0 13 rfl rfl rfl rfl rfl (Nat.le_of_ble_eq_true rfl) ⟨Nat.zero_le _, Nat.zero_le _⟩ dX13_apart_54 (fun H locs hP hD hS => ?_)
      refine lv_aload_n hx hb dX13_apart_57 rfl (lv_at hl 0 rfl) ?_
      refine lv_iload_n hx hb dX13_apart_58 rfl (lv_at hl 2 rfl) ?_
      refine lv_iload_n hx hb dX13_apart_59 rfl (lv_at hl 3 rfl) ?_
      refine lv_iconst (v := 0) hx hb dX13_apart_60 (by decide) ?_
      refine lv_iconst (v := (-1)) hx hb dX13_apart_61 (by decide) ?_
      obtain ⟨q6, hq6, hf⟩ := bd_s hf
      refine k_sVi (ws2 := W13 cs h0 a0 i0 r0 l0) (As := [.int x2, .int x3, .int 0, .int (-1)]) (rest := [.int q5]) hx hb hml hown hts hK hA hZ hl.1 hP hD hS (c_X13_outBut (h0 := h0) (a0 := a0) hq6) (gVt mlX13_314 imX13_outBut seX13_outBut inX13 coX13_outBut) rfl qnX13_outBut rfl rfl ⟨Nat.le_of_ble_eq_true rfl, Nat.le_of_ble_eq_true rfl⟩ 0 13 rfl rfl rfl rfl rfl (Nat.le_of_ble_eq_true rfl) ⟨Nat.zero_le _, Nat.zero_le _⟩ dX13_apart_62 (fun H locs hP hD hS => ?_)
      refine lv_icmp_eq (tgt := 70) hx hb dX13_apart_65 (by decide) (fun hc => ?_) (fun hc => ?_)
      · have hf := ite_t hf hc
        refine lv_iinc (v := x3 + 1) (lv' := [(3, .int (x3 + 1)), (0, .ref h0), (1, .int x1), (2, .int x2)]) hx hb dX13_apart_70 hl (k := 3) rfl rfl (by decide) rfl (fun ls hl => ?_)
        refine lv_goto (tgt := 37) hx hb dX13_apart_73 (by decide) ?_
        exact ih _ _ _ _ _ _ hf hP hD hS (lv_sub hl [1, 2, 3, 0] rfl)
      · have hf := ite_f hf hc
        refine lv_iload_n hx hb dX13_apart_68 rfl (lv_at hl 3 rfl) ?_
        obtain rfl := Option.some.inj hf
        exact k_iret hx hb hr hlocks hK hP hD hS dX13_apart_69
def f_X13_apart  (i0 : Nat → Int32) (r0 : Nat → Nat → Int32) (l0 : Nat → Nat → Int64) (x1 : Int32) (x2 : Int32) : Option (Int32) := bd (f_X13_isFloor x1) (fun q7 => if q7 = 0 then (some ((-2))) else (bd (f_X13_isFloor x2) (fun q8 => if q8 = 0 then (some ((-2))) else (ck (inb x1 8) (ck (inb x2 8) (if (r0 10 x1.toNatClampNeg) = (r0 10 x2.toNatClampNeg) then (f_X13_apart_37 i0 r0 l0 2000000 x1 x2 0) else (some ((-4)))))))))
set_option maxRecDepth 100000 in
set_option maxHeartbeats 4000000 in
theorem c_X13_apart {l : Launch} {D : va_G} {cs zs : Nat → Nat} {h0 : Nat} {a0 : Nat → Nat} {i0 : Nat → Int32} {r0 : Nat → Nat → Int32} {l0 : Nat → Nat → Int64} {x1 : Int32} {x2 : Int32} {q : Int32} (hf : f_X13_apart i0 r0 l0 x1 x2 = some q) : Mi l yX13_apart wlX13_apart rmX13_apart D cs zs [.ref h0, .int x1, .int x2] (W13 cs h0 a0 i0 r0 l0) q (W13 cs h0 a0 i0 r0 l0) := by
  refine Mi.of RX13 (by decide) rfl (Nat.le_of_ble_eq_true rfl) (fun p e s m below meth c A C hP hD hS ls hl => ?_)
  generalize ([.ref h0, .int x1, .int x2] : List Value).toArray = args at C ⊢
  obtain ⟨hx, hb, hr, hml, hown, hts, hK, hA, hlocks, hZ⟩ := id C
  have hl : lv_has ls 4 [(0, .ref h0), (1, .int x1), (2, .int x2)] := hl
  rw [f_X13_apart] at hf
  refine lv_iload_n hx hb dX13_apart_0 rfl (lv_at hl 1 rfl) ?_
  obtain ⟨q7, hq7, hf⟩ := bd_s hf
  refine k_eSi (As := [.int x1]) (rest := []) hx hb hml hown hts hK hA hZ hl.1 hP hD hS (c_X13_isFloor  hq7) (gSt mlX13_290 stX13_isFloor inX13 coX13_isFloor) rfl qnX13_isFloor rfl rfl ⟨Nat.le_of_ble_eq_true rfl, Nat.le_of_ble_eq_true rfl⟩ rfl rfl (Nat.le_of_ble_eq_true rfl) ⟨Nat.zero_le _, Nat.zero_le _⟩ dX13_apart_1 (fun H locs hP hD hS => ?_)
  refine lv_if_eq (tgt := 14) hx hb dX13_apart_4 (by decide) (fun hc => ?_) (fun hc => ?_)
  · have hf := ite_t hf hc
    refine lv_bipush (v := (-2)) hx hb dX13_apart_14 (by decide) ?_
    obtain rfl := Option.some.inj hf
    exact k_iret hx hb hr hlocks hK hP hD hS dX13_apart_16
  · have hf := ite_f hf hc
    refine lv_iload_n hx hb dX13_apart_7 rfl (lv_at hl 2 rfl) ?_
    obtain ⟨q8, hq8, hf⟩ := bd_s hf
    refine k_eSi (As := [.int x2]) (rest := []) hx hb hml hown hts hK hA hZ hl.1 hP hD hS (c_X13_isFloor  hq8) (gSt mlX13_290 stX13_isFloor inX13 coX13_isFloor) rfl qnX13_isFloor rfl rfl ⟨Nat.le_of_ble_eq_true rfl, Nat.le_of_ble_eq_true rfl⟩ rfl rfl (Nat.le_of_ble_eq_true rfl) ⟨Nat.zero_le _, Nat.zero_le _⟩ dX13_apart_8 (fun H locs hP hD hS => ?_)
    refine lv_if_ne (tgt := 17) hx hb dX13_apart_11 (by decide) (fun hc => ?_) (fun hc => ?_)
    · have hf := ite_f hf hc
      refine lv_aload_n hx hb dX13_apart_17 rfl (lv_at hl 0 rfl) ?_
      refine va_get (D := D) (ci := 13) (v := .ref (a0 10)) (C := RX13) (T := TX13) (N := 87) hx hb hts hiX13 hown hK hP 0 rfl rfl 10 (by decide) (hts _ flX13_99) (fun _ h9 => h9) rfl dX13_apart_18 ?_
      refine lv_iload_n hx hb dX13_apart_21 rfl (lv_at hl 1 rfl) ?_
      refine va_iald (f := r0 10) hx hb hK hP 2 0 rfl rfl (ck_in hf) dX13_apart_22 ?_
      have hf := ck_2 hf
      refine lv_aload_n hx hb dX13_apart_23 rfl (lv_at hl 0 rfl) ?_
      refine va_get (D := D) (ci := 13) (v := .ref (a0 10)) (C := RX13) (T := TX13) (N := 87) hx hb hts hiX13 hown hK hP 0 rfl rfl 10 (by decide) (hts _ flX13_99) (fun _ h9 => h9) rfl dX13_apart_24 ?_
      refine lv_iload_n hx hb dX13_apart_27 rfl (lv_at hl 2 rfl) ?_
      refine va_iald (f := r0 10) hx hb hK hP 2 0 rfl rfl (ck_in hf) dX13_apart_28 ?_
      have hf := ck_2 hf
      refine lv_icmp_eq (tgt := 35) hx hb dX13_apart_29 (by decide) (fun hc => ?_) (fun hc => ?_)
      · have hf := ite_t hf hc
        refine lv_iconst (v := 0) hx hb dX13_apart_35 (by decide) ?_
        refine lv_istore_n (lv' := [(3, .int 0), (0, .ref h0), (1, .int x1), (2, .int x2)]) hx hb dX13_apart_36 rfl hl (by decide) rfl (fun ls hl => ?_)
        exact w_X13_apart_37 C  2000000 _ _ _ _ _ _ hf hP hD hS (lv_sub hl [1, 2, 3, 0] rfl)
      · have hf := ite_f hf hc
        refine lv_bipush (v := (-4)) hx hb dX13_apart_32 (by decide) ?_
        obtain rfl := Option.some.inj hf
        exact k_iret hx hb hr hlocks hK hP hD hS dX13_apart_34
    · have hf := ite_t hf hc
      refine lv_bipush (v := (-2)) hx hb dX13_apart_14 (by decide) ?_
      obtain rfl := Option.some.inj hf
      exact k_iret hx hb hr hlocks hK hP hD hS dX13_apart_16
/-! MarbleFloorModel.gate(III)V -/
abbrev wlX13_gate : List Cond := Cond.code yX13_gate cX13_gate 4 none :: tbG
abbrev rmX13_gate : Room := { frames := 0, cells := 0, slots := 0, locals := 0 }
theorem qnX13_gate : yX13_gate.cls = RX13 ∧ yX13_gate.cls ≠ "java/lang/invoke/MethodHandle" ∧ yX13_gate.cls ≠ "java/lang/invoke/VarHandle" ∧ (parseMethodDescriptor yX13_gate.desc).map (fun d => d.parameters.length) = some 3 := by decide +kernel
def f_X13_gate_20 (l0 : Nat → Nat → Int64)  (i0 : Nat → Int32) (r0 : Nat → Nat → Int32) (x3 : Int32) : Option ((Nat → Int32) × (Nat → Nat → Int32)) := ck (inb (i0 24) 18) (some ((upd i0 24 ((i0 24) + 1)), (va_up r0 23 (upd (r0 23) (i0 24).toNatClampNeg x3))))
set_option maxRecDepth 100000 in
set_option maxHeartbeats 4000000 in
theorem w_X13_gate_20 {p : Program} {l : Launch} {e : Env} {s : State} {m : MethodId} {args : Array Value} {below : List Frame} {meth : Method} {c : Code} {A : Nat → Prop} {D : va_G} {cs zs : Nat → Nat} {h0 : Nat} {a0 : Nat → Nat} {l0 : Nat → Nat → Int64} {q : (Nat → Int32) × (Nat → Nat → Int32)} (C : Cx p s m args meth c A D cs zs cX13_gate 4 none RX13)  : ∀ (i0 : Nat → Int32) (r0 : Nat → Nat → Int32) (x3 : Int32) (H : Heap) (locs : List Loc) (ls : Array Slot), f_X13_gate_20 l0 i0 r0 x3 = some q → va_P D vwCl (W13 cs h0 a0 i0 r0 l0) H → va_D A (W13 cs h0 a0 i0 r0 l0) → va_S A s.heap H locs → lv_has ls 4 [(0, .ref h0), (3, .int x3)] → W p l e rmX13_gate s m args below meth c H locs 0 0 (MQ below (Qv D cs A (W13 cs h0 a0 q.1 q.2 l0)) args s 0 0 A) (F0 m 20 ls []) := by
  obtain ⟨hx, hb, hr, hml, hown, hts, hK, hA, hlocks, hZ⟩ := id C
  intro i0 r0 x3 H locs ls hf hP hD hS hl
  rw [f_X13_gate_20] at hf
  refine lv_aload_n hx hb dX13_gate_20 rfl (lv_at hl 0 rfl) ?_
  refine va_get (D := D) (ci := 13) (v := .ref (a0 23)) (C := RX13) (T := TX13) (N := 87) hx hb hts hiX13 hown hK hP 0 rfl rfl 23 (by decide) (hts _ flX13_164) (fun _ h9 => h9) rfl dX13_gate_21 ?_
  refine lv_aload_n hx hb dX13_gate_24 rfl (lv_at hl 0 rfl) ?_
  refine va_get (D := D) (ci := 13) (v := .int (i0 24)) (C := RX13) (T := TX13) (N := 87) hx hb hts hiX13 hown hK hP 0 rfl rfl 24 (by decide) (hts _ flX13_330) (fun _ h9 => h9) rfl dX13_gate_25 ?_
  refine lv_iload_n hx hb dX13_gate_28 rfl (lv_at hl 1 rfl) ?_
  refine va_iast (f := r0 23) hx hb hK hP hD hS 15 0 rfl rfl (ck_in hf) dX13_gate_29 (fun H locs hP hD hS => ?_)
  have hf := ck_2 hf
  obtain ⟨hP, hD⟩ := st13_23 hP hD
  refine lv_aload_n hx hb dX13_gate_30 rfl (lv_at hl 0 rfl) ?_
  refine lv_dup hx hb dX13_gate_31 rfl ?_
  refine va_get (D := D) (ci := 13) (v := .int (i0 24)) (C := RX13) (T := TX13) (N := 87) hx hb hts hiX13 hown hK hP 0 rfl rfl 24 (by decide) (hts _ flX13_330) (fun _ h9 => h9) rfl dX13_gate_32 ?_
  refine lv_iconst (v := 1) hx hb dX13_gate_35 (by decide) ?_
  refine lv_iadd hx hb dX13_gate_36 ?_
  refine va_put (D := D) (ci := 13) (v := .int ((i0 24) + 1)) (ty := .int) (C := RX13) (T := TX13) (N := 87) hx hb hts hiX13 tyX13 tyX13_ok nmX13 hown hK hP hD hS 0 rfl rfl 24 (by decide) (hts _ flX13_330) (fun _ h9 => h9) rfl (tyX13_ok 24 (by decide)) rfl rfl (Nat.le_of_ble_eq_true rfl) dX13_gate_37 (fun H locs hP hD hS => ?_)
  obtain ⟨hP, hD⟩ := st13_24 hP hD
  obtain rfl := Option.some.inj hf
  exact k_vret hx hb hr hlocks hK hP hD hS dX13_gate_40
def f_X13_gate  (i0 : Nat → Int32) (r0 : Nat → Nat → Int32) (l0 : Nat → Nat → Int64) (x1 : Int32) (x2 : Int32) (x3 : Int32) : Option ((Nat → Int32) × (Nat → Nat → Int32)) := ck (inb (i0 24) 18) (ck (inb (i0 24) 18) (f_X13_gate_20 l0 i0 (va_up (va_up r0 21 (upd (r0 21) (i0 24).toNatClampNeg x1)) 22 (upd (r0 22) (i0 24).toNatClampNeg x2)) x3))
set_option maxRecDepth 100000 in
set_option maxHeartbeats 4000000 in
theorem c_X13_gate {l : Launch} {D : va_G} {cs zs : Nat → Nat} {h0 : Nat} {a0 : Nat → Nat} {i0 : Nat → Int32} {r0 : Nat → Nat → Int32} {l0 : Nat → Nat → Int64} {x1 : Int32} {x2 : Int32} {x3 : Int32} {q : (Nat → Int32) × (Nat → Nat → Int32)} (hf : f_X13_gate i0 r0 l0 x1 x2 x3 = some q) : Mv l yX13_gate wlX13_gate rmX13_gate D cs zs [.ref h0, .int x1, .int x2, .int x3] (W13 cs h0 a0 i0 r0 l0) (W13 cs h0 a0 q.1 q.2 l0) := by
  refine Mv.of RX13 (by decide) rfl (Nat.le_of_ble_eq_true rfl) (fun p e s m below meth c A C hP hD hS ls hl => ?_)
  generalize ([.ref h0, .int x1, .int x2, .int x3] : List Value).toArray = args at C ⊢
  obtain ⟨hx, hb, hr, hml, hown, hts, hK, hA, hlocks, hZ⟩ := id C
  have hl : lv_has ls 4 [(0, .ref h0), (1, .int x1), (2, .int x2), (3, .int x3)] := hl
  rw [f_X13_gate] at hf
  refine lv_aload_n hx hb dX13_gate_0 rfl (lv_at hl 0 rfl) ?_
  refine va_get (D := D) (ci := 13) (v := .ref (a0 21)) (C := RX13) (T := TX13) (N := 87) hx hb hts hiX13 hown hK hP 0 rfl rfl 21 (by decide) (hts _ flX13_158) (fun _ h9 => h9) rfl dX13_gate_1 ?_
  refine lv_aload_n hx hb dX13_gate_4 rfl (lv_at hl 0 rfl) ?_
  refine va_get (D := D) (ci := 13) (v := .int (i0 24)) (C := RX13) (T := TX13) (N := 87) hx hb hts hiX13 hown hK hP 0 rfl rfl 24 (by decide) (hts _ flX13_330) (fun _ h9 => h9) rfl dX13_gate_5 ?_
  refine lv_iload_n hx hb dX13_gate_8 rfl (lv_at hl 1 rfl) ?_
  refine va_iast (f := r0 21) hx hb hK hP hD hS 13 0 rfl rfl (ck_in hf) dX13_gate_9 (fun H locs hP hD hS => ?_)
  have hf := ck_2 hf
  obtain ⟨hP, hD⟩ := st13_21 hP hD
  refine lv_aload_n hx hb dX13_gate_10 rfl (lv_at hl 0 rfl) ?_
  refine va_get (D := D) (ci := 13) (v := .ref (a0 22)) (C := RX13) (T := TX13) (N := 87) hx hb hts hiX13 hown hK hP 0 rfl rfl 22 (by decide) (hts _ flX13_161) (fun _ h9 => h9) rfl dX13_gate_11 ?_
  refine lv_aload_n hx hb dX13_gate_14 rfl (lv_at hl 0 rfl) ?_
  refine va_get (D := D) (ci := 13) (v := .int (i0 24)) (C := RX13) (T := TX13) (N := 87) hx hb hts hiX13 hown hK hP 0 rfl rfl 24 (by decide) (hts _ flX13_330) (fun _ h9 => h9) rfl dX13_gate_15 ?_
  refine lv_iload_n hx hb dX13_gate_18 rfl (lv_at hl 2 rfl) ?_
  refine va_iast (f := r0 22) hx hb hK hP hD hS 14 0 rfl rfl (ck_in hf) dX13_gate_19 (fun H locs hP hD hS => ?_)
  have hf := ck_2 hf
  obtain ⟨hP, hD⟩ := st13_22 hP hD
  exact w_X13_gate_20 C  _ _ _ _ _ _ hf hP hD hS (lv_sub hl [0, 3] rfl)
/-! MarbleFloorModel.bits(I)I -/
abbrev wlX13_bits : List Cond := Cond.code yX13_bits cX13_bits 3 (some .int) :: tbG
abbrev rmX13_bits : Room := { frames := 0, cells := 0, slots := 0, locals := 0 }
theorem qnX13_bits : yX13_bits.cls ≠ "java/lang/invoke/MethodHandle" ∧ yX13_bits.cls ≠ "java/lang/invoke/VarHandle" ∧ (parseMethodDescriptor yX13_bits.desc).map (fun d => d.parameters.length) = some 1 := by decide +kernel
def f_X13_bits_4   : Nat → Int32 → Int32 → Option (Int32)
  | 0, _, _ => none
  | n + 1, x1, x2 => if x2 = 0 then (some (x1)) else (f_X13_bits_4 n (x1 + 1) (x2 &&& (x2 - 1)))
set_option maxRecDepth 100000 in
set_option maxHeartbeats 4000000 in
theorem w_X13_bits_4 {p : Program} {l : Launch} {e : Env} {s : State} {m : MethodId} {args : Array Value} {below : List Frame} {meth : Method} {c : Code} {A : Nat → Prop} {D : va_G} {cs zs : Nat → Nat}   {q : Int32} (C : Cx p s m args meth c A D cs zs cX13_bits 3 (some .int) RX13)  : ∀ (n : Nat), ∀ (x1 : Int32) (x2 : Int32) (H : Heap) (locs : List Loc) (ls : Array Slot), f_X13_bits_4 n x1 x2 = some q → va_P D vwCl (([] : va_W)) H → va_D A (([] : va_W)) → va_S A s.heap H locs → lv_has ls 3 [(1, .int x1), (2, .int x2)] → W p l e rmX13_bits s m args below meth c H locs 0 0 (MQ below (Qi D cs A q (([] : va_W))) args s 0 0 A) (F0 m 4 ls []) := by
  obtain ⟨hx, hb, hr, hml, hown, hts, hK, hA, hlocks, hZ⟩ := id C
  intro n
  induction n with
  | zero =>
    intro x1 x2 H locs ls hf
    rw [f_X13_bits_4] at hf
    cases hf
  | succ n ih =>
    intro x1 x2 H locs ls hf hP hD hS hl
    rw [f_X13_bits_4] at hf
    refine lv_iload_n hx hb dX13_bits_4 rfl (lv_at hl 1 rfl) ?_
    refine lv_if_eq (tgt := 20) hx hb dX13_bits_5 (by decide) (fun hc => ?_) (fun hc => ?_)
    · have hf := ite_t hf hc
      refine lv_iload_n hx hb dX13_bits_20 rfl (lv_at hl 0 rfl) ?_
      obtain rfl := Option.some.inj hf
      exact k_iret hx hb hr hlocks hK hP hD hS dX13_bits_21
    · have hf := ite_f hf hc
      refine lv_iinc (v := x1 + 1) (lv' := [(1, .int (x1 + 1)), (2, .int x2)]) hx hb dX13_bits_8 hl (k := 0) rfl rfl (by decide) rfl (fun ls hl => ?_)
      refine lv_iload_n hx hb dX13_bits_11 rfl (lv_at hl 1 rfl) ?_
      refine lv_iload_n hx hb dX13_bits_12 rfl (lv_at hl 1 rfl) ?_
      refine lv_iconst (v := 1) hx hb dX13_bits_13 (by decide) ?_
      refine lv_isub hx hb dX13_bits_14 ?_
      refine lv_iand hx hb dX13_bits_15 ?_
      refine lv_istore_n (lv' := [(2, .int (x2 &&& (x2 - 1))), (1, .int (x1 + 1))]) hx hb dX13_bits_16 rfl hl (by decide) rfl (fun ls hl => ?_)
      refine lv_goto (tgt := 4) hx hb dX13_bits_17 (by decide) ?_
      exact ih _ _ _ _ _ hf hP hD hS (lv_sub hl [1, 0] rfl)
def f_X13_bits   (x0 : Int32) : Option (Int32) := f_X13_bits_4 2000000 0 x0
set_option maxRecDepth 100000 in
set_option maxHeartbeats 4000000 in
theorem c_X13_bits {l : Launch} {D : va_G} {cs zs : Nat → Nat}   {x0 : Int32} {q : Int32} (hf : f_X13_bits x0 = some q) : Mi l yX13_bits wlX13_bits rmX13_bits D cs zs [.int x0] (([] : va_W)) q (([] : va_W)) := by
  refine Mi.of RX13 (by decide) rfl (Nat.le_of_ble_eq_true rfl) (fun p e s m below meth c A C hP hD hS ls hl => ?_)
  generalize ([.int x0] : List Value).toArray = args at C ⊢
  obtain ⟨hx, hb, hr, hml, hown, hts, hK, hA, hlocks, hZ⟩ := id C
  have hl : lv_has ls 3 [(0, .int x0)] := hl
  rw [f_X13_bits] at hf
  refine lv_iconst (v := 0) hx hb dX13_bits_0 (by decide) ?_
  refine lv_istore_n (lv' := [(1, .int 0), (0, .int x0)]) hx hb dX13_bits_1 rfl hl (by decide) rfl (fun ls hl => ?_)
  refine lv_iload_n hx hb dX13_bits_2 rfl (lv_at hl 1 rfl) ?_
  refine lv_istore_n (lv' := [(2, .int x0), (1, .int 0), (0, .int x0)]) hx hb dX13_bits_3 rfl hl (by decide) rfl (fun ls hl => ?_)
  exact w_X13_bits_4 C  2000000 _ _ _ _ _ hf hP hD hS (lv_sub hl [1, 0] rfl)
/-! MarbleFloorModel.findGates(I)V -/
abbrev wlX13_findGates : List Cond := Cond.code yX13_findGates cX13_findGates 5 none :: tbG
abbrev rmX13_findGates : Room := { frames := 1, cells := 0, slots := 0, locals := 23 }
theorem qnX13_findGates : yX13_findGates.cls = RX13 ∧ yX13_findGates.cls ≠ "java/lang/invoke/MethodHandle" ∧ yX13_findGates.cls ≠ "java/lang/invoke/VarHandle" ∧ (parseMethodDescriptor yX13_findGates.desc).map (fun d => d.parameters.length) = some 1 := by decide +kernel
def f_X13_findGates_47 (l0 : Nat → Nat → Int64) (K7 : (Nat → Int32) → (Nat → Nat → Int32) → Int32 → Int32 → Option ((Nat → Int32) × (Nat → Nat → Int32))) (K14 : (Nat → Int32) → (Nat → Nat → Int32) → Int32 → Int32 → Int32 → Option ((Nat → Int32) × (Nat → Nat → Int32))) (i0 : Nat → Int32) (r0 : Nat → Nat → Int32) (x1 : Int32) (x2 : Int32) (x3 : Int32) : Option ((Nat → Int32) × (Nat → Nat → Int32)) := K14 i0 r0 x1 x2 (x3 + 1)
set_option maxRecDepth 100000 in
set_option maxHeartbeats 4000000 in
theorem w_X13_findGates_47 {p : Program} {l : Launch} {e : Env} {s : State} {m : MethodId} {args : Array Value} {below : List Frame} {meth : Method} {c : Code} {A : Nat → Prop} {D : va_G} {cs zs : Nat → Nat} {h0 : Nat} {a0 : Nat → Nat} {l0 : Nat → Nat → Int64} {q : (Nat → Int32) × (Nat → Nat → Int32)} (C : Cx p s m args meth c A D cs zs cX13_findGates 5 none RX13) (K7 : (Nat → Int32) → (Nat → Nat → Int32) → Int32 → Int32 → Option ((Nat → Int32) × (Nat → Nat → Int32))) (hK7 : ∀ (i0 : Nat → Int32) (r0 : Nat → Nat → Int32) (x1 : Int32) (x2 : Int32) (H : Heap) (locs : List Loc) (ls : Array Slot), K7 i0 r0 x1 x2 = some q → va_P D vwCl (W13 cs h0 a0 i0 r0 l0) H → va_D A (W13 cs h0 a0 i0 r0 l0) → va_S A s.heap H locs → lv_has ls 5 [(0, .ref h0), (1, .int x1), (2, .int x2)] → W p l e rmX13_findGates s m args below meth c H locs 0 0 (MQ below (Qv D cs A (W13 cs h0 a0 q.1 q.2 l0)) args s 0 0 A) (F0 m 7 ls [])) (K14 : (Nat → Int32) → (Nat → Nat → Int32) → Int32 → Int32 → Int32 → Option ((Nat → Int32) × (Nat → Nat → Int32))) (hK14 : ∀ (i0 : Nat → Int32) (r0 : Nat → Nat → Int32) (x1 : Int32) (x2 : Int32) (x3 : Int32) (H : Heap) (locs : List Loc) (ls : Array Slot), K14 i0 r0 x1 x2 x3 = some q → va_P D vwCl (W13 cs h0 a0 i0 r0 l0) H → va_D A (W13 cs h0 a0 i0 r0 l0) → va_S A s.heap H locs → lv_has ls 5 [(0, .ref h0), (1, .int x1), (2, .int x2), (3, .int x3)] → W p l e rmX13_findGates s m args below meth c H locs 0 0 (MQ below (Qv D cs A (W13 cs h0 a0 q.1 q.2 l0)) args s 0 0 A) (F0 m 14 ls [])) : ∀ (i0 : Nat → Int32) (r0 : Nat → Nat → Int32) (x1 : Int32) (x2 : Int32) (x3 : Int32) (H : Heap) (locs : List Loc) (ls : Array Slot), f_X13_findGates_47 l0 K7 K14 i0 r0 x1 x2 x3 = some q → va_P D vwCl (W13 cs h0 a0 i0 r0 l0) H → va_D A (W13 cs h0 a0 i0 r0 l0) → va_S A s.heap H locs → lv_has ls 5 [(0, .ref h0), (1, .int x1), (2, .int x2), (3, .int x3)] → W p l e rmX13_findGates s m args below meth c H locs 0 0 (MQ below (Qv D cs A (W13 cs h0 a0 q.1 q.2 l0)) args s 0 0 A) (F0 m 47 ls []) := by
  obtain ⟨hx, hb, hr, hml, hown, hts, hK, hA, hlocks, hZ⟩ := id C
  intro i0 r0 x1 x2 x3 H locs ls hf hP hD hS hl
  rw [f_X13_findGates_47] at hf
  refine lv_iinc (v := x3 + 1) (lv' := [(3, .int (x3 + 1)), (0, .ref h0), (1, .int x1), (2, .int x2)]) hx hb dX13_findGates_47 hl (k := 3) rfl rfl (by decide) rfl (fun ls hl => ?_)
  refine lv_goto (tgt := 14) hx hb dX13_findGates_50 (by decide) ?_
  exact hK14 _ _ _ _ _ _ _ _ hf hP hD hS (lv_sub hl [1, 2, 3, 0] rfl)
def f_X13_findGates_14 (l0 : Nat → Nat → Int64) (K7 : (Nat → Int32) → (Nat → Nat → Int32) → Int32 → Int32 → Option ((Nat → Int32) × (Nat → Nat → Int32))) : Nat → (Nat → Int32) → (Nat → Nat → Int32) → Int32 → Int32 → Int32 → Option ((Nat → Int32) × (Nat → Nat → Int32))
  | 0, _, _, _, _, _ => none
  | n + 1, i0, r0, x1, x2, x3 => if 8 ≤ x3 then (K7 i0 r0 x1 (x2 + 1)) else (if ((x3 >>> (x2 &&& 31)) &&& 1) = 0 then (bd (f_X13_bits x3) (fun q5 => if ((x1 >>> (q5 &&& 31)) &&& 1) = 1 then (bd (f_X13_gate i0 r0 l0 x2 (-1) x3) (fun q6 => f_X13_findGates_47 l0 K7 (f_X13_findGates_14 l0 K7 n) q6.1 q6.2 x1 x2 x3)) else (f_X13_findGates_47 l0 K7 (f_X13_findGates_14 l0 K7 n) i0 r0 x1 x2 x3))) else (f_X13_findGates_47 l0 K7 (f_X13_findGates_14 l0 K7 n) i0 r0 x1 x2 x3))
set_option maxRecDepth 100000 in
set_option maxHeartbeats 4000000 in
theorem w_X13_findGates_14 {p : Program} {l : Launch} {e : Env} {s : State} {m : MethodId} {args : Array Value} {below : List Frame} {meth : Method} {c : Code} {A : Nat → Prop} {D : va_G} {cs zs : Nat → Nat} {h0 : Nat} {a0 : Nat → Nat} {l0 : Nat → Nat → Int64} {q : (Nat → Int32) × (Nat → Nat → Int32)} (C : Cx p s m args meth c A D cs zs cX13_findGates 5 none RX13) (K7 : (Nat → Int32) → (Nat → Nat → Int32) → Int32 → Int32 → Option ((Nat → Int32) × (Nat → Nat → Int32))) (hK7 : ∀ (i0 : Nat → Int32) (r0 : Nat → Nat → Int32) (x1 : Int32) (x2 : Int32) (H : Heap) (locs : List Loc) (ls : Array Slot), K7 i0 r0 x1 x2 = some q → va_P D vwCl (W13 cs h0 a0 i0 r0 l0) H → va_D A (W13 cs h0 a0 i0 r0 l0) → va_S A s.heap H locs → lv_has ls 5 [(0, .ref h0), (1, .int x1), (2, .int x2)] → W p l e rmX13_findGates s m args below meth c H locs 0 0 (MQ below (Qv D cs A (W13 cs h0 a0 q.1 q.2 l0)) args s 0 0 A) (F0 m 7 ls [])) : ∀ (n : Nat), ∀ (i0 : Nat → Int32) (r0 : Nat → Nat → Int32) (x1 : Int32) (x2 : Int32) (x3 : Int32) (H : Heap) (locs : List Loc) (ls : Array Slot), f_X13_findGates_14 l0 K7 n i0 r0 x1 x2 x3 = some q → va_P D vwCl (W13 cs h0 a0 i0 r0 l0) H → va_D A (W13 cs h0 a0 i0 r0 l0) → va_S A s.heap H locs → lv_has ls 5 [(0, .ref h0), (1, .int x1), (2, .int x2), (3, .int x3)] → W p l e rmX13_findGates s m args below meth c H locs 0 0 (MQ below (Qv D cs A (W13 cs h0 a0 q.1 q.2 l0)) args s 0 0 A) (F0 m 14 ls []) := by
  obtain ⟨hx, hb, hr, hml, hown, hts, hK, hA, hlocks, hZ⟩ := id C
  intro n
  induction n with
  | zero =>
    intro i0 r0 x1 x2 x3 H locs ls hf
    rw [f_X13_findGates_14] at hf
    cases hf
  | succ n ih =>
    intro i0 r0 x1 x2 x3 H locs ls hf hP hD hS hl
    rw [f_X13_findGates_14] at hf
    refine lv_iload_n hx hb dX13_findGates_14 rfl (lv_at hl 3 rfl) ?_
    refine lv_bipush (v := 8) hx hb dX13_findGates_15 (by decide) ?_
    refine lv_icmp_ge (tgt := 53) hx hb dX13_findGates_17 (by decide) (fun hc => ?_) (fun hc => ?_)
    · have hf := ite_t hf hc
      refine lv_iinc (v := x2 + 1) (lv' := [(2, .int (x2 + 1)), (0, .ref h0), (1, .int x1), (3, .int x3)]) hx hb dX13_findGates_53 hl (k := 2) rfl rfl (by decide) rfl (fun ls hl => ?_)
      refine lv_goto (tgt := 7) hx hb dX13_findGates_56 (by decide) ?_
      exact hK7 _ _ _ _ _ _ _ hf hP hD hS (lv_sub hl [1, 2, 0] rfl)
    · have hf := ite_f hf hc
      refine lv_iload_n hx hb dX13_findGates_20 rfl (lv_at hl 3 rfl) ?_
      refine lv_iload_n hx hb dX13_findGates_21 rfl (lv_at hl 2 rfl) ?_
      refine lv_ishr hx hb dX13_findGates_22 ?_
      refine lv_iconst (v := 1) hx hb dX13_findGates_23 (by decide) ?_
      refine lv_iand hx hb dX13_findGates_24 ?_
      refine lv_if_ne (tgt := 47) hx hb dX13_findGates_25 (by decide) (fun hc => ?_) (fun hc => ?_)
      · have hf := ite_f hf hc
        exact w_X13_findGates_47 C _ (hK7) _ (ih) _ _ _ _ _ _ _ _ hf hP hD hS (lv_sub hl [0, 1, 2, 3] rfl)
      · have hf := ite_t hf hc
        refine lv_iload_n hx hb dX13_findGates_28 rfl (lv_at hl 1 rfl) ?_
        refine lv_iload_n hx hb dX13_findGates_29 rfl (lv_at hl 3 rfl) ?_
        obtain ⟨q5, hq5, hf⟩ := bd_s hf
        refine k_eSi (As := [.int x3]) (rest := [.int x1]) hx hb hml hown hts hK hA hZ hl.1 hP hD hS (c_X13_bits  hq5) (gSt mlX13_333 stX13_bits inX13 coX13_bits) rfl qnX13_bits rfl rfl ⟨Nat.le_of_ble_eq_true rfl, Nat.le_of_ble_eq_true rfl⟩ rfl rfl (Nat.le_of_ble_eq_true rfl) ⟨Nat.zero_le _, Nat.zero_le _⟩ dX13_findGates_30 (fun H locs hP hD hS => ?_)
        refine lv_ishr hx hb dX13_findGates_33 ?_
        refine lv_iconst (v := 1) hx hb dX13_findGates_34 (by decide) ?_
        refine lv_iand hx hb dX13_findGates_35 ?_
        refine lv_iconst (v := 1) hx hb dX13_findGates_36 (by decide) ?_
        refine lv_icmp_ne (tgt := 47) hx hb dX13_findGates_37 (by decide) (fun hc => ?_) (fun hc => ?_)
        · have hf := ite_f hf hc
          exact w_X13_findGates_47 C _ (hK7) _ (ih) _ _ _ _ _ _ _ _ hf hP hD hS (lv_sub hl [0, 1, 2, 3] rfl)
        · have hf := ite_t hf hc
          refine lv_aload_n hx hb dX13_findGates_40 rfl (lv_at hl 0 rfl) ?_
          refine lv_iload_n hx hb dX13_findGates_41 rfl (lv_at hl 2 rfl) ?_
          refine lv_iconst (v := (-1)) hx hb dX13_findGates_42 (by decide) ?_
          refine lv_iload_n hx hb dX13_findGates_43 rfl (lv_at hl 3 rfl) ?_
          obtain ⟨q6, hq6, hf⟩ := bd_s hf
          refine k_sVv (ws2 := W13 cs h0 a0 q6.1 q6.2 l0) (As := [.int x2, .int (-1), .int x3]) (rest := []) hx hb hml hown hts hK hA hZ hl.1 hP hD hS (c_X13_gate (h0 := h0) (a0 := a0) hq6) (gVt mlX13_336 imX13_gate seX13_gate inX13 coX13_gate) rfl qnX13_gate rfl rfl ⟨Nat.le_of_ble_eq_true rfl, Nat.le_of_ble_eq_true rfl⟩ 0 13 rfl rfl rfl rfl rfl (Nat.le_of_ble_eq_true rfl) ⟨Nat.zero_le _, Nat.zero_le _⟩ dX13_findGates_44 (fun H locs hP hD hS => ?_)
          exact w_X13_findGates_47 C _ (hK7) _ (ih) _ _ _ _ _ _ _ _ hf hP hD hS (lv_sub hl [0, 1, 2, 3] rfl)
def f_X13_findGates_126 (l0 : Nat → Nat → Int64) (K61 : (Nat → Int32) → (Nat → Nat → Int32) → Int32 → Int32 → Option ((Nat → Int32) × (Nat → Nat → Int32))) (K70 : (Nat → Int32) → (Nat → Nat → Int32) → Int32 → Int32 → Int32 → Option ((Nat → Int32) × (Nat → Nat → Int32))) (K78 : (Nat → Int32) → (Nat → Nat → Int32) → Int32 → Int32 → Int32 → Int32 → Option ((Nat → Int32) × (Nat → Nat → Int32))) (i0 : Nat → Int32) (r0 : Nat → Nat → Int32) (x1 : Int32) (x2 : Int32) (x3 : Int32) (x4 : Int32) : Option ((Nat → Int32) × (Nat → Nat → Int32)) := K78 i0 r0 x1 x2 x3 (x4 + 1)
set_option maxRecDepth 100000 in
set_option maxHeartbeats 4000000 in
theorem w_X13_findGates_126 {p : Program} {l : Launch} {e : Env} {s : State} {m : MethodId} {args : Array Value} {below : List Frame} {meth : Method} {c : Code} {A : Nat → Prop} {D : va_G} {cs zs : Nat → Nat} {h0 : Nat} {a0 : Nat → Nat} {l0 : Nat → Nat → Int64} {q : (Nat → Int32) × (Nat → Nat → Int32)} (C : Cx p s m args meth c A D cs zs cX13_findGates 5 none RX13) (K61 : (Nat → Int32) → (Nat → Nat → Int32) → Int32 → Int32 → Option ((Nat → Int32) × (Nat → Nat → Int32))) (hK61 : ∀ (i0 : Nat → Int32) (r0 : Nat → Nat → Int32) (x1 : Int32) (x2 : Int32) (H : Heap) (locs : List Loc) (ls : Array Slot), K61 i0 r0 x1 x2 = some q → va_P D vwCl (W13 cs h0 a0 i0 r0 l0) H → va_D A (W13 cs h0 a0 i0 r0 l0) → va_S A s.heap H locs → lv_has ls 5 [(0, .ref h0), (1, .int x1), (2, .int x2)] → W p l e rmX13_findGates s m args below meth c H locs 0 0 (MQ below (Qv D cs A (W13 cs h0 a0 q.1 q.2 l0)) args s 0 0 A) (F0 m 61 ls [])) (K70 : (Nat → Int32) → (Nat → Nat → Int32) → Int32 → Int32 → Int32 → Option ((Nat → Int32) × (Nat → Nat → Int32))) (hK70 : ∀ (i0 : Nat → Int32) (r0 : Nat → Nat → Int32) (x1 : Int32) (x2 : Int32) (x3 : Int32) (H : Heap) (locs : List Loc) (ls : Array Slot), K70 i0 r0 x1 x2 x3 = some q → va_P D vwCl (W13 cs h0 a0 i0 r0 l0) H → va_D A (W13 cs h0 a0 i0 r0 l0) → va_S A s.heap H locs → lv_has ls 5 [(0, .ref h0), (1, .int x1), (2, .int x2), (3, .int x3)] → W p l e rmX13_findGates s m args below meth c H locs 0 0 (MQ below (Qv D cs A (W13 cs h0 a0 q.1 q.2 l0)) args s 0 0 A) (F0 m 70 ls [])) (K78 : (Nat → Int32) → (Nat → Nat → Int32) → Int32 → Int32 → Int32 → Int32 → Option ((Nat → Int32) × (Nat → Nat → Int32))) (hK78 : ∀ (i0 : Nat → Int32) (r0 : Nat → Nat → Int32) (x1 : Int32) (x2 : Int32) (x3 : Int32) (x4 : Int32) (H : Heap) (locs : List Loc) (ls : Array Slot), K78 i0 r0 x1 x2 x3 x4 = some q → va_P D vwCl (W13 cs h0 a0 i0 r0 l0) H → va_D A (W13 cs h0 a0 i0 r0 l0) → va_S A s.heap H locs → lv_has ls 5 [(0, .ref h0), (1, .int x1), (2, .int x2), (3, .int x3), (4, .int x4)] → W p l e rmX13_findGates s m args below meth c H locs 0 0 (MQ below (Qv D cs A (W13 cs h0 a0 q.1 q.2 l0)) args s 0 0 A) (F0 m 78 ls [])) : ∀ (i0 : Nat → Int32) (r0 : Nat → Nat → Int32) (x1 : Int32) (x2 : Int32) (x3 : Int32) (x4 : Int32) (H : Heap) (locs : List Loc) (ls : Array Slot), f_X13_findGates_126 l0 K61 K70 K78 i0 r0 x1 x2 x3 x4 = some q → va_P D vwCl (W13 cs h0 a0 i0 r0 l0) H → va_D A (W13 cs h0 a0 i0 r0 l0) → va_S A s.heap H locs → lv_has ls 5 [(0, .ref h0), (1, .int x1), (2, .int x2), (3, .int x3), (4, .int x4)] → W p l e rmX13_findGates s m args below meth c H locs 0 0 (MQ below (Qv D cs A (W13 cs h0 a0 q.1 q.2 l0)) args s 0 0 A) (F0 m 126 ls []) := by
  obtain ⟨hx, hb, hr, hml, hown, hts, hK, hA, hlocks, hZ⟩ := id C
  intro i0 r0 x1 x2 x3 x4 H locs ls hf hP hD hS hl
  rw [f_X13_findGates_126] at hf
  refine lv_iinc (v := x4 + 1) (lv' := [(4, .int (x4 + 1)), (0, .ref h0), (1, .int x1), (2, .int x2), (3, .int x3)]) hx hb dX13_findGates_126 hl (k := 4) rfl rfl (by decide) rfl (fun ls hl => ?_)
  refine lv_goto (tgt := 78) hx hb dX13_findGates_129 (by decide) ?_
  exact hK78 _ _ _ _ _ _ _ _ _ hf hP hD hS (lv_sub hl [1, 2, 3, 4, 0] rfl)
def f_X13_findGates_78 (l0 : Nat → Nat → Int64) (K61 : (Nat → Int32) → (Nat → Nat → Int32) → Int32 → Int32 → Option ((Nat → Int32) × (Nat → Nat → Int32))) (K70 : (Nat → Int32) → (Nat → Nat → Int32) → Int32 → Int32 → Int32 → Option ((Nat → Int32) × (Nat → Nat → Int32))) : Nat → (Nat → Int32) → (Nat → Nat → Int32) → Int32 → Int32 → Int32 → Int32 → Option ((Nat → Int32) × (Nat → Nat → Int32))
  | 0, _, _, _, _, _, _ => none
  | n + 1, i0, r0, x1, x2, x3, x4 => if 8 ≤ x4 then (K70 i0 r0 x1 x2 (x3 + 1)) else (if ((x4 >>> (x2 &&& 31)) &&& 1) = 0 then (if ((x4 >>> (x3 &&& 31)) &&& 1) = 0 then (bd (f_X13_bits x4) (fun q7 => if ((x1 >>> ((3 + q7) &&& 31)) &&& 1) = 1 then (bd (f_X13_gate i0 r0 l0 x2 x3 x4) (fun q8 => f_X13_findGates_126 l0 K61 K70 (f_X13_findGates_78 l0 K61 K70 n) q8.1 q8.2 x1 x2 x3 x4)) else (f_X13_findGates_126 l0 K61 K70 (f_X13_findGates_78 l0 K61 K70 n) i0 r0 x1 x2 x3 x4))) else (f_X13_findGates_126 l0 K61 K70 (f_X13_findGates_78 l0 K61 K70 n) i0 r0 x1 x2 x3 x4)) else (f_X13_findGates_126 l0 K61 K70 (f_X13_findGates_78 l0 K61 K70 n) i0 r0 x1 x2 x3 x4))
set_option maxRecDepth 100000 in
set_option maxHeartbeats 4000000 in
theorem w_X13_findGates_78 {p : Program} {l : Launch} {e : Env} {s : State} {m : MethodId} {args : Array Value} {below : List Frame} {meth : Method} {c : Code} {A : Nat → Prop} {D : va_G} {cs zs : Nat → Nat} {h0 : Nat} {a0 : Nat → Nat} {l0 : Nat → Nat → Int64} {q : (Nat → Int32) × (Nat → Nat → Int32)} (C : Cx p s m args meth c A D cs zs cX13_findGates 5 none RX13) (K61 : (Nat → Int32) → (Nat → Nat → Int32) → Int32 → Int32 → Option ((Nat → Int32) × (Nat → Nat → Int32))) (hK61 : ∀ (i0 : Nat → Int32) (r0 : Nat → Nat → Int32) (x1 : Int32) (x2 : Int32) (H : Heap) (locs : List Loc) (ls : Array Slot), K61 i0 r0 x1 x2 = some q → va_P D vwCl (W13 cs h0 a0 i0 r0 l0) H → va_D A (W13 cs h0 a0 i0 r0 l0) → va_S A s.heap H locs → lv_has ls 5 [(0, .ref h0), (1, .int x1), (2, .int x2)] → W p l e rmX13_findGates s m args below meth c H locs 0 0 (MQ below (Qv D cs A (W13 cs h0 a0 q.1 q.2 l0)) args s 0 0 A) (F0 m 61 ls [])) (K70 : (Nat → Int32) → (Nat → Nat → Int32) → Int32 → Int32 → Int32 → Option ((Nat → Int32) × (Nat → Nat → Int32))) (hK70 : ∀ (i0 : Nat → Int32) (r0 : Nat → Nat → Int32) (x1 : Int32) (x2 : Int32) (x3 : Int32) (H : Heap) (locs : List Loc) (ls : Array Slot), K70 i0 r0 x1 x2 x3 = some q → va_P D vwCl (W13 cs h0 a0 i0 r0 l0) H → va_D A (W13 cs h0 a0 i0 r0 l0) → va_S A s.heap H locs → lv_has ls 5 [(0, .ref h0), (1, .int x1), (2, .int x2), (3, .int x3)] → W p l e rmX13_findGates s m args below meth c H locs 0 0 (MQ below (Qv D cs A (W13 cs h0 a0 q.1 q.2 l0)) args s 0 0 A) (F0 m 70 ls [])) : ∀ (n : Nat), ∀ (i0 : Nat → Int32) (r0 : Nat → Nat → Int32) (x1 : Int32) (x2 : Int32) (x3 : Int32) (x4 : Int32) (H : Heap) (locs : List Loc) (ls : Array Slot), f_X13_findGates_78 l0 K61 K70 n i0 r0 x1 x2 x3 x4 = some q → va_P D vwCl (W13 cs h0 a0 i0 r0 l0) H → va_D A (W13 cs h0 a0 i0 r0 l0) → va_S A s.heap H locs → lv_has ls 5 [(0, .ref h0), (1, .int x1), (2, .int x2), (3, .int x3), (4, .int x4)] → W p l e rmX13_findGates s m args below meth c H locs 0 0 (MQ below (Qv D cs A (W13 cs h0 a0 q.1 q.2 l0)) args s 0 0 A) (F0 m 78 ls []) := by
  obtain ⟨hx, hb, hr, hml, hown, hts, hK, hA, hlocks, hZ⟩ := id C
  intro n
  induction n with
  | zero =>
    intro i0 r0 x1 x2 x3 x4 H locs ls hf
    rw [f_X13_findGates_78] at hf
    cases hf
  | succ n ih =>
    intro i0 r0 x1 x2 x3 x4 H locs ls hf hP hD hS hl
    rw [f_X13_findGates_78] at hf
    refine lv_iload hx hb dX13_findGates_78 (lv_at hl 4 rfl) ?_
    refine lv_bipush (v := 8) hx hb dX13_findGates_80 (by decide) ?_
    refine lv_icmp_ge (tgt := 132) hx hb dX13_findGates_82 (by decide) (fun hc => ?_) (fun hc => ?_)
    · have hf := ite_t hf hc
      refine lv_iinc (v := x3 + 1) (lv' := [(3, .int (x3 + 1)), (0, .ref h0), (1, .int x1), (2, .int x2), (4, .int x4)]) hx hb dX13_findGates_132 hl (k := 3) rfl rfl (by decide) rfl (fun ls hl => ?_)
      refine lv_goto (tgt := 70) hx hb dX13_findGates_135 (by decide) ?_
      exact hK70 _ _ _ _ _ _ _ _ hf hP hD hS (lv_sub hl [1, 2, 3, 0] rfl)
    · have hf := ite_f hf hc
      refine lv_iload hx hb dX13_findGates_85 (lv_at hl 4 rfl) ?_
      refine lv_iload_n hx hb dX13_findGates_87 rfl (lv_at hl 2 rfl) ?_
      refine lv_ishr hx hb dX13_findGates_88 ?_
      refine lv_iconst (v := 1) hx hb dX13_findGates_89 (by decide) ?_
      refine lv_iand hx hb dX13_findGates_90 ?_
      refine lv_if_ne (tgt := 126) hx hb dX13_findGates_91 (by decide) (fun hc => ?_) (fun hc => ?_)
      · have hf := ite_f hf hc
        exact w_X13_findGates_126 C _ (hK61) _ (hK70) _ (ih) _ _ _ _ _ _ _ _ _ hf hP hD hS (lv_sub hl [0, 1, 2, 3, 4] rfl)
      · have hf := ite_t hf hc
        refine lv_iload hx hb dX13_findGates_94 (lv_at hl 4 rfl) ?_
        refine lv_iload_n hx hb dX13_findGates_96 rfl (lv_at hl 3 rfl) ?_
        refine lv_ishr hx hb dX13_findGates_97 ?_
        refine lv_iconst (v := 1) hx hb dX13_findGates_98 (by decide) ?_
        refine lv_iand hx hb dX13_findGates_99 ?_
        refine lv_if_ne (tgt := 126) hx hb dX13_findGates_100 (by decide) (fun hc => ?_) (fun hc => ?_)
        · have hf := ite_f hf hc
          exact w_X13_findGates_126 C _ (hK61) _ (hK70) _ (ih) _ _ _ _ _ _ _ _ _ hf hP hD hS (lv_sub hl [0, 1, 2, 3, 4] rfl)
        · have hf := ite_t hf hc
          refine lv_iload_n hx hb dX13_findGates_103 rfl (lv_at hl 1 rfl) ?_
          refine lv_iconst (v := 3) hx hb dX13_findGates_104 (by decide) ?_
          refine lv_iload hx hb dX13_findGates_105 (lv_at hl 4 rfl) ?_
          obtain ⟨q7, hq7, hf⟩ := bd_s hf
          refine k_eSi (As := [.int x4]) (rest := [.int 3, .int x1]) hx hb hml hown hts hK hA hZ hl.1 hP hD hS (c_X13_bits  hq7) (gSt mlX13_333 stX13_bits inX13 coX13_bits) rfl qnX13_bits rfl rfl ⟨Nat.le_of_ble_eq_true rfl, Nat.le_of_ble_eq_true rfl⟩ rfl rfl (Nat.le_of_ble_eq_true rfl) ⟨Nat.zero_le _, Nat.zero_le _⟩ dX13_findGates_107 (fun H locs hP hD hS => ?_)
          refine lv_iadd hx hb dX13_findGates_110 ?_
          refine lv_ishr hx hb dX13_findGates_111 ?_
          refine lv_iconst (v := 1) hx hb dX13_findGates_112 (by decide) ?_
          refine lv_iand hx hb dX13_findGates_113 ?_
          refine lv_iconst (v := 1) hx hb dX13_findGates_114 (by decide) ?_
          refine lv_icmp_ne (tgt := 126) hx hb dX13_findGates_115 (by decide) (fun hc => ?_) (fun hc => ?_)
          · have hf := ite_f hf hc
            exact w_X13_findGates_126 C _ (hK61) _ (hK70) _ (ih) _ _ _ _ _ _ _ _ _ hf hP hD hS (lv_sub hl [0, 1, 2, 3, 4] rfl)
          · have hf := ite_t hf hc
            refine lv_aload_n hx hb dX13_findGates_118 rfl (lv_at hl 0 rfl) ?_
            refine lv_iload_n hx hb dX13_findGates_119 rfl (lv_at hl 2 rfl) ?_
            refine lv_iload_n hx hb dX13_findGates_120 rfl (lv_at hl 3 rfl) ?_
            refine lv_iload hx hb dX13_findGates_121 (lv_at hl 4 rfl) ?_
            obtain ⟨q8, hq8, hf⟩ := bd_s hf
            refine k_sVv (ws2 := W13 cs h0 a0 q8.1 q8.2 l0) (As := [.int x2, .int x3, .int x4]) (rest := []) hx hb hml hown hts hK hA hZ hl.1 hP hD hS (c_X13_gate (h0 := h0) (a0 := a0) hq8) (gVt mlX13_336 imX13_gate seX13_gate inX13 coX13_gate) rfl qnX13_gate rfl rfl ⟨Nat.le_of_ble_eq_true rfl, Nat.le_of_ble_eq_true rfl⟩ 0 13 rfl rfl rfl rfl rfl (Nat.le_of_ble_eq_true rfl) ⟨Nat.zero_le _, Nat.zero_le _⟩ dX13_findGates_123 (fun H locs hP hD hS => ?_)
            exact w_X13_findGates_126 C _ (hK61) _ (hK70) _ (ih) _ _ _ _ _ _ _ _ _ hf hP hD hS (lv_sub hl [0, 1, 2, 3, 4] rfl)
def f_X13_findGates_70 (l0 : Nat → Nat → Int64) (K61 : (Nat → Int32) → (Nat → Nat → Int32) → Int32 → Int32 → Option ((Nat → Int32) × (Nat → Nat → Int32))) : Nat → (Nat → Int32) → (Nat → Nat → Int32) → Int32 → Int32 → Int32 → Option ((Nat → Int32) × (Nat → Nat → Int32))
  | 0, _, _, _, _, _ => none
  | n + 1, i0, r0, x1, x2, x3 => if 3 ≤ x3 then (K61 i0 r0 x1 (x2 + 1)) else (f_X13_findGates_78 l0 K61 (f_X13_findGates_70 l0 K61 n) 2000000 i0 r0 x1 x2 x3 0)
set_option maxRecDepth 100000 in
set_option maxHeartbeats 4000000 in
theorem w_X13_findGates_70 {p : Program} {l : Launch} {e : Env} {s : State} {m : MethodId} {args : Array Value} {below : List Frame} {meth : Method} {c : Code} {A : Nat → Prop} {D : va_G} {cs zs : Nat → Nat} {h0 : Nat} {a0 : Nat → Nat} {l0 : Nat → Nat → Int64} {q : (Nat → Int32) × (Nat → Nat → Int32)} (C : Cx p s m args meth c A D cs zs cX13_findGates 5 none RX13) (K61 : (Nat → Int32) → (Nat → Nat → Int32) → Int32 → Int32 → Option ((Nat → Int32) × (Nat → Nat → Int32))) (hK61 : ∀ (i0 : Nat → Int32) (r0 : Nat → Nat → Int32) (x1 : Int32) (x2 : Int32) (H : Heap) (locs : List Loc) (ls : Array Slot), K61 i0 r0 x1 x2 = some q → va_P D vwCl (W13 cs h0 a0 i0 r0 l0) H → va_D A (W13 cs h0 a0 i0 r0 l0) → va_S A s.heap H locs → lv_has ls 5 [(0, .ref h0), (1, .int x1), (2, .int x2)] → W p l e rmX13_findGates s m args below meth c H locs 0 0 (MQ below (Qv D cs A (W13 cs h0 a0 q.1 q.2 l0)) args s 0 0 A) (F0 m 61 ls [])) : ∀ (n : Nat), ∀ (i0 : Nat → Int32) (r0 : Nat → Nat → Int32) (x1 : Int32) (x2 : Int32) (x3 : Int32) (H : Heap) (locs : List Loc) (ls : Array Slot), f_X13_findGates_70 l0 K61 n i0 r0 x1 x2 x3 = some q → va_P D vwCl (W13 cs h0 a0 i0 r0 l0) H → va_D A (W13 cs h0 a0 i0 r0 l0) → va_S A s.heap H locs → lv_has ls 5 [(0, .ref h0), (1, .int x1), (2, .int x2), (3, .int x3)] → W p l e rmX13_findGates s m args below meth c H locs 0 0 (MQ below (Qv D cs A (W13 cs h0 a0 q.1 q.2 l0)) args s 0 0 A) (F0 m 70 ls []) := by
  obtain ⟨hx, hb, hr, hml, hown, hts, hK, hA, hlocks, hZ⟩ := id C
  intro n
  induction n with
  | zero =>
    intro i0 r0 x1 x2 x3 H locs ls hf
    rw [f_X13_findGates_70] at hf
    cases hf
  | succ n ih =>
    intro i0 r0 x1 x2 x3 H locs ls hf hP hD hS hl
    rw [f_X13_findGates_70] at hf
    refine lv_iload_n hx hb dX13_findGates_70 rfl (lv_at hl 3 rfl) ?_
    refine lv_iconst (v := 3) hx hb dX13_findGates_71 (by decide) ?_
    refine lv_icmp_ge (tgt := 138) hx hb dX13_findGates_72 (by decide) (fun hc => ?_) (fun hc => ?_)
    · have hf := ite_t hf hc
      refine lv_iinc (v := x2 + 1) (lv' := [(2, .int (x2 + 1)), (0, .ref h0), (1, .int x1), (3, .int x3)]) hx hb dX13_findGates_138 hl (k := 2) rfl rfl (by decide) rfl (fun ls hl => ?_)
      refine lv_goto (tgt := 61) hx hb dX13_findGates_141 (by decide) ?_
      exact hK61 _ _ _ _ _ _ _ hf hP hD hS (lv_sub hl [1, 2, 0] rfl)
    · have hf := ite_f hf hc
      refine lv_iconst (v := 0) hx hb dX13_findGates_75 (by decide) ?_
      refine lv_istore (lv' := [(4, .int 0), (0, .ref h0), (1, .int x1), (2, .int x2), (3, .int x3)]) hx hb dX13_findGates_76 hl (by decide) rfl (fun ls hl => ?_)
      exact w_X13_findGates_78 C _ (hK61) _ (ih) 2000000 _ _ _ _ _ _ _ _ _ hf hP hD hS (lv_sub hl [1, 2, 3, 4, 0] rfl)
def f_X13_findGates_61 (l0 : Nat → Nat → Int64)  : Nat → (Nat → Int32) → (Nat → Nat → Int32) → Int32 → Int32 → Option ((Nat → Int32) × (Nat → Nat → Int32))
  | 0, _, _, _, _ => none
  | n + 1, i0, r0, x1, x2 => if 3 ≤ x2 then (some (i0, r0)) else (f_X13_findGates_70 l0 (f_X13_findGates_61 l0 n) 2000000 i0 r0 x1 x2 (x2 + 1))
set_option maxRecDepth 100000 in
set_option maxHeartbeats 4000000 in
theorem w_X13_findGates_61 {p : Program} {l : Launch} {e : Env} {s : State} {m : MethodId} {args : Array Value} {below : List Frame} {meth : Method} {c : Code} {A : Nat → Prop} {D : va_G} {cs zs : Nat → Nat} {h0 : Nat} {a0 : Nat → Nat} {l0 : Nat → Nat → Int64} {q : (Nat → Int32) × (Nat → Nat → Int32)} (C : Cx p s m args meth c A D cs zs cX13_findGates 5 none RX13)  : ∀ (n : Nat), ∀ (i0 : Nat → Int32) (r0 : Nat → Nat → Int32) (x1 : Int32) (x2 : Int32) (H : Heap) (locs : List Loc) (ls : Array Slot), f_X13_findGates_61 l0 n i0 r0 x1 x2 = some q → va_P D vwCl (W13 cs h0 a0 i0 r0 l0) H → va_D A (W13 cs h0 a0 i0 r0 l0) → va_S A s.heap H locs → lv_has ls 5 [(0, .ref h0), (1, .int x1), (2, .int x2)] → W p l e rmX13_findGates s m args below meth c H locs 0 0 (MQ below (Qv D cs A (W13 cs h0 a0 q.1 q.2 l0)) args s 0 0 A) (F0 m 61 ls []) := by
  obtain ⟨hx, hb, hr, hml, hown, hts, hK, hA, hlocks, hZ⟩ := id C
  intro n
  induction n with
  | zero =>
    intro i0 r0 x1 x2 H locs ls hf
    rw [f_X13_findGates_61] at hf
    cases hf
  | succ n ih =>
    intro i0 r0 x1 x2 H locs ls hf hP hD hS hl
    rw [f_X13_findGates_61] at hf
    refine lv_iload_n hx hb dX13_findGates_61 rfl (lv_at hl 2 rfl) ?_
    refine lv_iconst (v := 3) hx hb dX13_findGates_62 (by decide) ?_
    refine lv_icmp_ge (tgt := 144) hx hb dX13_findGates_63 (by decide) (fun hc => ?_) (fun hc => ?_)
    · have hf := ite_t hf hc
      obtain rfl := Option.some.inj hf
      exact k_vret hx hb hr hlocks hK hP hD hS dX13_findGates_144
    · have hf := ite_f hf hc
      refine lv_iload_n hx hb dX13_findGates_66 rfl (lv_at hl 2 rfl) ?_
      refine lv_iconst (v := 1) hx hb dX13_findGates_67 (by decide) ?_
      refine lv_iadd hx hb dX13_findGates_68 ?_
      refine lv_istore_n (lv' := [(3, .int (x2 + 1)), (0, .ref h0), (1, .int x1), (2, .int x2)]) hx hb dX13_findGates_69 rfl hl (by decide) rfl (fun ls hl => ?_)
      exact w_X13_findGates_70 C _ (ih) 2000000 _ _ _ _ _ _ _ _ hf hP hD hS (lv_sub hl [1, 2, 3, 0] rfl)
def f_X13_findGates_7 (l0 : Nat → Nat → Int64)  : Nat → (Nat → Int32) → (Nat → Nat → Int32) → Int32 → Int32 → Option ((Nat → Int32) × (Nat → Nat → Int32))
  | 0, _, _, _, _ => none
  | n + 1, i0, r0, x1, x2 => if 3 ≤ x2 then (f_X13_findGates_61 l0 2000000 i0 r0 x1 0) else (f_X13_findGates_14 l0 (f_X13_findGates_7 l0 n) 2000000 i0 r0 x1 x2 0)
set_option maxRecDepth 100000 in
set_option maxHeartbeats 4000000 in
theorem w_X13_findGates_7 {p : Program} {l : Launch} {e : Env} {s : State} {m : MethodId} {args : Array Value} {below : List Frame} {meth : Method} {c : Code} {A : Nat → Prop} {D : va_G} {cs zs : Nat → Nat} {h0 : Nat} {a0 : Nat → Nat} {l0 : Nat → Nat → Int64} {q : (Nat → Int32) × (Nat → Nat → Int32)} (C : Cx p s m args meth c A D cs zs cX13_findGates 5 none RX13)  : ∀ (n : Nat), ∀ (i0 : Nat → Int32) (r0 : Nat → Nat → Int32) (x1 : Int32) (x2 : Int32) (H : Heap) (locs : List Loc) (ls : Array Slot), f_X13_findGates_7 l0 n i0 r0 x1 x2 = some q → va_P D vwCl (W13 cs h0 a0 i0 r0 l0) H → va_D A (W13 cs h0 a0 i0 r0 l0) → va_S A s.heap H locs → lv_has ls 5 [(0, .ref h0), (1, .int x1), (2, .int x2)] → W p l e rmX13_findGates s m args below meth c H locs 0 0 (MQ below (Qv D cs A (W13 cs h0 a0 q.1 q.2 l0)) args s 0 0 A) (F0 m 7 ls []) := by
  obtain ⟨hx, hb, hr, hml, hown, hts, hK, hA, hlocks, hZ⟩ := id C
  intro n
  induction n with
  | zero =>
    intro i0 r0 x1 x2 H locs ls hf
    rw [f_X13_findGates_7] at hf
    cases hf
  | succ n ih =>
    intro i0 r0 x1 x2 H locs ls hf hP hD hS hl
    rw [f_X13_findGates_7] at hf
    refine lv_iload_n hx hb dX13_findGates_7 rfl (lv_at hl 2 rfl) ?_
    refine lv_iconst (v := 3) hx hb dX13_findGates_8 (by decide) ?_
    refine lv_icmp_ge (tgt := 59) hx hb dX13_findGates_9 (by decide) (fun hc => ?_) (fun hc => ?_)
    · have hf := ite_t hf hc
      refine lv_iconst (v := 0) hx hb dX13_findGates_59 (by decide) ?_
      refine lv_istore_n (lv' := [(2, .int 0), (0, .ref h0), (1, .int x1)]) hx hb dX13_findGates_60 rfl hl (by decide) rfl (fun ls hl => ?_)
      exact w_X13_findGates_61 C  2000000 _ _ _ _ _ _ _ hf hP hD hS (lv_sub hl [1, 2, 0] rfl)
    · have hf := ite_f hf hc
      refine lv_iconst (v := 0) hx hb dX13_findGates_12 (by decide) ?_
      refine lv_istore_n (lv' := [(3, .int 0), (0, .ref h0), (1, .int x1), (2, .int x2)]) hx hb dX13_findGates_13 rfl hl (by decide) rfl (fun ls hl => ?_)
      exact w_X13_findGates_14 C _ (ih) 2000000 _ _ _ _ _ _ _ _ hf hP hD hS (lv_sub hl [1, 2, 3, 0] rfl)
def f_X13_findGates  (i0 : Nat → Int32) (r0 : Nat → Nat → Int32) (l0 : Nat → Nat → Int64) (x1 : Int32) : Option ((Nat → Int32) × (Nat → Nat → Int32)) := f_X13_findGates_7 l0 2000000 (upd i0 24 0) r0 x1 0
set_option maxRecDepth 100000 in
set_option maxHeartbeats 4000000 in
theorem c_X13_findGates {l : Launch} {D : va_G} {cs zs : Nat → Nat} {h0 : Nat} {a0 : Nat → Nat} {i0 : Nat → Int32} {r0 : Nat → Nat → Int32} {l0 : Nat → Nat → Int64} {x1 : Int32} {q : (Nat → Int32) × (Nat → Nat → Int32)} (hf : f_X13_findGates i0 r0 l0 x1 = some q) : Mv l yX13_findGates wlX13_findGates rmX13_findGates D cs zs [.ref h0, .int x1] (W13 cs h0 a0 i0 r0 l0) (W13 cs h0 a0 q.1 q.2 l0) := by
  refine Mv.of RX13 (by decide) rfl (Nat.le_of_ble_eq_true rfl) (fun p e s m below meth c A C hP hD hS ls hl => ?_)
  generalize ([.ref h0, .int x1] : List Value).toArray = args at C ⊢
  obtain ⟨hx, hb, hr, hml, hown, hts, hK, hA, hlocks, hZ⟩ := id C
  have hl : lv_has ls 5 [(0, .ref h0), (1, .int x1)] := hl
  rw [f_X13_findGates] at hf
  refine lv_aload_n hx hb dX13_findGates_0 rfl (lv_at hl 0 rfl) ?_
  refine lv_iconst (v := 0) hx hb dX13_findGates_1 (by decide) ?_
  refine va_put (D := D) (ci := 13) (v := .int 0) (ty := .int) (C := RX13) (T := TX13) (N := 87) hx hb hts hiX13 tyX13 tyX13_ok nmX13 hown hK hP hD hS 0 rfl rfl 24 (by decide) (hts _ flX13_330) (fun _ h9 => h9) rfl (tyX13_ok 24 (by decide)) rfl rfl (Nat.le_of_ble_eq_true rfl) dX13_findGates_2 (fun H locs hP hD hS => ?_)
  obtain ⟨hP, hD⟩ := st13_24 hP hD
  refine lv_iconst (v := 0) hx hb dX13_findGates_5 (by decide) ?_
  refine lv_istore_n (lv' := [(2, .int 0), (0, .ref h0), (1, .int x1)]) hx hb dX13_findGates_6 rfl hl (by decide) rfl (fun ls hl => ?_)
  exact w_X13_findGates_7 C  2000000 _ _ _ _ _ _ _ hf hP hD hS (lv_sub hl [1, 2, 0] rfl)
/-! MarbleFloorModel.rank([I)I -/
abbrev wlX13_rank : List Cond := Cond.code yX13_rank cX13_rank 5 (some .int) :: tbG
abbrev rmX13_rank : Room := { frames := 0, cells := 0, slots := 0, locals := 0 }
theorem qnX13_rank : yX13_rank.cls ≠ "java/lang/invoke/MethodHandle" ∧ yX13_rank.cls ≠ "java/lang/invoke/VarHandle" ∧ (parseMethodDescriptor yX13_rank.desc).map (fun d => d.parameters.length) = some 1 := by decide +kernel
def f_X13_rank_40 (n0 : Nat) (g0 : Nat → Int32) (K4 : Int32 → Int32 → Option (Int32)) (K17 : Int32 → Int32 → Int32 → Int32 → Option (Int32)) (x1 : Int32) (x2 : Int32) (x4 : Int32) (y0 : Int32) (y1 : Int32) : Option (Int32) := K17 x1 x2 (y1 + y0) (x4 + 1)
set_option maxRecDepth 100000 in
set_option maxHeartbeats 4000000 in
theorem w_X13_rank_40 {p : Program} {l : Launch} {e : Env} {s : State} {m : MethodId} {args : Array Value} {below : List Frame} {meth : Method} {c : Code} {A : Nat → Prop} {D : va_G} {cs zs : Nat → Nat} {h0 n0 : Nat} {g0 : Nat → Int32} {q : Int32} (C : Cx p s m args meth c A D cs zs cX13_rank 5 (some .int) RX13) (K4 : Int32 → Int32 → Option (Int32)) (hK4 : ∀ (x1 : Int32) (x2 : Int32) (H : Heap) (locs : List Loc) (ls : Array Slot), K4 x1 x2 = some q → va_P D vwCl ([(h0, .inl (cs 0, n0, .inl g0))]) H → va_D A ([(h0, .inl (cs 0, n0, .inl g0))]) → va_S A s.heap H locs → lv_has ls 5 [(0, .ref h0), (1, .int x1), (2, .int x2)] → W p l e rmX13_rank s m args below meth c H locs 0 0 (MQ below (Qi D cs A q ([(h0, .inl (cs 0, n0, .inl g0))])) args s 0 0 A) (F0 m 4 ls [])) (K17 : Int32 → Int32 → Int32 → Int32 → Option (Int32)) (hK17 : ∀ (x1 : Int32) (x2 : Int32) (x3 : Int32) (x4 : Int32) (H : Heap) (locs : List Loc) (ls : Array Slot), K17 x1 x2 x3 x4 = some q → va_P D vwCl ([(h0, .inl (cs 0, n0, .inl g0))]) H → va_D A ([(h0, .inl (cs 0, n0, .inl g0))]) → va_S A s.heap H locs → lv_has ls 5 [(0, .ref h0), (1, .int x1), (2, .int x2), (3, .int x3), (4, .int x4)] → W p l e rmX13_rank s m args below meth c H locs 0 0 (MQ below (Qi D cs A q ([(h0, .inl (cs 0, n0, .inl g0))])) args s 0 0 A) (F0 m 17 ls [])) : ∀ (x1 : Int32) (x2 : Int32) (x4 : Int32) (y0 : Int32) (y1 : Int32) (H : Heap) (locs : List Loc) (ls : Array Slot), f_X13_rank_40 n0 g0 K4 K17 x1 x2 x4 y0 y1 = some q → va_P D vwCl ([(h0, .inl (cs 0, n0, .inl g0))]) H → va_D A ([(h0, .inl (cs 0, n0, .inl g0))]) → va_S A s.heap H locs → lv_has ls 5 [(0, .ref h0), (1, .int x1), (2, .int x2), (4, .int x4)] → W p l e rmX13_rank s m args below meth c H locs 0 0 (MQ below (Qi D cs A q ([(h0, .inl (cs 0, n0, .inl g0))])) args s 0 0 A) (F0 m 40 ls [.int y0, .int y1]) := by
  obtain ⟨hx, hb, hr, hml, hown, hts, hK, hA, hlocks, hZ⟩ := id C
  intro x1 x2 x4 y0 y1 H locs ls hf hP hD hS hl
  rw [f_X13_rank_40] at hf
  refine lv_iadd hx hb dX13_rank_40 ?_
  refine lv_istore_n (lv' := [(3, .int (y1 + y0)), (0, .ref h0), (1, .int x1), (2, .int x2), (4, .int x4)]) hx hb dX13_rank_41 rfl hl (by decide) rfl (fun ls hl => ?_)
  refine lv_iinc (v := x4 + 1) (lv' := [(4, .int (x4 + 1)), (3, .int (y1 + y0)), (0, .ref h0), (1, .int x1), (2, .int x2)]) hx hb dX13_rank_42 hl (k := 4) rfl rfl (by decide) rfl (fun ls hl => ?_)
  refine lv_goto (tgt := 17) hx hb dX13_rank_45 (by decide) ?_
  exact hK17 _ _ _ _ _ _ _ hf hP hD hS (lv_sub hl [2, 3, 4, 1, 0] rfl)
def f_X13_rank_17 (n0 : Nat) (g0 : Nat → Int32) (K4 : Int32 → Int32 → Option (Int32)) : Nat → Int32 → Int32 → Int32 → Int32 → Option (Int32)
  | 0, _, _, _, _ => none
  | n + 1, x1, x2, x3, x4 => if 8 ≤ x4 then (K4 ((x1 * (8 - x2)) + x3) (x2 + 1)) else (ck (inb x4 n0) (ck (inb x2 n0) (if (g0 x2.toNatClampNeg) ≤ (g0 x4.toNatClampNeg) then (f_X13_rank_40 n0 g0 K4 (f_X13_rank_17 n0 g0 K4 n) x1 x2 x4 0 x3) else (f_X13_rank_40 n0 g0 K4 (f_X13_rank_17 n0 g0 K4 n) x1 x2 x4 1 x3))))
set_option maxRecDepth 100000 in
set_option maxHeartbeats 4000000 in
theorem w_X13_rank_17 {p : Program} {l : Launch} {e : Env} {s : State} {m : MethodId} {args : Array Value} {below : List Frame} {meth : Method} {c : Code} {A : Nat → Prop} {D : va_G} {cs zs : Nat → Nat} {h0 n0 : Nat} {g0 : Nat → Int32} {q : Int32} (C : Cx p s m args meth c A D cs zs cX13_rank 5 (some .int) RX13) (K4 : Int32 → Int32 → Option (Int32)) (hK4 : ∀ (x1 : Int32) (x2 : Int32) (H : Heap) (locs : List Loc) (ls : Array Slot), K4 x1 x2 = some q → va_P D vwCl ([(h0, .inl (cs 0, n0, .inl g0))]) H → va_D A ([(h0, .inl (cs 0, n0, .inl g0))]) → va_S A s.heap H locs → lv_has ls 5 [(0, .ref h0), (1, .int x1), (2, .int x2)] → W p l e rmX13_rank s m args below meth c H locs 0 0 (MQ below (Qi D cs A q ([(h0, .inl (cs 0, n0, .inl g0))])) args s 0 0 A) (F0 m 4 ls [])) : ∀ (n : Nat), ∀ (x1 : Int32) (x2 : Int32) (x3 : Int32) (x4 : Int32) (H : Heap) (locs : List Loc) (ls : Array Slot), f_X13_rank_17 n0 g0 K4 n x1 x2 x3 x4 = some q → va_P D vwCl ([(h0, .inl (cs 0, n0, .inl g0))]) H → va_D A ([(h0, .inl (cs 0, n0, .inl g0))]) → va_S A s.heap H locs → lv_has ls 5 [(0, .ref h0), (1, .int x1), (2, .int x2), (3, .int x3), (4, .int x4)] → W p l e rmX13_rank s m args below meth c H locs 0 0 (MQ below (Qi D cs A q ([(h0, .inl (cs 0, n0, .inl g0))])) args s 0 0 A) (F0 m 17 ls []) := by
  obtain ⟨hx, hb, hr, hml, hown, hts, hK, hA, hlocks, hZ⟩ := id C
  intro n
  induction n with
  | zero =>
    intro x1 x2 x3 x4 H locs ls hf
    rw [f_X13_rank_17] at hf
    cases hf
  | succ n ih =>
    intro x1 x2 x3 x4 H locs ls hf hP hD hS hl
    rw [f_X13_rank_17] at hf
    refine lv_iload hx hb dX13_rank_17 (lv_at hl 4 rfl) ?_
    refine lv_bipush (v := 8) hx hb dX13_rank_19 (by decide) ?_
    refine lv_icmp_ge (tgt := 48) hx hb dX13_rank_21 (by decide) (fun hc => ?_) (fun hc => ?_)
    · have hf := ite_t hf hc
      refine lv_iload_n hx hb dX13_rank_48 rfl (lv_at hl 1 rfl) ?_
      refine lv_bipush (v := 8) hx hb dX13_rank_49 (by decide) ?_
      refine lv_iload_n hx hb dX13_rank_51 rfl (lv_at hl 2 rfl) ?_
      refine lv_isub hx hb dX13_rank_52 ?_
      refine lv_imul hx hb dX13_rank_53 ?_
      refine lv_iload_n hx hb dX13_rank_54 rfl (lv_at hl 3 rfl) ?_
      refine lv_iadd hx hb dX13_rank_55 ?_
      refine lv_istore_n (lv' := [(1, .int ((x1 * (8 - x2)) + x3)), (0, .ref h0), (2, .int x2), (3, .int x3), (4, .int x4)]) hx hb dX13_rank_56 rfl hl (by decide) rfl (fun ls hl => ?_)
      refine lv_iinc (v := x2 + 1) (lv' := [(2, .int (x2 + 1)), (1, .int ((x1 * (8 - x2)) + x3)), (0, .ref h0), (3, .int x3), (4, .int x4)]) hx hb dX13_rank_57 hl (k := 2) rfl rfl (by decide) rfl (fun ls hl => ?_)
      refine lv_goto (tgt := 4) hx hb dX13_rank_60 (by decide) ?_
      exact hK4 _ _ _ _ _ hf hP hD hS (lv_sub hl [2, 1, 0] rfl)
    · have hf := ite_f hf hc
      refine lv_iload_n hx hb dX13_rank_24 rfl (lv_at hl 3 rfl) ?_
      refine lv_aload_n hx hb dX13_rank_25 rfl (lv_at hl 0 rfl) ?_
      refine lv_iload hx hb dX13_rank_26 (lv_at hl 4 rfl) ?_
      refine va_iald (f := g0) hx hb hK hP 0 0 rfl rfl (ck_in hf) dX13_rank_28 ?_
      have hf := ck_2 hf
      refine lv_aload_n hx hb dX13_rank_29 rfl (lv_at hl 0 rfl) ?_
      refine lv_iload_n hx hb dX13_rank_30 rfl (lv_at hl 2 rfl) ?_
      refine va_iald (f := g0) hx hb hK hP 0 0 rfl rfl (ck_in hf) dX13_rank_31 ?_
      have hf := ck_2 hf
      refine lv_icmp_ge (tgt := 39) hx hb dX13_rank_32 (by decide) (fun hc => ?_) (fun hc => ?_)
      · have hf := ite_t hf hc
        refine lv_iconst (v := 0) hx hb dX13_rank_39 (by decide) ?_
        exact w_X13_rank_40 C _ (hK4) _ (ih) _ _ _ _ _ _ _ _ hf hP hD hS (lv_sub hl [0, 1, 2, 4] rfl)
      · have hf := ite_f hf hc
        refine lv_iconst (v := 1) hx hb dX13_rank_35 (by decide) ?_
        refine lv_goto (tgt := 40) hx hb dX13_rank_36 (by decide) ?_
        exact w_X13_rank_40 C _ (hK4) _ (ih) _ _ _ _ _ _ _ _ hf hP hD hS (lv_sub hl [0, 1, 2, 4] rfl)
def f_X13_rank_4 (n0 : Nat) (g0 : Nat → Int32)  : Nat → Int32 → Int32 → Option (Int32)
  | 0, _, _ => none
  | n + 1, x1, x2 => if 8 ≤ x2 then (some (x1)) else (f_X13_rank_17 n0 g0 (f_X13_rank_4 n0 g0 n) 2000000 x1 x2 0 (x2 + 1))
set_option maxRecDepth 100000 in
set_option maxHeartbeats 4000000 in
theorem w_X13_rank_4 {p : Program} {l : Launch} {e : Env} {s : State} {m : MethodId} {args : Array Value} {below : List Frame} {meth : Method} {c : Code} {A : Nat → Prop} {D : va_G} {cs zs : Nat → Nat} {h0 n0 : Nat} {g0 : Nat → Int32} {q : Int32} (C : Cx p s m args meth c A D cs zs cX13_rank 5 (some .int) RX13)  : ∀ (n : Nat), ∀ (x1 : Int32) (x2 : Int32) (H : Heap) (locs : List Loc) (ls : Array Slot), f_X13_rank_4 n0 g0 n x1 x2 = some q → va_P D vwCl ([(h0, .inl (cs 0, n0, .inl g0))]) H → va_D A ([(h0, .inl (cs 0, n0, .inl g0))]) → va_S A s.heap H locs → lv_has ls 5 [(0, .ref h0), (1, .int x1), (2, .int x2)] → W p l e rmX13_rank s m args below meth c H locs 0 0 (MQ below (Qi D cs A q ([(h0, .inl (cs 0, n0, .inl g0))])) args s 0 0 A) (F0 m 4 ls []) := by
  obtain ⟨hx, hb, hr, hml, hown, hts, hK, hA, hlocks, hZ⟩ := id C
  intro n
  induction n with
  | zero =>
    intro x1 x2 H locs ls hf
    rw [f_X13_rank_4] at hf
    cases hf
  | succ n ih =>
    intro x1 x2 H locs ls hf hP hD hS hl
    rw [f_X13_rank_4] at hf
    refine lv_iload_n hx hb dX13_rank_4 rfl (lv_at hl 2 rfl) ?_
    refine lv_bipush (v := 8) hx hb dX13_rank_5 (by decide) ?_
    refine lv_icmp_ge (tgt := 63) hx hb dX13_rank_7 (by decide) (fun hc => ?_) (fun hc => ?_)
    · have hf := ite_t hf hc
      refine lv_iload_n hx hb dX13_rank_63 rfl (lv_at hl 1 rfl) ?_
      obtain rfl := Option.some.inj hf
      exact k_iret hx hb hr hlocks hK hP hD hS dX13_rank_64
    · have hf := ite_f hf hc
      refine lv_iconst (v := 0) hx hb dX13_rank_10 (by decide) ?_
      refine lv_istore_n (lv' := [(3, .int 0), (0, .ref h0), (1, .int x1), (2, .int x2)]) hx hb dX13_rank_11 rfl hl (by decide) rfl (fun ls hl => ?_)
      refine lv_iload_n hx hb dX13_rank_12 rfl (lv_at hl 3 rfl) ?_
      refine lv_iconst (v := 1) hx hb dX13_rank_13 (by decide) ?_
      refine lv_iadd hx hb dX13_rank_14 ?_
      refine lv_istore (lv' := [(4, .int (x2 + 1)), (3, .int 0), (0, .ref h0), (1, .int x1), (2, .int x2)]) hx hb dX13_rank_15 hl (by decide) rfl (fun ls hl => ?_)
      exact w_X13_rank_17 C _ (ih) 2000000 _ _ _ _ _ _ _ hf hP hD hS (lv_sub hl [2, 3, 4, 1, 0] rfl)
def f_X13_rank (n0 : Nat) (g0 : Nat → Int32)  : Option (Int32) := f_X13_rank_4 n0 g0 2000000 0 0
set_option maxRecDepth 100000 in
set_option maxHeartbeats 4000000 in
theorem c_X13_rank {l : Launch} {D : va_G} {cs zs : Nat → Nat} {h0 n0 : Nat} {g0 : Nat → Int32}  {q : Int32} (hf : f_X13_rank n0 g0 = some q) : Mi l yX13_rank wlX13_rank rmX13_rank D cs zs [.ref h0] ([(h0, .inl (cs 0, n0, .inl g0))]) q ([(h0, .inl (cs 0, n0, .inl g0))]) := by
  refine Mi.of RX13 (by decide) rfl (Nat.le_of_ble_eq_true rfl) (fun p e s m below meth c A C hP hD hS ls hl => ?_)
  generalize ([.ref h0] : List Value).toArray = args at C ⊢
  obtain ⟨hx, hb, hr, hml, hown, hts, hK, hA, hlocks, hZ⟩ := id C
  have hl : lv_has ls 5 [(0, .ref h0)] := hl
  rw [f_X13_rank] at hf
  refine lv_iconst (v := 0) hx hb dX13_rank_0 (by decide) ?_
  refine lv_istore_n (lv' := [(1, .int 0), (0, .ref h0)]) hx hb dX13_rank_1 rfl hl (by decide) rfl (fun ls hl => ?_)
  refine lv_iconst (v := 0) hx hb dX13_rank_2 (by decide) ?_
  refine lv_istore_n (lv' := [(2, .int 0), (1, .int 0), (0, .ref h0)]) hx hb dX13_rank_3 rfl hl (by decide) rfl (fun ls hl => ?_)
  exact w_X13_rank_4 C  2000000 _ _ _ _ _ hf hP hD hS (lv_sub hl [2, 1, 0] rfl)
/-! MarbleFloorModel.unrank(I[I)V -/
abbrev wlX13_unrank : List Cond := Cond.code yX13_unrank cX13_unrank 8 none :: tbG
abbrev rmX13_unrank : Room := { frames := 0, cells := 0, slots := 0, locals := 0 }
theorem qnX13_unrank : yX13_unrank.cls = RX13 ∧ yX13_unrank.cls ≠ "java/lang/invoke/MethodHandle" ∧ yX13_unrank.cls ≠ "java/lang/invoke/VarHandle" ∧ (parseMethodDescriptor yX13_unrank.desc).map (fun d => d.parameters.length) = some 2 := by decide +kernel
def f_X13_unrank_93 (i0 : Nat → Int32) (l0 : Nat → Nat → Int64) (K45 : (Nat → Nat → Int32) → Int32 → Int32 → Option ((Nat → Nat → Int32))) (K64 : (Nat → Nat → Int32) → Int32 → Int32 → Int32 → Int32 → Option ((Nat → Nat → Int32))) (r0 : Nat → Nat → Int32) (x4 : Int32) (x5 : Int32) (x6 : Int32) (x7 : Int32) : Option ((Nat → Nat → Int32)) := K64 r0 x4 x5 x6 (x7 + 1)
set_option maxRecDepth 100000 in
set_option maxHeartbeats 4000000 in
theorem w_X13_unrank_93 {p : Program} {l : Launch} {e : Env} {s : State} {m : MethodId} {args : Array Value} {below : List Frame} {meth : Method} {c : Code} {A : Nat → Prop} {D : va_G} {cs zs : Nat → Nat} {h0 : Nat} {a0 : Nat → Nat} {i0 : Nat → Int32} {l0 : Nat → Nat → Int64} {q : (Nat → Nat → Int32)} (C : Cx p s m args meth c A D cs zs cX13_unrank 8 none RX13) (K45 : (Nat → Nat → Int32) → Int32 → Int32 → Option ((Nat → Nat → Int32))) (hK45 : ∀ (r0 : Nat → Nat → Int32) (x4 : Int32) (x5 : Int32) (H : Heap) (locs : List Loc) (ls : Array Slot), K45 r0 x4 x5 = some q → va_P D vwCl (W13 cs h0 a0 i0 r0 l0) H → va_D A (W13 cs h0 a0 i0 r0 l0) → va_S A s.heap H locs → lv_has ls 8 [(0, .ref h0), (2, .ref (a0 19)), (4, .int x4), (5, .int x5)] → W p l e rmX13_unrank s m args below meth c H locs 0 0 (MQ below (Qv D cs A (W13 cs h0 a0 i0 q l0)) args s 0 0 A) (F0 m 45 ls [])) (K64 : (Nat → Nat → Int32) → Int32 → Int32 → Int32 → Int32 → Option ((Nat → Nat → Int32))) (hK64 : ∀ (r0 : Nat → Nat → Int32) (x4 : Int32) (x5 : Int32) (x6 : Int32) (x7 : Int32) (H : Heap) (locs : List Loc) (ls : Array Slot), K64 r0 x4 x5 x6 x7 = some q → va_P D vwCl (W13 cs h0 a0 i0 r0 l0) H → va_D A (W13 cs h0 a0 i0 r0 l0) → va_S A s.heap H locs → lv_has ls 8 [(0, .ref h0), (2, .ref (a0 19)), (4, .int x4), (5, .int x5), (6, .int x6), (7, .int x7)] → W p l e rmX13_unrank s m args below meth c H locs 0 0 (MQ below (Qv D cs A (W13 cs h0 a0 i0 q l0)) args s 0 0 A) (F0 m 64 ls [])) : ∀ (r0 : Nat → Nat → Int32) (x4 : Int32) (x5 : Int32) (x6 : Int32) (x7 : Int32) (H : Heap) (locs : List Loc) (ls : Array Slot), f_X13_unrank_93 i0 l0 K45 K64 r0 x4 x5 x6 x7 = some q → va_P D vwCl (W13 cs h0 a0 i0 r0 l0) H → va_D A (W13 cs h0 a0 i0 r0 l0) → va_S A s.heap H locs → lv_has ls 8 [(0, .ref h0), (2, .ref (a0 19)), (4, .int x4), (5, .int x5), (6, .int x6), (7, .int x7)] → W p l e rmX13_unrank s m args below meth c H locs 0 0 (MQ below (Qv D cs A (W13 cs h0 a0 i0 q l0)) args s 0 0 A) (F0 m 93 ls []) := by
  obtain ⟨hx, hb, hr, hml, hown, hts, hK, hA, hlocks, hZ⟩ := id C
  intro r0 x4 x5 x6 x7 H locs ls hf hP hD hS hl
  rw [f_X13_unrank_93] at hf
  refine lv_iinc (v := x7 + 1) (lv' := [(7, .int (x7 + 1)), (0, .ref h0), (2, .ref (a0 19)), (4, .int x4), (5, .int x5), (6, .int x6)]) hx hb dX13_unrank_93 hl (k := 5) rfl rfl (by decide) rfl (fun ls hl => ?_)
  refine lv_goto (tgt := 64) hx hb dX13_unrank_96 (by decide) ?_
  exact hK64 _ _ _ _ _ _ _ _ hf hP hD hS (lv_sub hl [1, 2, 3, 4, 5, 0] rfl)
def f_X13_unrank_80 (i0 : Nat → Int32) (l0 : Nat → Nat → Int64) (K45 : (Nat → Nat → Int32) → Int32 → Int32 → Option ((Nat → Nat → Int32))) (K64 : (Nat → Nat → Int32) → Int32 → Int32 → Int32 → Int32 → Option ((Nat → Nat → Int32))) (r0 : Nat → Nat → Int32) (x4 : Int32) (x5 : Int32) (x6 : Int32) (x7 : Int32) : Option ((Nat → Nat → Int32)) := if ((x4 >>> (x7 &&& 31)) &&& 1) = 0 then (f_X13_unrank_93 i0 l0 K45 K64 r0 x4 x5 (x6 + (-1)) x7) else (f_X13_unrank_93 i0 l0 K45 K64 r0 x4 x5 x6 x7)
set_option maxRecDepth 100000 in
set_option maxHeartbeats 4000000 in
theorem w_X13_unrank_80 {p : Program} {l : Launch} {e : Env} {s : State} {m : MethodId} {args : Array Value} {below : List Frame} {meth : Method} {c : Code} {A : Nat → Prop} {D : va_G} {cs zs : Nat → Nat} {h0 : Nat} {a0 : Nat → Nat} {i0 : Nat → Int32} {l0 : Nat → Nat → Int64} {q : (Nat → Nat → Int32)} (C : Cx p s m args meth c A D cs zs cX13_unrank 8 none RX13) (K45 : (Nat → Nat → Int32) → Int32 → Int32 → Option ((Nat → Nat → Int32))) (hK45 : ∀ (r0 : Nat → Nat → Int32) (x4 : Int32) (x5 : Int32) (H : Heap) (locs : List Loc) (ls : Array Slot), K45 r0 x4 x5 = some q → va_P D vwCl (W13 cs h0 a0 i0 r0 l0) H → va_D A (W13 cs h0 a0 i0 r0 l0) → va_S A s.heap H locs → lv_has ls 8 [(0, .ref h0), (2, .ref (a0 19)), (4, .int x4), (5, .int x5)] → W p l e rmX13_unrank s m args below meth c H locs 0 0 (MQ below (Qv D cs A (W13 cs h0 a0 i0 q l0)) args s 0 0 A) (F0 m 45 ls [])) (K64 : (Nat → Nat → Int32) → Int32 → Int32 → Int32 → Int32 → Option ((Nat → Nat → Int32))) (hK64 : ∀ (r0 : Nat → Nat → Int32) (x4 : Int32) (x5 : Int32) (x6 : Int32) (x7 : Int32) (H : Heap) (locs : List Loc) (ls : Array Slot), K64 r0 x4 x5 x6 x7 = some q → va_P D vwCl (W13 cs h0 a0 i0 r0 l0) H → va_D A (W13 cs h0 a0 i0 r0 l0) → va_S A s.heap H locs → lv_has ls 8 [(0, .ref h0), (2, .ref (a0 19)), (4, .int x4), (5, .int x5), (6, .int x6), (7, .int x7)] → W p l e rmX13_unrank s m args below meth c H locs 0 0 (MQ below (Qv D cs A (W13 cs h0 a0 i0 q l0)) args s 0 0 A) (F0 m 64 ls [])) : ∀ (r0 : Nat → Nat → Int32) (x4 : Int32) (x5 : Int32) (x6 : Int32) (x7 : Int32) (H : Heap) (locs : List Loc) (ls : Array Slot), f_X13_unrank_80 i0 l0 K45 K64 r0 x4 x5 x6 x7 = some q → va_P D vwCl (W13 cs h0 a0 i0 r0 l0) H → va_D A (W13 cs h0 a0 i0 r0 l0) → va_S A s.heap H locs → lv_has ls 8 [(0, .ref h0), (2, .ref (a0 19)), (4, .int x4), (5, .int x5), (6, .int x6), (7, .int x7)] → W p l e rmX13_unrank s m args below meth c H locs 0 0 (MQ below (Qv D cs A (W13 cs h0 a0 i0 q l0)) args s 0 0 A) (F0 m 80 ls []) := by
  obtain ⟨hx, hb, hr, hml, hown, hts, hK, hA, hlocks, hZ⟩ := id C
  intro r0 x4 x5 x6 x7 H locs ls hf hP hD hS hl
  rw [f_X13_unrank_80] at hf
  refine lv_iload hx hb dX13_unrank_80 (lv_at hl 2 rfl) ?_
  refine lv_iload hx hb dX13_unrank_82 (lv_at hl 5 rfl) ?_
  refine lv_ishr hx hb dX13_unrank_84 ?_
  refine lv_iconst (v := 1) hx hb dX13_unrank_85 (by decide) ?_
  refine lv_iand hx hb dX13_unrank_86 ?_
  refine lv_if_ne (tgt := 93) hx hb dX13_unrank_87 (by decide) (fun hc => ?_) (fun hc => ?_)
  · have hf := ite_f hf hc
    exact w_X13_unrank_93 C _ (hK45) _ (hK64) _ _ _ _ _ _ _ _ hf hP hD hS (lv_sub hl [0, 1, 2, 3, 4, 5] rfl)
  · have hf := ite_t hf hc
    refine lv_iinc (v := x6 + (-1)) (lv' := [(6, .int (x6 + (-1))), (0, .ref h0), (2, .ref (a0 19)), (4, .int x4), (5, .int x5), (7, .int x7)]) hx hb dX13_unrank_90 hl (k := 4) rfl rfl (by decide) rfl (fun ls hl => ?_)
    exact w_X13_unrank_93 C _ (hK45) _ (hK64) _ _ _ _ _ _ _ _ hf hP hD hS (lv_sub hl [1, 2, 3, 4, 0, 5] rfl)
def f_X13_unrank_64 (i0 : Nat → Int32) (l0 : Nat → Nat → Int64) (K45 : (Nat → Nat → Int32) → Int32 → Int32 → Option ((Nat → Nat → Int32))) : Nat → (Nat → Nat → Int32) → Int32 → Int32 → Int32 → Int32 → Option ((Nat → Nat → Int32))
  | 0, _, _, _, _, _ => none
  | n + 1, r0, x4, x5, x6, x7 => if ((x4 >>> (x7 &&& 31)) &&& 1) = 1 then (f_X13_unrank_80 i0 l0 K45 (f_X13_unrank_64 i0 l0 K45 n) r0 x4 x5 x6 x7) else (if x6 ≤ 0 then (ck (inb x5 8) (K45 (va_up r0 19 (upd (r0 19) x5.toNatClampNeg x7)) (x4 ||| ((1 : Int32) <<< (x7 &&& 31))) (x5 + 1))) else (f_X13_unrank_80 i0 l0 K45 (f_X13_unrank_64 i0 l0 K45 n) r0 x4 x5 x6 x7))
set_option maxRecDepth 100000 in
set_option maxHeartbeats 4000000 in
theorem w_X13_unrank_64 {p : Program} {l : Launch} {e : Env} {s : State} {m : MethodId} {args : Array Value} {below : List Frame} {meth : Method} {c : Code} {A : Nat → Prop} {D : va_G} {cs zs : Nat → Nat} {h0 : Nat} {a0 : Nat → Nat} {i0 : Nat → Int32} {l0 : Nat → Nat → Int64} {q : (Nat → Nat → Int32)} (C : Cx p s m args meth c A D cs zs cX13_unrank 8 none RX13) (K45 : (Nat → Nat → Int32) → Int32 → Int32 → Option ((Nat → Nat → Int32))) (hK45 : ∀ (r0 : Nat → Nat → Int32) (x4 : Int32) (x5 : Int32) (H : Heap) (locs : List Loc) (ls : Array Slot), K45 r0 x4 x5 = some q → va_P D vwCl (W13 cs h0 a0 i0 r0 l0) H → va_D A (W13 cs h0 a0 i0 r0 l0) → va_S A s.heap H locs → lv_has ls 8 [(0, .ref h0), (2, .ref (a0 19)), (4, .int x4), (5, .int x5)] → W p l e rmX13_unrank s m args below meth c H locs 0 0 (MQ below (Qv D cs A (W13 cs h0 a0 i0 q l0)) args s 0 0 A) (F0 m 45 ls [])) : ∀ (n : Nat), ∀ (r0 : Nat → Nat → Int32) (x4 : Int32) (x5 : Int32) (x6 : Int32) (x7 : Int32) (H : Heap) (locs : List Loc) (ls : Array Slot), f_X13_unrank_64 i0 l0 K45 n r0 x4 x5 x6 x7 = some q → va_P D vwCl (W13 cs h0 a0 i0 r0 l0) H → va_D A (W13 cs h0 a0 i0 r0 l0) → va_S A s.heap H locs → lv_has ls 8 [(0, .ref h0), (2, .ref (a0 19)), (4, .int x4), (5, .int x5), (6, .int x6), (7, .int x7)] → W p l e rmX13_unrank s m args below meth c H locs 0 0 (MQ below (Qv D cs A (W13 cs h0 a0 i0 q l0)) args s 0 0 A) (F0 m 64 ls []) := by
  obtain ⟨hx, hb, hr, hml, hown, hts, hK, hA, hlocks, hZ⟩ := id C
  intro n
  induction n with
  | zero =>
    intro r0 x4 x5 x6 x7 H locs ls hf
    rw [f_X13_unrank_64] at hf
    cases hf
  | succ n ih =>
    intro r0 x4 x5 x6 x7 H locs ls hf hP hD hS hl
    rw [f_X13_unrank_64] at hf
    refine lv_iload hx hb dX13_unrank_64 (lv_at hl 2 rfl) ?_
    refine lv_iload hx hb dX13_unrank_66 (lv_at hl 5 rfl) ?_
    refine lv_ishr hx hb dX13_unrank_68 ?_
    refine lv_iconst (v := 1) hx hb dX13_unrank_69 (by decide) ?_
    refine lv_iand hx hb dX13_unrank_70 ?_
    refine lv_iconst (v := 1) hx hb dX13_unrank_71 (by decide) ?_
    refine lv_icmp_eq (tgt := 80) hx hb dX13_unrank_72 (by decide) (fun hc => ?_) (fun hc => ?_)
    · have hf := ite_t hf hc
      exact w_X13_unrank_80 C _ (hK45) _ (ih) _ _ _ _ _ _ _ _ hf hP hD hS (lv_sub hl [0, 1, 2, 3, 4, 5] rfl)
    · have hf := ite_f hf hc
      refine lv_iload hx hb dX13_unrank_75 (lv_at hl 4 rfl) ?_
      refine lv_if_le (tgt := 99) hx hb dX13_unrank_77 (by decide) (fun hc => ?_) (fun hc => ?_)
      · have hf := ite_t hf hc
        refine lv_aload_n hx hb dX13_unrank_99 rfl (lv_at hl 1 rfl) ?_
        refine lv_iload hx hb dX13_unrank_100 (lv_at hl 3 rfl) ?_
        refine lv_iload hx hb dX13_unrank_102 (lv_at hl 5 rfl) ?_
        refine va_iast (f := r0 19) hx hb hK hP hD hS 11 0 rfl rfl (ck_in hf) dX13_unrank_104 (fun H locs hP hD hS => ?_)
        have hf := ck_2 hf
        obtain ⟨hP, hD⟩ := st13_19 hP hD
        refine lv_iload hx hb dX13_unrank_105 (lv_at hl 2 rfl) ?_
        refine lv_iconst (v := 1) hx hb dX13_unrank_107 (by decide) ?_
        refine lv_iload hx hb dX13_unrank_108 (lv_at hl 5 rfl) ?_
        refine lv_ishl hx hb dX13_unrank_110 ?_
        refine lv_ior hx hb dX13_unrank_111 ?_
        refine lv_istore (lv' := [(4, .int (x4 ||| ((1 : Int32) <<< (x7 &&& 31)))), (0, .ref h0), (2, .ref (a0 19)), (5, .int x5), (6, .int x6), (7, .int x7)]) hx hb dX13_unrank_112 hl (by decide) rfl (fun ls hl => ?_)
        refine lv_iinc (v := x5 + 1) (lv' := [(5, .int (x5 + 1)), (4, .int (x4 ||| ((1 : Int32) <<< (x7 &&& 31)))), (0, .ref h0), (2, .ref (a0 19)), (6, .int x6), (7, .int x7)]) hx hb dX13_unrank_114 hl (k := 3) rfl rfl (by decide) rfl (fun ls hl => ?_)
        refine lv_goto (tgt := 45) hx hb dX13_unrank_117 (by decide) ?_
        exact hK45 _ _ _ _ _ _ hf hP hD hS (lv_sub hl [2, 3, 1, 0] rfl)
      · have hf := ite_f hf hc
        exact w_X13_unrank_80 C _ (hK45) _ (ih) _ _ _ _ _ _ _ _ hf hP hD hS (lv_sub hl [0, 1, 2, 3, 4, 5] rfl)
def f_X13_unrank_45 (i0 : Nat → Int32) (l0 : Nat → Nat → Int64)  : Nat → (Nat → Nat → Int32) → Int32 → Int32 → Option ((Nat → Nat → Int32))
  | 0, _, _, _ => none
  | n + 1, r0, x4, x5 => if 8 ≤ x5 then (some (r0)) else (ck (inb x5 8) (f_X13_unrank_64 i0 l0 (f_X13_unrank_45 i0 l0 n) 2000000 r0 x4 x5 (r0 26 x5.toNatClampNeg) 0))
set_option maxRecDepth 100000 in
set_option maxHeartbeats 4000000 in
theorem w_X13_unrank_45 {p : Program} {l : Launch} {e : Env} {s : State} {m : MethodId} {args : Array Value} {below : List Frame} {meth : Method} {c : Code} {A : Nat → Prop} {D : va_G} {cs zs : Nat → Nat} {h0 : Nat} {a0 : Nat → Nat} {i0 : Nat → Int32} {l0 : Nat → Nat → Int64} {q : (Nat → Nat → Int32)} (C : Cx p s m args meth c A D cs zs cX13_unrank 8 none RX13)  : ∀ (n : Nat), ∀ (r0 : Nat → Nat → Int32) (x4 : Int32) (x5 : Int32) (H : Heap) (locs : List Loc) (ls : Array Slot), f_X13_unrank_45 i0 l0 n r0 x4 x5 = some q → va_P D vwCl (W13 cs h0 a0 i0 r0 l0) H → va_D A (W13 cs h0 a0 i0 r0 l0) → va_S A s.heap H locs → lv_has ls 8 [(0, .ref h0), (2, .ref (a0 19)), (4, .int x4), (5, .int x5)] → W p l e rmX13_unrank s m args below meth c H locs 0 0 (MQ below (Qv D cs A (W13 cs h0 a0 i0 q l0)) args s 0 0 A) (F0 m 45 ls []) := by
  obtain ⟨hx, hb, hr, hml, hown, hts, hK, hA, hlocks, hZ⟩ := id C
  intro n
  induction n with
  | zero =>
    intro r0 x4 x5 H locs ls hf
    rw [f_X13_unrank_45] at hf
    cases hf
  | succ n ih =>
    intro r0 x4 x5 H locs ls hf hP hD hS hl
    rw [f_X13_unrank_45] at hf
    refine lv_iload hx hb dX13_unrank_45 (lv_at hl 3 rfl) ?_
    refine lv_bipush (v := 8) hx hb dX13_unrank_47 (by decide) ?_
    refine lv_icmp_ge (tgt := 120) hx hb dX13_unrank_49 (by decide) (fun hc => ?_) (fun hc => ?_)
    · have hf := ite_t hf hc
      obtain rfl := Option.some.inj hf
      exact k_vret hx hb hr hlocks hK hP hD hS dX13_unrank_120
    · have hf := ite_f hf hc
      refine lv_aload_n hx hb dX13_unrank_52 rfl (lv_at hl 0 rfl) ?_
      refine va_get (D := D) (ci := 13) (v := .ref (a0 26)) (C := RX13) (T := TX13) (N := 87) hx hb hts hiX13 hown hK hP 0 rfl rfl 26 (by decide) (hts _ flX13_170) (fun _ h9 => h9) rfl dX13_unrank_53 ?_
      refine lv_iload hx hb dX13_unrank_56 (lv_at hl 3 rfl) ?_
      refine va_iald (f := r0 26) hx hb hK hP 16 0 rfl rfl (ck_in hf) dX13_unrank_58 ?_
      have hf := ck_2 hf
      refine lv_istore (lv' := [(6, .int (r0 26 x5.toNatClampNeg)), (0, .ref h0), (2, .ref (a0 19)), (4, .int x4), (5, .int x5)]) hx hb dX13_unrank_59 hl (by decide) rfl (fun ls hl => ?_)
      refine lv_iconst (v := 0) hx hb dX13_unrank_61 (by decide) ?_
      refine lv_istore (lv' := [(7, .int 0), (6, .int (r0 26 x5.toNatClampNeg)), (0, .ref h0), (2, .ref (a0 19)), (4, .int x4), (5, .int x5)]) hx hb dX13_unrank_62 hl (by decide) rfl (fun ls hl => ?_)
      exact w_X13_unrank_64 C _ (ih) 2000000 _ _ _ _ _ _ _ _ hf hP hD hS (lv_sub hl [2, 3, 4, 5, 1, 0] rfl)
def f_X13_unrank_6 (i0 : Nat → Int32) (l0 : Nat → Nat → Int64)  : Nat → (Nat → Nat → Int32) → Int32 → Int32 → Option ((Nat → Nat → Int32))
  | 0, _, _, _ => none
  | n + 1, r0, x3, x4 => if x4 < 0 then (f_X13_unrank_45 i0 l0 2000000 r0 0 0) else (ck (nz (8 - x4)) (ck (inb x4 8) (ck (nz (8 - x4)) (f_X13_unrank_6 i0 l0 n (va_up r0 26 (upd (r0 26) x4.toNatClampNeg (x3 - x3 / (8 - x4) * (8 - x4)))) (x3 / (8 - x4)) (x4 + (-1))))))
set_option maxRecDepth 100000 in
set_option maxHeartbeats 4000000 in
theorem w_X13_unrank_6 {p : Program} {l : Launch} {e : Env} {s : State} {m : MethodId} {args : Array Value} {below : List Frame} {meth : Method} {c : Code} {A : Nat → Prop} {D : va_G} {cs zs : Nat → Nat} {h0 : Nat} {a0 : Nat → Nat} {i0 : Nat → Int32} {l0 : Nat → Nat → Int64} {q : (Nat → Nat → Int32)} (C : Cx p s m args meth c A D cs zs cX13_unrank 8 none RX13)  : ∀ (n : Nat), ∀ (r0 : Nat → Nat → Int32) (x3 : Int32) (x4 : Int32) (H : Heap) (locs : List Loc) (ls : Array Slot), f_X13_unrank_6 i0 l0 n r0 x3 x4 = some q → va_P D vwCl (W13 cs h0 a0 i0 r0 l0) H → va_D A (W13 cs h0 a0 i0 r0 l0) → va_S A s.heap H locs → lv_has ls 8 [(0, .ref h0), (2, .ref (a0 19)), (3, .int x3), (4, .int x4)] → W p l e rmX13_unrank s m args below meth c H locs 0 0 (MQ below (Qv D cs A (W13 cs h0 a0 i0 q l0)) args s 0 0 A) (F0 m 6 ls []) := by
  obtain ⟨hx, hb, hr, hml, hown, hts, hK, hA, hlocks, hZ⟩ := id C
  intro n
  induction n with
  | zero =>
    intro r0 x3 x4 H locs ls hf
    rw [f_X13_unrank_6] at hf
    cases hf
  | succ n ih =>
    intro r0 x3 x4 H locs ls hf hP hD hS hl
    rw [f_X13_unrank_6] at hf
    refine lv_iload hx hb dX13_unrank_6 (lv_at hl 3 rfl) ?_
    refine lv_if_lt (tgt := 39) hx hb dX13_unrank_8 (by decide) (fun hc => ?_) (fun hc => ?_)
    · have hf := ite_t hf hc
      refine lv_iconst (v := 0) hx hb dX13_unrank_39 (by decide) ?_
      refine lv_istore (lv' := [(4, .int 0), (0, .ref h0), (2, .ref (a0 19)), (3, .int x3)]) hx hb dX13_unrank_40 hl (by decide) rfl (fun ls hl => ?_)
      refine lv_iconst (v := 0) hx hb dX13_unrank_42 (by decide) ?_
      refine lv_istore (lv' := [(5, .int 0), (4, .int 0), (0, .ref h0), (2, .ref (a0 19)), (3, .int x3)]) hx hb dX13_unrank_43 hl (by decide) rfl (fun ls hl => ?_)
      exact w_X13_unrank_45 C  2000000 _ _ _ _ _ _ hf hP hD hS (lv_sub hl [2, 3, 1, 0] rfl)
    · have hf := ite_f hf hc
      refine lv_aload_n hx hb dX13_unrank_11 rfl (lv_at hl 0 rfl) ?_
      refine va_get (D := D) (ci := 13) (v := .ref (a0 26)) (C := RX13) (T := TX13) (N := 87) hx hb hts hiX13 hown hK hP 0 rfl rfl 26 (by decide) (hts _ flX13_170) (fun _ h9 => h9) rfl dX13_unrank_12 ?_
      refine lv_iload hx hb dX13_unrank_15 (lv_at hl 3 rfl) ?_
      refine lv_iload_n hx hb dX13_unrank_17 rfl (lv_at hl 2 rfl) ?_
      refine lv_bipush (v := 8) hx hb dX13_unrank_18 (by decide) ?_
      refine lv_iload hx hb dX13_unrank_20 (lv_at hl 3 rfl) ?_
      refine lv_isub hx hb dX13_unrank_22 ?_
      refine lv_irem hx hb dX13_unrank_23 (ck_nz hf) ?_
      have hf := ck_2 hf
      refine va_iast (f := r0 26) hx hb hK hP hD hS 16 0 rfl rfl (ck_in hf) dX13_unrank_24 (fun H locs hP hD hS => ?_)
      have hf := ck_2 hf
      obtain ⟨hP, hD⟩ := st13_26 hP hD
      refine lv_iload_n hx hb dX13_unrank_25 rfl (lv_at hl 2 rfl) ?_
      refine lv_bipush (v := 8) hx hb dX13_unrank_26 (by decide) ?_
      refine lv_iload hx hb dX13_unrank_28 (lv_at hl 3 rfl) ?_
      refine lv_isub hx hb dX13_unrank_30 ?_
      refine lv_idiv hx hb dX13_unrank_31 (ck_nz hf) ?_
      have hf := ck_2 hf
      refine lv_istore_n (lv' := [(3, .int (x3 / (8 - x4))), (0, .ref h0), (2, .ref (a0 19)), (4, .int x4)]) hx hb dX13_unrank_32 rfl hl (by decide) rfl (fun ls hl => ?_)
      refine lv_iinc (v := x4 + (-1)) (lv' := [(4, .int (x4 + (-1))), (3, .int (x3 / (8 - x4))), (0, .ref h0), (2, .ref (a0 19))]) hx hb dX13_unrank_33 hl (k := 3) rfl rfl (by decide) rfl (fun ls hl => ?_)
      refine lv_goto (tgt := 6) hx hb dX13_unrank_36 (by decide) ?_
      exact ih _ _ _ _ _ _ hf hP hD hS (lv_sub hl [2, 3, 1, 0] rfl)
def f_X13_unrank  (i0 : Nat → Int32) (r0 : Nat → Nat → Int32) (l0 : Nat → Nat → Int64) (x1 : Int32) : Option ((Nat → Nat → Int32)) := f_X13_unrank_6 i0 l0 2000000 r0 x1 7
set_option maxRecDepth 100000 in
set_option maxHeartbeats 4000000 in
theorem c_X13_unrank {l : Launch} {D : va_G} {cs zs : Nat → Nat} {h0 : Nat} {a0 : Nat → Nat} {i0 : Nat → Int32} {r0 : Nat → Nat → Int32} {l0 : Nat → Nat → Int64} {x1 : Int32} {q : (Nat → Nat → Int32)} (hf : f_X13_unrank i0 r0 l0 x1 = some q) : Mv l yX13_unrank wlX13_unrank rmX13_unrank D cs zs [.ref h0, .int x1, .ref (a0 19)] (W13 cs h0 a0 i0 r0 l0) (W13 cs h0 a0 i0 q l0) := by
  refine Mv.of RX13 (by decide) rfl (Nat.le_of_ble_eq_true rfl) (fun p e s m below meth c A C hP hD hS ls hl => ?_)
  generalize ([.ref h0, .int x1, .ref (a0 19)] : List Value).toArray = args at C ⊢
  obtain ⟨hx, hb, hr, hml, hown, hts, hK, hA, hlocks, hZ⟩ := id C
  have hl : lv_has ls 8 [(0, .ref h0), (1, .int x1), (2, .ref (a0 19))] := hl
  rw [f_X13_unrank] at hf
  refine lv_iload_n hx hb dX13_unrank_0 rfl (lv_at hl 1 rfl) ?_
  refine lv_istore_n (lv' := [(3, .int x1), (0, .ref h0), (1, .int x1), (2, .ref (a0 19))]) hx hb dX13_unrank_1 rfl hl (by decide) rfl (fun ls hl => ?_)
  refine lv_bipush (v := 7) hx hb dX13_unrank_2 (by decide) ?_
  refine lv_istore (lv' := [(4, .int 7), (3, .int x1), (0, .ref h0), (1, .int x1), (2, .ref (a0 19))]) hx hb dX13_unrank_4 hl (by decide) rfl (fun ls hl => ?_)
  exact w_X13_unrank_6 C  2000000 _ _ _ _ _ _ hf hP hD hS (lv_sub hl [2, 4, 1, 0] rfl)
/-! MarbleFloorModel.without([II)I -/
abbrev wlX13_without : List Cond := Cond.code yX13_without cX13_without 4 (some .int) :: tbG
abbrev rmX13_without : Room := { frames := 2, cells := 0, slots := 0, locals := 44 }
theorem qnX13_without : yX13_without.cls = RX13 ∧ yX13_without.cls ≠ "java/lang/invoke/MethodHandle" ∧ yX13_without.cls ≠ "java/lang/invoke/VarHandle" ∧ (parseMethodDescriptor yX13_without.desc).map (fun d => d.parameters.length) = some 2 := by decide +kernel
def f_X13_without_2 (i0 : Nat → Int32) (l0 : Nat → Nat → Int64)  : Nat → (Nat → Nat → Int32) → Int32 → Int32 → Option (Int32 × (Nat → Nat → Int32))
  | 0, _, _, _ => none
  | n + 1, r0, x2, x3 => if 8 ≤ x3 then (bd (f_X13_rank 8 (r0 20)) (fun q3 => some (q3, r0))) else (ck (inb x2 18) (ck (inb x2 18) (ck (inb x2 18) (bd (f_X13_done (r0 21 x2.toNatClampNeg) (r0 22 x2.toNatClampNeg) (r0 23 x2.toNatClampNeg) x3) (fun q4 => ck (inb q4 8) (ck (inb x3 8) (f_X13_without_2 i0 l0 n (va_up r0 20 (upd (r0 20) x3.toNatClampNeg (r0 19 q4.toNatClampNeg))) x2 (x3 + 1))))))))
set_option maxRecDepth 100000 in
set_option maxHeartbeats 4000000 in
theorem w_X13_without_2 {p : Program} {l : Launch} {e : Env} {s : State} {m : MethodId} {args : Array Value} {below : List Frame} {meth : Method} {c : Code} {A : Nat → Prop} {D : va_G} {cs zs : Nat → Nat} {h0 : Nat} {a0 : Nat → Nat} {i0 : Nat → Int32} {l0 : Nat → Nat → Int64} {q : Int32 × (Nat → Nat → Int32)} (C : Cx p s m args meth c A D cs zs cX13_without 4 (some .int) RX13)  : ∀ (n : Nat), ∀ (r0 : Nat → Nat → Int32) (x2 : Int32) (x3 : Int32) (H : Heap) (locs : List Loc) (ls : Array Slot), f_X13_without_2 i0 l0 n r0 x2 x3 = some q → va_P D vwCl (W13 cs h0 a0 i0 r0 l0) H → va_D A (W13 cs h0 a0 i0 r0 l0) → va_S A s.heap H locs → lv_has ls 4 [(0, .ref h0), (1, .ref (a0 19)), (2, .int x2), (3, .int x3)] → W p l e rmX13_without s m args below meth c H locs 0 0 (MQ below (Qi D cs A q.1 (W13 cs h0 a0 i0 q.2 l0)) args s 0 0 A) (F0 m 2 ls []) := by
  obtain ⟨hx, hb, hr, hml, hown, hts, hK, hA, hlocks, hZ⟩ := id C
  intro n
  induction n with
  | zero =>
    intro r0 x2 x3 H locs ls hf
    rw [f_X13_without_2] at hf
    cases hf
  | succ n ih =>
    intro r0 x2 x3 H locs ls hf hP hD hS hl
    rw [f_X13_without_2] at hf
    refine lv_iload_n hx hb dX13_without_2 rfl (lv_at hl 3 rfl) ?_
    refine lv_bipush (v := 8) hx hb dX13_without_3 (by decide) ?_
    refine lv_icmp_ge (tgt := 44) hx hb dX13_without_5 (by decide) (fun hc => ?_) (fun hc => ?_)
    · have hf := ite_t hf hc
      refine lv_aload_n hx hb dX13_without_44 rfl (lv_at hl 0 rfl) ?_
      refine va_get (D := D) (ci := 13) (v := .ref (a0 20)) (C := RX13) (T := TX13) (N := 87) hx hb hts hiX13 hown hK hP 0 rfl rfl 20 (by decide) (hts _ flX13_155) (fun _ h9 => h9) rfl dX13_without_45 ?_
      obtain ⟨q3, hq3, hf⟩ := bd_s hf
      refine k_pSi (wr := [(h0, .inr (13, fs13 a0 i0)), (a0 1, .inl (cs 3, 900, .inl (r0 1))), (a0 10, .inl (cs 0, 8, .inl (r0 10))), (a0 11, .inl (cs 0, 8, .inl (r0 11))), (a0 12, .inl (cs 0, 320, .inl (r0 12))), (a0 13, .inl (cs 0, 320, .inl (r0 13))), (a0 14, .inl (cs 0, 320, .inl (r0 14))), (a0 15, .inl (cs 0, 256, .inl (r0 15))), (a0 16, .inl (cs 2, 256, .inl (r0 16))), (a0 17, .inl (cs 3, 40320, .inl (r0 17))), (a0 18, .inl (cs 0, 40320, .inl (r0 18))), (a0 19, .inl (cs 0, 8, .inl (r0 19))), (a0 21, .inl (cs 0, 18, .inl (r0 21))), (a0 22, .inl (cs 0, 18, .inl (r0 22))), (a0 23, .inl (cs 0, 18, .inl (r0 23))), (a0 26, .inl (cs 0, 8, .inl (r0 26))), (a0 28, .inl (cs 0, 120, .inl (r0 28))), (a0 29, .inl (cs 0, 120, .inl (r0 29))), (a0 30, .inl (cs 0, 120, .inl (r0 30))), (a0 31, .inl (cs 0, 120, .inl (r0 31))), (a0 32, .inl (cs 0, 240, .inl (r0 32))), (a0 33, .inl (cs 0, 240, .inl (r0 33))), (a0 34, .inl (cs 0, 480, .inl (r0 34))), (a0 35, .inl (cs 0, 480, .inl (r0 35))), (a0 36, .inl (cs 0, 240, .inl (r0 36))), (a0 37, .inl (cs 0, 240, .inl (r0 37))), (a0 38, .inl (cs 0, 240, .inl (r0 38))), (a0 39, .inl (cs 0, 2000, .inl (r0 39))), (a0 40, .inl (cs 0, 2000, .inl (r0 40))), (a0 41, .inl (cs 0, 2000, .inl (r0 41))), (a0 42, .inl (cs 0, 12, .inl (r0 42))), (a0 43, .inl (cs 0, 12, .inl (r0 43))), (a0 44, .inl (cs 1, 6, .inr (.inl (l0 44)))), (a0 45, .inl (cs 1, 60, .inr (.inl (l0 45)))), (a0 58, .inl (cs 0, 18, .inl (r0 58))), (a0 59, .inl (cs 0, 18, .inl (r0 59))), (a0 60, .inl (cs 0, 64, .inl (r0 60))), (a0 68, .inl (cs 0, 100, .inl (r0 68))), (a0 69, .inl (cs 0, 100, .inl (r0 69))), (a0 70, .inl (cs 0, 100, .inl (r0 70))), (a0 71, .inl (cs 0, 100, .inl (r0 71))), (a0 72, .inl (cs 0, 4096, .inl (r0 72))), (a0 73, .inl (cs 0, 4096, .inl (r0 73))), (a0 74, .inl (cs 0, 4096, .inl (r0 74))), (a0 80, .inl (cs 0, 20, .inl (r0 80))), (a0 81, .inl (cs 0, 20, .inl (r0 81))), (a0 82, .inl (cs 0, 20, .inl (r0 82))), (a0 83, .inl (cs 0, 20, .inl (r0 83))), (a0 84, .inl (cs 0, 20, .inl (r0 84))), (a0 85, .inl (cs 0, 20, .inl (r0 85))), (a0 86, .inl (cs 0, 256, .inl (r0 86)))]) (ws2 := W13 cs h0 a0 i0 r0 l0) (As := [.ref (a0 20)]) (rest := []) hx hb hml hown hts hK hA hZ hl.1 hP hD hS (c_X13_rank (h0 := (a0 20)) (n0 := 8) hq3) (gSt mlX13_339 stX13_rank inX13 coX13_rank) rfl qnX13_rank rfl rfl ⟨Nat.le_of_ble_eq_true rfl, Nat.le_of_ble_eq_true rfl⟩ [12] [0, 1, 2, 3, 4, 5, 6, 7, 8, 9, 10, 11, 13, 14, 15, 16, 17, 18, 19, 20, 21, 22, 23, 24, 25, 26, 27, 28, 29, 30, 31, 32, 33, 34, 35, 36, 37, 38, 39, 40, 41, 42, 43, 44, 45, 46, 47, 48, 49, 50, 51] [0, 1, 2, 3, 4, 5, 6, 7, 8, 9, 10, 11, 51, 12, 13, 14, 15, 16, 17, 18, 19, 20, 21, 22, 23, 24, 25, 26, 27, 28, 29, 30, 31, 32, 33, 34, 35, 36, 37, 38, 39, 40, 41, 42, 43, 44, 45, 46, 47, 48, 49, 50] rfl rfl rfl (by decide) rfl rfl (Nat.le_of_ble_eq_true rfl) ⟨Nat.zero_le _, Nat.zero_le _⟩ dX13_without_48 (fun H locs hP hD hS => ?_)
      obtain rfl := Option.some.inj hf
      exact k_iret hx hb hr hlocks hK hP hD hS dX13_without_51
    · have hf := ite_f hf hc
      refine lv_aload_n hx hb dX13_without_8 rfl (lv_at hl 0 rfl) ?_
      refine va_get (D := D) (ci := 13) (v := .ref (a0 20)) (C := RX13) (T := TX13) (N := 87) hx hb hts hiX13 hown hK hP 0 rfl rfl 20 (by decide) (hts _ flX13_155) (fun _ h9 => h9) rfl dX13_without_9 ?_
      refine lv_iload_n hx hb dX13_without_12 rfl (lv_at hl 3 rfl) ?_
      refine lv_aload_n hx hb dX13_without_13 rfl (lv_at hl 1 rfl) ?_
      refine lv_aload_n hx hb dX13_without_14 rfl (lv_at hl 0 rfl) ?_
      refine va_get (D := D) (ci := 13) (v := .ref (a0 21)) (C := RX13) (T := TX13) (N := 87) hx hb hts hiX13 hown hK hP 0 rfl rfl 21 (by decide) (hts _ flX13_158) (fun _ h9 => h9) rfl dX13_without_15 ?_
      refine lv_iload_n hx hb dX13_without_18 rfl (lv_at hl 2 rfl) ?_
      refine va_iald (f := r0 21) hx hb hK hP 13 0 rfl rfl (ck_in hf) dX13_without_19 ?_
      have hf := ck_2 hf
      refine lv_aload_n hx hb dX13_without_20 rfl (lv_at hl 0 rfl) ?_
      refine va_get (D := D) (ci := 13) (v := .ref (a0 22)) (C := RX13) (T := TX13) (N := 87) hx hb hts hiX13 hown hK hP 0 rfl rfl 22 (by decide) (hts _ flX13_161) (fun _ h9 => h9) rfl dX13_without_21 ?_
      refine lv_iload_n hx hb dX13_without_24 rfl (lv_at hl 2 rfl) ?_
      refine va_iald (f := r0 22) hx hb hK hP 14 0 rfl rfl (ck_in hf) dX13_without_25 ?_
      have hf := ck_2 hf
      refine lv_aload_n hx hb dX13_without_26 rfl (lv_at hl 0 rfl) ?_
      refine va_get (D := D) (ci := 13) (v := .ref (a0 23)) (C := RX13) (T := TX13) (N := 87) hx hb hts hiX13 hown hK hP 0 rfl rfl 23 (by decide) (hts _ flX13_164) (fun _ h9 => h9) rfl dX13_without_27 ?_
      refine lv_iload_n hx hb dX13_without_30 rfl (lv_at hl 2 rfl) ?_
      refine va_iald (f := r0 23) hx hb hK hP 15 0 rfl rfl (ck_in hf) dX13_without_31 ?_
      have hf := ck_2 hf
      refine lv_iload_n hx hb dX13_without_32 rfl (lv_at hl 3 rfl) ?_
      obtain ⟨q4, hq4, hf⟩ := bd_s hf
      refine k_eSi (As := [.int (r0 21 x2.toNatClampNeg), .int (r0 22 x2.toNatClampNeg), .int (r0 23 x2.toNatClampNeg), .int x3]) (rest := [.ref (a0 19), .int x3, .ref (a0 20)]) hx hb hml hown hts hK hA hZ hl.1 hP hD hS (c_X13_done  hq4) (gSt mlX13_306 stX13_done inX13 coX13_done) rfl qnX13_done rfl rfl ⟨Nat.le_of_ble_eq_true rfl, Nat.le_of_ble_eq_true rfl⟩ rfl rfl (Nat.le_of_ble_eq_true rfl) ⟨Nat.zero_le _, Nat.zero_le _⟩ dX13_without_33 (fun H locs hP hD hS => ?_)
      refine va_iald (f := r0 19) hx hb hK hP 11 0 rfl rfl (ck_in hf) dX13_without_36 ?_
      have hf := ck_2 hf
      refine va_iast (f := r0 20) hx hb hK hP hD hS 12 0 rfl rfl (ck_in hf) dX13_without_37 (fun H locs hP hD hS => ?_)
      have hf := ck_2 hf
      obtain ⟨hP, hD⟩ := st13_20 hP hD
      refine lv_iinc (v := x3 + 1) (lv' := [(3, .int (x3 + 1)), (0, .ref h0), (1, .ref (a0 19)), (2, .int x2)]) hx hb dX13_without_38 hl (k := 3) rfl rfl (by decide) rfl (fun ls hl => ?_)
      refine lv_goto (tgt := 2) hx hb dX13_without_41 (by decide) ?_
      exact ih _ _ _ _ _ _ hf hP hD hS (lv_sub hl [1, 2, 3, 0] rfl)
def f_X13_without  (i0 : Nat → Int32) (r0 : Nat → Nat → Int32) (l0 : Nat → Nat → Int64) (x2 : Int32) : Option (Int32 × (Nat → Nat → Int32)) := f_X13_without_2 i0 l0 2000000 r0 x2 0
set_option maxRecDepth 100000 in
set_option maxHeartbeats 4000000 in
theorem c_X13_without {l : Launch} {D : va_G} {cs zs : Nat → Nat} {h0 : Nat} {a0 : Nat → Nat} {i0 : Nat → Int32} {r0 : Nat → Nat → Int32} {l0 : Nat → Nat → Int64} {x2 : Int32} {q : Int32 × (Nat → Nat → Int32)} (hf : f_X13_without i0 r0 l0 x2 = some q) : Mi l yX13_without wlX13_without rmX13_without D cs zs [.ref h0, .ref (a0 19), .int x2] (W13 cs h0 a0 i0 r0 l0) q.1 (W13 cs h0 a0 i0 q.2 l0) := by
  refine Mi.of RX13 (by decide) rfl (Nat.le_of_ble_eq_true rfl) (fun p e s m below meth c A C hP hD hS ls hl => ?_)
  generalize ([.ref h0, .ref (a0 19), .int x2] : List Value).toArray = args at C ⊢
  obtain ⟨hx, hb, hr, hml, hown, hts, hK, hA, hlocks, hZ⟩ := id C
  have hl : lv_has ls 4 [(0, .ref h0), (1, .ref (a0 19)), (2, .int x2)] := hl
  rw [f_X13_without] at hf
  refine lv_iconst (v := 0) hx hb dX13_without_0 (by decide) ?_
  refine lv_istore_n (lv' := [(3, .int 0), (0, .ref h0), (1, .ref (a0 19)), (2, .int x2)]) hx hb dX13_without_1 rfl hl (by decide) rfl (fun ls hl => ?_)
  exact w_X13_without_2 C  2000000 _ _ _ _ _ _ hf hP hD hS (lv_sub hl [1, 2, 3, 0] rfl)
