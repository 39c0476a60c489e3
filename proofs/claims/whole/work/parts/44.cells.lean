/-! MarbleFloor$Cells.clear(II)V -/
abbrev wlX0_clear : List Cond := Cond.code yX0_clear cX0_clear 4 none :: tbG
abbrev rmX0_clear : Room := { frames := 1, cells := 0, slots := 0, locals := 23 }
theorem qnX0_clear : yX0_clear.cls = RX0 ∧ yX0_clear.cls ≠ "java/lang/invoke/MethodHandle" ∧ yX0_clear.cls ≠ "java/lang/invoke/VarHandle" ∧ (parseMethodDescriptor yX0_clear.desc).map (fun d => d.parameters.length) = some 2 := by decide +kernel
def f_X0_clear_75  (K45 : (Nat → Int32) → (Nat → Nat → Int32) → Int32 → Option ((Nat → Int32) × (Nat → Nat → Int32))) (i0 : Nat → Int32) (r0 : Nat → Nat → Int32) (x3 : Int32) : Option ((Nat → Int32) × (Nat → Nat → Int32)) := K45 i0 r0 (x3 + 1)
set_option maxRecDepth 100000 in
set_option maxHeartbeats 4000000 in
theorem w_X0_clear_75 {p : Program} {l : Launch} {e : Env} {s : State} {m : MethodId} {args : Array Value} {below : List Frame} {meth : Method} {c : Code} {A : Nat → Prop} {D : va_G} {cs zs : Nat → Nat} {h0 : Nat} {a0 : Nat → Nat}  {q : (Nat → Int32) × (Nat → Nat → Int32)} (C : Cx p s m args meth c A D cs zs cX0_clear 4 none RX0) (K45 : (Nat → Int32) → (Nat → Nat → Int32) → Int32 → Option ((Nat → Int32) × (Nat → Nat → Int32))) (hK45 : ∀ (i0 : Nat → Int32) (r0 : Nat → Nat → Int32) (x3 : Int32) (H : Heap) (locs : List Loc) (ls : Array Slot), K45 i0 r0 x3 = some q → va_P D vwCl (W0 cs h0 a0 i0 r0) H → va_D A (W0 cs h0 a0 i0 r0) → va_S A s.heap H locs → lv_has ls 4 [(0, .ref h0), (3, .int x3)] → W p l e rmX0_clear s m args below meth c H locs 0 0 (MQ below (Qv D cs A (W0 cs h0 a0 q.1 q.2)) args s 0 0 A) (F0 m 45 ls [])) : ∀ (i0 : Nat → Int32) (r0 : Nat → Nat → Int32) (x3 : Int32) (H : Heap) (locs : List Loc) (ls : Array Slot), f_X0_clear_75 K45 i0 r0 x3 = some q → va_P D vwCl (W0 cs h0 a0 i0 r0) H → va_D A (W0 cs h0 a0 i0 r0) → va_S A s.heap H locs → lv_has ls 4 [(0, .ref h0), (3, .int x3)] → W p l e rmX0_clear s m args below meth c H locs 0 0 (MQ below (Qv D cs A (W0 cs h0 a0 q.1 q.2)) args s 0 0 A) (F0 m 75 ls []) := by
  obtain ⟨hx, hb, hr, hml, hown, hts, hK, hA, hlocks, hZ⟩ := id C
  intro i0 r0 x3 H locs ls hf hP hD hS hl
  rw [f_X0_clear_75] at hf
  refine lv_iinc (v := x3 + 1) (lv' := [(3, .int (x3 + 1)), (0, .ref h0)]) hx hb dX0_clear_75 hl (k := 1) rfl rfl (by decide) rfl (fun ls hl => ?_)
  refine lv_goto (tgt := 45) hx hb dX0_clear_78 (by decide) ?_
  exact hK45 _ _ _ _ _ _ hf hP hD hS (lv_sub hl [1, 0] rfl)
def f_X0_clear_45   : Nat → (Nat → Int32) → (Nat → Nat → Int32) → Int32 → Option ((Nat → Int32) × (Nat → Nat → Int32))
  | 0, _, _, _ => none
  | n + 1, i0, r0, x3 => if 4 ≤ x3 then (some (i0, r0)) else (ck (inb x3 4) (if x3 = 0 then (bd (f_J7_fill_53178 10 (r0 (30 + x3.toNatClampNeg)) (((1 : Int32) <<< ((i0 3) &&& 31)) - 1)) (fun q5 => f_X0_clear_75 (f_X0_clear_45 n) i0 (va_up r0 (30 + x3.toNatClampNeg) q5) x3)) else (bd (f_J7_fill_53178 10 (r0 (30 + x3.toNatClampNeg)) 0) (fun q4 => f_X0_clear_75 (f_X0_clear_45 n) i0 (va_up r0 (30 + x3.toNatClampNeg) q4) x3))))
set_option maxRecDepth 100000 in
set_option maxHeartbeats 4000000 in
theorem w_X0_clear_45 {p : Program} {l : Launch} {e : Env} {s : State} {m : MethodId} {args : Array Value} {below : List Frame} {meth : Method} {c : Code} {A : Nat → Prop} {D : va_G} {cs zs : Nat → Nat} {h0 : Nat} {a0 : Nat → Nat}  {q : (Nat → Int32) × (Nat → Nat → Int32)} (C : Cx p s m args meth c A D cs zs cX0_clear 4 none RX0)  : ∀ (n : Nat), ∀ (i0 : Nat → Int32) (r0 : Nat → Nat → Int32) (x3 : Int32) (H : Heap) (locs : List Loc) (ls : Array Slot), f_X0_clear_45 n i0 r0 x3 = some q → va_P D vwCl (W0 cs h0 a0 i0 r0) H → va_D A (W0 cs h0 a0 i0 r0) → va_S A s.heap H locs → lv_has ls 4 [(0, .ref h0), (3, .int x3)] → W p l e rmX0_clear s m args below meth c H locs 0 0 (MQ below (Qv D cs A (W0 cs h0 a0 q.1 q.2)) args s 0 0 A) (F0 m 45 ls []) := by
  obtain ⟨hx, hb, hr, hml, hown, hts, hK, hA, hlocks, hZ⟩ := id C
  intro n
  induction n with
  | zero =>
    intro i0 r0 x3 H locs ls hf
    rw [f_X0_clear_45] at hf
    cases hf
  | succ n ih =>
    intro i0 r0 x3 H locs ls hf hP hD hS hl
    rw [f_X0_clear_45] at hf
    refine lv_iload_n hx hb dX0_clear_45 rfl (lv_at hl 1 rfl) ?_
    refine lv_iconst (v := 4) hx hb dX0_clear_46 (by decide) ?_
    refine lv_icmp_ge (tgt := 81) hx hb dX0_clear_47 (by decide) (fun hc => ?_) (fun hc => ?_)
    · have hf := ite_t hf hc
      obtain rfl := Option.some.inj hf
      exact k_vret hx hb hr hlocks hK hP hD hS dX0_clear_81
    · have hf := ite_f hf hc
      refine lv_aload_n hx hb dX0_clear_50 rfl (lv_at hl 0 rfl) ?_
      refine va_get (D := D) (ci := 0) (v := .ref (a0 2)) (C := RX0) (T := TX0) (N := 7) hx hb hts hiX0 hown hK hP 0 rfl rfl 2 (by decide) (hts _ flX0_19) (fun _ h9 => h9) rfl dX0_clear_51 ?_
      refine lv_iload_n hx hb dX0_clear_54 rfl (lv_at hl 1 rfl) ?_
      have hj3 := inb_lt (ck_in hf)
      refine k_aald (f := fun j => a0 (30 + j)) (j := x3.toNatClampNeg) hx hb hK hP 3 5 rfl rfl rfl (ck_in hf) rfl dX0_clear_55 ?_
      have hf := ck_2 hf
      refine lv_iload_n hx hb dX0_clear_56 rfl (lv_at hl 1 rfl) ?_
      refine lv_if_ne (tgt := 71) hx hb dX0_clear_57 (by decide) (fun hc => ?_) (fun hc => ?_)
      · have hf := ite_f hf hc
        refine lv_iconst (v := 0) hx hb dX0_clear_71 (by decide) ?_
        obtain ⟨q4, hq4, hf⟩ := bd_s hf
        refine k_rSv (k := 12 + x3.toNatClampNeg) (w := ((a0 (30 + x3.toNatClampNeg)), .inl (cs 0, 10, .inl (r0 (30 + x3.toNatClampNeg))))) (w' := ((a0 (30 + x3.toNatClampNeg)), .inl (cs 0, 10, .inl q4))) (As := [.ref (a0 (30 + x3.toNatClampNeg)), .int 0]) (rest := []) hx hb hml hown hts hK hA hZ hl.1 hP hD hS (c_J7_fill_53178 (h0 := (a0 (30 + x3.toNatClampNeg))) (n0 := 10) hq4) (gSt mlX0_39 stJ7_fill_53178 inJ7 coJ7_fill_53178) rfl qnJ7_fill_53178 rfl rfl ⟨Nat.le_of_ble_eq_true rfl, Nat.le_of_ble_eq_true rfl⟩ (row0_30 hj3) rfl rfl rfl (Nat.le_of_ble_eq_true rfl) ⟨Nat.zero_le _, Nat.zero_le _⟩ dX0_clear_72 (fun H locs hP hD hS => ?_)
        obtain ⟨hP, hD⟩ := set0_30 hj3 hP hD
        exact w_X0_clear_75 C _ (ih) _ _ _ _ _ _ hf hP hD hS (lv_sub hl [0, 1] rfl)
      · have hf := ite_t hf hc
        refine lv_iconst (v := 1) hx hb dX0_clear_60 (by decide) ?_
        refine lv_aload_n hx hb dX0_clear_61 rfl (lv_at hl 0 rfl) ?_
        refine va_get (D := D) (ci := 0) (v := .int (i0 3)) (C := RX0) (T := TX0) (N := 7) hx hb hts hiX0 hown hK hP 0 rfl rfl 3 (by decide) (hts _ flX0_26) (fun _ h9 => h9) rfl dX0_clear_62 ?_
        refine lv_ishl hx hb dX0_clear_65 ?_
        refine lv_iconst (v := 1) hx hb dX0_clear_66 (by decide) ?_
        refine lv_isub hx hb dX0_clear_67 ?_
        refine lv_goto (tgt := 72) hx hb dX0_clear_68 (by decide) ?_
        obtain ⟨q5, hq5, hf⟩ := bd_s hf
        refine k_rSv (k := 12 + x3.toNatClampNeg) (w := ((a0 (30 + x3.toNatClampNeg)), .inl (cs 0, 10, .inl (r0 (30 + x3.toNatClampNeg))))) (w' := ((a0 (30 + x3.toNatClampNeg)), .inl (cs 0, 10, .inl q5))) (As := [.ref (a0 (30 + x3.toNatClampNeg)), .int (((1 : Int32) <<< ((i0 3) &&& 31)) - 1)]) (rest := []) hx hb hml hown hts hK hA hZ hl.1 hP hD hS (c_J7_fill_53178 (h0 := (a0 (30 + x3.toNatClampNeg))) (n0 := 10) hq5) (gSt mlX0_39 stJ7_fill_53178 inJ7 coJ7_fill_53178) rfl qnJ7_fill_53178 rfl rfl ⟨Nat.le_of_ble_eq_true rfl, Nat.le_of_ble_eq_true rfl⟩ (row0_30 hj3) rfl rfl rfl (Nat.le_of_ble_eq_true rfl) ⟨Nat.zero_le _, Nat.zero_le _⟩ dX0_clear_72 (fun H locs hP hD hS => ?_)
        obtain ⟨hP, hD⟩ := set0_30 hj3 hP hD
        exact w_X0_clear_75 C _ (ih) _ _ _ _ _ _ hf hP hD hS (lv_sub hl [0, 1] rfl)
def f_X0_clear_22   : Nat → (Nat → Int32) → (Nat → Nat → Int32) → Int32 → Option ((Nat → Int32) × (Nat → Nat → Int32))
  | 0, _, _, _ => none
  | n + 1, i0, r0, x3 => if 4 ≤ x3 then (f_X0_clear_45 2000000 i0 r0 0) else (ck (inb x3 4) (bd (f_J7_fill_53178 10 (r0 (10 + x3.toNatClampNeg)) 0) (fun q7 => f_X0_clear_22 n i0 (va_up r0 (10 + x3.toNatClampNeg) q7) (x3 + 1))))
set_option maxRecDepth 100000 in
set_option maxHeartbeats 4000000 in
theorem w_X0_clear_22 {p : Program} {l : Launch} {e : Env} {s : State} {m : MethodId} {args : Array Value} {below : List Frame} {meth : Method} {c : Code} {A : Nat → Prop} {D : va_G} {cs zs : Nat → Nat} {h0 : Nat} {a0 : Nat → Nat}  {q : (Nat → Int32) × (Nat → Nat → Int32)} (C : Cx p s m args meth c A D cs zs cX0_clear 4 none RX0)  : ∀ (n : Nat), ∀ (i0 : Nat → Int32) (r0 : Nat → Nat → Int32) (x3 : Int32) (H : Heap) (locs : List Loc) (ls : Array Slot), f_X0_clear_22 n i0 r0 x3 = some q → va_P D vwCl (W0 cs h0 a0 i0 r0) H → va_D A (W0 cs h0 a0 i0 r0) → va_S A s.heap H locs → lv_has ls 4 [(0, .ref h0), (3, .int x3)] → W p l e rmX0_clear s m args below meth c H locs 0 0 (MQ below (Qv D cs A (W0 cs h0 a0 q.1 q.2)) args s 0 0 A) (F0 m 22 ls []) := by
  obtain ⟨hx, hb, hr, hml, hown, hts, hK, hA, hlocks, hZ⟩ := id C
  intro n
  induction n with
  | zero =>
    intro i0 r0 x3 H locs ls hf
    rw [f_X0_clear_22] at hf
    cases hf
  | succ n ih =>
    intro i0 r0 x3 H locs ls hf hP hD hS hl
    rw [f_X0_clear_22] at hf
    refine lv_iload_n hx hb dX0_clear_22 rfl (lv_at hl 1 rfl) ?_
    refine lv_iconst (v := 4) hx hb dX0_clear_23 (by decide) ?_
    refine lv_icmp_ge (tgt := 43) hx hb dX0_clear_24 (by decide) (fun hc => ?_) (fun hc => ?_)
    · have hf := ite_t hf hc
      refine lv_iconst (v := 0) hx hb dX0_clear_43 (by decide) ?_
      refine lv_istore_n (lv' := [(3, .int 0), (0, .ref h0)]) hx hb dX0_clear_44 rfl hl (by decide) rfl (fun ls hl => ?_)
      exact w_X0_clear_45 C  2000000 _ _ _ _ _ _ hf hP hD hS (lv_sub hl [1, 0] rfl)
    · have hf := ite_f hf hc
      refine lv_aload_n hx hb dX0_clear_27 rfl (lv_at hl 0 rfl) ?_
      refine va_get (D := D) (ci := 0) (v := .ref (a0 0)) (C := RX0) (T := TX0) (N := 7) hx hb hts hiX0 hown hK hP 0 rfl rfl 0 (by decide) (hts _ flX0_13) (fun _ h9 => h9) rfl dX0_clear_28 ?_
      refine lv_iload_n hx hb dX0_clear_31 rfl (lv_at hl 1 rfl) ?_
      have hj6 := inb_lt (ck_in hf)
      refine k_aald (f := fun j => a0 (10 + j)) (j := x3.toNatClampNeg) hx hb hK hP 1 5 rfl rfl rfl (ck_in hf) rfl dX0_clear_32 ?_
      have hf := ck_2 hf
      refine lv_iconst (v := 0) hx hb dX0_clear_33 (by decide) ?_
      obtain ⟨q7, hq7, hf⟩ := bd_s hf
      refine k_rSv (k := 4 + x3.toNatClampNeg) (w := ((a0 (10 + x3.toNatClampNeg)), .inl (cs 0, 10, .inl (r0 (10 + x3.toNatClampNeg))))) (w' := ((a0 (10 + x3.toNatClampNeg)), .inl (cs 0, 10, .inl q7))) (As := [.ref (a0 (10 + x3.toNatClampNeg)), .int 0]) (rest := []) hx hb hml hown hts hK hA hZ hl.1 hP hD hS (c_J7_fill_53178 (h0 := (a0 (10 + x3.toNatClampNeg))) (n0 := 10) hq7) (gSt mlX0_39 stJ7_fill_53178 inJ7 coJ7_fill_53178) rfl qnJ7_fill_53178 rfl rfl ⟨Nat.le_of_ble_eq_true rfl, Nat.le_of_ble_eq_true rfl⟩ (row0_10 hj6) rfl rfl rfl (Nat.le_of_ble_eq_true rfl) ⟨Nat.zero_le _, Nat.zero_le _⟩ dX0_clear_34 (fun H locs hP hD hS => ?_)
      obtain ⟨hP, hD⟩ := set0_10 hj6 hP hD
      refine lv_iinc (v := x3 + 1) (lv' := [(3, .int (x3 + 1)), (0, .ref h0)]) hx hb dX0_clear_37 hl (k := 1) rfl rfl (by decide) rfl (fun ls hl => ?_)
      refine lv_goto (tgt := 22) hx hb dX0_clear_40 (by decide) ?_
      exact ih _ _ _ _ _ _ hf hP hD hS (lv_sub hl [1, 0] rfl)
def f_X0_clear_20   (i0 : Nat → Int32) (r0 : Nat → Nat → Int32) : Option ((Nat → Int32) × (Nat → Nat → Int32)) := f_X0_clear_22 2000000 i0 r0 0
set_option maxRecDepth 100000 in
set_option maxHeartbeats 4000000 in
theorem w_X0_clear_20 {p : Program} {l : Launch} {e : Env} {s : State} {m : MethodId} {args : Array Value} {below : List Frame} {meth : Method} {c : Code} {A : Nat → Prop} {D : va_G} {cs zs : Nat → Nat} {h0 : Nat} {a0 : Nat → Nat}  {q : (Nat → Int32) × (Nat → Nat → Int32)} (C : Cx p s m args meth c A D cs zs cX0_clear 4 none RX0)  : ∀ (i0 : Nat → Int32) (r0 : Nat → Nat → Int32) (H : Heap) (locs : List Loc) (ls : Array Slot), f_X0_clear_20 i0 r0 = some q → va_P D vwCl (W0 cs h0 a0 i0 r0) H → va_D A (W0 cs h0 a0 i0 r0) → va_S A s.heap H locs → lv_has ls 4 [(0, .ref h0)] → W p l e rmX0_clear s m args below meth c H locs 0 0 (MQ below (Qv D cs A (W0 cs h0 a0 q.1 q.2)) args s 0 0 A) (F0 m 20 ls []) := by
  obtain ⟨hx, hb, hr, hml, hown, hts, hK, hA, hlocks, hZ⟩ := id C
  intro i0 r0 H locs ls hf hP hD hS hl
  rw [f_X0_clear_20] at hf
  refine lv_iconst (v := 0) hx hb dX0_clear_20 (by decide) ?_
  refine lv_istore_n (lv' := [(3, .int 0), (0, .ref h0)]) hx hb dX0_clear_21 rfl hl (by decide) rfl (fun ls hl => ?_)
  exact w_X0_clear_22 C  2000000 _ _ _ _ _ _ hf hP hD hS (lv_sub hl [1, 0] rfl)
def f_X0_clear  (i0 : Nat → Int32) (r0 : Nat → Nat → Int32) (x1 : Int32) (x2 : Int32) : Option ((Nat → Int32) × (Nat → Nat → Int32)) := f_X0_clear_20 (upd (upd (upd (upd i0 3 x1) 4 x2) 5 0) 6 0) r0
set_option maxRecDepth 100000 in
set_option maxHeartbeats 4000000 in
theorem c_X0_clear {l : Launch} {D : va_G} {cs zs : Nat → Nat} {h0 : Nat} {a0 : Nat → Nat} {i0 : Nat → Int32} {r0 : Nat → Nat → Int32} {x1 : Int32} {x2 : Int32} {q : (Nat → Int32) × (Nat → Nat → Int32)} (hf : f_X0_clear i0 r0 x1 x2 = some q) : Mv l yX0_clear wlX0_clear rmX0_clear D cs zs [.ref h0, .int x1, .int x2] (W0 cs h0 a0 i0 r0) (W0 cs h0 a0 q.1 q.2) := by
  refine Mv.of RX0 (by decide) rfl (Nat.le_of_ble_eq_true rfl) (fun p e s m below meth c A C hP hD hS ls hl => ?_)
  generalize ([.ref h0, .int x1, .int x2] : List Value).toArray = args at C ⊢
  obtain ⟨hx, hb, hr, hml, hown, hts, hK, hA, hlocks, hZ⟩ := id C
  have hl : lv_has ls 4 [(0, .ref h0), (1, .int x1), (2, .int x2)] := hl
  rw [f_X0_clear] at hf
  refine lv_aload_n hx hb dX0_clear_0 rfl (lv_at hl 0 rfl) ?_
  refine lv_iload_n hx hb dX0_clear_1 rfl (lv_at hl 1 rfl) ?_
  refine va_put (D := D) (ci := 0) (v := .int x1) (ty := .int) (C := RX0) (T := TX0) (N := 7) hx hb hts hiX0 tyX0 tyX0_ok nmX0 hown hK hP hD hS 0 rfl rfl 3 (by decide) (hts _ flX0_26) (fun _ h9 => h9) rfl (tyX0_ok 3 (by decide)) rfl rfl (Nat.le_of_ble_eq_true rfl) dX0_clear_2 (fun H locs hP hD hS => ?_)
  obtain ⟨hP, hD⟩ := st0_3 hP hD
  refine lv_aload_n hx hb dX0_clear_5 rfl (lv_at hl 0 rfl) ?_
  refine lv_iload_n hx hb dX0_clear_6 rfl (lv_at hl 2 rfl) ?_
  refine va_put (D := D) (ci := 0) (v := .int x2) (ty := .int) (C := RX0) (T := TX0) (N := 7) hx hb hts hiX0 tyX0 tyX0_ok nmX0 hown hK hP hD hS 0 rfl rfl 4 (by decide) (hts _ flX0_30) (fun _ h9 => h9) rfl (tyX0_ok 4 (by decide)) rfl rfl (Nat.le_of_ble_eq_true rfl) dX0_clear_7 (fun H locs hP hD hS => ?_)
  obtain ⟨hP, hD⟩ := st0_4 hP hD
  refine lv_aload_n hx hb dX0_clear_10 rfl (lv_at hl 0 rfl) ?_
  refine lv_iconst (v := 0) hx hb dX0_clear_11 (by decide) ?_
  refine va_put (D := D) (ci := 0) (v := .int 0) (ty := .int) (C := RX0) (T := TX0) (N := 7) hx hb hts hiX0 tyX0 tyX0_ok nmX0 hown hK hP hD hS 0 rfl rfl 5 (by decide) (hts _ flX0_33) (fun _ h9 => h9) rfl (tyX0_ok 5 (by decide)) rfl rfl (Nat.le_of_ble_eq_true rfl) dX0_clear_12 (fun H locs hP hD hS => ?_)
  obtain ⟨hP, hD⟩ := st0_5 hP hD
  refine lv_aload_n hx hb dX0_clear_15 rfl (lv_at hl 0 rfl) ?_
  refine lv_iconst (v := 0) hx hb dX0_clear_16 (by decide) ?_
  refine va_put (D := D) (ci := 0) (v := .int 0) (ty := .int) (C := RX0) (T := TX0) (N := 7) hx hb hts hiX0 tyX0 tyX0_ok nmX0 hown hK hP hD hS 0 rfl rfl 6 (by decide) (hts _ flX0_36) (fun _ h9 => h9) rfl (tyX0_ok 6 (by decide)) rfl rfl (Nat.le_of_ble_eq_true rfl) dX0_clear_17 (fun H locs hP hD hS => ?_)
  obtain ⟨hP, hD⟩ := st0_6 hP hD
  exact w_X0_clear_20 C  _ _ _ _ _ hf hP hD hS (lv_sub hl [0] rfl)
/-! MarbleFloor$Cells.hasNoCell(II)Z -/
abbrev wlX0_hasNoCell : List Cond := Cond.code yX0_hasNoCell cX0_hasNoCell 3 (some .boolean) :: tbG
abbrev rmX0_hasNoCell : Room := { frames := 0, cells := 0, slots := 0, locals := 0 }
theorem qnX0_hasNoCell : yX0_hasNoCell.cls = RX0 ∧ yX0_hasNoCell.cls ≠ "java/lang/invoke/MethodHandle" ∧ yX0_hasNoCell.cls ≠ "java/lang/invoke/VarHandle" ∧ (parseMethodDescriptor yX0_hasNoCell.desc).map (fun d => d.parameters.length) = some 2 := by decide +kernel
def f_X0_hasNoCell  (i0 : Nat → Int32) (r0 : Nat → Nat → Int32) (x1 : Int32) (x2 : Int32) : Option (Int32) := if x1 < 0 then (some (1)) else (if (i0 3) ≤ x1 then (some (1)) else (if x2 < 0 then (some (1)) else (if x2 < (i0 4) then (some (0)) else (some (1)))))
set_option maxRecDepth 100000 in
set_option maxHeartbeats 4000000 in
theorem c_X0_hasNoCell {l : Launch} {D : va_G} {cs zs : Nat → Nat} {h0 : Nat} {a0 : Nat → Nat} {i0 : Nat → Int32} {r0 : Nat → Nat → Int32} {x1 : Int32} {x2 : Int32} {q : Int32} (hf : f_X0_hasNoCell i0 r0 x1 x2 = some q) : Mi l yX0_hasNoCell wlX0_hasNoCell rmX0_hasNoCell D cs zs [.ref h0, .int x1, .int x2] (W0 cs h0 a0 i0 r0) q (W0 cs h0 a0 i0 r0) := by
  refine Mi.of RX0 (by decide) rfl (Nat.le_of_ble_eq_true rfl) (fun p e s m below meth c A C hP hD hS ls hl => ?_)
  generalize ([.ref h0, .int x1, .int x2] : List Value).toArray = args at C ⊢
  obtain ⟨hx, hb, hr, hml, hown, hts, hK, hA, hlocks, hZ⟩ := id C
  have hl : lv_has ls 3 [(0, .ref h0), (1, .int x1), (2, .int x2)] := hl
  rw [f_X0_hasNoCell] at hf
  refine lv_iload_n hx hb dX0_hasNoCell_0 rfl (lv_at hl 1 rfl) ?_
  refine lv_if_lt (tgt := 24) hx hb dX0_hasNoCell_1 (by decide) (fun hc => ?_) (fun hc => ?_)
  · have hf := ite_t hf hc
    refine lv_iconst (v := 1) hx hb dX0_hasNoCell_24 (by decide) ?_
    refine lv_goto (tgt := 29) hx hb dX0_hasNoCell_25 (by decide) ?_
    obtain rfl := Option.some.inj hf
    exact k_zret (r := 1) hx hb hr hlocks rfl hK hP hD hS dX0_hasNoCell_29
  · have hf := ite_f hf hc
    refine lv_iload_n hx hb dX0_hasNoCell_4 rfl (lv_at hl 1 rfl) ?_
    refine lv_aload_n hx hb dX0_hasNoCell_5 rfl (lv_at hl 0 rfl) ?_
    refine va_get (D := D) (ci := 0) (v := .int (i0 3)) (C := RX0) (T := TX0) (N := 7) hx hb hts hiX0 hown hK hP 0 rfl rfl 3 (by decide) (hts _ flX0_26) (fun _ h9 => h9) rfl dX0_hasNoCell_6 ?_
    refine lv_icmp_ge (tgt := 24) hx hb dX0_hasNoCell_9 (by decide) (fun hc => ?_) (fun hc => ?_)
    · have hf := ite_t hf hc
      refine lv_iconst (v := 1) hx hb dX0_hasNoCell_24 (by decide) ?_
      refine lv_goto (tgt := 29) hx hb dX0_hasNoCell_25 (by decide) ?_
      obtain rfl := Option.some.inj hf
      exact k_zret (r := 1) hx hb hr hlocks rfl hK hP hD hS dX0_hasNoCell_29
    · have hf := ite_f hf hc
      refine lv_iload_n hx hb dX0_hasNoCell_12 rfl (lv_at hl 2 rfl) ?_
      refine lv_if_lt (tgt := 24) hx hb dX0_hasNoCell_13 (by decide) (fun hc => ?_) (fun hc => ?_)
      · have hf := ite_t hf hc
        refine lv_iconst (v := 1) hx hb dX0_hasNoCell_24 (by decide) ?_
        refine lv_goto (tgt := 29) hx hb dX0_hasNoCell_25 (by decide) ?_
        obtain rfl := Option.some.inj hf
        exact k_zret (r := 1) hx hb hr hlocks rfl hK hP hD hS dX0_hasNoCell_29
      · have hf := ite_f hf hc
        refine lv_iload_n hx hb dX0_hasNoCell_16 rfl (lv_at hl 2 rfl) ?_
        refine lv_aload_n hx hb dX0_hasNoCell_17 rfl (lv_at hl 0 rfl) ?_
        refine va_get (D := D) (ci := 0) (v := .int (i0 4)) (C := RX0) (T := TX0) (N := 7) hx hb hts hiX0 hown hK hP 0 rfl rfl 4 (by decide) (hts _ flX0_30) (fun _ h9 => h9) rfl dX0_hasNoCell_18 ?_
        refine lv_icmp_lt (tgt := 28) hx hb dX0_hasNoCell_21 (by decide) (fun hc => ?_) (fun hc => ?_)
        · have hf := ite_t hf hc
          refine lv_iconst (v := 0) hx hb dX0_hasNoCell_28 (by decide) ?_
          obtain rfl := Option.some.inj hf
          exact k_zret (r := 0) hx hb hr hlocks rfl hK hP hD hS dX0_hasNoCell_29
        · have hf := ite_f hf hc
          refine lv_iconst (v := 1) hx hb dX0_hasNoCell_24 (by decide) ?_
          refine lv_goto (tgt := 29) hx hb dX0_hasNoCell_25 (by decide) ?_
          obtain rfl := Option.some.inj hf
          exact k_zret (r := 1) hx hb hr hlocks rfl hK hP hD hS dX0_hasNoCell_29
/-! MarbleFloor$Cells.putPart(III)I -/
abbrev wlX0_putPart : List Cond := Cond.code yX0_putPart cX0_putPart 6 (some .int) :: tbG
abbrev rmX0_putPart : Room := { frames := 0, cells := 0, slots := 0, locals := 0 }
theorem qnX0_putPart : yX0_putPart.cls = RX0 ∧ yX0_putPart.cls ≠ "java/lang/invoke/MethodHandle" ∧ yX0_putPart.cls ≠ "java/lang/invoke/VarHandle" ∧ (parseMethodDescriptor yX0_putPart.desc).map (fun d => d.parameters.length) = some 3 := by decide +kernel
def f_X0_putPart_32  (K6 : (Nat → Int32) → (Nat → Nat → Int32) → Int32 → Int32 → Int32 → Int32 → Int32 → Option (Int32 × (Nat → Int32) × (Nat → Nat → Int32))) (i0 : Nat → Int32) (r0 : Nat → Nat → Int32) (x1 : Int32) (x2 : Int32) (x3 : Int32) (x4 : Int32) (x5 : Int32) : Option (Int32 × (Nat → Int32) × (Nat → Nat → Int32)) := K6 i0 r0 x1 x2 x3 x4 (x5 + 1)
set_option maxRecDepth 100000 in
set_option maxHeartbeats 4000000 in
theorem w_X0_putPart_32 {p : Program} {l : Launch} {e : Env} {s : State} {m : MethodId} {args : Array Value} {below : List Frame} {meth : Method} {c : Code} {A : Nat → Prop} {D : va_G} {cs zs : Nat → Nat} {h0 : Nat} {a0 : Nat → Nat}  {q : Int32 × (Nat → Int32) × (Nat → Nat → Int32)} (C : Cx p s m args meth c A D cs zs cX0_putPart 6 (some .int) RX0) (K6 : (Nat → Int32) → (Nat → Nat → Int32) → Int32 → Int32 → Int32 → Int32 → Int32 → Option (Int32 × (Nat → Int32) × (Nat → Nat → Int32))) (hK6 : ∀ (i0 : Nat → Int32) (r0 : Nat → Nat → Int32) (x1 : Int32) (x2 : Int32) (x3 : Int32) (x4 : Int32) (x5 : Int32) (H : Heap) (locs : List Loc) (ls : Array Slot), K6 i0 r0 x1 x2 x3 x4 x5 = some q → va_P D vwCl (W0 cs h0 a0 i0 r0) H → va_D A (W0 cs h0 a0 i0 r0) → va_S A s.heap H locs → lv_has ls 6 [(0, .ref h0), (1, .int x1), (2, .int x2), (3, .int x3), (4, .int x4), (5, .int x5)] → W p l e rmX0_putPart s m args below meth c H locs 0 0 (MQ below (Qi D cs A q.1 (W0 cs h0 a0 q.2.1 q.2.2)) args s 0 0 A) (F0 m 6 ls [])) : ∀ (i0 : Nat → Int32) (r0 : Nat → Nat → Int32) (x1 : Int32) (x2 : Int32) (x3 : Int32) (x4 : Int32) (x5 : Int32) (H : Heap) (locs : List Loc) (ls : Array Slot), f_X0_putPart_32 K6 i0 r0 x1 x2 x3 x4 x5 = some q → va_P D vwCl (W0 cs h0 a0 i0 r0) H → va_D A (W0 cs h0 a0 i0 r0) → va_S A s.heap H locs → lv_has ls 6 [(0, .ref h0), (1, .int x1), (2, .int x2), (3, .int x3), (4, .int x4), (5, .int x5)] → W p l e rmX0_putPart s m args below meth c H locs 0 0 (MQ below (Qi D cs A q.1 (W0 cs h0 a0 q.2.1 q.2.2)) args s 0 0 A) (F0 m 32 ls []) := by
  obtain ⟨hx, hb, hr, hml, hown, hts, hK, hA, hlocks, hZ⟩ := id C
  intro i0 r0 x1 x2 x3 x4 x5 H locs ls hf hP hD hS hl
  rw [f_X0_putPart_32] at hf
  refine lv_iinc (v := x5 + 1) (lv' := [(5, .int (x5 + 1)), (0, .ref h0), (1, .int x1), (2, .int x2), (3, .int x3), (4, .int x4)]) hx hb dX0_putPart_32 hl (k := 5) rfl rfl (by decide) rfl (fun ls hl => ?_)
  refine lv_goto (tgt := 6) hx hb dX0_putPart_35 (by decide) ?_
  exact hK6 _ _ _ _ _ _ _ _ _ _ hf hP hD hS (lv_sub hl [1, 2, 3, 4, 5, 0] rfl)
def f_X0_putPart_55   (i0 : Nat → Int32) (r0 : Nat → Nat → Int32) (x1 : Int32) (x2 : Int32) (x3 : Int32) (x4 : Int32) : Option (Int32 × (Nat → Int32) × (Nat → Nat → Int32)) := ck (inb x3 4) (ck (inb x2 10) (ck (inb x2 10) (some (x4, (upd i0 6 0), (va_up r0 (30 + x3.toNatClampNeg) (upd (r0 (30 + x3.toNatClampNeg)) x2.toNatClampNeg ((r0 (30 + x3.toNatClampNeg) x2.toNatClampNeg) ||| ((1 : Int32) <<< (x1 &&& 31)))))))))
set_option maxRecDepth 100000 in
set_option maxHeartbeats 4000000 in
theorem w_X0_putPart_55 {p : Program} {l : Launch} {e : Env} {s : State} {m : MethodId} {args : Array Value} {below : List Frame} {meth : Method} {c : Code} {A : Nat → Prop} {D : va_G} {cs zs : Nat → Nat} {h0 : Nat} {a0 : Nat → Nat}  {q : Int32 × (Nat → Int32) × (Nat → Nat → Int32)} (C : Cx p s m args meth c A D cs zs cX0_putPart 6 (some .int) RX0)  : ∀ (i0 : Nat → Int32) (r0 : Nat → Nat → Int32) (x1 : Int32) (x2 : Int32) (x3 : Int32) (x4 : Int32) (H : Heap) (locs : List Loc) (ls : Array Slot), f_X0_putPart_55 i0 r0 x1 x2 x3 x4 = some q → va_P D vwCl (W0 cs h0 a0 i0 r0) H → va_D A (W0 cs h0 a0 i0 r0) → va_S A s.heap H locs → lv_has ls 6 [(0, .ref h0), (1, .int x1), (2, .int x2), (3, .int x3), (4, .int x4)] → W p l e rmX0_putPart s m args below meth c H locs 0 0 (MQ below (Qi D cs A q.1 (W0 cs h0 a0 q.2.1 q.2.2)) args s 0 0 A) (F0 m 55 ls []) := by
  obtain ⟨hx, hb, hr, hml, hown, hts, hK, hA, hlocks, hZ⟩ := id C
  intro i0 r0 x1 x2 x3 x4 H locs ls hf hP hD hS hl
  rw [f_X0_putPart_55] at hf
  refine lv_aload_n hx hb dX0_putPart_55 rfl (lv_at hl 0 rfl) ?_
  refine va_get (D := D) (ci := 0) (v := .ref (a0 2)) (C := RX0) (T := TX0) (N := 7) hx hb hts hiX0 hown hK hP 0 rfl rfl 2 (by decide) (hts _ flX0_19) (fun _ h9 => h9) rfl dX0_putPart_56 ?_
  refine lv_iload_n hx hb dX0_putPart_59 rfl (lv_at hl 3 rfl) ?_
  have hj2 := inb_lt (ck_in hf)
  refine k_aald (f := fun j => a0 (30 + j)) (j := x3.toNatClampNeg) hx hb hK hP 3 5 rfl rfl rfl (ck_in hf) rfl dX0_putPart_60 ?_
  have hf := ck_2 hf
  refine lv_iload_n hx hb dX0_putPart_61 rfl (lv_at hl 2 rfl) ?_
  refine lv_dup2_11 hx hb dX0_putPart_62 rfl rfl ?_
  refine va_iald (f := r0 (30 + x3.toNatClampNeg)) hx hb hK hP (12 + x3.toNatClampNeg) 0 (row0_30 hj2) rfl (ck_in hf) dX0_putPart_63 ?_
  have hf := ck_2 hf
  refine lv_iconst (v := 1) hx hb dX0_putPart_64 (by decide) ?_
  refine lv_iload_n hx hb dX0_putPart_65 rfl (lv_at hl 1 rfl) ?_
  refine lv_ishl hx hb dX0_putPart_66 ?_
  refine lv_ior hx hb dX0_putPart_67 ?_
  refine va_iast (f := r0 (30 + x3.toNatClampNeg)) hx hb hK hP hD hS (12 + x3.toNatClampNeg) 0 (row0_30 hj2) rfl (ck_in hf) dX0_putPart_68 (fun H locs hP hD hS => ?_)
  have hf := ck_2 hf
  obtain ⟨hP, hD⟩ := set0_30 hj2 hP hD
  refine lv_aload_n hx hb dX0_putPart_69 rfl (lv_at hl 0 rfl) ?_
  refine lv_iconst (v := 0) hx hb dX0_putPart_70 (by decide) ?_
  refine va_put (D := D) (ci := 0) (v := .int 0) (ty := .int) (C := RX0) (T := TX0) (N := 7) hx hb hts hiX0 tyX0 tyX0_ok nmX0 hown hK hP hD hS 0 rfl rfl 6 (by decide) (hts _ flX0_36) (fun _ h9 => h9) rfl (tyX0_ok 6 (by decide)) rfl rfl (Nat.le_of_ble_eq_true rfl) dX0_putPart_71 (fun H locs hP hD hS => ?_)
  obtain ⟨hP, hD⟩ := st0_6 hP hD
  refine lv_iload hx hb dX0_putPart_74 (lv_at hl 4 rfl) ?_
  obtain rfl := Option.some.inj hf
  exact k_iret hx hb hr hlocks hK hP hD hS dX0_putPart_76
def f_X0_putPart_6   : Nat → (Nat → Int32) → (Nat → Nat → Int32) → Int32 → Int32 → Int32 → Int32 → Int32 → Option (Int32 × (Nat → Int32) × (Nat → Nat → Int32))
  | 0, _, _, _, _, _, _, _ => none
  | n + 1, i0, r0, x1, x2, x3, x4, x5 => if 4 ≤ x5 then (ck (inb x4 4) (ck (inb x2 10) (ck (inb x2 10) (f_X0_putPart_55 i0 (va_up r0 (30 + x4.toNatClampNeg) (upd (r0 (30 + x4.toNatClampNeg)) x2.toNatClampNeg ((r0 (30 + x4.toNatClampNeg) x2.toNatClampNeg) &&& (((1 : Int32) <<< (x1 &&& 31)) ^^^ (-1))))) x1 x2 x3 x4)))) else (ck (inb x5 4) (ck (inb x2 10) (if (((r0 (30 + x5.toNatClampNeg) x2.toNatClampNeg) >>> (x1 &&& 31)) &&& 1) = 0 then (f_X0_putPart_32 (f_X0_putPart_6 n) i0 r0 x1 x2 x3 x4 x5) else (f_X0_putPart_32 (f_X0_putPart_6 n) i0 r0 x1 x2 x3 x5 x5))))
set_option maxRecDepth 100000 in
set_option maxHeartbeats 4000000 in
theorem w_X0_putPart_6 {p : Program} {l : Launch} {e : Env} {s : State} {m : MethodId} {args : Array Value} {below : List Frame} {meth : Method} {c : Code} {A : Nat → Prop} {D : va_G} {cs zs : Nat → Nat} {h0 : Nat} {a0 : Nat → Nat}  {q : Int32 × (Nat → Int32) × (Nat → Nat → Int32)} (C : Cx p s m args meth c A D cs zs cX0_putPart 6 (some .int) RX0)  : ∀ (n : Nat), ∀ (i0 : Nat → Int32) (r0 : Nat → Nat → Int32) (x1 : Int32) (x2 : Int32) (x3 : Int32) (x4 : Int32) (x5 : Int32) (H : Heap) (locs : List Loc) (ls : Array Slot), f_X0_putPart_6 n i0 r0 x1 x2 x3 x4 x5 = some q → va_P D vwCl (W0 cs h0 a0 i0 r0) H → va_D A (W0 cs h0 a0 i0 r0) → va_S A s.heap H locs → lv_has ls 6 [(0, .ref h0), (1, .int x1), (2, .int x2), (3, .int x3), (4, .int x4), (5, .int x5)] → W p l e rmX0_putPart s m args below meth c H locs 0 0 (MQ below (Qi D cs A q.1 (W0 cs h0 a0 q.2.1 q.2.2)) args s 0 0 A) (F0 m 6 ls []) := by
  obtain ⟨hx, hb, hr, hml, hown, hts, hK, hA, hlocks, hZ⟩ := id C
  intro n
  induction n with
  | zero =>
    intro i0 r0 x1 x2 x3 x4 x5 H locs ls hf
    rw [f_X0_putPart_6] at hf
    cases hf
  | succ n ih =>
    intro i0 r0 x1 x2 x3 x4 x5 H locs ls hf hP hD hS hl
    rw [f_X0_putPart_6] at hf
    refine lv_iload hx hb dX0_putPart_6 (lv_at hl 5 rfl) ?_
    refine lv_iconst (v := 4) hx hb dX0_putPart_8 (by decide) ?_
    refine lv_icmp_ge (tgt := 38) hx hb dX0_putPart_9 (by decide) (fun hc => ?_) (fun hc => ?_)
    · have hf := ite_t hf hc
      refine lv_aload_n hx hb dX0_putPart_38 rfl (lv_at hl 0 rfl) ?_
      refine va_get (D := D) (ci := 0) (v := .ref (a0 2)) (C := RX0) (T := TX0) (N := 7) hx hb hts hiX0 hown hK hP 0 rfl rfl 2 (by decide) (hts _ flX0_19) (fun _ h9 => h9) rfl dX0_putPart_39 ?_
      refine lv_iload hx hb dX0_putPart_42 (lv_at hl 4 rfl) ?_
      have hj3 := inb_lt (ck_in hf)
      refine k_aald (f := fun j => a0 (30 + j)) (j := x4.toNatClampNeg) hx hb hK hP 3 5 rfl rfl rfl (ck_in hf) rfl dX0_putPart_44 ?_
      have hf := ck_2 hf
      refine lv_iload_n hx hb dX0_putPart_45 rfl (lv_at hl 2 rfl) ?_
      refine lv_dup2_11 hx hb dX0_putPart_46 rfl rfl ?_
      refine va_iald (f := r0 (30 + x4.toNatClampNeg)) hx hb hK hP (12 + x4.toNatClampNeg) 0 (row0_30 hj3) rfl (ck_in hf) dX0_putPart_47 ?_
      have hf := ck_2 hf
      refine lv_iconst (v := 1) hx hb dX0_putPart_48 (by decide) ?_
      refine lv_iload_n hx hb dX0_putPart_49 rfl (lv_at hl 1 rfl) ?_
      refine lv_ishl hx hb dX0_putPart_50 ?_
      refine lv_iconst (v := (-1)) hx hb dX0_putPart_51 (by decide) ?_
      refine lv_ixor hx hb dX0_putPart_52 ?_
      refine lv_iand hx hb dX0_putPart_53 ?_
      refine va_iast (f := r0 (30 + x4.toNatClampNeg)) hx hb hK hP hD hS (12 + x4.toNatClampNeg) 0 (row0_30 hj3) rfl (ck_in hf) dX0_putPart_54 (fun H locs hP hD hS => ?_)
      have hf := ck_2 hf
      obtain ⟨hP, hD⟩ := set0_30 hj3 hP hD
      exact w_X0_putPart_55 C  _ _ _ _ _ _ _ _ _ hf hP hD hS (lv_sub hl [0, 1, 2, 3, 4] rfl)
    · have hf := ite_f hf hc
      refine lv_aload_n hx hb dX0_putPart_12 rfl (lv_at hl 0 rfl) ?_
      refine va_get (D := D) (ci := 0) (v := .ref (a0 2)) (C := RX0) (T := TX0) (N := 7) hx hb hts hiX0 hown hK hP 0 rfl rfl 2 (by decide) (hts _ flX0_19) (fun _ h9 => h9) rfl dX0_putPart_13 ?_
      refine lv_iload hx hb dX0_putPart_16 (lv_at hl 5 rfl) ?_
      have hj4 := inb_lt (ck_in hf)
      refine k_aald (f := fun j => a0 (30 + j)) (j := x5.toNatClampNeg) hx hb hK hP 3 5 rfl rfl rfl (ck_in hf) rfl dX0_putPart_18 ?_
      have hf := ck_2 hf
      refine lv_iload_n hx hb dX0_putPart_19 rfl (lv_at hl 2 rfl) ?_
      refine va_iald (f := r0 (30 + x5.toNatClampNeg)) hx hb hK hP (12 + x5.toNatClampNeg) 0 (row0_30 hj4) rfl (ck_in hf) dX0_putPart_20 ?_
      have hf := ck_2 hf
      refine lv_iload_n hx hb dX0_putPart_21 rfl (lv_at hl 1 rfl) ?_
      refine lv_ishr hx hb dX0_putPart_22 ?_
      refine lv_iconst (v := 1) hx hb dX0_putPart_23 (by decide) ?_
      refine lv_iand hx hb dX0_putPart_24 ?_
      refine lv_if_eq (tgt := 32) hx hb dX0_putPart_25 (by decide) (fun hc => ?_) (fun hc => ?_)
      · have hf := ite_t hf hc
        exact w_X0_putPart_32 C _ (ih) _ _ _ _ _ _ _ _ _ _ hf hP hD hS (lv_sub hl [0, 1, 2, 3, 4, 5] rfl)
      · have hf := ite_f hf hc
        refine lv_iload hx hb dX0_putPart_28 (lv_at hl 5 rfl) ?_
        refine lv_istore (lv' := [(4, .int x5), (0, .ref h0), (1, .int x1), (2, .int x2), (3, .int x3), (5, .int x5)]) hx hb dX0_putPart_30 hl (by decide) rfl (fun ls hl => ?_)
        exact w_X0_putPart_32 C _ (ih) _ _ _ _ _ _ _ _ _ _ hf hP hD hS (lv_sub hl [1, 2, 3, 4, 0, 5] rfl)
def f_X0_putPart  (i0 : Nat → Int32) (r0 : Nat → Nat → Int32) (x1 : Int32) (x2 : Int32) (x3 : Int32) : Option (Int32 × (Nat → Int32) × (Nat → Nat → Int32)) := f_X0_putPart_6 2000000 i0 r0 x1 x2 x3 0 0
set_option maxRecDepth 100000 in
set_option maxHeartbeats 4000000 in
theorem c_X0_putPart {l : Launch} {D : va_G} {cs zs : Nat → Nat} {h0 : Nat} {a0 : Nat → Nat} {i0 : Nat → Int32} {r0 : Nat → Nat → Int32} {x1 : Int32} {x2 : Int32} {x3 : Int32} {q : Int32 × (Nat → Int32) × (Nat → Nat → Int32)} (hf : f_X0_putPart i0 r0 x1 x2 x3 = some q) : Mi l yX0_putPart wlX0_putPart rmX0_putPart D cs zs [.ref h0, .int x1, .int x2, .int x3] (W0 cs h0 a0 i0 r0) q.1 (W0 cs h0 a0 q.2.1 q.2.2) := by
  refine Mi.of RX0 (by decide) rfl (Nat.le_of_ble_eq_true rfl) (fun p e s m below meth c A C hP hD hS ls hl => ?_)
  generalize ([.ref h0, .int x1, .int x2, .int x3] : List Value).toArray = args at C ⊢
  obtain ⟨hx, hb, hr, hml, hown, hts, hK, hA, hlocks, hZ⟩ := id C
  have hl : lv_has ls 6 [(0, .ref h0), (1, .int x1), (2, .int x2), (3, .int x3)] := hl
  rw [f_X0_putPart] at hf
  refine lv_iconst (v := 0) hx hb dX0_putPart_0 (by decide) ?_
  refine lv_istore (lv' := [(4, .int 0), (0, .ref h0), (1, .int x1), (2, .int x2), (3, .int x3)]) hx hb dX0_putPart_1 hl (by decide) rfl (fun ls hl => ?_)
  refine lv_iconst (v := 0) hx hb dX0_putPart_3 (by decide) ?_
  refine lv_istore (lv' := [(5, .int 0), (4, .int 0), (0, .ref h0), (1, .int x1), (2, .int x2), (3, .int x3)]) hx hb dX0_putPart_4 hl (by decide) rfl (fun ls hl => ?_)
  exact w_X0_putPart_6 C  2000000 _ _ _ _ _ _ _ _ _ _ hf hP hD hS (lv_sub hl [2, 3, 4, 5, 1, 0] rfl)
/-! MarbleFloor$Cells.putBall(IIIZ)I -/
abbrev wlX0_putBall : List Cond := Cond.code yX0_putBall cX0_putBall 6 (some .int) :: tbG
abbrev rmX0_putBall : Room := { frames := 0, cells := 0, slots := 0, locals := 0 }
theorem qnX0_putBall : yX0_putBall.cls = RX0 ∧ yX0_putBall.cls ≠ "java/lang/invoke/MethodHandle" ∧ yX0_putBall.cls ≠ "java/lang/invoke/VarHandle" ∧ (parseMethodDescriptor yX0_putBall.desc).map (fun d => d.parameters.length) = some 4 := by decide +kernel
def f_X0_putBall_43   (i0 : Nat → Int32) (r0 : Nat → Nat → Int32) (x4 : Int32) (x5 : Int32) : Option (Int32 × (Nat → Int32) × (Nat → Nat → Int32)) := if x5 = x4 then (some (0, (upd i0 6 0), r0)) else (some (1, (upd i0 6 0), r0))
set_option maxRecDepth 100000 in
set_option maxHeartbeats 4000000 in
theorem w_X0_putBall_43 {p : Program} {l : Launch} {e : Env} {s : State} {m : MethodId} {args : Array Value} {below : List Frame} {meth : Method} {c : Code} {A : Nat → Prop} {D : va_G} {cs zs : Nat → Nat} {h0 : Nat} {a0 : Nat → Nat}  {q : Int32 × (Nat → Int32) × (Nat → Nat → Int32)} (C : Cx p s m args meth c A D cs zs cX0_putBall 6 (some .int) RX0)  : ∀ (i0 : Nat → Int32) (r0 : Nat → Nat → Int32) (x4 : Int32) (x5 : Int32) (H : Heap) (locs : List Loc) (ls : Array Slot), f_X0_putBall_43 i0 r0 x4 x5 = some q → va_P D vwCl (W0 cs h0 a0 i0 r0) H → va_D A (W0 cs h0 a0 i0 r0) → va_S A s.heap H locs → lv_has ls 6 [(0, .ref h0), (4, .int x4), (5, .int x5)] → W p l e rmX0_putBall s m args below meth c H locs 0 0 (MQ below (Qi D cs A q.1 (W0 cs h0 a0 q.2.1 q.2.2)) args s 0 0 A) (F0 m 43 ls []) := by
  obtain ⟨hx, hb, hr, hml, hown, hts, hK, hA, hlocks, hZ⟩ := id C
  intro i0 r0 x4 x5 H locs ls hf hP hD hS hl
  rw [f_X0_putBall_43] at hf
  refine lv_aload_n hx hb dX0_putBall_43 rfl (lv_at hl 0 rfl) ?_
  refine lv_iconst (v := 0) hx hb dX0_putBall_44 (by decide) ?_
  refine va_put (D := D) (ci := 0) (v := .int 0) (ty := .int) (C := RX0) (T := TX0) (N := 7) hx hb hts hiX0 tyX0 tyX0_ok nmX0 hown hK hP hD hS 0 rfl rfl 6 (by decide) (hts _ flX0_36) (fun _ h9 => h9) rfl (tyX0_ok 6 (by decide)) rfl rfl (Nat.le_of_ble_eq_true rfl) dX0_putBall_45 (fun H locs hP hD hS => ?_)
  obtain ⟨hP, hD⟩ := st0_6 hP hD
  refine lv_iload hx hb dX0_putBall_48 (lv_at hl 2 rfl) ?_
  refine lv_iload hx hb dX0_putBall_50 (lv_at hl 1 rfl) ?_
  refine lv_icmp_ne (tgt := 59) hx hb dX0_putBall_52 (by decide) (fun hc => ?_) (fun hc => ?_)
  · have hf := ite_f hf hc
    refine lv_iconst (v := 1) hx hb dX0_putBall_59 (by decide) ?_
    obtain rfl := Option.some.inj hf
    exact k_iret hx hb hr hlocks hK hP hD hS dX0_putBall_60
  · have hf := ite_t hf hc
    refine lv_iconst (v := 0) hx hb dX0_putBall_55 (by decide) ?_
    refine lv_goto (tgt := 60) hx hb dX0_putBall_56 (by decide) ?_
    obtain rfl := Option.some.inj hf
    exact k_iret hx hb hr hlocks hK hP hD hS dX0_putBall_60
def f_X0_putBall_20   (i0 : Nat → Int32) (r0 : Nat → Nat → Int32) (x1 : Int32) (x2 : Int32) (x3 : Int32) (x4 : Int32) (y0 : Int32) : Option (Int32 × (Nat → Int32) × (Nat → Nat → Int32)) := if y0 = x4 then (f_X0_putBall_43 i0 r0 x4 y0) else (ck (inb x3 4) (ck (inb x2 10) (ck (inb x2 10) (f_X0_putBall_43 i0 (va_up r0 (10 + x3.toNatClampNeg) (upd (r0 (10 + x3.toNatClampNeg)) x2.toNatClampNeg ((r0 (10 + x3.toNatClampNeg) x2.toNatClampNeg) ^^^ ((1 : Int32) <<< (x1 &&& 31))))) x4 y0))))
set_option maxRecDepth 100000 in
set_option maxHeartbeats 4000000 in
theorem w_X0_putBall_20 {p : Program} {l : Launch} {e : Env} {s : State} {m : MethodId} {args : Array Value} {below : List Frame} {meth : Method} {c : Code} {A : Nat → Prop} {D : va_G} {cs zs : Nat → Nat} {h0 : Nat} {a0 : Nat → Nat}  {q : Int32 × (Nat → Int32) × (Nat → Nat → Int32)} (C : Cx p s m args meth c A D cs zs cX0_putBall 6 (some .int) RX0)  : ∀ (i0 : Nat → Int32) (r0 : Nat → Nat → Int32) (x1 : Int32) (x2 : Int32) (x3 : Int32) (x4 : Int32) (y0 : Int32) (H : Heap) (locs : List Loc) (ls : Array Slot), f_X0_putBall_20 i0 r0 x1 x2 x3 x4 y0 = some q → va_P D vwCl (W0 cs h0 a0 i0 r0) H → va_D A (W0 cs h0 a0 i0 r0) → va_S A s.heap H locs → lv_has ls 6 [(0, .ref h0), (1, .int x1), (2, .int x2), (3, .int x3), (4, .int x4)] → W p l e rmX0_putBall s m args below meth c H locs 0 0 (MQ below (Qi D cs A q.1 (W0 cs h0 a0 q.2.1 q.2.2)) args s 0 0 A) (F0 m 20 ls [.int y0]) := by
  obtain ⟨hx, hb, hr, hml, hown, hts, hK, hA, hlocks, hZ⟩ := id C
  intro i0 r0 x1 x2 x3 x4 y0 H locs ls hf hP hD hS hl
  rw [f_X0_putBall_20] at hf
  refine lv_istore (lv' := [(5, .int y0), (0, .ref h0), (1, .int x1), (2, .int x2), (3, .int x3), (4, .int x4)]) hx hb dX0_putBall_20 hl (by decide) rfl (fun ls hl => ?_)
  refine lv_iload hx hb dX0_putBall_22 (lv_at hl 0 rfl) ?_
  refine lv_iload hx hb dX0_putBall_24 (lv_at hl 5 rfl) ?_
  refine lv_icmp_eq (tgt := 43) hx hb dX0_putBall_26 (by decide) (fun hc => ?_) (fun hc => ?_)
  · have hf := ite_t hf hc
    exact w_X0_putBall_43 C  _ _ _ _ _ _ _ hf hP hD hS (lv_sub hl [1, 5, 0] rfl)
  · have hf := ite_f hf hc
    refine lv_aload_n hx hb dX0_putBall_29 rfl (lv_at hl 1 rfl) ?_
    refine va_get (D := D) (ci := 0) (v := .ref (a0 0)) (C := RX0) (T := TX0) (N := 7) hx hb hts hiX0 hown hK hP 0 rfl rfl 0 (by decide) (hts _ flX0_13) (fun _ h9 => h9) rfl dX0_putBall_30 ?_
    refine lv_iload_n hx hb dX0_putBall_33 rfl (lv_at hl 4 rfl) ?_
    have hj3 := inb_lt (ck_in hf)
    refine k_aald (f := fun j => a0 (10 + j)) (j := x3.toNatClampNeg) hx hb hK hP 1 5 rfl rfl rfl (ck_in hf) rfl dX0_putBall_34 ?_
    have hf := ck_2 hf
    refine lv_iload_n hx hb dX0_putBall_35 rfl (lv_at hl 3 rfl) ?_
    refine lv_dup2_11 hx hb dX0_putBall_36 rfl rfl ?_
    refine va_iald (f := r0 (10 + x3.toNatClampNeg)) hx hb hK hP (4 + x3.toNatClampNeg) 0 (row0_10 hj3) rfl (ck_in hf) dX0_putBall_37 ?_
    have hf := ck_2 hf
    refine lv_iconst (v := 1) hx hb dX0_putBall_38 (by decide) ?_
    refine lv_iload_n hx hb dX0_putBall_39 rfl (lv_at hl 2 rfl) ?_
    refine lv_ishl hx hb dX0_putBall_40 ?_
    refine lv_ixor hx hb dX0_putBall_41 ?_
    refine va_iast (f := r0 (10 + x3.toNatClampNeg)) hx hb hK hP hD hS (4 + x3.toNatClampNeg) 0 (row0_10 hj3) rfl (ck_in hf) dX0_putBall_42 (fun H locs hP hD hS => ?_)
    have hf := ck_2 hf
    obtain ⟨hP, hD⟩ := set0_10 hj3 hP hD
    exact w_X0_putBall_43 C  _ _ _ _ _ _ _ hf hP hD hS (lv_sub hl [1, 5, 0] rfl)
def f_X0_putBall  (i0 : Nat → Int32) (r0 : Nat → Nat → Int32) (x1 : Int32) (x2 : Int32) (x3 : Int32) (x4 : Int32) : Option (Int32 × (Nat → Int32) × (Nat → Nat → Int32)) := ck (inb x3 4) (ck (inb x2 10) (if (((r0 (10 + x3.toNatClampNeg) x2.toNatClampNeg) >>> (x1 &&& 31)) &&& 1) = 0 then (f_X0_putBall_20 i0 r0 x1 x2 x3 x4 0) else (f_X0_putBall_20 i0 r0 x1 x2 x3 x4 1)))
set_option maxRecDepth 100000 in
set_option maxHeartbeats 4000000 in
theorem c_X0_putBall {l : Launch} {D : va_G} {cs zs : Nat → Nat} {h0 : Nat} {a0 : Nat → Nat} {i0 : Nat → Int32} {r0 : Nat → Nat → Int32} {x1 : Int32} {x2 : Int32} {x3 : Int32} {x4 : Int32} {q : Int32 × (Nat → Int32) × (Nat → Nat → Int32)} (hf : f_X0_putBall i0 r0 x1 x2 x3 x4 = some q) : Mi l yX0_putBall wlX0_putBall rmX0_putBall D cs zs [.ref h0, .int x1, .int x2, .int x3, .int x4] (W0 cs h0 a0 i0 r0) q.1 (W0 cs h0 a0 q.2.1 q.2.2) := by
  refine Mi.of RX0 (by decide) rfl (Nat.le_of_ble_eq_true rfl) (fun p e s m below meth c A C hP hD hS ls hl => ?_)
  generalize ([.ref h0, .int x1, .int x2, .int x3, .int x4] : List Value).toArray = args at C ⊢
  obtain ⟨hx, hb, hr, hml, hown, hts, hK, hA, hlocks, hZ⟩ := id C
  have hl : lv_has ls 6 [(0, .ref h0), (1, .int x1), (2, .int x2), (3, .int x3), (4, .int x4)] := hl
  rw [f_X0_putBall] at hf
  refine lv_aload_n hx hb dX0_putBall_0 rfl (lv_at hl 0 rfl) ?_
  refine va_get (D := D) (ci := 0) (v := .ref (a0 0)) (C := RX0) (T := TX0) (N := 7) hx hb hts hiX0 hown hK hP 0 rfl rfl 0 (by decide) (hts _ flX0_13) (fun _ h9 => h9) rfl dX0_putBall_1 ?_
  refine lv_iload_n hx hb dX0_putBall_4 rfl (lv_at hl 3 rfl) ?_
  have hj4 := inb_lt (ck_in hf)
  refine k_aald (f := fun j => a0 (10 + j)) (j := x3.toNatClampNeg) hx hb hK hP 1 5 rfl rfl rfl (ck_in hf) rfl dX0_putBall_5 ?_
  have hf := ck_2 hf
  refine lv_iload_n hx hb dX0_putBall_6 rfl (lv_at hl 2 rfl) ?_
  refine va_iald (f := r0 (10 + x3.toNatClampNeg)) hx hb hK hP (4 + x3.toNatClampNeg) 0 (row0_10 hj4) rfl (ck_in hf) dX0_putBall_7 ?_
  have hf := ck_2 hf
  refine lv_iload_n hx hb dX0_putBall_8 rfl (lv_at hl 1 rfl) ?_
  refine lv_ishr hx hb dX0_putBall_9 ?_
  refine lv_iconst (v := 1) hx hb dX0_putBall_10 (by decide) ?_
  refine lv_iand hx hb dX0_putBall_11 ?_
  refine lv_if_eq (tgt := 19) hx hb dX0_putBall_12 (by decide) (fun hc => ?_) (fun hc => ?_)
  · have hf := ite_t hf hc
    refine lv_iconst (v := 0) hx hb dX0_putBall_19 (by decide) ?_
    exact w_X0_putBall_20 C  _ _ _ _ _ _ _ _ _ _ hf hP hD hS (lv_sub hl [0, 1, 2, 3, 4] rfl)
  · have hf := ite_f hf hc
    refine lv_iconst (v := 1) hx hb dX0_putBall_15 (by decide) ?_
    refine lv_goto (tgt := 20) hx hb dX0_putBall_16 (by decide) ?_
    exact w_X0_putBall_20 C  _ _ _ _ _ _ _ _ _ _ hf hP hD hS (lv_sub hl [0, 1, 2, 3, 4] rfl)
/-! MarbleFloor$Cells.ballsAt(II)I -/
abbrev wlX0_ballsAt : List Cond := Cond.code yX0_ballsAt cX0_ballsAt 5 (some .int) :: tbG
abbrev rmX0_ballsAt : Room := { frames := 0, cells := 0, slots := 0, locals := 0 }
theorem qnX0_ballsAt : yX0_ballsAt.cls = RX0 ∧ yX0_ballsAt.cls ≠ "java/lang/invoke/MethodHandle" ∧ yX0_ballsAt.cls ≠ "java/lang/invoke/VarHandle" ∧ (parseMethodDescriptor yX0_ballsAt.desc).map (fun d => d.parameters.length) = some 2 := by decide +kernel
def f_X0_ballsAt_5 (i0 : Nat → Int32) (r0 : Nat → Nat → Int32)  : Nat → Int32 → Int32 → Int32 → Int32 → Option (Int32)
  | 0, _, _, _, _ => none
  | n + 1, x1, x2, x3, x4 => if 4 ≤ x4 then (some (x3)) else (ck (inb x4 4) (ck (inb x2 10) (f_X0_ballsAt_5 i0 r0 n x1 x2 (x3 ||| ((((r0 (10 + x4.toNatClampNeg) x2.toNatClampNeg) >>> (x1 &&& 31)) &&& 1) <<< (x4 &&& 31))) (x4 + 1))))
set_option maxRecDepth 100000 in
set_option maxHeartbeats 4000000 in
theorem w_X0_ballsAt_5 {p : Program} {l : Launch} {e : Env} {s : State} {m : MethodId} {args : Array Value} {below : List Frame} {meth : Method} {c : Code} {A : Nat → Prop} {D : va_G} {cs zs : Nat → Nat} {h0 : Nat} {a0 : Nat → Nat} {i0 : Nat → Int32} {r0 : Nat → Nat → Int32} {q : Int32} (C : Cx p s m args meth c A D cs zs cX0_ballsAt 5 (some .int) RX0)  : ∀ (n : Nat), ∀ (x1 : Int32) (x2 : Int32) (x3 : Int32) (x4 : Int32) (H : Heap) (locs : List Loc) (ls : Array Slot), f_X0_ballsAt_5 i0 r0 n x1 x2 x3 x4 = some q → va_P D vwCl (W0 cs h0 a0 i0 r0) H → va_D A (W0 cs h0 a0 i0 r0) → va_S A s.heap H locs → lv_has ls 5 [(0, .ref h0), (1, .int x1), (2, .int x2), (3, .int x3), (4, .int x4)] → W p l e rmX0_ballsAt s m args below meth c H locs 0 0 (MQ below (Qi D cs A q (W0 cs h0 a0 i0 r0)) args s 0 0 A) (F0 m 5 ls []) := by
  obtain ⟨hx, hb, hr, hml, hown, hts, hK, hA, hlocks, hZ⟩ := id C
  intro n
  induction n with
  | zero =>
    intro x1 x2 x3 x4 H locs ls hf
    rw [f_X0_ballsAt_5] at hf
    cases hf
  | succ n ih =>
    intro x1 x2 x3 x4 H locs ls hf hP hD hS hl
    rw [f_X0_ballsAt_5] at hf
    refine lv_iload hx hb dX0_ballsAt_5 (lv_at hl 4 rfl) ?_
    refine lv_iconst (v := 4) hx hb dX0_ballsAt_7 (by decide) ?_
    refine lv_icmp_ge (tgt := 36) hx hb dX0_ballsAt_8 (by decide) (fun hc => ?_) (fun hc => ?_)
    · have hf := ite_t hf hc
      refine lv_iload_n hx hb dX0_ballsAt_36 rfl (lv_at hl 3 rfl) ?_
      obtain rfl := Option.some.inj hf
      exact k_iret hx hb hr hlocks hK hP hD hS dX0_ballsAt_37
    · have hf := ite_f hf hc
      refine lv_iload_n hx hb dX0_ballsAt_11 rfl (lv_at hl 3 rfl) ?_
      refine lv_aload_n hx hb dX0_ballsAt_12 rfl (lv_at hl 0 rfl) ?_
      refine va_get (D := D) (ci := 0) (v := .ref (a0 0)) (C := RX0) (T := TX0) (N := 7) hx hb hts hiX0 hown hK hP 0 rfl rfl 0 (by decide) (hts _ flX0_13) (fun _ h9 => h9) rfl dX0_ballsAt_13 ?_
      refine lv_iload hx hb dX0_ballsAt_16 (lv_at hl 4 rfl) ?_
      have hj1 := inb_lt (ck_in hf)
      refine k_aald (f := fun j => a0 (10 + j)) (j := x4.toNatClampNeg) hx hb hK hP 1 5 rfl rfl rfl (ck_in hf) rfl dX0_ballsAt_18 ?_
      have hf := ck_2 hf
      refine lv_iload_n hx hb dX0_ballsAt_19 rfl (lv_at hl 2 rfl) ?_
      refine va_iald (f := r0 (10 + x4.toNatClampNeg)) hx hb hK hP (4 + x4.toNatClampNeg) 0 (row0_10 hj1) rfl (ck_in hf) dX0_ballsAt_20 ?_
      have hf := ck_2 hf
      refine lv_iload_n hx hb dX0_ballsAt_21 rfl (lv_at hl 1 rfl) ?_
      refine lv_ishr hx hb dX0_ballsAt_22 ?_
      refine lv_iconst (v := 1) hx hb dX0_ballsAt_23 (by decide) ?_
      refine lv_iand hx hb dX0_ballsAt_24 ?_
      refine lv_iload hx hb dX0_ballsAt_25 (lv_at hl 4 rfl) ?_
      refine lv_ishl hx hb dX0_ballsAt_27 ?_
      refine lv_ior hx hb dX0_ballsAt_28 ?_
      refine lv_istore_n (lv' := [(3, .int (x3 ||| ((((r0 (10 + x4.toNatClampNeg) x2.toNatClampNeg) >>> (x1 &&& 31)) &&& 1) <<< (x4 &&& 31)))), (0, .ref h0), (1, .int x1), (2, .int x2), (4, .int x4)]) hx hb dX0_ballsAt_29 rfl hl (by decide) rfl (fun ls hl => ?_)
      refine lv_iinc (v := x4 + 1) (lv' := [(4, .int (x4 + 1)), (3, .int (x3 ||| ((((r0 (10 + x4.toNatClampNeg) x2.toNatClampNeg) >>> (x1 &&& 31)) &&& 1) <<< (x4 &&& 31)))), (0, .ref h0), (1, .int x1), (2, .int x2)]) hx hb dX0_ballsAt_30 hl (k := 4) rfl rfl (by decide) rfl (fun ls hl => ?_)
      refine lv_goto (tgt := 5) hx hb dX0_ballsAt_33 (by decide) ?_
      exact ih _ _ _ _ _ _ _ hf hP hD hS (lv_sub hl [2, 3, 4, 1, 0] rfl)
def f_X0_ballsAt  (i0 : Nat → Int32) (r0 : Nat → Nat → Int32) (x1 : Int32) (x2 : Int32) : Option (Int32) := f_X0_ballsAt_5 i0 r0 2000000 x1 x2 0 0
set_option maxRecDepth 100000 in
set_option maxHeartbeats 4000000 in
theorem c_X0_ballsAt {l : Launch} {D : va_G} {cs zs : Nat → Nat} {h0 : Nat} {a0 : Nat → Nat} {i0 : Nat → Int32} {r0 : Nat → Nat → Int32} {x1 : Int32} {x2 : Int32} {q : Int32} (hf : f_X0_ballsAt i0 r0 x1 x2 = some q) : Mi l yX0_ballsAt wlX0_ballsAt rmX0_ballsAt D cs zs [.ref h0, .int x1, .int x2] (W0 cs h0 a0 i0 r0) q (W0 cs h0 a0 i0 r0) := by
  refine Mi.of RX0 (by decide) rfl (Nat.le_of_ble_eq_true rfl) (fun p e s m below meth c A C hP hD hS ls hl => ?_)
  generalize ([.ref h0, .int x1, .int x2] : List Value).toArray = args at C ⊢
  obtain ⟨hx, hb, hr, hml, hown, hts, hK, hA, hlocks, hZ⟩ := id C
  have hl : lv_has ls 5 [(0, .ref h0), (1, .int x1), (2, .int x2)] := hl
  rw [f_X0_ballsAt] at hf
  refine lv_iconst (v := 0) hx hb dX0_ballsAt_0 (by decide) ?_
  refine lv_istore_n (lv' := [(3, .int 0), (0, .ref h0), (1, .int x1), (2, .int x2)]) hx hb dX0_ballsAt_1 rfl hl (by decide) rfl (fun ls hl => ?_)
  refine lv_iconst (v := 0) hx hb dX0_ballsAt_2 (by decide) ?_
  refine lv_istore (lv' := [(4, .int 0), (3, .int 0), (0, .ref h0), (1, .int x1), (2, .int x2)]) hx hb dX0_ballsAt_3 hl (by decide) rfl (fun ls hl => ?_)
  exact w_X0_ballsAt_5 C  2000000 _ _ _ _ _ _ _ hf hP hD hS (lv_sub hl [2, 3, 4, 1, 0] rfl)
/-! MarbleFloor$Cells.balls()I -/
abbrev wlX0_balls : List Cond := Cond.code yX0_balls cX0_balls 4 (some .int) :: tbG
abbrev rmX0_balls : Room := { frames := 1, cells := 0, slots := 0, locals := 20 }
theorem qnX0_balls : yX0_balls.cls = RX0 ∧ yX0_balls.cls ≠ "java/lang/invoke/MethodHandle" ∧ yX0_balls.cls ≠ "java/lang/invoke/VarHandle" ∧ (parseMethodDescriptor yX0_balls.desc).map (fun d => d.parameters.length) = some 0 := by decide +kernel
def f_X0_balls_11 (i0 : Nat → Int32) (r0 : Nat → Nat → Int32) (K4 : Int32 → Int32 → Option (Int32)) : Nat → Int32 → Int32 → Int32 → Option (Int32)
  | 0, _, _, _ => none
  | n + 1, x1, x2, x3 => if (i0 4) ≤ x3 then (K4 x1 (x2 + 1)) else (ck (inb x2 4) (ck (inb x3 10) (bd (f_J6_bitCount_0f7a4 (r0 (10 + x2.toNatClampNeg) x3.toNatClampNeg)) (fun q3 => f_X0_balls_11 i0 r0 K4 n (x1 + q3) x2 (x3 + 1)))))
set_option maxRecDepth 100000 in
set_option maxHeartbeats 4000000 in
theorem w_X0_balls_11 {p : Program} {l : Launch} {e : Env} {s : State} {m : MethodId} {args : Array Value} {below : List Frame} {meth : Method} {c : Code} {A : Nat → Prop} {D : va_G} {cs zs : Nat → Nat} {h0 : Nat} {a0 : Nat → Nat} {i0 : Nat → Int32} {r0 : Nat → Nat → Int32} {q : Int32} (C : Cx p s m args meth c A D cs zs cX0_balls 4 (some .int) RX0) (K4 : Int32 → Int32 → Option (Int32)) (hK4 : ∀ (x1 : Int32) (x2 : Int32) (H : Heap) (locs : List Loc) (ls : Array Slot), K4 x1 x2 = some q → va_P D vwCl (W0 cs h0 a0 i0 r0) H → va_D A (W0 cs h0 a0 i0 r0) → va_S A s.heap H locs → lv_has ls 4 [(0, .ref h0), (1, .int x1), (2, .int x2)] → W p l e rmX0_balls s m args below meth c H locs 0 0 (MQ below (Qi D cs A q (W0 cs h0 a0 i0 r0)) args s 0 0 A) (F0 m 4 ls [])) : ∀ (n : Nat), ∀ (x1 : Int32) (x2 : Int32) (x3 : Int32) (H : Heap) (locs : List Loc) (ls : Array Slot), f_X0_balls_11 i0 r0 K4 n x1 x2 x3 = some q → va_P D vwCl (W0 cs h0 a0 i0 r0) H → va_D A (W0 cs h0 a0 i0 r0) → va_S A s.heap H locs → lv_has ls 4 [(0, .ref h0), (1, .int x1), (2, .int x2), (3, .int x3)] → W p l e rmX0_balls s m args below meth c H locs 0 0 (MQ below (Qi D cs A q (W0 cs h0 a0 i0 r0)) args s 0 0 A) (F0 m 11 ls []) := by
  obtain ⟨hx, hb, hr, hml, hown, hts, hK, hA, hlocks, hZ⟩ := id C
  intro n
  induction n with
  | zero =>
    intro x1 x2 x3 H locs ls hf
    rw [f_X0_balls_11] at hf
    cases hf
  | succ n ih =>
    intro x1 x2 x3 H locs ls hf hP hD hS hl
    rw [f_X0_balls_11] at hf
    refine lv_iload_n hx hb dX0_balls_11 rfl (lv_at hl 3 rfl) ?_
    refine lv_aload_n hx hb dX0_balls_12 rfl (lv_at hl 0 rfl) ?_
    refine va_get (D := D) (ci := 0) (v := .int (i0 4)) (C := RX0) (T := TX0) (N := 7) hx hb hts hiX0 hown hK hP 0 rfl rfl 4 (by decide) (hts _ flX0_30) (fun _ h9 => h9) rfl dX0_balls_13 ?_
    refine lv_icmp_ge (tgt := 39) hx hb dX0_balls_16 (by decide) (fun hc => ?_) (fun hc => ?_)
    · have hf := ite_t hf hc
      refine lv_iinc (v := x2 + 1) (lv' := [(2, .int (x2 + 1)), (0, .ref h0), (1, .int x1), (3, .int x3)]) hx hb dX0_balls_39 hl (k := 2) rfl rfl (by decide) rfl (fun ls hl => ?_)
      refine lv_goto (tgt := 4) hx hb dX0_balls_42 (by decide) ?_
      exact hK4 _ _ _ _ _ hf hP hD hS (lv_sub hl [1, 2, 0] rfl)
    · have hf := ite_f hf hc
      refine lv_iload_n hx hb dX0_balls_19 rfl (lv_at hl 1 rfl) ?_
      refine lv_aload_n hx hb dX0_balls_20 rfl (lv_at hl 0 rfl) ?_
      refine va_get (D := D) (ci := 0) (v := .ref (a0 0)) (C := RX0) (T := TX0) (N := 7) hx hb hts hiX0 hown hK hP 0 rfl rfl 0 (by decide) (hts _ flX0_13) (fun _ h9 => h9) rfl dX0_balls_21 ?_
      refine lv_iload_n hx hb dX0_balls_24 rfl (lv_at hl 2 rfl) ?_
      have hj2 := inb_lt (ck_in hf)
      refine k_aald (f := fun j => a0 (10 + j)) (j := x2.toNatClampNeg) hx hb hK hP 1 5 rfl rfl rfl (ck_in hf) rfl dX0_balls_25 ?_
      have hf := ck_2 hf
      refine lv_iload_n hx hb dX0_balls_26 rfl (lv_at hl 3 rfl) ?_
      refine va_iald (f := r0 (10 + x2.toNatClampNeg)) hx hb hK hP (4 + x2.toNatClampNeg) 0 (row0_10 hj2) rfl (ck_in hf) dX0_balls_27 ?_
      have hf := ck_2 hf
      obtain ⟨q3, hq3, hf⟩ := bd_s hf
      refine k_eSi (As := [.int (r0 (10 + x2.toNatClampNeg) x3.toNatClampNeg)]) (rest := [.int x1]) hx hb hml hown hts hK hA hZ hl.1 hP hD hS (c_J6_bitCount_0f7a4  hq3) (gSt mlX0_45 stJ6_bitCount_0f7a4 inJ6 coJ6_bitCount_0f7a4) rfl qnJ6_bitCount_0f7a4 rfl rfl ⟨Nat.le_of_ble_eq_true rfl, Nat.le_of_ble_eq_true rfl⟩ rfl rfl (Nat.le_of_ble_eq_true rfl) ⟨Nat.zero_le _, Nat.zero_le _⟩ dX0_balls_28 (fun H locs hP hD hS => ?_)
      refine lv_iadd hx hb dX0_balls_31 ?_
      refine lv_istore_n (lv' := [(1, .int (x1 + q3)), (0, .ref h0), (2, .int x2), (3, .int x3)]) hx hb dX0_balls_32 rfl hl (by decide) rfl (fun ls hl => ?_)
      refine lv_iinc (v := x3 + 1) (lv' := [(3, .int (x3 + 1)), (1, .int (x1 + q3)), (0, .ref h0), (2, .int x2)]) hx hb dX0_balls_33 hl (k := 3) rfl rfl (by decide) rfl (fun ls hl => ?_)
      refine lv_goto (tgt := 11) hx hb dX0_balls_36 (by decide) ?_
      exact ih _ _ _ _ _ _ hf hP hD hS (lv_sub hl [2, 1, 3, 0] rfl)
def f_X0_balls_4 (i0 : Nat → Int32) (r0 : Nat → Nat → Int32)  : Nat → Int32 → Int32 → Option (Int32)
  | 0, _, _ => none
  | n + 1, x1, x2 => if 4 ≤ x2 then (some (x1)) else (f_X0_balls_11 i0 r0 (f_X0_balls_4 i0 r0 n) 2000000 x1 x2 0)
set_option maxRecDepth 100000 in
set_option maxHeartbeats 4000000 in
theorem w_X0_balls_4 {p : Program} {l : Launch} {e : Env} {s : State} {m : MethodId} {args : Array Value} {below : List Frame} {meth : Method} {c : Code} {A : Nat → Prop} {D : va_G} {cs zs : Nat → Nat} {h0 : Nat} {a0 : Nat → Nat} {i0 : Nat → Int32} {r0 : Nat → Nat → Int32} {q : Int32} (C : Cx p s m args meth c A D cs zs cX0_balls 4 (some .int) RX0)  : ∀ (n : Nat), ∀ (x1 : Int32) (x2 : Int32) (H : Heap) (locs : List Loc) (ls : Array Slot), f_X0_balls_4 i0 r0 n x1 x2 = some q → va_P D vwCl (W0 cs h0 a0 i0 r0) H → va_D A (W0 cs h0 a0 i0 r0) → va_S A s.heap H locs → lv_has ls 4 [(0, .ref h0), (1, .int x1), (2, .int x2)] → W p l e rmX0_balls s m args below meth c H locs 0 0 (MQ below (Qi D cs A q (W0 cs h0 a0 i0 r0)) args s 0 0 A) (F0 m 4 ls []) := by
  obtain ⟨hx, hb, hr, hml, hown, hts, hK, hA, hlocks, hZ⟩ := id C
  intro n
  induction n with
  | zero =>
    intro x1 x2 H locs ls hf
    rw [f_X0_balls_4] at hf
    cases hf
  | succ n ih =>
    intro x1 x2 H locs ls hf hP hD hS hl
    rw [f_X0_balls_4] at hf
    refine lv_iload_n hx hb dX0_balls_4 rfl (lv_at hl 2 rfl) ?_
    refine lv_iconst (v := 4) hx hb dX0_balls_5 (by decide) ?_
    refine lv_icmp_ge (tgt := 45) hx hb dX0_balls_6 (by decide) (fun hc => ?_) (fun hc => ?_)
    · have hf := ite_t hf hc
      refine lv_iload_n hx hb dX0_balls_45 rfl (lv_at hl 1 rfl) ?_
      obtain rfl := Option.some.inj hf
      exact k_iret hx hb hr hlocks hK hP hD hS dX0_balls_46
    · have hf := ite_f hf hc
      refine lv_iconst (v := 0) hx hb dX0_balls_9 (by decide) ?_
      refine lv_istore_n (lv' := [(3, .int 0), (0, .ref h0), (1, .int x1), (2, .int x2)]) hx hb dX0_balls_10 rfl hl (by decide) rfl (fun ls hl => ?_)
      exact w_X0_balls_11 C _ (ih) 2000000 _ _ _ _ _ _ hf hP hD hS (lv_sub hl [1, 2, 3, 0] rfl)
def f_X0_balls  (i0 : Nat → Int32) (r0 : Nat → Nat → Int32)  : Option (Int32) := f_X0_balls_4 i0 r0 2000000 0 0
set_option maxRecDepth 100000 in
set_option maxHeartbeats 4000000 in
theorem c_X0_balls {l : Launch} {D : va_G} {cs zs : Nat → Nat} {h0 : Nat} {a0 : Nat → Nat} {i0 : Nat → Int32} {r0 : Nat → Nat → Int32}  {q : Int32} (hf : f_X0_balls i0 r0 = some q) : Mi l yX0_balls wlX0_balls rmX0_balls D cs zs [.ref h0] (W0 cs h0 a0 i0 r0) q (W0 cs h0 a0 i0 r0) := by
  refine Mi.of RX0 (by decide) rfl (Nat.le_of_ble_eq_true rfl) (fun p e s m below meth c A C hP hD hS ls hl => ?_)
  generalize ([.ref h0] : List Value).toArray = args at C ⊢
  obtain ⟨hx, hb, hr, hml, hown, hts, hK, hA, hlocks, hZ⟩ := id C
  have hl : lv_has ls 4 [(0, .ref h0)] := hl
  rw [f_X0_balls] at hf
  refine lv_iconst (v := 0) hx hb dX0_balls_0 (by decide) ?_
  refine lv_istore_n (lv' := [(1, .int 0), (0, .ref h0)]) hx hb dX0_balls_1 rfl hl (by decide) rfl (fun ls hl => ?_)
  refine lv_iconst (v := 0) hx hb dX0_balls_2 (by decide) ?_
  refine lv_istore_n (lv' := [(2, .int 0), (1, .int 0), (0, .ref h0)]) hx hb dX0_balls_3 rfl hl (by decide) rfl (fun ls hl => ?_)
  exact w_X0_balls_4 C  2000000 _ _ _ _ _ hf hP hD hS (lv_sub hl [2, 1, 0] rfl)
/-! MarbleFloor$Cells.wide()I -/
abbrev wlX0_wide : List Cond := Cond.code yX0_wide cX0_wide 1 (some .int) :: tbG
abbrev rmX0_wide : Room := { frames := 0, cells := 0, slots := 0, locals := 0 }
theorem qnX0_wide : yX0_wide.cls = RX0 ∧ yX0_wide.cls ≠ "java/lang/invoke/MethodHandle" ∧ yX0_wide.cls ≠ "java/lang/invoke/VarHandle" ∧ (parseMethodDescriptor yX0_wide.desc).map (fun d => d.parameters.length) = some 0 := by decide +kernel
def f_X0_wide  (i0 : Nat → Int32) (r0 : Nat → Nat → Int32)  : Option (Int32) := some (i0 3)
set_option maxRecDepth 100000 in
set_option maxHeartbeats 4000000 in
theorem c_X0_wide {l : Launch} {D : va_G} {cs zs : Nat → Nat} {h0 : Nat} {a0 : Nat → Nat} {i0 : Nat → Int32} {r0 : Nat → Nat → Int32}  {q : Int32} (hf : f_X0_wide i0 r0 = some q) : Mi l yX0_wide wlX0_wide rmX0_wide D cs zs [.ref h0] (W0 cs h0 a0 i0 r0) q (W0 cs h0 a0 i0 r0) := by
  refine Mi.of RX0 (by decide) rfl (Nat.le_of_ble_eq_true rfl) (fun p e s m below meth c A C hP hD hS ls hl => ?_)
  generalize ([.ref h0] : List Value).toArray = args at C ⊢
  obtain ⟨hx, hb, hr, hml, hown, hts, hK, hA, hlocks, hZ⟩ := id C
  have hl : lv_has ls 1 [(0, .ref h0)] := hl
  rw [f_X0_wide] at hf
  refine lv_aload_n hx hb dX0_wide_0 rfl (lv_at hl 0 rfl) ?_
  refine va_get (D := D) (ci := 0) (v := .int (i0 3)) (C := RX0) (T := TX0) (N := 7) hx hb hts hiX0 hown hK hP 0 rfl rfl 3 (by decide) (hts _ flX0_26) (fun _ h9 => h9) rfl dX0_wide_1 ?_
  obtain rfl := Option.some.inj hf
  exact k_iret hx hb hr hlocks hK hP hD hS dX0_wide_4
/-! MarbleFloor$Cells.high()I -/
abbrev wlX0_high : List Cond := Cond.code yX0_high cX0_high 1 (some .int) :: tbG
abbrev rmX0_high : Room := { frames := 0, cells := 0, slots := 0, locals := 0 }
theorem qnX0_high : yX0_high.cls = RX0 ∧ yX0_high.cls ≠ "java/lang/invoke/MethodHandle" ∧ yX0_high.cls ≠ "java/lang/invoke/VarHandle" ∧ (parseMethodDescriptor yX0_high.desc).map (fun d => d.parameters.length) = some 0 := by decide +kernel
def f_X0_high  (i0 : Nat → Int32) (r0 : Nat → Nat → Int32)  : Option (Int32) := some (i0 4)
set_option maxRecDepth 100000 in
set_option maxHeartbeats 4000000 in
theorem c_X0_high {l : Launch} {D : va_G} {cs zs : Nat → Nat} {h0 : Nat} {a0 : Nat → Nat} {i0 : Nat → Int32} {r0 : Nat → Nat → Int32}  {q : Int32} (hf : f_X0_high i0 r0 = some q) : Mi l yX0_high wlX0_high rmX0_high D cs zs [.ref h0] (W0 cs h0 a0 i0 r0) q (W0 cs h0 a0 i0 r0) := by
  refine Mi.of RX0 (by decide) rfl (Nat.le_of_ble_eq_true rfl) (fun p e s m below meth c A C hP hD hS ls hl => ?_)
  generalize ([.ref h0] : List Value).toArray = args at C ⊢
  obtain ⟨hx, hb, hr, hml, hown, hts, hK, hA, hlocks, hZ⟩ := id C
  have hl : lv_has ls 1 [(0, .ref h0)] := hl
  rw [f_X0_high] at hf
  refine lv_aload_n hx hb dX0_high_0 rfl (lv_at hl 0 rfl) ?_
  refine va_get (D := D) (ci := 0) (v := .int (i0 4)) (C := RX0) (T := TX0) (N := 7) hx hb hts hiX0 hown hK hP 0 rfl rfl 4 (by decide) (hts _ flX0_30) (fun _ h9 => h9) rfl dX0_high_1 ?_
  obtain rfl := Option.some.inj hf
  exact k_iret hx hb hr hlocks hK hP hD hS dX0_high_4
/-! MarbleFloor$Cells.heat()I -/
abbrev wlX0_heat : List Cond := Cond.code yX0_heat cX0_heat 1 (some .int) :: tbG
abbrev rmX0_heat : Room := { frames := 0, cells := 0, slots := 0, locals := 0 }
theorem qnX0_heat : yX0_heat.cls = RX0 ∧ yX0_heat.cls ≠ "java/lang/invoke/MethodHandle" ∧ yX0_heat.cls ≠ "java/lang/invoke/VarHandle" ∧ (parseMethodDescriptor yX0_heat.desc).map (fun d => d.parameters.length) = some 0 := by decide +kernel
def f_X0_heat  (i0 : Nat → Int32) (r0 : Nat → Nat → Int32)  : Option (Int32) := some (i0 5)
set_option maxRecDepth 100000 in
set_option maxHeartbeats 4000000 in
theorem c_X0_heat {l : Launch} {D : va_G} {cs zs : Nat → Nat} {h0 : Nat} {a0 : Nat → Nat} {i0 : Nat → Int32} {r0 : Nat → Nat → Int32}  {q : Int32} (hf : f_X0_heat i0 r0 = some q) : Mi l yX0_heat wlX0_heat rmX0_heat D cs zs [.ref h0] (W0 cs h0 a0 i0 r0) q (W0 cs h0 a0 i0 r0) := by
  refine Mi.of RX0 (by decide) rfl (Nat.le_of_ble_eq_true rfl) (fun p e s m below meth c A C hP hD hS ls hl => ?_)
  generalize ([.ref h0] : List Value).toArray = args at C ⊢
  obtain ⟨hx, hb, hr, hml, hown, hts, hK, hA, hlocks, hZ⟩ := id C
  have hl : lv_has ls 1 [(0, .ref h0)] := hl
  rw [f_X0_heat] at hf
  refine lv_aload_n hx hb dX0_heat_0 rfl (lv_at hl 0 rfl) ?_
  refine va_get (D := D) (ci := 0) (v := .int (i0 5)) (C := RX0) (T := TX0) (N := 7) hx hb hts hiX0 hown hK hP 0 rfl rfl 5 (by decide) (hts _ flX0_33) (fun _ h9 => h9) rfl dX0_heat_1 ?_
  obtain rfl := Option.some.inj hf
  exact k_iret hx hb hr hlocks hK hP hD hS dX0_heat_4
/-! MarbleFloor$Cells.undoable()I -/
abbrev wlX0_undoable : List Cond := Cond.code yX0_undoable cX0_undoable 1 (some .int) :: tbG
abbrev rmX0_undoable : Room := { frames := 0, cells := 0, slots := 0, locals := 0 }
theorem qnX0_undoable : yX0_undoable.cls = RX0 ∧ yX0_undoable.cls ≠ "java/lang/invoke/MethodHandle" ∧ yX0_undoable.cls ≠ "java/lang/invoke/VarHandle" ∧ (parseMethodDescriptor yX0_undoable.desc).map (fun d => d.parameters.length) = some 0 := by decide +kernel
def f_X0_undoable  (i0 : Nat → Int32) (r0 : Nat → Nat → Int32)  : Option (Int32) := some (i0 6)
set_option maxRecDepth 100000 in
set_option maxHeartbeats 4000000 in
theorem c_X0_undoable {l : Launch} {D : va_G} {cs zs : Nat → Nat} {h0 : Nat} {a0 : Nat → Nat} {i0 : Nat → Int32} {r0 : Nat → Nat → Int32}  {q : Int32} (hf : f_X0_undoable i0 r0 = some q) : Mi l yX0_undoable wlX0_undoable rmX0_undoable D cs zs [.ref h0] (W0 cs h0 a0 i0 r0) q (W0 cs h0 a0 i0 r0) := by
  refine Mi.of RX0 (by decide) rfl (Nat.le_of_ble_eq_true rfl) (fun p e s m below meth c A C hP hD hS ls hl => ?_)
  generalize ([.ref h0] : List Value).toArray = args at C ⊢
  obtain ⟨hx, hb, hr, hml, hown, hts, hK, hA, hlocks, hZ⟩ := id C
  have hl : lv_has ls 1 [(0, .ref h0)] := hl
  rw [f_X0_undoable] at hf
  refine lv_aload_n hx hb dX0_undoable_0 rfl (lv_at hl 0 rfl) ?_
  refine va_get (D := D) (ci := 0) (v := .int (i0 6)) (C := RX0) (T := TX0) (N := 7) hx hb hts hiX0 hown hK hP 0 rfl rfl 6 (by decide) (hts _ flX0_36) (fun _ h9 => h9) rfl dX0_undoable_1 ?_
  obtain rfl := Option.some.inj hf
  exact k_iret hx hb hr hlocks hK hP hD hS dX0_undoable_4
/-! MarbleFloor$Cells.meetRow(I)I -/
abbrev wlX0_meetRow : List Cond := Cond.code yX0_meetRow cX0_meetRow 12 (some .int) :: tbG
abbrev rmX0_meetRow : Room := { frames := 1, cells := 0, slots := 0, locals := 20 }
theorem qnX0_meetRow : yX0_meetRow.cls = RX0 ∧ yX0_meetRow.cls ≠ "java/lang/invoke/MethodHandle" ∧ yX0_meetRow.cls ≠ "java/lang/invoke/VarHandle" ∧ (parseMethodDescriptor yX0_meetRow.desc).map (fun d => d.parameters.length) = some 1 := by decide +kernel
def f_X0_meetRow_199 (i0 : Nat → Int32)  (r0 : Nat → Nat → Int32) (x1 : Int32) (x2 : Int32) (x3 : Int32) (x4 : Int32) (x5 : Int32) (x7 : Int32) (x8 : Int32) (x9 : Int32) (x10 : Int32) (x11 : Int32) : Option (Int32 × (Nat → Nat → Int32)) := ck (inb x1 10) (ck (inb x1 10) (some (x7, (va_up (va_up r0 (10 + 2) (upd (r0 (10 + 2)) x1.toNatClampNeg ((((x4 ^^^ x8) &&& x9) ||| (x5 &&& x10)) ||| (x3 &&& x11)))) (10 + 3) (upd (r0 (10 + 3)) x1.toNatClampNeg ((((x5 ^^^ x8) &&& x9) ||| (x4 &&& x10)) ||| (x2 &&& x11)))))))
set_option maxRecDepth 100000 in
set_option maxHeartbeats 4000000 in
theorem w_X0_meetRow_199 {p : Program} {l : Launch} {e : Env} {s : State} {m : MethodId} {args : Array Value} {below : List Frame} {meth : Method} {c : Code} {A : Nat → Prop} {D : va_G} {cs zs : Nat → Nat} {h0 : Nat} {a0 : Nat → Nat} {i0 : Nat → Int32} {q : Int32 × (Nat → Nat → Int32)} (C : Cx p s m args meth c A D cs zs cX0_meetRow 12 (some .int) RX0)  : ∀ (r0 : Nat → Nat → Int32) (x1 : Int32) (x2 : Int32) (x3 : Int32) (x4 : Int32) (x5 : Int32) (x7 : Int32) (x8 : Int32) (x9 : Int32) (x10 : Int32) (x11 : Int32) (H : Heap) (locs : List Loc) (ls : Array Slot), f_X0_meetRow_199 i0 r0 x1 x2 x3 x4 x5 x7 x8 x9 x10 x11 = some q → va_P D vwCl (W0 cs h0 a0 i0 r0) H → va_D A (W0 cs h0 a0 i0 r0) → va_S A s.heap H locs → lv_has ls 12 [(0, .ref h0), (1, .int x1), (2, .int x2), (3, .int x3), (4, .int x4), (5, .int x5), (7, .int x7), (8, .int x8), (9, .int x9), (10, .int x10), (11, .int x11)] → W p l e rmX0_meetRow s m args below meth c H locs 0 0 (MQ below (Qi D cs A q.1 (W0 cs h0 a0 i0 q.2)) args s 0 0 A) (F0 m 199 ls []) := by
  obtain ⟨hx, hb, hr, hml, hown, hts, hK, hA, hlocks, hZ⟩ := id C
  intro r0 x1 x2 x3 x4 x5 x7 x8 x9 x10 x11 H locs ls hf hP hD hS hl
  rw [f_X0_meetRow_199] at hf
  refine lv_aload_n hx hb dX0_meetRow_199 rfl (lv_at hl 0 rfl) ?_
  refine va_get (D := D) (ci := 0) (v := .ref (a0 0)) (C := RX0) (T := TX0) (N := 7) hx hb hts hiX0 hown hK hP 0 rfl rfl 0 (by decide) (hts _ flX0_13) (fun _ h9 => h9) rfl dX0_meetRow_200 ?_
  refine lv_iconst (v := 2) hx hb dX0_meetRow_203 (by decide) ?_
  refine k_aald (f := fun j => a0 (10 + j)) (j := 2) hx hb hK hP 1 5 rfl rfl rfl (inb_in (by decide)) (by decide) dX0_meetRow_204 ?_
  refine lv_iload_n hx hb dX0_meetRow_205 rfl (lv_at hl 1 rfl) ?_
  refine lv_iload hx hb dX0_meetRow_206 (lv_at hl 4 rfl) ?_
  refine lv_iload hx hb dX0_meetRow_208 (lv_at hl 7 rfl) ?_
  refine lv_ixor hx hb dX0_meetRow_210 ?_
  refine lv_iload hx hb dX0_meetRow_211 (lv_at hl 8 rfl) ?_
  refine lv_iand hx hb dX0_meetRow_213 ?_
  refine lv_iload hx hb dX0_meetRow_214 (lv_at hl 5 rfl) ?_
  refine lv_iload hx hb dX0_meetRow_216 (lv_at hl 9 rfl) ?_
  refine lv_iand hx hb dX0_meetRow_218 ?_
  refine lv_ior hx hb dX0_meetRow_219 ?_
  refine lv_iload_n hx hb dX0_meetRow_220 rfl (lv_at hl 3 rfl) ?_
  refine lv_iload hx hb dX0_meetRow_221 (lv_at hl 10 rfl) ?_
  refine lv_iand hx hb dX0_meetRow_223 ?_
  refine lv_ior hx hb dX0_meetRow_224 ?_
  refine va_iast (f := r0 (10 + 2)) hx hb hK hP hD hS (4 + 2) 0 (row0_10 (by decide : 2 < 4)) rfl (ck_in hf) dX0_meetRow_225 (fun H locs hP hD hS => ?_)
  have hf := ck_2 hf
  obtain ⟨hP, hD⟩ := set0_10 (by decide : 2 < 4) hP hD
  refine lv_aload_n hx hb dX0_meetRow_226 rfl (lv_at hl 0 rfl) ?_
  refine va_get (D := D) (ci := 0) (v := .ref (a0 0)) (C := RX0) (T := TX0) (N := 7) hx hb hts hiX0 hown hK hP 0 rfl rfl 0 (by decide) (hts _ flX0_13) (fun _ h9 => h9) rfl dX0_meetRow_227 ?_
  refine lv_iconst (v := 3) hx hb dX0_meetRow_230 (by decide) ?_
  refine k_aald (f := fun j => a0 (10 + j)) (j := 3) hx hb hK hP 1 5 rfl rfl rfl (inb_in (by decide)) (by decide) dX0_meetRow_231 ?_
  refine lv_iload_n hx hb dX0_meetRow_232 rfl (lv_at hl 1 rfl) ?_
  refine lv_iload hx hb dX0_meetRow_233 (lv_at hl 5 rfl) ?_
  refine lv_iload hx hb dX0_meetRow_235 (lv_at hl 7 rfl) ?_
  refine lv_ixor hx hb dX0_meetRow_237 ?_
  refine lv_iload hx hb dX0_meetRow_238 (lv_at hl 8 rfl) ?_
  refine lv_iand hx hb dX0_meetRow_240 ?_
  refine lv_iload hx hb dX0_meetRow_241 (lv_at hl 4 rfl) ?_
  refine lv_iload hx hb dX0_meetRow_243 (lv_at hl 9 rfl) ?_
  refine lv_iand hx hb dX0_meetRow_245 ?_
  refine lv_ior hx hb dX0_meetRow_246 ?_
  refine lv_iload_n hx hb dX0_meetRow_247 rfl (lv_at hl 2 rfl) ?_
  refine lv_iload hx hb dX0_meetRow_248 (lv_at hl 10 rfl) ?_
  refine lv_iand hx hb dX0_meetRow_250 ?_
  refine lv_ior hx hb dX0_meetRow_251 ?_
  refine va_iast (f := r0 (10 + 3)) hx hb hK hP hD hS (4 + 3) 0 (row0_10 (by decide : 3 < 4)) rfl (ck_in hf) dX0_meetRow_252 (fun H locs hP hD hS => ?_)
  have hf := ck_2 hf
  obtain ⟨hP, hD⟩ := set0_10 (by decide : 3 < 4) hP hD
  refine lv_iload hx hb dX0_meetRow_253 (lv_at hl 6 rfl) ?_
  obtain rfl := Option.some.inj hf
  exact k_iret hx hb hr hlocks hK hP hD hS dX0_meetRow_255
def f_X0_meetRow_117 (i0 : Nat → Int32)  (r0 : Nat → Nat → Int32) (x1 : Int32) (x2 : Int32) (x3 : Int32) (x4 : Int32) (x5 : Int32) (x7 : Int32) (x8 : Int32) : Option (Int32 × (Nat → Nat → Int32)) := ck (inb x1 10) (ck (inb x1 10) (ck (inb x1 10) (ck (inb x1 10) (ck (inb x1 10) (f_X0_meetRow_199 i0 (va_up (va_up r0 (10 + 0) (upd (r0 (10 + 0)) x1.toNatClampNeg ((((x2 ^^^ x8) &&& (r0 (30 + 0) x1.toNatClampNeg)) ||| (x3 &&& (r0 (30 + 1) x1.toNatClampNeg))) ||| (x5 &&& (r0 (30 + 2) x1.toNatClampNeg))))) (10 + 1) (upd (r0 (10 + 1)) x1.toNatClampNeg ((((x3 ^^^ x8) &&& (r0 (30 + 0) x1.toNatClampNeg)) ||| (x2 &&& (r0 (30 + 1) x1.toNatClampNeg))) ||| (x4 &&& (r0 (30 + 2) x1.toNatClampNeg))))) x1 x2 x3 x4 x5 x7 x8 (r0 (30 + 0) x1.toNatClampNeg) (r0 (30 + 1) x1.toNatClampNeg) (r0 (30 + 2) x1.toNatClampNeg))))))
set_option maxRecDepth 100000 in
set_option maxHeartbeats 4000000 in
theorem w_X0_meetRow_117 {p : Program} {l : Launch} {e : Env} {s : State} {m : MethodId} {args : Array Value} {below : List Frame} {meth : Method} {c : Code} {A : Nat → Prop} {D : va_G} {cs zs : Nat → Nat} {h0 : Nat} {a0 : Nat → Nat} {i0 : Nat → Int32} {q : Int32 × (Nat → Nat → Int32)} (C : Cx p s m args meth c A D cs zs cX0_meetRow 12 (some .int) RX0)  : ∀ (r0 : Nat → Nat → Int32) (x1 : Int32) (x2 : Int32) (x3 : Int32) (x4 : Int32) (x5 : Int32) (x7 : Int32) (x8 : Int32) (H : Heap) (locs : List Loc) (ls : Array Slot), f_X0_meetRow_117 i0 r0 x1 x2 x3 x4 x5 x7 x8 = some q → va_P D vwCl (W0 cs h0 a0 i0 r0) H → va_D A (W0 cs h0 a0 i0 r0) → va_S A s.heap H locs → lv_has ls 12 [(0, .ref h0), (1, .int x1), (2, .int x2), (3, .int x3), (4, .int x4), (5, .int x5), (7, .int x7), (8, .int x8)] → W p l e rmX0_meetRow s m args below meth c H locs 0 0 (MQ below (Qi D cs A q.1 (W0 cs h0 a0 i0 q.2)) args s 0 0 A) (F0 m 117 ls []) := by
  obtain ⟨hx, hb, hr, hml, hown, hts, hK, hA, hlocks, hZ⟩ := id C
  intro r0 x1 x2 x3 x4 x5 x7 x8 H locs ls hf hP hD hS hl
  rw [f_X0_meetRow_117] at hf
  refine lv_aload_n hx hb dX0_meetRow_117 rfl (lv_at hl 0 rfl) ?_
  refine va_get (D := D) (ci := 0) (v := .ref (a0 2)) (C := RX0) (T := TX0) (N := 7) hx hb hts hiX0 hown hK hP 0 rfl rfl 2 (by decide) (hts _ flX0_19) (fun _ h9 => h9) rfl dX0_meetRow_118 ?_
  refine lv_iconst (v := 0) hx hb dX0_meetRow_121 (by decide) ?_
  refine k_aald (f := fun j => a0 (30 + j)) (j := 0) hx hb hK hP 3 5 rfl rfl rfl (inb_in (by decide)) (by decide) dX0_meetRow_122 ?_
  refine lv_iload_n hx hb dX0_meetRow_123 rfl (lv_at hl 1 rfl) ?_
  refine va_iald (f := r0 (30 + 0)) hx hb hK hP (12 + 0) 0 (row0_30 (by decide : 0 < 4)) rfl (ck_in hf) dX0_meetRow_124 ?_
  have hf := ck_2 hf
  refine lv_istore (lv' := [(9, .int (r0 (30 + 0) x1.toNatClampNeg)), (0, .ref h0), (1, .int x1), (2, .int x2), (3, .int x3), (4, .int x4), (5, .int x5), (7, .int x7), (8, .int x8)]) hx hb dX0_meetRow_125 hl (by decide) rfl (fun ls hl => ?_)
  refine lv_aload_n hx hb dX0_meetRow_127 rfl (lv_at hl 1 rfl) ?_
  refine va_get (D := D) (ci := 0) (v := .ref (a0 2)) (C := RX0) (T := TX0) (N := 7) hx hb hts hiX0 hown hK hP 0 rfl rfl 2 (by decide) (hts _ flX0_19) (fun _ h9 => h9) rfl dX0_meetRow_128 ?_
  refine lv_iconst (v := 1) hx hb dX0_meetRow_131 (by decide) ?_
  refine k_aald (f := fun j => a0 (30 + j)) (j := 1) hx hb hK hP 3 5 rfl rfl rfl (inb_in (by decide)) (by decide) dX0_meetRow_132 ?_
  refine lv_iload_n hx hb dX0_meetRow_133 rfl (lv_at hl 2 rfl) ?_
  refine va_iald (f := r0 (30 + 1)) hx hb hK hP (12 + 1) 0 (row0_30 (by decide : 1 < 4)) rfl (ck_in hf) dX0_meetRow_134 ?_
  have hf := ck_2 hf
  refine lv_istore (lv' := [(10, .int (r0 (30 + 1) x1.toNatClampNeg)), (9, .int (r0 (30 + 0) x1.toNatClampNeg)), (0, .ref h0), (1, .int x1), (2, .int x2), (3, .int x3), (4, .int x4), (5, .int x5), (7, .int x7), (8, .int x8)]) hx hb dX0_meetRow_135 hl (by decide) rfl (fun ls hl => ?_)
  refine lv_aload_n hx hb dX0_meetRow_137 rfl (lv_at hl 2 rfl) ?_
  refine va_get (D := D) (ci := 0) (v := .ref (a0 2)) (C := RX0) (T := TX0) (N := 7) hx hb hts hiX0 hown hK hP 0 rfl rfl 2 (by decide) (hts _ flX0_19) (fun _ h9 => h9) rfl dX0_meetRow_138 ?_
  refine lv_iconst (v := 2) hx hb dX0_meetRow_141 (by decide) ?_
  refine k_aald (f := fun j => a0 (30 + j)) (j := 2) hx hb hK hP 3 5 rfl rfl rfl (inb_in (by decide)) (by decide) dX0_meetRow_142 ?_
  refine lv_iload_n hx hb dX0_meetRow_143 rfl (lv_at hl 3 rfl) ?_
  refine va_iald (f := r0 (30 + 2)) hx hb hK hP (12 + 2) 0 (row0_30 (by decide : 2 < 4)) rfl (ck_in hf) dX0_meetRow_144 ?_
  have hf := ck_2 hf
  refine lv_istore (lv' := [(11, .int (r0 (30 + 2) x1.toNatClampNeg)), (10, .int (r0 (30 + 1) x1.toNatClampNeg)), (9, .int (r0 (30 + 0) x1.toNatClampNeg)), (0, .ref h0), (1, .int x1), (2, .int x2), (3, .int x3), (4, .int x4), (5, .int x5), (7, .int x7), (8, .int x8)]) hx hb dX0_meetRow_145 hl (by decide) rfl (fun ls hl => ?_)
  refine lv_aload_n hx hb dX0_meetRow_147 rfl (lv_at hl 3 rfl) ?_
  refine va_get (D := D) (ci := 0) (v := .ref (a0 0)) (C := RX0) (T := TX0) (N := 7) hx hb hts hiX0 hown hK hP 0 rfl rfl 0 (by decide) (hts _ flX0_13) (fun _ h9 => h9) rfl dX0_meetRow_148 ?_
  refine lv_iconst (v := 0) hx hb dX0_meetRow_151 (by decide) ?_
  refine k_aald (f := fun j => a0 (10 + j)) (j := 0) hx hb hK hP 1 5 rfl rfl rfl (inb_in (by decide)) (by decide) dX0_meetRow_152 ?_
  refine lv_iload_n hx hb dX0_meetRow_153 rfl (lv_at hl 4 rfl) ?_
  refine lv_iload_n hx hb dX0_meetRow_154 rfl (lv_at hl 5 rfl) ?_
  refine lv_iload hx hb dX0_meetRow_155 (lv_at hl 10 rfl) ?_
  refine lv_ixor hx hb dX0_meetRow_157 ?_
  refine lv_iload hx hb dX0_meetRow_158 (lv_at hl 2 rfl) ?_
  refine lv_iand hx hb dX0_meetRow_160 ?_
  refine lv_iload_n hx hb dX0_meetRow_161 rfl (lv_at hl 6 rfl) ?_
  refine lv_iload hx hb dX0_meetRow_162 (lv_at hl 1 rfl) ?_
  refine lv_iand hx hb dX0_meetRow_164 ?_
  refine lv_ior hx hb dX0_meetRow_165 ?_
  refine lv_iload hx hb dX0_meetRow_166 (lv_at hl 8 rfl) ?_
  refine lv_iload hx hb dX0_meetRow_168 (lv_at hl 0 rfl) ?_
  refine lv_iand hx hb dX0_meetRow_170 ?_
  refine lv_ior hx hb dX0_meetRow_171 ?_
  refine va_iast (f := r0 (10 + 0)) hx hb hK hP hD hS (4 + 0) 0 (row0_10 (by decide : 0 < 4)) rfl (ck_in hf) dX0_meetRow_172 (fun H locs hP hD hS => ?_)
  have hf := ck_2 hf
  obtain ⟨hP, hD⟩ := set0_10 (by decide : 0 < 4) hP hD
  refine lv_aload_n hx hb dX0_meetRow_173 rfl (lv_at hl 3 rfl) ?_
  refine va_get (D := D) (ci := 0) (v := .ref (a0 0)) (C := RX0) (T := TX0) (N := 7) hx hb hts hiX0 hown hK hP 0 rfl rfl 0 (by decide) (hts _ flX0_13) (fun _ h9 => h9) rfl dX0_meetRow_174 ?_
  refine lv_iconst (v := 1) hx hb dX0_meetRow_177 (by decide) ?_
  refine k_aald (f := fun j => a0 (10 + j)) (j := 1) hx hb hK hP 1 5 rfl rfl rfl (inb_in (by decide)) (by decide) dX0_meetRow_178 ?_
  refine lv_iload_n hx hb dX0_meetRow_179 rfl (lv_at hl 4 rfl) ?_
  refine lv_iload_n hx hb dX0_meetRow_180 rfl (lv_at hl 6 rfl) ?_
  refine lv_iload hx hb dX0_meetRow_181 (lv_at hl 10 rfl) ?_
  refine lv_ixor hx hb dX0_meetRow_183 ?_
  refine lv_iload hx hb dX0_meetRow_184 (lv_at hl 2 rfl) ?_
  refine lv_iand hx hb dX0_meetRow_186 ?_
  refine lv_iload_n hx hb dX0_meetRow_187 rfl (lv_at hl 5 rfl) ?_
  refine lv_iload hx hb dX0_meetRow_188 (lv_at hl 1 rfl) ?_
  refine lv_iand hx hb dX0_meetRow_190 ?_
  refine lv_ior hx hb dX0_meetRow_191 ?_
  refine lv_iload hx hb dX0_meetRow_192 (lv_at hl 7 rfl) ?_
  refine lv_iload hx hb dX0_meetRow_194 (lv_at hl 0 rfl) ?_
  refine lv_iand hx hb dX0_meetRow_196 ?_
  refine lv_ior hx hb dX0_meetRow_197 ?_
  refine va_iast (f := r0 (10 + 1)) hx hb hK hP hD hS (4 + 1) 0 (row0_10 (by decide : 1 < 4)) rfl (ck_in hf) dX0_meetRow_198 (fun H locs hP hD hS => ?_)
  have hf := ck_2 hf
  obtain ⟨hP, hD⟩ := set0_10 (by decide : 1 < 4) hP hD
  exact w_X0_meetRow_199 C  _ _ _ _ _ _ _ _ _ _ _ _ _ _ hf hP hD hS (lv_sub hl [3, 4, 5, 6, 7, 8, 9, 10, 2, 1, 0] rfl)
def f_X0_meetRow  (i0 : Nat → Int32) (r0 : Nat → Nat → Int32) (x1 : Int32) : Option (Int32 × (Nat → Nat → Int32)) := ck (inb x1 10) (ck (inb x1 10) (ck (inb x1 10) (ck (inb x1 10) (ck (inb x1 10) (bd (f_J6_bitCount_0f7a4 ((r0 (10 + 0) x1.toNatClampNeg) &&& (r0 (30 + 3) x1.toNatClampNeg))) (fun q5 => bd (f_J6_bitCount_0f7a4 ((r0 (10 + 1) x1.toNatClampNeg) &&& (r0 (30 + 3) x1.toNatClampNeg))) (fun q6 => bd (f_J6_bitCount_0f7a4 ((r0 (10 + 2) x1.toNatClampNeg) &&& (r0 (30 + 3) x1.toNatClampNeg))) (fun q7 => bd (f_J6_bitCount_0f7a4 ((r0 (10 + 3) x1.toNatClampNeg) &&& (r0 (30 + 3) x1.toNatClampNeg))) (fun q8 => ck (inb x1 10) (f_X0_meetRow_117 i0 r0 x1 (r0 (10 + 0) x1.toNatClampNeg) (r0 (10 + 1) x1.toNatClampNeg) (r0 (10 + 2) x1.toNatClampNeg) (r0 (10 + 3) x1.toNatClampNeg) (((q5 + q6) + q7) + q8) ((r0 (30 + 0) x1.toNatClampNeg) &&& ((((r0 (10 + 0) x1.toNatClampNeg) &&& (r0 (10 + 2) x1.toNatClampNeg)) &&& (((r0 (10 + 1) x1.toNatClampNeg) ||| (r0 (10 + 3) x1.toNatClampNeg)) ^^^ (-1))) ||| (((r0 (10 + 1) x1.toNatClampNeg) &&& (r0 (10 + 3) x1.toNatClampNeg)) &&& (((r0 (10 + 0) x1.toNatClampNeg) ||| (r0 (10 + 2) x1.toNatClampNeg)) ^^^ (-1)))))))))))))))
set_option maxRecDepth 100000 in
set_option maxHeartbeats 4000000 in
theorem c_X0_meetRow {l : Launch} {D : va_G} {cs zs : Nat → Nat} {h0 : Nat} {a0 : Nat → Nat} {i0 : Nat → Int32} {r0 : Nat → Nat → Int32} {x1 : Int32} {q : Int32 × (Nat → Nat → Int32)} (hf : f_X0_meetRow i0 r0 x1 = some q) : Mi l yX0_meetRow wlX0_meetRow rmX0_meetRow D cs zs [.ref h0, .int x1] (W0 cs h0 a0 i0 r0) q.1 (W0 cs h0 a0 i0 q.2) := by
  refine Mi.of RX0 (by decide) rfl (Nat.le_of_ble_eq_true rfl) (fun p e s m below meth c A C hP hD hS ls hl => ?_)
  generalize ([.ref h0, .int x1] : List Value).toArray = args at C ⊢
  obtain ⟨hx, hb, hr, hml, hown, hts, hK, hA, hlocks, hZ⟩ := id C
  have hl : lv_has ls 12 [(0, .ref h0), (1, .int x1)] := hl
  rw [f_X0_meetRow] at hf
  refine lv_aload_n hx hb dX0_meetRow_0 rfl (lv_at hl 0 rfl) ?_
  refine va_get (D := D) (ci := 0) (v := .ref (a0 0)) (C := RX0) (T := TX0) (N := 7) hx hb hts hiX0 hown hK hP 0 rfl rfl 0 (by decide) (hts _ flX0_13) (fun _ h9 => h9) rfl dX0_meetRow_1 ?_
  refine lv_iconst (v := 0) hx hb dX0_meetRow_4 (by decide) ?_
  refine k_aald (f := fun j => a0 (10 + j)) (j := 0) hx hb hK hP 1 5 rfl rfl rfl (inb_in (by decide)) (by decide) dX0_meetRow_5 ?_
  refine lv_iload_n hx hb dX0_meetRow_6 rfl (lv_at hl 1 rfl) ?_
  refine va_iald (f := r0 (10 + 0)) hx hb hK hP (4 + 0) 0 (row0_10 (by decide : 0 < 4)) rfl (ck_in hf) dX0_meetRow_7 ?_
  have hf := ck_2 hf
  refine lv_istore_n (lv' := [(2, .int (r0 (10 + 0) x1.toNatClampNeg)), (0, .ref h0), (1, .int x1)]) hx hb dX0_meetRow_8 rfl hl (by decide) rfl (fun ls hl => ?_)
  refine lv_aload_n hx hb dX0_meetRow_9 rfl (lv_at hl 1 rfl) ?_
  refine va_get (D := D) (ci := 0) (v := .ref (a0 0)) (C := RX0) (T := TX0) (N := 7) hx hb hts hiX0 hown hK hP 0 rfl rfl 0 (by decide) (hts _ flX0_13) (fun _ h9 => h9) rfl dX0_meetRow_10 ?_
  refine lv_iconst (v := 1) hx hb dX0_meetRow_13 (by decide) ?_
  refine k_aald (f := fun j => a0 (10 + j)) (j := 1) hx hb hK hP 1 5 rfl rfl rfl (inb_in (by decide)) (by decide) dX0_meetRow_14 ?_
  refine lv_iload_n hx hb dX0_meetRow_15 rfl (lv_at hl 2 rfl) ?_
  refine va_iald (f := r0 (10 + 1)) hx hb hK hP (4 + 1) 0 (row0_10 (by decide : 1 < 4)) rfl (ck_in hf) dX0_meetRow_16 ?_
  have hf := ck_2 hf
  refine lv_istore_n (lv' := [(3, .int (r0 (10 + 1) x1.toNatClampNeg)), (2, .int (r0 (10 + 0) x1.toNatClampNeg)), (0, .ref h0), (1, .int x1)]) hx hb dX0_meetRow_17 rfl hl (by decide) rfl (fun ls hl => ?_)
  refine lv_aload_n hx hb dX0_meetRow_18 rfl (lv_at hl 2 rfl) ?_
  refine va_get (D := D) (ci := 0) (v := .ref (a0 0)) (C := RX0) (T := TX0) (N := 7) hx hb hts hiX0 hown hK hP 0 rfl rfl 0 (by decide) (hts _ flX0_13) (fun _ h9 => h9) rfl dX0_meetRow_19 ?_
  refine lv_iconst (v := 2) hx hb dX0_meetRow_22 (by decide) ?_
  refine k_aald (f := fun j => a0 (10 + j)) (j := 2) hx hb hK hP 1 5 rfl rfl rfl (inb_in (by decide)) (by decide) dX0_meetRow_23 ?_
  refine lv_iload_n hx hb dX0_meetRow_24 rfl (lv_at hl 3 rfl) ?_
  refine va_iald (f := r0 (10 + 2)) hx hb hK hP (4 + 2) 0 (row0_10 (by decide : 2 < 4)) rfl (ck_in hf) dX0_meetRow_25 ?_
  have hf := ck_2 hf
  refine lv_istore (lv' := [(4, .int (r0 (10 + 2) x1.toNatClampNeg)), (3, .int (r0 (10 + 1) x1.toNatClampNeg)), (2, .int (r0 (10 + 0) x1.toNatClampNeg)), (0, .ref h0), (1, .int x1)]) hx hb dX0_meetRow_26 hl (by decide) rfl (fun ls hl => ?_)
  refine lv_aload_n hx hb dX0_meetRow_28 rfl (lv_at hl 3 rfl) ?_
  refine va_get (D := D) (ci := 0) (v := .ref (a0 0)) (C := RX0) (T := TX0) (N := 7) hx hb hts hiX0 hown hK hP 0 rfl rfl 0 (by decide) (hts _ flX0_13) (fun _ h9 => h9) rfl dX0_meetRow_29 ?_
  refine lv_iconst (v := 3) hx hb dX0_meetRow_32 (by decide) ?_
  refine k_aald (f := fun j => a0 (10 + j)) (j := 3) hx hb hK hP 1 5 rfl rfl rfl (inb_in (by decide)) (by decide) dX0_meetRow_33 ?_
  refine lv_iload_n hx hb dX0_meetRow_34 rfl (lv_at hl 4 rfl) ?_
  refine va_iald (f := r0 (10 + 3)) hx hb hK hP (4 + 3) 0 (row0_10 (by decide : 3 < 4)) rfl (ck_in hf) dX0_meetRow_35 ?_
  have hf := ck_2 hf
  refine lv_istore (lv' := [(5, .int (r0 (10 + 3) x1.toNatClampNeg)), (4, .int (r0 (10 + 2) x1.toNatClampNeg)), (3, .int (r0 (10 + 1) x1.toNatClampNeg)), (2, .int (r0 (10 + 0) x1.toNatClampNeg)), (0, .ref h0), (1, .int x1)]) hx hb dX0_meetRow_36 hl (by decide) rfl (fun ls hl => ?_)
  refine lv_aload_n hx hb dX0_meetRow_38 rfl (lv_at hl 4 rfl) ?_
  refine va_get (D := D) (ci := 0) (v := .ref (a0 2)) (C := RX0) (T := TX0) (N := 7) hx hb hts hiX0 hown hK hP 0 rfl rfl 2 (by decide) (hts _ flX0_19) (fun _ h9 => h9) rfl dX0_meetRow_39 ?_
  refine lv_iconst (v := 3) hx hb dX0_meetRow_42 (by decide) ?_
  refine k_aald (f := fun j => a0 (30 + j)) (j := 3) hx hb hK hP 3 5 rfl rfl rfl (inb_in (by decide)) (by decide) dX0_meetRow_43 ?_
  refine lv_iload_n hx hb dX0_meetRow_44 rfl (lv_at hl 5 rfl) ?_
  refine va_iald (f := r0 (30 + 3)) hx hb hK hP (12 + 3) 0 (row0_30 (by decide : 3 < 4)) rfl (ck_in hf) dX0_meetRow_45 ?_
  have hf := ck_2 hf
  refine lv_istore (lv' := [(6, .int (r0 (30 + 3) x1.toNatClampNeg)), (5, .int (r0 (10 + 3) x1.toNatClampNeg)), (4, .int (r0 (10 + 2) x1.toNatClampNeg)), (3, .int (r0 (10 + 1) x1.toNatClampNeg)), (2, .int (r0 (10 + 0) x1.toNatClampNeg)), (0, .ref h0), (1, .int x1)]) hx hb dX0_meetRow_46 hl (by decide) rfl (fun ls hl => ?_)
  refine lv_iload_n hx hb dX0_meetRow_48 rfl (lv_at hl 4 rfl) ?_
  refine lv_iload hx hb dX0_meetRow_49 (lv_at hl 0 rfl) ?_
  refine lv_iand hx hb dX0_meetRow_51 ?_
  obtain ⟨q5, hq5, hf⟩ := bd_s hf
  refine k_eSi (As := [.int ((r0 (10 + 0) x1.toNatClampNeg) &&& (r0 (30 + 3) x1.toNatClampNeg))]) (rest := []) hx hb hml hown hts hK hA hZ hl.1 hP hD hS (c_J6_bitCount_0f7a4  hq5) (gSt mlX0_45 stJ6_bitCount_0f7a4 inJ6 coJ6_bitCount_0f7a4) rfl qnJ6_bitCount_0f7a4 rfl rfl ⟨Nat.le_of_ble_eq_true rfl, Nat.le_of_ble_eq_true rfl⟩ rfl rfl (Nat.le_of_ble_eq_true rfl) ⟨Nat.zero_le _, Nat.zero_le _⟩ dX0_meetRow_52 (fun H locs hP hD hS => ?_)
  refine lv_iload_n hx hb dX0_meetRow_55 rfl (lv_at hl 3 rfl) ?_
  refine lv_iload hx hb dX0_meetRow_56 (lv_at hl 0 rfl) ?_
  refine lv_iand hx hb dX0_meetRow_58 ?_
  obtain ⟨q6, hq6, hf⟩ := bd_s hf
  refine k_eSi (As := [.int ((r0 (10 + 1) x1.toNatClampNeg) &&& (r0 (30 + 3) x1.toNatClampNeg))]) (rest := [.int q5]) hx hb hml hown hts hK hA hZ hl.1 hP hD hS (c_J6_bitCount_0f7a4  hq6) (gSt mlX0_45 stJ6_bitCount_0f7a4 inJ6 coJ6_bitCount_0f7a4) rfl qnJ6_bitCount_0f7a4 rfl rfl ⟨Nat.le_of_ble_eq_true rfl, Nat.le_of_ble_eq_true rfl⟩ rfl rfl (Nat.le_of_ble_eq_true rfl) ⟨Nat.zero_le _, Nat.zero_le _⟩ dX0_meetRow_59 (fun H locs hP hD hS => ?_)
  refine lv_iadd hx hb dX0_meetRow_62 ?_
  refine lv_iload hx hb dX0_meetRow_63 (lv_at hl 2 rfl) ?_
  refine lv_iload hx hb dX0_meetRow_65 (lv_at hl 0 rfl) ?_
  refine lv_iand hx hb dX0_meetRow_67 ?_
  obtain ⟨q7, hq7, hf⟩ := bd_s hf
  refine k_eSi (As := [.int ((r0 (10 + 2) x1.toNatClampNeg) &&& (r0 (30 + 3) x1.toNatClampNeg))]) (rest := [.int (q5 + q6)]) hx hb hml hown hts hK hA hZ hl.1 hP hD hS (c_J6_bitCount_0f7a4  hq7) (gSt mlX0_45 stJ6_bitCount_0f7a4 inJ6 coJ6_bitCount_0f7a4) rfl qnJ6_bitCount_0f7a4 rfl rfl ⟨Nat.le_of_ble_eq_true rfl, Nat.le_of_ble_eq_true rfl⟩ rfl rfl (Nat.le_of_ble_eq_true rfl) ⟨Nat.zero_le _, Nat.zero_le _⟩ dX0_meetRow_68 (fun H locs hP hD hS => ?_)
  refine lv_iadd hx hb dX0_meetRow_71 ?_
  refine lv_iload hx hb dX0_meetRow_72 (lv_at hl 1 rfl) ?_
  refine lv_iload hx hb dX0_meetRow_74 (lv_at hl 0 rfl) ?_
  refine lv_iand hx hb dX0_meetRow_76 ?_
  obtain ⟨q8, hq8, hf⟩ := bd_s hf
  refine k_eSi (As := [.int ((r0 (10 + 3) x1.toNatClampNeg) &&& (r0 (30 + 3) x1.toNatClampNeg))]) (rest := [.int ((q5 + q6) + q7)]) hx hb hml hown hts hK hA hZ hl.1 hP hD hS (c_J6_bitCount_0f7a4  hq8) (gSt mlX0_45 stJ6_bitCount_0f7a4 inJ6 coJ6_bitCount_0f7a4) rfl qnJ6_bitCount_0f7a4 rfl rfl ⟨Nat.le_of_ble_eq_true rfl, Nat.le_of_ble_eq_true rfl⟩ rfl rfl (Nat.le_of_ble_eq_true rfl) ⟨Nat.zero_le _, Nat.zero_le _⟩ dX0_meetRow_77 (fun H locs hP hD hS => ?_)
  refine lv_iadd hx hb dX0_meetRow_80 ?_
  refine lv_istore (lv' := [(7, .int (((q5 + q6) + q7) + q8)), (6, .int (r0 (30 + 3) x1.toNatClampNeg)), (5, .int (r0 (10 + 3) x1.toNatClampNeg)), (4, .int (r0 (10 + 2) x1.toNatClampNeg)), (3, .int (r0 (10 + 1) x1.toNatClampNeg)), (2, .int (r0 (10 + 0) x1.toNatClampNeg)), (0, .ref h0), (1, .int x1)]) hx hb dX0_meetRow_81 hl (by decide) rfl (fun ls hl => ?_)
  refine lv_aload_n hx hb dX0_meetRow_83 rfl (lv_at hl 6 rfl) ?_
  refine va_get (D := D) (ci := 0) (v := .ref (a0 2)) (C := RX0) (T := TX0) (N := 7) hx hb hts hiX0 hown hK hP 0 rfl rfl 2 (by decide) (hts _ flX0_19) (fun _ h9 => h9) rfl dX0_meetRow_84 ?_
  refine lv_iconst (v := 0) hx hb dX0_meetRow_87 (by decide) ?_
  refine k_aald (f := fun j => a0 (30 + j)) (j := 0) hx hb hK hP 3 5 rfl rfl rfl (inb_in (by decide)) (by decide) dX0_meetRow_88 ?_
  refine lv_iload_n hx hb dX0_meetRow_89 rfl (lv_at hl 7 rfl) ?_
  refine va_iald (f := r0 (30 + 0)) hx hb hK hP (12 + 0) 0 (row0_30 (by decide : 0 < 4)) rfl (ck_in hf) dX0_meetRow_90 ?_
  have hf := ck_2 hf
  refine lv_iload_n hx hb dX0_meetRow_91 rfl (lv_at hl 5 rfl) ?_
  refine lv_iload hx hb dX0_meetRow_92 (lv_at hl 3 rfl) ?_
  refine lv_iand hx hb dX0_meetRow_94 ?_
  refine lv_iload_n hx hb dX0_meetRow_95 rfl (lv_at hl 4 rfl) ?_
  refine lv_iload hx hb dX0_meetRow_96 (lv_at hl 2 rfl) ?_
  refine lv_ior hx hb dX0_meetRow_98 ?_
  refine lv_iconst (v := (-1)) hx hb dX0_meetRow_99 (by decide) ?_
  refine lv_ixor hx hb dX0_meetRow_100 ?_
  refine lv_iand hx hb dX0_meetRow_101 ?_
  refine lv_iload_n hx hb dX0_meetRow_102 rfl (lv_at hl 4 rfl) ?_
  refine lv_iload hx hb dX0_meetRow_103 (lv_at hl 2 rfl) ?_
  refine lv_iand hx hb dX0_meetRow_105 ?_
  refine lv_iload_n hx hb dX0_meetRow_106 rfl (lv_at hl 5 rfl) ?_
  refine lv_iload hx hb dX0_meetRow_107 (lv_at hl 3 rfl) ?_
  refine lv_ior hx hb dX0_meetRow_109 ?_
  refine lv_iconst (v := (-1)) hx hb dX0_meetRow_110 (by decide) ?_
  refine lv_ixor hx hb dX0_meetRow_111 ?_
  refine lv_iand hx hb dX0_meetRow_112 ?_
  refine lv_ior hx hb dX0_meetRow_113 ?_
  refine lv_iand hx hb dX0_meetRow_114 ?_
  refine lv_istore (lv' := [(8, .int ((r0 (30 + 0) x1.toNatClampNeg) &&& ((((r0 (10 + 0) x1.toNatClampNeg) &&& (r0 (10 + 2) x1.toNatClampNeg)) &&& (((r0 (10 + 1) x1.toNatClampNeg) ||| (r0 (10 + 3) x1.toNatClampNeg)) ^^^ (-1))) ||| (((r0 (10 + 1) x1.toNatClampNeg) &&& (r0 (10 + 3) x1.toNatClampNeg)) &&& (((r0 (10 + 0) x1.toNatClampNeg) ||| (r0 (10 + 2) x1.toNatClampNeg)) ^^^ (-1)))))), (7, .int (((q5 + q6) + q7) + q8)), (6, .int (r0 (30 + 3) x1.toNatClampNeg)), (5, .int (r0 (10 + 3) x1.toNatClampNeg)), (4, .int (r0 (10 + 2) x1.toNatClampNeg)), (3, .int (r0 (10 + 1) x1.toNatClampNeg)), (2, .int (r0 (10 + 0) x1.toNatClampNeg)), (0, .ref h0), (1, .int x1)]) hx hb dX0_meetRow_115 hl (by decide) rfl (fun ls hl => ?_)
  exact w_X0_meetRow_117 C  _ _ _ _ _ _ _ _ _ _ _ hf hP hD hS (lv_sub hl [7, 8, 6, 5, 4, 3, 1, 0] rfl)
/-! MarbleFloor$Cells.meetAll()I -/
abbrev wlX0_meetAll : List Cond := Cond.code yX0_meetAll cX0_meetAll 3 (some .int) :: tbG
abbrev rmX0_meetAll : Room := { frames := 2, cells := 0, slots := 0, locals := 51 }
theorem qnX0_meetAll : yX0_meetAll.cls = RX0 ∧ yX0_meetAll.cls ≠ "java/lang/invoke/MethodHandle" ∧ yX0_meetAll.cls ≠ "java/lang/invoke/VarHandle" ∧ (parseMethodDescriptor yX0_meetAll.desc).map (fun d => d.parameters.length) = some 0 := by decide +kernel
def f_X0_meetAll_4 (i0 : Nat → Int32)  : Nat → (Nat → Nat → Int32) → Int32 → Int32 → Option (Int32 × (Nat → Nat → Int32))
  | 0, _, _, _ => none
  | n + 1, r0, x1, x2 => if (i0 4) ≤ x2 then (some (x1, r0)) else (bd (f_X0_meetRow i0 r0 x2) (fun q2 => f_X0_meetAll_4 i0 n q2.2 (x1 + q2.1) (x2 + 1)))
set_option maxRecDepth 100000 in
set_option maxHeartbeats 4000000 in
theorem w_X0_meetAll_4 {p : Program} {l : Launch} {e : Env} {s : State} {m : MethodId} {args : Array Value} {below : List Frame} {meth : Method} {c : Code} {A : Nat → Prop} {D : va_G} {cs zs : Nat → Nat} {h0 : Nat} {a0 : Nat → Nat} {i0 : Nat → Int32} {q : Int32 × (Nat → Nat → Int32)} (C : Cx p s m args meth c A D cs zs cX0_meetAll 3 (some .int) RX0)  : ∀ (n : Nat), ∀ (r0 : Nat → Nat → Int32) (x1 : Int32) (x2 : Int32) (H : Heap) (locs : List Loc) (ls : Array Slot), f_X0_meetAll_4 i0 n r0 x1 x2 = some q → va_P D vwCl (W0 cs h0 a0 i0 r0) H → va_D A (W0 cs h0 a0 i0 r0) → va_S A s.heap H locs → lv_has ls 3 [(0, .ref h0), (1, .int x1), (2, .int x2)] → W p l e rmX0_meetAll s m args below meth c H locs 0 0 (MQ below (Qi D cs A q.1 (W0 cs h0 a0 i0 q.2)) args s 0 0 A) (F0 m 4 ls []) := by
  obtain ⟨hx, hb, hr, hml, hown, hts, hK, hA, hlocks, hZ⟩ := id C
  intro n
  induction n with
  | zero =>
    intro r0 x1 x2 H locs ls hf
    rw [f_X0_meetAll_4] at hf
    cases hf
  | succ n ih =>
    intro r0 x1 x2 H locs ls hf hP hD hS hl
    rw [f_X0_meetAll_4] at hf
    refine lv_iload_n hx hb dX0_meetAll_4 rfl (lv_at hl 2 rfl) ?_
    refine lv_aload_n hx hb dX0_meetAll_5 rfl (lv_at hl 0 rfl) ?_
    refine va_get (D := D) (ci := 0) (v := .int (i0 4)) (C := RX0) (T := TX0) (N := 7) hx hb hts hiX0 hown hK hP 0 rfl rfl 4 (by decide) (hts _ flX0_30) (fun _ h9 => h9) rfl dX0_meetAll_6 ?_
    refine lv_icmp_ge (tgt := 26) hx hb dX0_meetAll_9 (by decide) (fun hc => ?_) (fun hc => ?_)
    · have hf := ite_t hf hc
      refine lv_iload_n hx hb dX0_meetAll_26 rfl (lv_at hl 1 rfl) ?_
      obtain rfl := Option.some.inj hf
      exact k_iret hx hb hr hlocks hK hP hD hS dX0_meetAll_27
    · have hf := ite_f hf hc
      refine lv_iload_n hx hb dX0_meetAll_12 rfl (lv_at hl 1 rfl) ?_
      refine lv_aload_n hx hb dX0_meetAll_13 rfl (lv_at hl 0 rfl) ?_
      refine lv_iload_n hx hb dX0_meetAll_14 rfl (lv_at hl 2 rfl) ?_
      obtain ⟨q2, hq2, hf⟩ := bd_s hf
      refine k_sVi (ws2 := W0 cs h0 a0 i0 q2.2) (As := [.int x2]) (rest := [.int x1]) hx hb hml hown hts hK hA hZ hl.1 hP hD hS (c_X0_meetRow (h0 := h0) (a0 := a0) hq2) (gVt mlX0_82 imX0_meetRow seX0_meetRow inX0 coX0_meetRow) rfl qnX0_meetRow rfl rfl ⟨Nat.le_of_ble_eq_true rfl, Nat.le_of_ble_eq_true rfl⟩ 0 0 rfl rfl rfl rfl rfl (Nat.le_of_ble_eq_true rfl) ⟨Nat.zero_le _, Nat.zero_le _⟩ dX0_meetAll_15 (fun H locs hP hD hS => ?_)
      refine lv_iadd hx hb dX0_meetAll_18 ?_
      refine lv_istore_n (lv' := [(1, .int (x1 + q2.1)), (0, .ref h0), (2, .int x2)]) hx hb dX0_meetAll_19 rfl hl (by decide) rfl (fun ls hl => ?_)
      refine lv_iinc (v := x2 + 1) (lv' := [(2, .int (x2 + 1)), (1, .int (x1 + q2.1)), (0, .ref h0)]) hx hb dX0_meetAll_20 hl (k := 2) rfl rfl (by decide) rfl (fun ls hl => ?_)
      refine lv_goto (tgt := 4) hx hb dX0_meetAll_23 (by decide) ?_
      exact ih _ _ _ _ _ _ hf hP hD hS (lv_sub hl [2, 1, 0] rfl)
def f_X0_meetAll  (i0 : Nat → Int32) (r0 : Nat → Nat → Int32)  : Option (Int32 × (Nat → Nat → Int32)) := f_X0_meetAll_4 i0 2000000 r0 0 0
set_option maxRecDepth 100000 in
set_option maxHeartbeats 4000000 in
theorem c_X0_meetAll {l : Launch} {D : va_G} {cs zs : Nat → Nat} {h0 : Nat} {a0 : Nat → Nat} {i0 : Nat → Int32} {r0 : Nat → Nat → Int32}  {q : Int32 × (Nat → Nat → Int32)} (hf : f_X0_meetAll i0 r0 = some q) : Mi l yX0_meetAll wlX0_meetAll rmX0_meetAll D cs zs [.ref h0] (W0 cs h0 a0 i0 r0) q.1 (W0 cs h0 a0 i0 q.2) := by
  refine Mi.of RX0 (by decide) rfl (Nat.le_of_ble_eq_true rfl) (fun p e s m below meth c A C hP hD hS ls hl => ?_)
  generalize ([.ref h0] : List Value).toArray = args at C ⊢
  obtain ⟨hx, hb, hr, hml, hown, hts, hK, hA, hlocks, hZ⟩ := id C
  have hl : lv_has ls 3 [(0, .ref h0)] := hl
  rw [f_X0_meetAll] at hf
  refine lv_iconst (v := 0) hx hb dX0_meetAll_0 (by decide) ?_
  refine lv_istore_n (lv' := [(1, .int 0), (0, .ref h0)]) hx hb dX0_meetAll_1 rfl hl (by decide) rfl (fun ls hl => ?_)
  refine lv_iconst (v := 0) hx hb dX0_meetAll_2 (by decide) ?_
  refine lv_istore_n (lv' := [(2, .int 0), (1, .int 0), (0, .ref h0)]) hx hb dX0_meetAll_3 rfl hl (by decide) rfl (fun ls hl => ?_)
  exact w_X0_meetAll_4 C  2000000 _ _ _ _ _ _ hf hP hD hS (lv_sub hl [2, 1, 0] rfl)
/-! MarbleFloor$Cells.moveAll()V -/
abbrev wlX0_moveAll : List Cond := Cond.code yX0_moveAll cX0_moveAll 5 none :: tbG
abbrev rmX0_moveAll : Room := { frames := 0, cells := 0, slots := 0, locals := 0 }
theorem qnX0_moveAll : yX0_moveAll.cls = RX0 ∧ yX0_moveAll.cls ≠ "java/lang/invoke/MethodHandle" ∧ yX0_moveAll.cls ≠ "java/lang/invoke/VarHandle" ∧ (parseMethodDescriptor yX0_moveAll.desc).map (fun d => d.parameters.length) = some 0 := by decide +kernel
def f_X0_moveAll_74 (i0 : Nat → Int32) (K11 : (Nat → Nat → Int32) → Int32 → Int32 → Option ((Nat → Nat → Int32))) (r0 : Nat → Nat → Int32) (x1 : Int32) (x2 : Int32) : Option ((Nat → Nat → Int32)) := K11 r0 x1 (x2 + 1)
set_option maxRecDepth 100000 in
set_option maxHeartbeats 4000000 in
theorem w_X0_moveAll_74 {p : Program} {l : Launch} {e : Env} {s : State} {m : MethodId} {args : Array Value} {below : List Frame} {meth : Method} {c : Code} {A : Nat → Prop} {D : va_G} {cs zs : Nat → Nat} {h0 : Nat} {a0 : Nat → Nat} {i0 : Nat → Int32} {q : (Nat → Nat → Int32)} (C : Cx p s m args meth c A D cs zs cX0_moveAll 5 none RX0) (K11 : (Nat → Nat → Int32) → Int32 → Int32 → Option ((Nat → Nat → Int32))) (hK11 : ∀ (r0 : Nat → Nat → Int32) (x1 : Int32) (x2 : Int32) (H : Heap) (locs : List Loc) (ls : Array Slot), K11 r0 x1 x2 = some q → va_P D vwCl (W0 cs h0 a0 i0 r0) H → va_D A (W0 cs h0 a0 i0 r0) → va_S A s.heap H locs → lv_has ls 5 [(0, .ref h0), (1, .int x1), (2, .int x2)] → W p l e rmX0_moveAll s m args below meth c H locs 0 0 (MQ below (Qv D cs A (W0 cs h0 a0 i0 q)) args s 0 0 A) (F0 m 11 ls [])) : ∀ (r0 : Nat → Nat → Int32) (x1 : Int32) (x2 : Int32) (H : Heap) (locs : List Loc) (ls : Array Slot), f_X0_moveAll_74 i0 K11 r0 x1 x2 = some q → va_P D vwCl (W0 cs h0 a0 i0 r0) H → va_D A (W0 cs h0 a0 i0 r0) → va_S A s.heap H locs → lv_has ls 5 [(0, .ref h0), (1, .int x1), (2, .int x2)] → W p l e rmX0_moveAll s m args below meth c H locs 0 0 (MQ below (Qv D cs A (W0 cs h0 a0 i0 q)) args s 0 0 A) (F0 m 74 ls []) := by
  obtain ⟨hx, hb, hr, hml, hown, hts, hK, hA, hlocks, hZ⟩ := id C
  intro r0 x1 x2 H locs ls hf hP hD hS hl
  rw [f_X0_moveAll_74] at hf
  refine lv_iinc (v := x2 + 1) (lv' := [(2, .int (x2 + 1)), (0, .ref h0), (1, .int x1)]) hx hb dX0_moveAll_74 hl (k := 2) rfl rfl (by decide) rfl (fun ls hl => ?_)
  refine lv_goto (tgt := 11) hx hb dX0_moveAll_77 (by decide) ?_
  exact hK11 _ _ _ _ _ _ hf hP hD hS (lv_sub hl [1, 2, 0] rfl)
def f_X0_moveAll_145 (i0 : Nat → Int32)  : Nat → (Nat → Nat → Int32) → Int32 → Int32 → Int32 → Option ((Nat → Nat → Int32))
  | 0, _, _, _, _ => none
  | n + 1, r0, x2, x3, x4 => if ((i0 4) - 1) ≤ x4 then (ck (inb 0 10) (ck (inb ((i0 4) - 1) 10) (some ((va_up (va_up r0 (10 + 1) (upd (r0 (10 + 1)) (0 : Int32).toNatClampNeg x3)) (10 + 3) (upd (r0 (10 + 3)) ((i0 4) - 1).toNatClampNeg x2)))))) else (ck (inb (x4 + 1) 10) (ck (inb x4 10) (f_X0_moveAll_145 i0 n (va_up r0 (10 + 3) (upd (r0 (10 + 3)) x4.toNatClampNeg (r0 (10 + 3) (x4 + 1).toNatClampNeg))) x2 x3 (x4 + 1))))
set_option maxRecDepth 100000 in
set_option maxHeartbeats 4000000 in
theorem w_X0_moveAll_145 {p : Program} {l : Launch} {e : Env} {s : State} {m : MethodId} {args : Array Value} {below : List Frame} {meth : Method} {c : Code} {A : Nat → Prop} {D : va_G} {cs zs : Nat → Nat} {h0 : Nat} {a0 : Nat → Nat} {i0 : Nat → Int32} {q : (Nat → Nat → Int32)} (C : Cx p s m args meth c A D cs zs cX0_moveAll 5 none RX0)  : ∀ (n : Nat), ∀ (r0 : Nat → Nat → Int32) (x2 : Int32) (x3 : Int32) (x4 : Int32) (H : Heap) (locs : List Loc) (ls : Array Slot), f_X0_moveAll_145 i0 n r0 x2 x3 x4 = some q → va_P D vwCl (W0 cs h0 a0 i0 r0) H → va_D A (W0 cs h0 a0 i0 r0) → va_S A s.heap H locs → lv_has ls 5 [(0, .ref h0), (2, .int x2), (3, .int x3), (4, .int x4)] → W p l e rmX0_moveAll s m args below meth c H locs 0 0 (MQ below (Qv D cs A (W0 cs h0 a0 i0 q)) args s 0 0 A) (F0 m 145 ls []) := by
  obtain ⟨hx, hb, hr, hml, hown, hts, hK, hA, hlocks, hZ⟩ := id C
  intro n
  induction n with
  | zero =>
    intro r0 x2 x3 x4 H locs ls hf
    rw [f_X0_moveAll_145] at hf
    cases hf
  | succ n ih =>
    intro r0 x2 x3 x4 H locs ls hf hP hD hS hl
    rw [f_X0_moveAll_145] at hf
    refine lv_iload hx hb dX0_moveAll_145 (lv_at hl 3 rfl) ?_
    refine lv_aload_n hx hb dX0_moveAll_147 rfl (lv_at hl 0 rfl) ?_
    refine va_get (D := D) (ci := 0) (v := .int (i0 4)) (C := RX0) (T := TX0) (N := 7) hx hb hts hiX0 hown hK hP 0 rfl rfl 4 (by decide) (hts _ flX0_30) (fun _ h9 => h9) rfl dX0_moveAll_148 ?_
    refine lv_iconst (v := 1) hx hb dX0_moveAll_151 (by decide) ?_
    refine lv_isub hx hb dX0_moveAll_152 ?_
    refine lv_icmp_ge (tgt := 182) hx hb dX0_moveAll_153 (by decide) (fun hc => ?_) (fun hc => ?_)
    · have hf := ite_t hf hc
      refine lv_aload_n hx hb dX0_moveAll_182 rfl (lv_at hl 0 rfl) ?_
      refine va_get (D := D) (ci := 0) (v := .ref (a0 0)) (C := RX0) (T := TX0) (N := 7) hx hb hts hiX0 hown hK hP 0 rfl rfl 0 (by decide) (hts _ flX0_13) (fun _ h9 => h9) rfl dX0_moveAll_183 ?_
      refine lv_iconst (v := 1) hx hb dX0_moveAll_186 (by decide) ?_
      refine k_aald (f := fun j => a0 (10 + j)) (j := 1) hx hb hK hP 1 5 rfl rfl rfl (inb_in (by decide)) (by decide) dX0_moveAll_187 ?_
      refine lv_iconst (v := 0) hx hb dX0_moveAll_188 (by decide) ?_
      refine lv_iload_n hx hb dX0_moveAll_189 rfl (lv_at hl 2 rfl) ?_
      refine va_iast (f := r0 (10 + 1)) hx hb hK hP hD hS (4 + 1) 0 (row0_10 (by decide : 1 < 4)) rfl (ck_in hf) dX0_moveAll_190 (fun H locs hP hD hS => ?_)
      have hf := ck_2 hf
      obtain ⟨hP, hD⟩ := set0_10 (by decide : 1 < 4) hP hD
      refine lv_aload_n hx hb dX0_moveAll_191 rfl (lv_at hl 0 rfl) ?_
      refine va_get (D := D) (ci := 0) (v := .ref (a0 0)) (C := RX0) (T := TX0) (N := 7) hx hb hts hiX0 hown hK hP 0 rfl rfl 0 (by decide) (hts _ flX0_13) (fun _ h9 => h9) rfl dX0_moveAll_192 ?_
      refine lv_iconst (v := 3) hx hb dX0_moveAll_195 (by decide) ?_
      refine k_aald (f := fun j => a0 (10 + j)) (j := 3) hx hb hK hP 1 5 rfl rfl rfl (inb_in (by decide)) (by decide) dX0_moveAll_196 ?_
      refine lv_aload_n hx hb dX0_moveAll_197 rfl (lv_at hl 0 rfl) ?_
      refine va_get (D := D) (ci := 0) (v := .int (i0 4)) (C := RX0) (T := TX0) (N := 7) hx hb hts hiX0 hown hK hP 0 rfl rfl 4 (by decide) (hts _ flX0_30) (fun _ h9 => h9) rfl dX0_moveAll_198 ?_
      refine lv_iconst (v := 1) hx hb dX0_moveAll_201 (by decide) ?_
      refine lv_isub hx hb dX0_moveAll_202 ?_
      refine lv_iload_n hx hb dX0_moveAll_203 rfl (lv_at hl 1 rfl) ?_
      refine va_iast (f := r0 (10 + 3)) hx hb hK hP hD hS (4 + 3) 0 (row0_10 (by decide : 3 < 4)) rfl (ck_in hf) dX0_moveAll_204 (fun H locs hP hD hS => ?_)
      have hf := ck_2 hf
      obtain ⟨hP, hD⟩ := set0_10 (by decide : 3 < 4) hP hD
      obtain rfl := Option.some.inj hf
      exact k_vret hx hb hr hlocks hK hP hD hS dX0_moveAll_205
    · have hf := ite_f hf hc
      refine lv_aload_n hx hb dX0_moveAll_156 rfl (lv_at hl 0 rfl) ?_
      refine va_get (D := D) (ci := 0) (v := .ref (a0 0)) (C := RX0) (T := TX0) (N := 7) hx hb hts hiX0 hown hK hP 0 rfl rfl 0 (by decide) (hts _ flX0_13) (fun _ h9 => h9) rfl dX0_moveAll_157 ?_
      refine lv_iconst (v := 3) hx hb dX0_moveAll_160 (by decide) ?_
      refine k_aald (f := fun j => a0 (10 + j)) (j := 3) hx hb hK hP 1 5 rfl rfl rfl (inb_in (by decide)) (by decide) dX0_moveAll_161 ?_
      refine lv_iload hx hb dX0_moveAll_162 (lv_at hl 3 rfl) ?_
      refine lv_aload_n hx hb dX0_moveAll_164 rfl (lv_at hl 0 rfl) ?_
      refine va_get (D := D) (ci := 0) (v := .ref (a0 0)) (C := RX0) (T := TX0) (N := 7) hx hb hts hiX0 hown hK hP 0 rfl rfl 0 (by decide) (hts _ flX0_13) (fun _ h9 => h9) rfl dX0_moveAll_165 ?_
      refine lv_iconst (v := 3) hx hb dX0_moveAll_168 (by decide) ?_
      refine k_aald (f := fun j => a0 (10 + j)) (j := 3) hx hb hK hP 1 5 rfl rfl rfl (inb_in (by decide)) (by decide) dX0_moveAll_169 ?_
      refine lv_iload hx hb dX0_moveAll_170 (lv_at hl 3 rfl) ?_
      refine lv_iconst (v := 1) hx hb dX0_moveAll_172 (by decide) ?_
      refine lv_iadd hx hb dX0_moveAll_173 ?_
      refine va_iald (f := r0 (10 + 3)) hx hb hK hP (4 + 3) 0 (row0_10 (by decide : 3 < 4)) rfl (ck_in hf) dX0_moveAll_174 ?_
      have hf := ck_2 hf
      refine va_iast (f := r0 (10 + 3)) hx hb hK hP hD hS (4 + 3) 0 (row0_10 (by decide : 3 < 4)) rfl (ck_in hf) dX0_moveAll_175 (fun H locs hP hD hS => ?_)
      have hf := ck_2 hf
      obtain ⟨hP, hD⟩ := set0_10 (by decide : 3 < 4) hP hD
      refine lv_iinc (v := x4 + 1) (lv' := [(4, .int (x4 + 1)), (0, .ref h0), (2, .int x2), (3, .int x3)]) hx hb dX0_moveAll_176 hl (k := 3) rfl rfl (by decide) rfl (fun ls hl => ?_)
      refine lv_goto (tgt := 145) hx hb dX0_moveAll_179 (by decide) ?_
      exact ih _ _ _ _ _ _ _ hf hP hD hS (lv_sub hl [1, 2, 3, 0] rfl)
def f_X0_moveAll_111 (i0 : Nat → Int32)  : Nat → (Nat → Nat → Int32) → Int32 → Int32 → Int32 → Option ((Nat → Nat → Int32))
  | 0, _, _, _, _ => none
  | n + 1, r0, x2, x3, x4 => if x4 ≤ 0 then (f_X0_moveAll_145 i0 2000000 r0 x2 x3 0) else (ck (inb (x4 - 1) 10) (ck (inb x4 10) (f_X0_moveAll_111 i0 n (va_up r0 (10 + 1) (upd (r0 (10 + 1)) x4.toNatClampNeg (r0 (10 + 1) (x4 - 1).toNatClampNeg))) x2 x3 (x4 + (-1)))))
set_option maxRecDepth 100000 in
set_option maxHeartbeats 4000000 in
theorem w_X0_moveAll_111 {p : Program} {l : Launch} {e : Env} {s : State} {m : MethodId} {args : Array Value} {below : List Frame} {meth : Method} {c : Code} {A : Nat → Prop} {D : va_G} {cs zs : Nat → Nat} {h0 : Nat} {a0 : Nat → Nat} {i0 : Nat → Int32} {q : (Nat → Nat → Int32)} (C : Cx p s m args meth c A D cs zs cX0_moveAll 5 none RX0)  : ∀ (n : Nat), ∀ (r0 : Nat → Nat → Int32) (x2 : Int32) (x3 : Int32) (x4 : Int32) (H : Heap) (locs : List Loc) (ls : Array Slot), f_X0_moveAll_111 i0 n r0 x2 x3 x4 = some q → va_P D vwCl (W0 cs h0 a0 i0 r0) H → va_D A (W0 cs h0 a0 i0 r0) → va_S A s.heap H locs → lv_has ls 5 [(0, .ref h0), (2, .int x2), (3, .int x3), (4, .int x4)] → W p l e rmX0_moveAll s m args below meth c H locs 0 0 (MQ below (Qv D cs A (W0 cs h0 a0 i0 q)) args s 0 0 A) (F0 m 111 ls []) := by
  obtain ⟨hx, hb, hr, hml, hown, hts, hK, hA, hlocks, hZ⟩ := id C
  intro n
  induction n with
  | zero =>
    intro r0 x2 x3 x4 H locs ls hf
    rw [f_X0_moveAll_111] at hf
    cases hf
  | succ n ih =>
    intro r0 x2 x3 x4 H locs ls hf hP hD hS hl
    rw [f_X0_moveAll_111] at hf
    refine lv_iload hx hb dX0_moveAll_111 (lv_at hl 3 rfl) ?_
    refine lv_if_le (tgt := 142) hx hb dX0_moveAll_113 (by decide) (fun hc => ?_) (fun hc => ?_)
    · have hf := ite_t hf hc
      refine lv_iconst (v := 0) hx hb dX0_moveAll_142 (by decide) ?_
      refine lv_istore (lv' := [(4, .int 0), (0, .ref h0), (2, .int x2), (3, .int x3)]) hx hb dX0_moveAll_143 hl (by decide) rfl (fun ls hl => ?_)
      exact w_X0_moveAll_145 C  2000000 _ _ _ _ _ _ _ hf hP hD hS (lv_sub hl [1, 2, 3, 0] rfl)
    · have hf := ite_f hf hc
      refine lv_aload_n hx hb dX0_moveAll_116 rfl (lv_at hl 0 rfl) ?_
      refine va_get (D := D) (ci := 0) (v := .ref (a0 0)) (C := RX0) (T := TX0) (N := 7) hx hb hts hiX0 hown hK hP 0 rfl rfl 0 (by decide) (hts _ flX0_13) (fun _ h9 => h9) rfl dX0_moveAll_117 ?_
      refine lv_iconst (v := 1) hx hb dX0_moveAll_120 (by decide) ?_
      refine k_aald (f := fun j => a0 (10 + j)) (j := 1) hx hb hK hP 1 5 rfl rfl rfl (inb_in (by decide)) (by decide) dX0_moveAll_121 ?_
      refine lv_iload hx hb dX0_moveAll_122 (lv_at hl 3 rfl) ?_
      refine lv_aload_n hx hb dX0_moveAll_124 rfl (lv_at hl 0 rfl) ?_
      refine va_get (D := D) (ci := 0) (v := .ref (a0 0)) (C := RX0) (T := TX0) (N := 7) hx hb hts hiX0 hown hK hP 0 rfl rfl 0 (by decide) (hts _ flX0_13) (fun _ h9 => h9) rfl dX0_moveAll_125 ?_
      refine lv_iconst (v := 1) hx hb dX0_moveAll_128 (by decide) ?_
      refine k_aald (f := fun j => a0 (10 + j)) (j := 1) hx hb hK hP 1 5 rfl rfl rfl (inb_in (by decide)) (by decide) dX0_moveAll_129 ?_
      refine lv_iload hx hb dX0_moveAll_130 (lv_at hl 3 rfl) ?_
      refine lv_iconst (v := 1) hx hb dX0_moveAll_132 (by decide) ?_
      refine lv_isub hx hb dX0_moveAll_133 ?_
      refine va_iald (f := r0 (10 + 1)) hx hb hK hP (4 + 1) 0 (row0_10 (by decide : 1 < 4)) rfl (ck_in hf) dX0_moveAll_134 ?_
      have hf := ck_2 hf
      refine va_iast (f := r0 (10 + 1)) hx hb hK hP hD hS (4 + 1) 0 (row0_10 (by decide : 1 < 4)) rfl (ck_in hf) dX0_moveAll_135 (fun H locs hP hD hS => ?_)
      have hf := ck_2 hf
      obtain ⟨hP, hD⟩ := set0_10 (by decide : 1 < 4) hP hD
      refine lv_iinc (v := x4 + (-1)) (lv' := [(4, .int (x4 + (-1))), (0, .ref h0), (2, .int x2), (3, .int x3)]) hx hb dX0_moveAll_136 hl (k := 3) rfl rfl (by decide) rfl (fun ls hl => ?_)
      refine lv_goto (tgt := 111) hx hb dX0_moveAll_139 (by decide) ?_
      exact ih _ _ _ _ _ _ _ hf hP hD hS (lv_sub hl [1, 2, 3, 0] rfl)
def f_X0_moveAll_11 (i0 : Nat → Int32)  : Nat → (Nat → Nat → Int32) → Int32 → Int32 → Option ((Nat → Nat → Int32))
  | 0, _, _, _ => none
  | n + 1, r0, x1, x2 => if (i0 4) ≤ x2 then (ck (inb ((i0 4) - 1) 10) (ck (inb 0 10) (f_X0_moveAll_111 i0 2000000 r0 (r0 (10 + 1) ((i0 4) - 1).toNatClampNeg) (r0 (10 + 3) (0 : Int32).toNatClampNeg) ((i0 4) - 1)))) else (ck (inb x2 10) (ck (inb x2 10) (ck (inb x2 10) (ck (inb x2 10) (f_X0_moveAll_74 i0 (f_X0_moveAll_11 i0 n) (va_up (va_up r0 (10 + 0) (upd (r0 (10 + 0)) x2.toNatClampNeg ((((r0 (10 + 0) x2.toNatClampNeg) &&& (x1 ^^^ (-1))) <<< (1 &&& 31)) ||| ((r0 (10 + 2) x2.toNatClampNeg) &&& 1)))) (10 + 2) (upd (r0 (10 + 2)) x2.toNatClampNeg (((r0 (10 + 2) x2.toNatClampNeg) >>> (1 &&& 31)) ||| ((r0 (10 + 0) x2.toNatClampNeg) &&& x1)))) x1 x2)))))
set_option maxRecDepth 100000 in
set_option maxHeartbeats 4000000 in
theorem w_X0_moveAll_11 {p : Program} {l : Launch} {e : Env} {s : State} {m : MethodId} {args : Array Value} {below : List Frame} {meth : Method} {c : Code} {A : Nat → Prop} {D : va_G} {cs zs : Nat → Nat} {h0 : Nat} {a0 : Nat → Nat} {i0 : Nat → Int32} {q : (Nat → Nat → Int32)} (C : Cx p s m args meth c A D cs zs cX0_moveAll 5 none RX0)  : ∀ (n : Nat), ∀ (r0 : Nat → Nat → Int32) (x1 : Int32) (x2 : Int32) (H : Heap) (locs : List Loc) (ls : Array Slot), f_X0_moveAll_11 i0 n r0 x1 x2 = some q → va_P D vwCl (W0 cs h0 a0 i0 r0) H → va_D A (W0 cs h0 a0 i0 r0) → va_S A s.heap H locs → lv_has ls 5 [(0, .ref h0), (1, .int x1), (2, .int x2)] → W p l e rmX0_moveAll s m args below meth c H locs 0 0 (MQ below (Qv D cs A (W0 cs h0 a0 i0 q)) args s 0 0 A) (F0 m 11 ls []) := by
  obtain ⟨hx, hb, hr, hml, hown, hts, hK, hA, hlocks, hZ⟩ := id C
  intro n
  induction n with
  | zero =>
    intro r0 x1 x2 H locs ls hf
    rw [f_X0_moveAll_11] at hf
    cases hf
  | succ n ih =>
    intro r0 x1 x2 H locs ls hf hP hD hS hl
    rw [f_X0_moveAll_11] at hf
    refine lv_iload_n hx hb dX0_moveAll_11 rfl (lv_at hl 2 rfl) ?_
    refine lv_aload_n hx hb dX0_moveAll_12 rfl (lv_at hl 0 rfl) ?_
    refine va_get (D := D) (ci := 0) (v := .int (i0 4)) (C := RX0) (T := TX0) (N := 7) hx hb hts hiX0 hown hK hP 0 rfl rfl 4 (by decide) (hts _ flX0_30) (fun _ h9 => h9) rfl dX0_moveAll_13 ?_
    refine lv_icmp_ge (tgt := 80) hx hb dX0_moveAll_16 (by decide) (fun hc => ?_) (fun hc => ?_)
    · have hf := ite_t hf hc
      refine lv_aload_n hx hb dX0_moveAll_80 rfl (lv_at hl 0 rfl) ?_
      refine va_get (D := D) (ci := 0) (v := .ref (a0 0)) (C := RX0) (T := TX0) (N := 7) hx hb hts hiX0 hown hK hP 0 rfl rfl 0 (by decide) (hts _ flX0_13) (fun _ h9 => h9) rfl dX0_moveAll_81 ?_
      refine lv_iconst (v := 1) hx hb dX0_moveAll_84 (by decide) ?_
      refine k_aald (f := fun j => a0 (10 + j)) (j := 1) hx hb hK hP 1 5 rfl rfl rfl (inb_in (by decide)) (by decide) dX0_moveAll_85 ?_
      refine lv_aload_n hx hb dX0_moveAll_86 rfl (lv_at hl 0 rfl) ?_
      refine va_get (D := D) (ci := 0) (v := .int (i0 4)) (C := RX0) (T := TX0) (N := 7) hx hb hts hiX0 hown hK hP 0 rfl rfl 4 (by decide) (hts _ flX0_30) (fun _ h9 => h9) rfl dX0_moveAll_87 ?_
      refine lv_iconst (v := 1) hx hb dX0_moveAll_90 (by decide) ?_
      refine lv_isub hx hb dX0_moveAll_91 ?_
      refine va_iald (f := r0 (10 + 1)) hx hb hK hP (4 + 1) 0 (row0_10 (by decide : 1 < 4)) rfl (ck_in hf) dX0_moveAll_92 ?_
      have hf := ck_2 hf
      refine lv_istore_n (lv' := [(2, .int (r0 (10 + 1) ((i0 4) - 1).toNatClampNeg)), (0, .ref h0), (1, .int x1)]) hx hb dX0_moveAll_93 rfl hl (by decide) rfl (fun ls hl => ?_)
      refine lv_aload_n hx hb dX0_moveAll_94 rfl (lv_at hl 1 rfl) ?_
      refine va_get (D := D) (ci := 0) (v := .ref (a0 0)) (C := RX0) (T := TX0) (N := 7) hx hb hts hiX0 hown hK hP 0 rfl rfl 0 (by decide) (hts _ flX0_13) (fun _ h9 => h9) rfl dX0_moveAll_95 ?_
      refine lv_iconst (v := 3) hx hb dX0_moveAll_98 (by decide) ?_
      refine k_aald (f := fun j => a0 (10 + j)) (j := 3) hx hb hK hP 1 5 rfl rfl rfl (inb_in (by decide)) (by decide) dX0_moveAll_99 ?_
      refine lv_iconst (v := 0) hx hb dX0_moveAll_100 (by decide) ?_
      refine va_iald (f := r0 (10 + 3)) hx hb hK hP (4 + 3) 0 (row0_10 (by decide : 3 < 4)) rfl (ck_in hf) dX0_moveAll_101 ?_
      have hf := ck_2 hf
      refine lv_istore_n (lv' := [(3, .int (r0 (10 + 3) (0 : Int32).toNatClampNeg)), (2, .int (r0 (10 + 1) ((i0 4) - 1).toNatClampNeg)), (0, .ref h0), (1, .int x1)]) hx hb dX0_moveAll_102 rfl hl (by decide) rfl (fun ls hl => ?_)
      refine lv_aload_n hx hb dX0_moveAll_103 rfl (lv_at hl 2 rfl) ?_
      refine va_get (D := D) (ci := 0) (v := .int (i0 4)) (C := RX0) (T := TX0) (N := 7) hx hb hts hiX0 hown hK hP 0 rfl rfl 4 (by decide) (hts _ flX0_30) (fun _ h9 => h9) rfl dX0_moveAll_104 ?_
      refine lv_iconst (v := 1) hx hb dX0_moveAll_107 (by decide) ?_
      refine lv_isub hx hb dX0_moveAll_108 ?_
      refine lv_istore (lv' := [(4, .int ((i0 4) - 1)), (3, .int (r0 (10 + 3) (0 : Int32).toNatClampNeg)), (2, .int (r0 (10 + 1) ((i0 4) - 1).toNatClampNeg)), (0, .ref h0), (1, .int x1)]) hx hb dX0_moveAll_109 hl (by decide) rfl (fun ls hl => ?_)
      exact w_X0_moveAll_111 C  2000000 _ _ _ _ _ _ _ hf hP hD hS (lv_sub hl [3, 2, 1, 0] rfl)
    · have hf := ite_f hf hc
      refine lv_aload_n hx hb dX0_moveAll_19 rfl (lv_at hl 0 rfl) ?_
      refine va_get (D := D) (ci := 0) (v := .ref (a0 0)) (C := RX0) (T := TX0) (N := 7) hx hb hts hiX0 hown hK hP 0 rfl rfl 0 (by decide) (hts _ flX0_13) (fun _ h9 => h9) rfl dX0_moveAll_20 ?_
      refine lv_iconst (v := 0) hx hb dX0_moveAll_23 (by decide) ?_
      refine k_aald (f := fun j => a0 (10 + j)) (j := 0) hx hb hK hP 1 5 rfl rfl rfl (inb_in (by decide)) (by decide) dX0_moveAll_24 ?_
      refine lv_iload_n hx hb dX0_moveAll_25 rfl (lv_at hl 2 rfl) ?_
      refine va_iald (f := r0 (10 + 0)) hx hb hK hP (4 + 0) 0 (row0_10 (by decide : 0 < 4)) rfl (ck_in hf) dX0_moveAll_26 ?_
      have hf := ck_2 hf
      refine lv_istore_n (lv' := [(3, .int (r0 (10 + 0) x2.toNatClampNeg)), (0, .ref h0), (1, .int x1), (2, .int x2)]) hx hb dX0_moveAll_27 rfl hl (by decide) rfl (fun ls hl => ?_)
      refine lv_aload_n hx hb dX0_moveAll_28 rfl (lv_at hl 1 rfl) ?_
      refine va_get (D := D) (ci := 0) (v := .ref (a0 0)) (C := RX0) (T := TX0) (N := 7) hx hb hts hiX0 hown hK hP 0 rfl rfl 0 (by decide) (hts _ flX0_13) (fun _ h9 => h9) rfl dX0_moveAll_29 ?_
      refine lv_iconst (v := 2) hx hb dX0_moveAll_32 (by decide) ?_
      refine k_aald (f := fun j => a0 (10 + j)) (j := 2) hx hb hK hP 1 5 rfl rfl rfl (inb_in (by decide)) (by decide) dX0_moveAll_33 ?_
      refine lv_iload_n hx hb dX0_moveAll_34 rfl (lv_at hl 3 rfl) ?_
      refine va_iald (f := r0 (10 + 2)) hx hb hK hP (4 + 2) 0 (row0_10 (by decide : 2 < 4)) rfl (ck_in hf) dX0_moveAll_35 ?_
      have hf := ck_2 hf
      refine lv_istore (lv' := [(4, .int (r0 (10 + 2) x2.toNatClampNeg)), (3, .int (r0 (10 + 0) x2.toNatClampNeg)), (0, .ref h0), (1, .int x1), (2, .int x2)]) hx hb dX0_moveAll_36 hl (by decide) rfl (fun ls hl => ?_)
      refine lv_aload_n hx hb dX0_moveAll_38 rfl (lv_at hl 2 rfl) ?_
      refine va_get (D := D) (ci := 0) (v := .ref (a0 0)) (C := RX0) (T := TX0) (N := 7) hx hb hts hiX0 hown hK hP 0 rfl rfl 0 (by decide) (hts _ flX0_13) (fun _ h9 => h9) rfl dX0_moveAll_39 ?_
      refine lv_iconst (v := 0) hx hb dX0_moveAll_42 (by decide) ?_
      refine k_aald (f := fun j => a0 (10 + j)) (j := 0) hx hb hK hP 1 5 rfl rfl rfl (inb_in (by decide)) (by decide) dX0_moveAll_43 ?_
      refine lv_iload_n hx hb dX0_moveAll_44 rfl (lv_at hl 4 rfl) ?_
      refine lv_iload_n hx hb dX0_moveAll_45 rfl (lv_at hl 1 rfl) ?_
      refine lv_iload_n hx hb dX0_moveAll_46 rfl (lv_at hl 3 rfl) ?_
      refine lv_iconst (v := (-1)) hx hb dX0_moveAll_47 (by decide) ?_
      refine lv_ixor hx hb dX0_moveAll_48 ?_
      refine lv_iand hx hb dX0_moveAll_49 ?_
      refine lv_iconst (v := 1) hx hb dX0_moveAll_50 (by decide) ?_
      refine lv_ishl hx hb dX0_moveAll_51 ?_
      refine lv_iload hx hb dX0_moveAll_52 (lv_at hl 0 rfl) ?_
      refine lv_iconst (v := 1) hx hb dX0_moveAll_54 (by decide) ?_
      refine lv_iand hx hb dX0_moveAll_55 ?_
      refine lv_ior hx hb dX0_moveAll_56 ?_
      refine va_iast (f := r0 (10 + 0)) hx hb hK hP hD hS (4 + 0) 0 (row0_10 (by decide : 0 < 4)) rfl (ck_in hf) dX0_moveAll_57 (fun H locs hP hD hS => ?_)
      have hf := ck_2 hf
      obtain ⟨hP, hD⟩ := set0_10 (by decide : 0 < 4) hP hD
      refine lv_aload_n hx hb dX0_moveAll_58 rfl (lv_at hl 2 rfl) ?_
      refine va_get (D := D) (ci := 0) (v := .ref (a0 0)) (C := RX0) (T := TX0) (N := 7) hx hb hts hiX0 hown hK hP 0 rfl rfl 0 (by decide) (hts _ flX0_13) (fun _ h9 => h9) rfl dX0_moveAll_59 ?_
      refine lv_iconst (v := 2) hx hb dX0_moveAll_62 (by decide) ?_
      refine k_aald (f := fun j => a0 (10 + j)) (j := 2) hx hb hK hP 1 5 rfl rfl rfl (inb_in (by decide)) (by decide) dX0_moveAll_63 ?_
      refine lv_iload_n hx hb dX0_moveAll_64 rfl (lv_at hl 4 rfl) ?_
      refine lv_iload hx hb dX0_moveAll_65 (lv_at hl 0 rfl) ?_
      refine lv_iconst (v := 1) hx hb dX0_moveAll_67 (by decide) ?_
      refine lv_ishr hx hb dX0_moveAll_68 ?_
      refine lv_iload_n hx hb dX0_moveAll_69 rfl (lv_at hl 1 rfl) ?_
      refine lv_iload_n hx hb dX0_moveAll_70 rfl (lv_at hl 3 rfl) ?_
      refine lv_iand hx hb dX0_moveAll_71 ?_
      refine lv_ior hx hb dX0_moveAll_72 ?_
      refine va_iast (f := r0 (10 + 2)) hx hb hK hP hD hS (4 + 2) 0 (row0_10 (by decide : 2 < 4)) rfl (ck_in hf) dX0_moveAll_73 (fun H locs hP hD hS => ?_)
      have hf := ck_2 hf
      obtain ⟨hP, hD⟩ := set0_10 (by decide : 2 < 4) hP hD
      exact w_X0_moveAll_74 C _ (ih) _ _ _ _ _ _ hf hP hD hS (lv_sub hl [2, 3, 4] rfl)
def f_X0_moveAll  (i0 : Nat → Int32) (r0 : Nat → Nat → Int32)  : Option ((Nat → Nat → Int32)) := f_X0_moveAll_11 i0 2000000 r0 ((1 : Int32) <<< (((i0 3) - 1) &&& 31)) 0
set_option maxRecDepth 100000 in
set_option maxHeartbeats 4000000 in
theorem c_X0_moveAll {l : Launch} {D : va_G} {cs zs : Nat → Nat} {h0 : Nat} {a0 : Nat → Nat} {i0 : Nat → Int32} {r0 : Nat → Nat → Int32}  {q : (Nat → Nat → Int32)} (hf : f_X0_moveAll i0 r0 = some q) : Mv l yX0_moveAll wlX0_moveAll rmX0_moveAll D cs zs [.ref h0] (W0 cs h0 a0 i0 r0) (W0 cs h0 a0 i0 q) := by
  refine Mv.of RX0 (by decide) rfl (Nat.le_of_ble_eq_true rfl) (fun p e s m below meth c A C hP hD hS ls hl => ?_)
  generalize ([.ref h0] : List Value).toArray = args at C ⊢
  obtain ⟨hx, hb, hr, hml, hown, hts, hK, hA, hlocks, hZ⟩ := id C
  have hl : lv_has ls 5 [(0, .ref h0)] := hl
  rw [f_X0_moveAll] at hf
  refine lv_iconst (v := 1) hx hb dX0_moveAll_0 (by decide) ?_
  refine lv_aload_n hx hb dX0_moveAll_1 rfl (lv_at hl 0 rfl) ?_
  refine va_get (D := D) (ci := 0) (v := .int (i0 3)) (C := RX0) (T := TX0) (N := 7) hx hb hts hiX0 hown hK hP 0 rfl rfl 3 (by decide) (hts _ flX0_26) (fun _ h9 => h9) rfl dX0_moveAll_2 ?_
  refine lv_iconst (v := 1) hx hb dX0_moveAll_5 (by decide) ?_
  refine lv_isub hx hb dX0_moveAll_6 ?_
  refine lv_ishl hx hb dX0_moveAll_7 ?_
  refine lv_istore_n (lv' := [(1, .int ((1 : Int32) <<< (((i0 3) - 1) &&& 31))), (0, .ref h0)]) hx hb dX0_moveAll_8 rfl hl (by decide) rfl (fun ls hl => ?_)
  refine lv_iconst (v := 0) hx hb dX0_moveAll_9 (by decide) ?_
  refine lv_istore_n (lv' := [(2, .int 0), (1, .int ((1 : Int32) <<< (((i0 3) - 1) &&& 31))), (0, .ref h0)]) hx hb dX0_moveAll_10 rfl hl (by decide) rfl (fun ls hl => ?_)
  exact w_X0_moveAll_11 C  2000000 _ _ _ _ _ _ hf hP hD hS (lv_sub hl [2, 1, 0] rfl)
/-! MarbleFloor$Cells.goOn(I)V -/
abbrev wlX0_goOn : List Cond := Cond.code yX0_goOn cX0_goOn 4 none :: tbG
abbrev rmX0_goOn : Room := { frames := 3, cells := 0, slots := 0, locals := 73 }
theorem qnX0_goOn : yX0_goOn.cls = RX0 ∧ yX0_goOn.cls ≠ "java/lang/invoke/MethodHandle" ∧ yX0_goOn.cls ≠ "java/lang/invoke/VarHandle" ∧ (parseMethodDescriptor yX0_goOn.desc).map (fun d => d.parameters.length) = some 1 := by decide +kernel
def f_X0_goOn_46  (K2 : (Nat → Int32) → (Nat → Nat → Int32) → Int32 → Int32 → Option ((Nat → Int32) × (Nat → Nat → Int32))) (i0 : Nat → Int32) (r0 : Nat → Nat → Int32) (x1 : Int32) (x2 : Int32) (y0 : Int32) : Option ((Nat → Int32) × (Nat → Nat → Int32)) := K2 (upd i0 6 y0) r0 x1 (x2 + 1)
set_option maxRecDepth 100000 in
set_option maxHeartbeats 4000000 in
theorem w_X0_goOn_46 {p : Program} {l : Launch} {e : Env} {s : State} {m : MethodId} {args : Array Value} {below : List Frame} {meth : Method} {c : Code} {A : Nat → Prop} {D : va_G} {cs zs : Nat → Nat} {h0 : Nat} {a0 : Nat → Nat}  {q : (Nat → Int32) × (Nat → Nat → Int32)} (C : Cx p s m args meth c A D cs zs cX0_goOn 4 none RX0) (K2 : (Nat → Int32) → (Nat → Nat → Int32) → Int32 → Int32 → Option ((Nat → Int32) × (Nat → Nat → Int32))) (hK2 : ∀ (i0 : Nat → Int32) (r0 : Nat → Nat → Int32) (x1 : Int32) (x2 : Int32) (H : Heap) (locs : List Loc) (ls : Array Slot), K2 i0 r0 x1 x2 = some q → va_P D vwCl (W0 cs h0 a0 i0 r0) H → va_D A (W0 cs h0 a0 i0 r0) → va_S A s.heap H locs → lv_has ls 4 [(0, .ref h0), (1, .int x1), (2, .int x2)] → W p l e rmX0_goOn s m args below meth c H locs 0 0 (MQ below (Qv D cs A (W0 cs h0 a0 q.1 q.2)) args s 0 0 A) (F0 m 2 ls [])) : ∀ (i0 : Nat → Int32) (r0 : Nat → Nat → Int32) (x1 : Int32) (x2 : Int32) (y0 : Int32) (H : Heap) (locs : List Loc) (ls : Array Slot), f_X0_goOn_46 K2 i0 r0 x1 x2 y0 = some q → va_P D vwCl (W0 cs h0 a0 i0 r0) H → va_D A (W0 cs h0 a0 i0 r0) → va_S A s.heap H locs → lv_has ls 4 [(0, .ref h0), (1, .int x1), (2, .int x2)] → W p l e rmX0_goOn s m args below meth c H locs 0 0 (MQ below (Qv D cs A (W0 cs h0 a0 q.1 q.2)) args s 0 0 A) (F0 m 46 ls [.int y0, .ref h0]) := by
  obtain ⟨hx, hb, hr, hml, hown, hts, hK, hA, hlocks, hZ⟩ := id C
  intro i0 r0 x1 x2 y0 H locs ls hf hP hD hS hl
  rw [f_X0_goOn_46] at hf
  refine va_put (D := D) (ci := 0) (v := .int y0) (ty := .int) (C := RX0) (T := TX0) (N := 7) hx hb hts hiX0 tyX0 tyX0_ok nmX0 hown hK hP hD hS 0 rfl rfl 6 (by decide) (hts _ flX0_36) (fun _ h9 => h9) rfl (tyX0_ok 6 (by decide)) rfl rfl (Nat.le_of_ble_eq_true rfl) dX0_goOn_46 (fun H locs hP hD hS => ?_)
  obtain ⟨hP, hD⟩ := st0_6 hP hD
  refine lv_iinc (v := x2 + 1) (lv' := [(2, .int (x2 + 1)), (0, .ref h0), (1, .int x1)]) hx hb dX0_goOn_49 hl (k := 2) rfl rfl (by decide) rfl (fun ls hl => ?_)
  refine lv_goto (tgt := 2) hx hb dX0_goOn_52 (by decide) ?_
  exact hK2 _ _ _ _ _ _ _ hf hP hD hS (lv_sub hl [1, 2, 0] rfl)
def f_X0_goOn_2   : Nat → (Nat → Int32) → (Nat → Nat → Int32) → Int32 → Int32 → Option ((Nat → Int32) × (Nat → Nat → Int32))
  | 0, _, _, _, _ => none
  | n + 1, i0, r0, x1, x2 => if x1 ≤ x2 then (some (i0, r0)) else (bd (f_X0_meetAll i0 r0) (fun q3 => bd (f_X0_moveAll i0 q3.2) (fun q4 => if q3.1 ≤ 0 then (f_X0_goOn_46 (f_X0_goOn_2 n) (upd i0 5 ((i0 5) + q3.1)) q4 x1 x2 (if 1000000 < ((i0 6) + 1) then 1000000 else ((i0 6) + 1))) else (f_X0_goOn_46 (f_X0_goOn_2 n) (upd i0 5 ((i0 5) + q3.1)) q4 x1 x2 0))))
set_option maxRecDepth 100000 in
set_option maxHeartbeats 4000000 in
theorem w_X0_goOn_2 {p : Program} {l : Launch} {e : Env} {s : State} {m : MethodId} {args : Array Value} {below : List Frame} {meth : Method} {c : Code} {A : Nat → Prop} {D : va_G} {cs zs : Nat → Nat} {h0 : Nat} {a0 : Nat → Nat}  {q : (Nat → Int32) × (Nat → Nat → Int32)} (C : Cx p s m args meth c A D cs zs cX0_goOn 4 none RX0)  : ∀ (n : Nat), ∀ (i0 : Nat → Int32) (r0 : Nat → Nat → Int32) (x1 : Int32) (x2 : Int32) (H : Heap) (locs : List Loc) (ls : Array Slot), f_X0_goOn_2 n i0 r0 x1 x2 = some q → va_P D vwCl (W0 cs h0 a0 i0 r0) H → va_D A (W0 cs h0 a0 i0 r0) → va_S A s.heap H locs → lv_has ls 4 [(0, .ref h0), (1, .int x1), (2, .int x2)] → W p l e rmX0_goOn s m args below meth c H locs 0 0 (MQ below (Qv D cs A (W0 cs h0 a0 q.1 q.2)) args s 0 0 A) (F0 m 2 ls []) := by
  obtain ⟨hx, hb, hr, hml, hown, hts, hK, hA, hlocks, hZ⟩ := id C
  intro n
  induction n with
  | zero =>
    intro i0 r0 x1 x2 H locs ls hf
    rw [f_X0_goOn_2] at hf
    cases hf
  | succ n ih =>
    intro i0 r0 x1 x2 H locs ls hf hP hD hS hl
    rw [f_X0_goOn_2] at hf
    refine lv_iload_n hx hb dX0_goOn_2 rfl (lv_at hl 2 rfl) ?_
    refine lv_iload_n hx hb dX0_goOn_3 rfl (lv_at hl 1 rfl) ?_
    refine lv_icmp_ge (tgt := 55) hx hb dX0_goOn_4 (by decide) (fun hc => ?_) (fun hc => ?_)
    · have hf := ite_t hf hc
      obtain rfl := Option.some.inj hf
      exact k_vret hx hb hr hlocks hK hP hD hS dX0_goOn_55
    · have hf := ite_f hf hc
      refine lv_aload_n hx hb dX0_goOn_7 rfl (lv_at hl 0 rfl) ?_
      obtain ⟨q3, hq3, hf⟩ := bd_s hf
      refine k_sVi (ws2 := W0 cs h0 a0 i0 q3.2) (As := []) (rest := []) hx hb hml hown hts hK hA hZ hl.1 hP hD hS (c_X0_meetAll (h0 := h0) (a0 := a0) hq3) (gVt mlX0_51 imX0_meetAll seX0_meetAll inX0 coX0_meetAll) rfl qnX0_meetAll rfl rfl ⟨Nat.le_of_ble_eq_true rfl, Nat.le_of_ble_eq_true rfl⟩ 0 0 rfl rfl rfl rfl rfl (Nat.le_of_ble_eq_true rfl) ⟨Nat.zero_le _, Nat.zero_le _⟩ dX0_goOn_8 (fun H locs hP hD hS => ?_)
      refine lv_istore_n (lv' := [(3, .int q3.1), (0, .ref h0), (1, .int x1), (2, .int x2)]) hx hb dX0_goOn_11 rfl hl (by decide) rfl (fun ls hl => ?_)
      refine lv_aload_n hx hb dX0_goOn_12 rfl (lv_at hl 1 rfl) ?_
      obtain ⟨q4, hq4, hf⟩ := bd_s hf
      refine k_sVv (ws2 := W0 cs h0 a0 i0 q4) (As := []) (rest := []) hx hb hml hown hts hK hA hZ hl.1 hP hD hS (c_X0_moveAll (h0 := h0) (a0 := a0) hq4) (gVt mlX0_55 imX0_moveAll seX0_moveAll inX0 coX0_moveAll) rfl qnX0_moveAll rfl rfl ⟨Nat.le_of_ble_eq_true rfl, Nat.le_of_ble_eq_true rfl⟩ 0 0 rfl rfl rfl rfl rfl (Nat.le_of_ble_eq_true rfl) ⟨Nat.zero_le _, Nat.zero_le _⟩ dX0_goOn_13 (fun H locs hP hD hS => ?_)
      refine lv_aload_n hx hb dX0_goOn_16 rfl (lv_at hl 1 rfl) ?_
      refine lv_dup hx hb dX0_goOn_17 rfl ?_
      refine va_get (D := D) (ci := 0) (v := .int (i0 5)) (C := RX0) (T := TX0) (N := 7) hx hb hts hiX0 hown hK hP 0 rfl rfl 5 (by decide) (hts _ flX0_33) (fun _ h9 => h9) rfl dX0_goOn_18 ?_
      refine lv_iload_n hx hb dX0_goOn_21 rfl (lv_at hl 0 rfl) ?_
      refine lv_iadd hx hb dX0_goOn_22 ?_
      refine va_put (D := D) (ci := 0) (v := .int ((i0 5) + q3.1)) (ty := .int) (C := RX0) (T := TX0) (N := 7) hx hb hts hiX0 tyX0 tyX0_ok nmX0 hown hK hP hD hS 0 rfl rfl 5 (by decide) (hts _ flX0_33) (fun _ h9 => h9) rfl (tyX0_ok 5 (by decide)) rfl rfl (Nat.le_of_ble_eq_true rfl) dX0_goOn_23 (fun H locs hP hD hS => ?_)
      obtain ⟨hP, hD⟩ := st0_5 hP hD
      refine lv_aload_n hx hb dX0_goOn_26 rfl (lv_at hl 1 rfl) ?_
      refine lv_iload_n hx hb dX0_goOn_27 rfl (lv_at hl 0 rfl) ?_
      refine lv_if_le (tgt := 35) hx hb dX0_goOn_28 (by decide) (fun hc => ?_) (fun hc => ?_)
      · have hf := ite_t hf hc
        refine lv_aload_n hx hb dX0_goOn_35 rfl (lv_at hl 1 rfl) ?_
        refine va_get (D := D) (ci := 0) (v := .int (i0 6)) (C := RX0) (T := TX0) (N := 7) hx hb hts hiX0 hown hK hP 0 rfl rfl 6 (by decide) (hts _ flX0_36) (fun _ h9 => h9) rfl dX0_goOn_36 ?_
        refine lv_iconst (v := 1) hx hb dX0_goOn_39 (by decide) ?_
        refine lv_iadd hx hb dX0_goOn_40 ?_
        refine lv_ldc (v := 1000000) hx hb hown (hts _ kcX0_58) dX0_goOn_41 ?_
        refine va_mmin hx hb (hml.trans hl.1.symm) hown (hts _ mlX0_59) (hts _ stJ9_min_7cf53) (hts _ ini_Math) (hts _ coJ9_min_7cf53) (Nat.le_of_ble_eq_true rfl) (Nat.le_of_ble_eq_true rfl) (Nat.zero_le _) (Nat.zero_le _) dX0_goOn_43 ?_
        exact w_X0_goOn_46 C _ (ih) _ _ _ _ _ _ _ _ hf hP hD hS (lv_sub hl [1, 2, 3] rfl)
      · have hf := ite_f hf hc
        refine lv_iconst (v := 0) hx hb dX0_goOn_31 (by decide) ?_
        refine lv_goto (tgt := 46) hx hb dX0_goOn_32 (by decide) ?_
        exact w_X0_goOn_46 C _ (ih) _ _ _ _ _ _ _ _ hf hP hD hS (lv_sub hl [1, 2, 3] rfl)
def f_X0_goOn  (i0 : Nat → Int32) (r0 : Nat → Nat → Int32) (x1 : Int32) : Option ((Nat → Int32) × (Nat → Nat → Int32)) := f_X0_goOn_2 2000000 i0 r0 x1 0
set_option maxRecDepth 100000 in
set_option maxHeartbeats 4000000 in
theorem c_X0_goOn {l : Launch} {D : va_G} {cs zs : Nat → Nat} {h0 : Nat} {a0 : Nat → Nat} {i0 : Nat → Int32} {r0 : Nat → Nat → Int32} {x1 : Int32} {q : (Nat → Int32) × (Nat → Nat → Int32)} (hf : f_X0_goOn i0 r0 x1 = some q) : Mv l yX0_goOn wlX0_goOn rmX0_goOn D cs zs [.ref h0, .int x1] (W0 cs h0 a0 i0 r0) (W0 cs h0 a0 q.1 q.2) := by
  refine Mv.of RX0 (by decide) rfl (Nat.le_of_ble_eq_true rfl) (fun p e s m below meth c A C hP hD hS ls hl => ?_)
  generalize ([.ref h0, .int x1] : List Value).toArray = args at C ⊢
  obtain ⟨hx, hb, hr, hml, hown, hts, hK, hA, hlocks, hZ⟩ := id C
  have hl : lv_has ls 4 [(0, .ref h0), (1, .int x1)] := hl
  rw [f_X0_goOn] at hf
  refine lv_iconst (v := 0) hx hb dX0_goOn_0 (by decide) ?_
  refine lv_istore_n (lv' := [(2, .int 0), (0, .ref h0), (1, .int x1)]) hx hb dX0_goOn_1 rfl hl (by decide) rfl (fun ls hl => ?_)
  exact w_X0_goOn_2 C  2000000 _ _ _ _ _ _ _ hf hP hD hS (lv_sub hl [1, 2, 0] rfl)
/-! MarbleFloor$Cells.moveAllBack()V -/
abbrev wlX0_moveAllBack : List Cond := Cond.code yX0_moveAllBack cX0_moveAllBack 5 none :: tbG
abbrev rmX0_moveAllBack : Room := { frames := 0, cells := 0, slots := 0, locals := 0 }
theorem qnX0_moveAllBack : yX0_moveAllBack.cls = RX0 ∧ yX0_moveAllBack.cls ≠ "java/lang/invoke/MethodHandle" ∧ yX0_moveAllBack.cls ≠ "java/lang/invoke/VarHandle" ∧ (parseMethodDescriptor yX0_moveAllBack.desc).map (fun d => d.parameters.length) = some 0 := by decide +kernel
def f_X0_moveAllBack_74 (i0 : Nat → Int32) (K11 : (Nat → Nat → Int32) → Int32 → Int32 → Option ((Nat → Nat → Int32))) (r0 : Nat → Nat → Int32) (x1 : Int32) (x2 : Int32) : Option ((Nat → Nat → Int32)) := K11 r0 x1 (x2 + 1)
set_option maxRecDepth 100000 in
set_option maxHeartbeats 4000000 in
theorem w_X0_moveAllBack_74 {p : Program} {l : Launch} {e : Env} {s : State} {m : MethodId} {args : Array Value} {below : List Frame} {meth : Method} {c : Code} {A : Nat → Prop} {D : va_G} {cs zs : Nat → Nat} {h0 : Nat} {a0 : Nat → Nat} {i0 : Nat → Int32} {q : (Nat → Nat → Int32)} (C : Cx p s m args meth c A D cs zs cX0_moveAllBack 5 none RX0) (K11 : (Nat → Nat → Int32) → Int32 → Int32 → Option ((Nat → Nat → Int32))) (hK11 : ∀ (r0 : Nat → Nat → Int32) (x1 : Int32) (x2 : Int32) (H : Heap) (locs : List Loc) (ls : Array Slot), K11 r0 x1 x2 = some q → va_P D vwCl (W0 cs h0 a0 i0 r0) H → va_D A (W0 cs h0 a0 i0 r0) → va_S A s.heap H locs → lv_has ls 5 [(0, .ref h0), (1, .int x1), (2, .int x2)] → W p l e rmX0_moveAllBack s m args below meth c H locs 0 0 (MQ below (Qv D cs A (W0 cs h0 a0 i0 q)) args s 0 0 A) (F0 m 11 ls [])) : ∀ (r0 : Nat → Nat → Int32) (x1 : Int32) (x2 : Int32) (H : Heap) (locs : List Loc) (ls : Array Slot), f_X0_moveAllBack_74 i0 K11 r0 x1 x2 = some q → va_P D vwCl (W0 cs h0 a0 i0 r0) H → va_D A (W0 cs h0 a0 i0 r0) → va_S A s.heap H locs → lv_has ls 5 [(0, .ref h0), (1, .int x1), (2, .int x2)] → W p l e rmX0_moveAllBack s m args below meth c H locs 0 0 (MQ below (Qv D cs A (W0 cs h0 a0 i0 q)) args s 0 0 A) (F0 m 74 ls []) := by
  obtain ⟨hx, hb, hr, hml, hown, hts, hK, hA, hlocks, hZ⟩ := id C
  intro r0 x1 x2 H locs ls hf hP hD hS hl
  rw [f_X0_moveAllBack_74] at hf
  refine lv_iinc (v := x2 + 1) (lv' := [(2, .int (x2 + 1)), (0, .ref h0), (1, .int x1)]) hx hb dX0_moveAllBack_74 hl (k := 2) rfl rfl (by decide) rfl (fun ls hl => ?_)
  refine lv_goto (tgt := 11) hx hb dX0_moveAllBack_77 (by decide) ?_
  exact hK11 _ _ _ _ _ _ hf hP hD hS (lv_sub hl [1, 2, 0] rfl)
def f_X0_moveAllBack_151 (i0 : Nat → Int32)  : Nat → (Nat → Nat → Int32) → Int32 → Int32 → Int32 → Option ((Nat → Nat → Int32))
  | 0, _, _, _, _ => none
  | n + 1, r0, x2, x3, x4 => if x4 ≤ 0 then (ck (inb ((i0 4) - 1) 10) (ck (inb 0 10) (some ((va_up (va_up r0 (10 + 1) (upd (r0 (10 + 1)) ((i0 4) - 1).toNatClampNeg x3)) (10 + 3) (upd (r0 (10 + 3)) (0 : Int32).toNatClampNeg x2)))))) else (ck (inb (x4 - 1) 10) (ck (inb x4 10) (f_X0_moveAllBack_151 i0 n (va_up r0 (10 + 3) (upd (r0 (10 + 3)) x4.toNatClampNeg (r0 (10 + 3) (x4 - 1).toNatClampNeg))) x2 x3 (x4 + (-1)))))
set_option maxRecDepth 100000 in
set_option maxHeartbeats 4000000 in
theorem w_X0_moveAllBack_151 {p : Program} {l : Launch} {e : Env} {s : State} {m : MethodId} {args : Array Value} {below : List Frame} {meth : Method} {c : Code} {A : Nat → Prop} {D : va_G} {cs zs : Nat → Nat} {h0 : Nat} {a0 : Nat → Nat} {i0 : Nat → Int32} {q : (Nat → Nat → Int32)} (C : Cx p s m args meth c A D cs zs cX0_moveAllBack 5 none RX0)  : ∀ (n : Nat), ∀ (r0 : Nat → Nat → Int32) (x2 : Int32) (x3 : Int32) (x4 : Int32) (H : Heap) (locs : List Loc) (ls : Array Slot), f_X0_moveAllBack_151 i0 n r0 x2 x3 x4 = some q → va_P D vwCl (W0 cs h0 a0 i0 r0) H → va_D A (W0 cs h0 a0 i0 r0) → va_S A s.heap H locs → lv_has ls 5 [(0, .ref h0), (2, .int x2), (3, .int x3), (4, .int x4)] → W p l e rmX0_moveAllBack s m args below meth c H locs 0 0 (MQ below (Qv D cs A (W0 cs h0 a0 i0 q)) args s 0 0 A) (F0 m 151 ls []) := by
  obtain ⟨hx, hb, hr, hml, hown, hts, hK, hA, hlocks, hZ⟩ := id C
  intro n
  induction n with
  | zero =>
    intro r0 x2 x3 x4 H locs ls hf
    rw [f_X0_moveAllBack_151] at hf
    cases hf
  | succ n ih =>
    intro r0 x2 x3 x4 H locs ls hf hP hD hS hl
    rw [f_X0_moveAllBack_151] at hf
    refine lv_iload hx hb dX0_moveAllBack_151 (lv_at hl 3 rfl) ?_
    refine lv_if_le (tgt := 182) hx hb dX0_moveAllBack_153 (by decide) (fun hc => ?_) (fun hc => ?_)
    · have hf := ite_t hf hc
      refine lv_aload_n hx hb dX0_moveAllBack_182 rfl (lv_at hl 0 rfl) ?_
      refine va_get (D := D) (ci := 0) (v := .ref (a0 0)) (C := RX0) (T := TX0) (N := 7) hx hb hts hiX0 hown hK hP 0 rfl rfl 0 (by decide) (hts _ flX0_13) (fun _ h9 => h9) rfl dX0_moveAllBack_183 ?_
      refine lv_iconst (v := 1) hx hb dX0_moveAllBack_186 (by decide) ?_
      refine k_aald (f := fun j => a0 (10 + j)) (j := 1) hx hb hK hP 1 5 rfl rfl rfl (inb_in (by decide)) (by decide) dX0_moveAllBack_187 ?_
      refine lv_aload_n hx hb dX0_moveAllBack_188 rfl (lv_at hl 0 rfl) ?_
      refine va_get (D := D) (ci := 0) (v := .int (i0 4)) (C := RX0) (T := TX0) (N := 7) hx hb hts hiX0 hown hK hP 0 rfl rfl 4 (by decide) (hts _ flX0_30) (fun _ h9 => h9) rfl dX0_moveAllBack_189 ?_
      refine lv_iconst (v := 1) hx hb dX0_moveAllBack_192 (by decide) ?_
      refine lv_isub hx hb dX0_moveAllBack_193 ?_
      refine lv_iload_n hx hb dX0_moveAllBack_194 rfl (lv_at hl 2 rfl) ?_
      refine va_iast (f := r0 (10 + 1)) hx hb hK hP hD hS (4 + 1) 0 (row0_10 (by decide : 1 < 4)) rfl (ck_in hf) dX0_moveAllBack_195 (fun H locs hP hD hS => ?_)
      have hf := ck_2 hf
      obtain ⟨hP, hD⟩ := set0_10 (by decide : 1 < 4) hP hD
      refine lv_aload_n hx hb dX0_moveAllBack_196 rfl (lv_at hl 0 rfl) ?_
      refine va_get (D := D) (ci := 0) (v := .ref (a0 0)) (C := RX0) (T := TX0) (N := 7) hx hb hts hiX0 hown hK hP 0 rfl rfl 0 (by decide) (hts _ flX0_13) (fun _ h9 => h9) rfl dX0_moveAllBack_197 ?_
      refine lv_iconst (v := 3) hx hb dX0_moveAllBack_200 (by decide) ?_
      refine k_aald (f := fun j => a0 (10 + j)) (j := 3) hx hb hK hP 1 5 rfl rfl rfl (inb_in (by decide)) (by decide) dX0_moveAllBack_201 ?_
      refine lv_iconst (v := 0) hx hb dX0_moveAllBack_202 (by decide) ?_
      refine lv_iload_n hx hb dX0_moveAllBack_203 rfl (lv_at hl 1 rfl) ?_
      refine va_iast (f := r0 (10 + 3)) hx hb hK hP hD hS (4 + 3) 0 (row0_10 (by decide : 3 < 4)) rfl (ck_in hf) dX0_moveAllBack_204 (fun H locs hP hD hS => ?_)
      have hf := ck_2 hf
      obtain ⟨hP, hD⟩ := set0_10 (by decide : 3 < 4) hP hD
      obtain rfl := Option.some.inj hf
      exact k_vret hx hb hr hlocks hK hP hD hS dX0_moveAllBack_205
    · have hf := ite_f hf hc
      refine lv_aload_n hx hb dX0_moveAllBack_156 rfl (lv_at hl 0 rfl) ?_
      refine va_get (D := D) (ci := 0) (v := .ref (a0 0)) (C := RX0) (T := TX0) (N := 7) hx hb hts hiX0 hown hK hP 0 rfl rfl 0 (by decide) (hts _ flX0_13) (fun _ h9 => h9) rfl dX0_moveAllBack_157 ?_
      refine lv_iconst (v := 3) hx hb dX0_moveAllBack_160 (by decide) ?_
      refine k_aald (f := fun j => a0 (10 + j)) (j := 3) hx hb hK hP 1 5 rfl rfl rfl (inb_in (by decide)) (by decide) dX0_moveAllBack_161 ?_
      refine lv_iload hx hb dX0_moveAllBack_162 (lv_at hl 3 rfl) ?_
      refine lv_aload_n hx hb dX0_moveAllBack_164 rfl (lv_at hl 0 rfl) ?_
      refine va_get (D := D) (ci := 0) (v := .ref (a0 0)) (C := RX0) (T := TX0) (N := 7) hx hb hts hiX0 hown hK hP 0 rfl rfl 0 (by decide) (hts _ flX0_13) (fun _ h9 => h9) rfl dX0_moveAllBack_165 ?_
      refine lv_iconst (v := 3) hx hb dX0_moveAllBack_168 (by decide) ?_
      refine k_aald (f := fun j => a0 (10 + j)) (j := 3) hx hb hK hP 1 5 rfl rfl rfl (inb_in (by decide)) (by decide) dX0_moveAllBack_169 ?_
      refine lv_iload hx hb dX0_moveAllBack_170 (lv_at hl 3 rfl) ?_
      refine lv_iconst (v := 1) hx hb dX0_moveAllBack_172 (by decide) ?_
      refine lv_isub hx hb dX0_moveAllBack_173 ?_
      refine va_iald (f := r0 (10 + 3)) hx hb hK hP (4 + 3) 0 (row0_10 (by decide : 3 < 4)) rfl (ck_in hf) dX0_moveAllBack_174 ?_
      have hf := ck_2 hf
      refine va_iast (f := r0 (10 + 3)) hx hb hK hP hD hS (4 + 3) 0 (row0_10 (by decide : 3 < 4)) rfl (ck_in hf) dX0_moveAllBack_175 (fun H locs hP hD hS => ?_)
      have hf := ck_2 hf
      obtain ⟨hP, hD⟩ := set0_10 (by decide : 3 < 4) hP hD
      refine lv_iinc (v := x4 + (-1)) (lv' := [(4, .int (x4 + (-1))), (0, .ref h0), (2, .int x2), (3, .int x3)]) hx hb dX0_moveAllBack_176 hl (k := 3) rfl rfl (by decide) rfl (fun ls hl => ?_)
      refine lv_goto (tgt := 151) hx hb dX0_moveAllBack_179 (by decide) ?_
      exact ih _ _ _ _ _ _ _ hf hP hD hS (lv_sub hl [1, 2, 3, 0] rfl)
def f_X0_moveAllBack_106 (i0 : Nat → Int32)  : Nat → (Nat → Nat → Int32) → Int32 → Int32 → Int32 → Option ((Nat → Nat → Int32))
  | 0, _, _, _, _ => none
  | n + 1, r0, x2, x3, x4 => if ((i0 4) - 1) ≤ x4 then (f_X0_moveAllBack_151 i0 2000000 r0 x2 x3 ((i0 4) - 1)) else (ck (inb (x4 + 1) 10) (ck (inb x4 10) (f_X0_moveAllBack_106 i0 n (va_up r0 (10 + 1) (upd (r0 (10 + 1)) x4.toNatClampNeg (r0 (10 + 1) (x4 + 1).toNatClampNeg))) x2 x3 (x4 + 1))))
set_option maxRecDepth 100000 in
set_option maxHeartbeats 4000000 in
theorem w_X0_moveAllBack_106 {p : Program} {l : Launch} {e : Env} {s : State} {m : MethodId} {args : Array Value} {below : List Frame} {meth : Method} {c : Code} {A : Nat → Prop} {D : va_G} {cs zs : Nat → Nat} {h0 : Nat} {a0 : Nat → Nat} {i0 : Nat → Int32} {q : (Nat → Nat → Int32)} (C : Cx p s m args meth c A D cs zs cX0_moveAllBack 5 none RX0)  : ∀ (n : Nat), ∀ (r0 : Nat → Nat → Int32) (x2 : Int32) (x3 : Int32) (x4 : Int32) (H : Heap) (locs : List Loc) (ls : Array Slot), f_X0_moveAllBack_106 i0 n r0 x2 x3 x4 = some q → va_P D vwCl (W0 cs h0 a0 i0 r0) H → va_D A (W0 cs h0 a0 i0 r0) → va_S A s.heap H locs → lv_has ls 5 [(0, .ref h0), (2, .int x2), (3, .int x3), (4, .int x4)] → W p l e rmX0_moveAllBack s m args below meth c H locs 0 0 (MQ below (Qv D cs A (W0 cs h0 a0 i0 q)) args s 0 0 A) (F0 m 106 ls []) := by
  obtain ⟨hx, hb, hr, hml, hown, hts, hK, hA, hlocks, hZ⟩ := id C
  intro n
  induction n with
  | zero =>
    intro r0 x2 x3 x4 H locs ls hf
    rw [f_X0_moveAllBack_106] at hf
    cases hf
  | succ n ih =>
    intro r0 x2 x3 x4 H locs ls hf hP hD hS hl
    rw [f_X0_moveAllBack_106] at hf
    refine lv_iload hx hb dX0_moveAllBack_106 (lv_at hl 3 rfl) ?_
    refine lv_aload_n hx hb dX0_moveAllBack_108 rfl (lv_at hl 0 rfl) ?_
    refine va_get (D := D) (ci := 0) (v := .int (i0 4)) (C := RX0) (T := TX0) (N := 7) hx hb hts hiX0 hown hK hP 0 rfl rfl 4 (by decide) (hts _ flX0_30) (fun _ h9 => h9) rfl dX0_moveAllBack_109 ?_
    refine lv_iconst (v := 1) hx hb dX0_moveAllBack_112 (by decide) ?_
    refine lv_isub hx hb dX0_moveAllBack_113 ?_
    refine lv_icmp_ge (tgt := 143) hx hb dX0_moveAllBack_114 (by decide) (fun hc => ?_) (fun hc => ?_)
    · have hf := ite_t hf hc
      refine lv_aload_n hx hb dX0_moveAllBack_143 rfl (lv_at hl 0 rfl) ?_
      refine va_get (D := D) (ci := 0) (v := .int (i0 4)) (C := RX0) (T := TX0) (N := 7) hx hb hts hiX0 hown hK hP 0 rfl rfl 4 (by decide) (hts _ flX0_30) (fun _ h9 => h9) rfl dX0_moveAllBack_144 ?_
      refine lv_iconst (v := 1) hx hb dX0_moveAllBack_147 (by decide) ?_
      refine lv_isub hx hb dX0_moveAllBack_148 ?_
      refine lv_istore (lv' := [(4, .int ((i0 4) - 1)), (0, .ref h0), (2, .int x2), (3, .int x3)]) hx hb dX0_moveAllBack_149 hl (by decide) rfl (fun ls hl => ?_)
      exact w_X0_moveAllBack_151 C  2000000 _ _ _ _ _ _ _ hf hP hD hS (lv_sub hl [1, 2, 3, 0] rfl)
    · have hf := ite_f hf hc
      refine lv_aload_n hx hb dX0_moveAllBack_117 rfl (lv_at hl 0 rfl) ?_
      refine va_get (D := D) (ci := 0) (v := .ref (a0 0)) (C := RX0) (T := TX0) (N := 7) hx hb hts hiX0 hown hK hP 0 rfl rfl 0 (by decide) (hts _ flX0_13) (fun _ h9 => h9) rfl dX0_moveAllBack_118 ?_
      refine lv_iconst (v := 1) hx hb dX0_moveAllBack_121 (by decide) ?_
      refine k_aald (f := fun j => a0 (10 + j)) (j := 1) hx hb hK hP 1 5 rfl rfl rfl (inb_in (by decide)) (by decide) dX0_moveAllBack_122 ?_
      refine lv_iload hx hb dX0_moveAllBack_123 (lv_at hl 3 rfl) ?_
      refine lv_aload_n hx hb dX0_moveAllBack_125 rfl (lv_at hl 0 rfl) ?_
      refine va_get (D := D) (ci := 0) (v := .ref (a0 0)) (C := RX0) (T := TX0) (N := 7) hx hb hts hiX0 hown hK hP 0 rfl rfl 0 (by decide) (hts _ flX0_13) (fun _ h9 => h9) rfl dX0_moveAllBack_126 ?_
      refine lv_iconst (v := 1) hx hb dX0_moveAllBack_129 (by decide) ?_
      refine k_aald (f := fun j => a0 (10 + j)) (j := 1) hx hb hK hP 1 5 rfl rfl rfl (inb_in (by decide)) (by decide) dX0_moveAllBack_130 ?_
      refine lv_iload hx hb dX0_moveAllBack_131 (lv_at hl 3 rfl) ?_
      refine lv_iconst (v := 1) hx hb dX0_moveAllBack_133 (by decide) ?_
      refine lv_iadd hx hb dX0_moveAllBack_134 ?_
      refine va_iald (f := r0 (10 + 1)) hx hb hK hP (4 + 1) 0 (row0_10 (by decide : 1 < 4)) rfl (ck_in hf) dX0_moveAllBack_135 ?_
      have hf := ck_2 hf
      refine va_iast (f := r0 (10 + 1)) hx hb hK hP hD hS (4 + 1) 0 (row0_10 (by decide : 1 < 4)) rfl (ck_in hf) dX0_moveAllBack_136 (fun H locs hP hD hS => ?_)
      have hf := ck_2 hf
      obtain ⟨hP, hD⟩ := set0_10 (by decide : 1 < 4) hP hD
      refine lv_iinc (v := x4 + 1) (lv' := [(4, .int (x4 + 1)), (0, .ref h0), (2, .int x2), (3, .int x3)]) hx hb dX0_moveAllBack_137 hl (k := 3) rfl rfl (by decide) rfl (fun ls hl => ?_)
      refine lv_goto (tgt := 106) hx hb dX0_moveAllBack_140 (by decide) ?_
      exact ih _ _ _ _ _ _ _ hf hP hD hS (lv_sub hl [1, 2, 3, 0] rfl)
def f_X0_moveAllBack_11 (i0 : Nat → Int32)  : Nat → (Nat → Nat → Int32) → Int32 → Int32 → Option ((Nat → Nat → Int32))
  | 0, _, _, _ => none
  | n + 1, r0, x1, x2 => if (i0 4) ≤ x2 then (ck (inb 0 10) (ck (inb ((i0 4) - 1) 10) (f_X0_moveAllBack_106 i0 2000000 r0 (r0 (10 + 1) (0 : Int32).toNatClampNeg) (r0 (10 + 3) ((i0 4) - 1).toNatClampNeg) 0))) else (ck (inb x2 10) (ck (inb x2 10) (ck (inb x2 10) (ck (inb x2 10) (f_X0_moveAllBack_74 i0 (f_X0_moveAllBack_11 i0 n) (va_up (va_up r0 (10 + 0) (upd (r0 (10 + 0)) x2.toNatClampNeg (((r0 (10 + 0) x2.toNatClampNeg) >>> (1 &&& 31)) ||| ((r0 (10 + 2) x2.toNatClampNeg) &&& x1)))) (10 + 2) (upd (r0 (10 + 2)) x2.toNatClampNeg ((((r0 (10 + 2) x2.toNatClampNeg) &&& (x1 ^^^ (-1))) <<< (1 &&& 31)) ||| ((r0 (10 + 0) x2.toNatClampNeg) &&& 1)))) x1 x2)))))
set_option maxRecDepth 100000 in
set_option maxHeartbeats 4000000 in
theorem w_X0_moveAllBack_11 {p : Program} {l : Launch} {e : Env} {s : State} {m : MethodId} {args : Array Value} {below : List Frame} {meth : Method} {c : Code} {A : Nat → Prop} {D : va_G} {cs zs : Nat → Nat} {h0 : Nat} {a0 : Nat → Nat} {i0 : Nat → Int32} {q : (Nat → Nat → Int32)} (C : Cx p s m args meth c A D cs zs cX0_moveAllBack 5 none RX0)  : ∀ (n : Nat), ∀ (r0 : Nat → Nat → Int32) (x1 : Int32) (x2 : Int32) (H : Heap) (locs : List Loc) (ls : Array Slot), f_X0_moveAllBack_11 i0 n r0 x1 x2 = some q → va_P D vwCl (W0 cs h0 a0 i0 r0) H → va_D A (W0 cs h0 a0 i0 r0) → va_S A s.heap H locs → lv_has ls 5 [(0, .ref h0), (1, .int x1), (2, .int x2)] → W p l e rmX0_moveAllBack s m args below meth c H locs 0 0 (MQ below (Qv D cs A (W0 cs h0 a0 i0 q)) args s 0 0 A) (F0 m 11 ls []) := by
  obtain ⟨hx, hb, hr, hml, hown, hts, hK, hA, hlocks, hZ⟩ := id C
  intro n
  induction n with
  | zero =>
    intro r0 x1 x2 H locs ls hf
    rw [f_X0_moveAllBack_11] at hf
    cases hf
  | succ n ih =>
    intro r0 x1 x2 H locs ls hf hP hD hS hl
    rw [f_X0_moveAllBack_11] at hf
    refine lv_iload_n hx hb dX0_moveAllBack_11 rfl (lv_at hl 2 rfl) ?_
    refine lv_aload_n hx hb dX0_moveAllBack_12 rfl (lv_at hl 0 rfl) ?_
    refine va_get (D := D) (ci := 0) (v := .int (i0 4)) (C := RX0) (T := TX0) (N := 7) hx hb hts hiX0 hown hK hP 0 rfl rfl 4 (by decide) (hts _ flX0_30) (fun _ h9 => h9) rfl dX0_moveAllBack_13 ?_
    refine lv_icmp_ge (tgt := 80) hx hb dX0_moveAllBack_16 (by decide) (fun hc => ?_) (fun hc => ?_)
    · have hf := ite_t hf hc
      refine lv_aload_n hx hb dX0_moveAllBack_80 rfl (lv_at hl 0 rfl) ?_
      refine va_get (D := D) (ci := 0) (v := .ref (a0 0)) (C := RX0) (T := TX0) (N := 7) hx hb hts hiX0 hown hK hP 0 rfl rfl 0 (by decide) (hts _ flX0_13) (fun _ h9 => h9) rfl dX0_moveAllBack_81 ?_
      refine lv_iconst (v := 1) hx hb dX0_moveAllBack_84 (by decide) ?_
      refine k_aald (f := fun j => a0 (10 + j)) (j := 1) hx hb hK hP 1 5 rfl rfl rfl (inb_in (by decide)) (by decide) dX0_moveAllBack_85 ?_
      refine lv_iconst (v := 0) hx hb dX0_moveAllBack_86 (by decide) ?_
      refine va_iald (f := r0 (10 + 1)) hx hb hK hP (4 + 1) 0 (row0_10 (by decide : 1 < 4)) rfl (ck_in hf) dX0_moveAllBack_87 ?_
      have hf := ck_2 hf
      refine lv_istore_n (lv' := [(2, .int (r0 (10 + 1) (0 : Int32).toNatClampNeg)), (0, .ref h0), (1, .int x1)]) hx hb dX0_moveAllBack_88 rfl hl (by decide) rfl (fun ls hl => ?_)
      refine lv_aload_n hx hb dX0_moveAllBack_89 rfl (lv_at hl 1 rfl) ?_
      refine va_get (D := D) (ci := 0) (v := .ref (a0 0)) (C := RX0) (T := TX0) (N := 7) hx hb hts hiX0 hown hK hP 0 rfl rfl 0 (by decide) (hts _ flX0_13) (fun _ h9 => h9) rfl dX0_moveAllBack_90 ?_
      refine lv_iconst (v := 3) hx hb dX0_moveAllBack_93 (by decide) ?_
      refine k_aald (f := fun j => a0 (10 + j)) (j := 3) hx hb hK hP 1 5 rfl rfl rfl (inb_in (by decide)) (by decide) dX0_moveAllBack_94 ?_
      refine lv_aload_n hx hb dX0_moveAllBack_95 rfl (lv_at hl 1 rfl) ?_
      refine va_get (D := D) (ci := 0) (v := .int (i0 4)) (C := RX0) (T := TX0) (N := 7) hx hb hts hiX0 hown hK hP 0 rfl rfl 4 (by decide) (hts _ flX0_30) (fun _ h9 => h9) rfl dX0_moveAllBack_96 ?_
      refine lv_iconst (v := 1) hx hb dX0_moveAllBack_99 (by decide) ?_
      refine lv_isub hx hb dX0_moveAllBack_100 ?_
      refine va_iald (f := r0 (10 + 3)) hx hb hK hP (4 + 3) 0 (row0_10 (by decide : 3 < 4)) rfl (ck_in hf) dX0_moveAllBack_101 ?_
      have hf := ck_2 hf
      refine lv_istore_n (lv' := [(3, .int (r0 (10 + 3) ((i0 4) - 1).toNatClampNeg)), (2, .int (r0 (10 + 1) (0 : Int32).toNatClampNeg)), (0, .ref h0), (1, .int x1)]) hx hb dX0_moveAllBack_102 rfl hl (by decide) rfl (fun ls hl => ?_)
      refine lv_iconst (v := 0) hx hb dX0_moveAllBack_103 (by decide) ?_
      refine lv_istore (lv' := [(4, .int 0), (3, .int (r0 (10 + 3) ((i0 4) - 1).toNatClampNeg)), (2, .int (r0 (10 + 1) (0 : Int32).toNatClampNeg)), (0, .ref h0), (1, .int x1)]) hx hb dX0_moveAllBack_104 hl (by decide) rfl (fun ls hl => ?_)
      exact w_X0_moveAllBack_106 C  2000000 _ _ _ _ _ _ _ hf hP hD hS (lv_sub hl [3, 2, 1, 0] rfl)
    · have hf := ite_f hf hc
      refine lv_aload_n hx hb dX0_moveAllBack_19 rfl (lv_at hl 0 rfl) ?_
      refine va_get (D := D) (ci := 0) (v := .ref (a0 0)) (C := RX0) (T := TX0) (N := 7) hx hb hts hiX0 hown hK hP 0 rfl rfl 0 (by decide) (hts _ flX0_13) (fun _ h9 => h9) rfl dX0_moveAllBack_20 ?_
      refine lv_iconst (v := 0) hx hb dX0_moveAllBack_23 (by decide) ?_
      refine k_aald (f := fun j => a0 (10 + j)) (j := 0) hx hb hK hP 1 5 rfl rfl rfl (inb_in (by decide)) (by decide) dX0_moveAllBack_24 ?_
      refine lv_iload_n hx hb dX0_moveAllBack_25 rfl (lv_at hl 2 rfl) ?_
      refine va_iald (f := r0 (10 + 0)) hx hb hK hP (4 + 0) 0 (row0_10 (by decide : 0 < 4)) rfl (ck_in hf) dX0_moveAllBack_26 ?_
      have hf := ck_2 hf
      refine lv_istore_n (lv' := [(3, .int (r0 (10 + 0) x2.toNatClampNeg)), (0, .ref h0), (1, .int x1), (2, .int x2)]) hx hb dX0_moveAllBack_27 rfl hl (by decide) rfl (fun ls hl => ?_)
      refine lv_aload_n hx hb dX0_moveAllBack_28 rfl (lv_at hl 1 rfl) ?_
      refine va_get (D := D) (ci := 0) (v := .ref (a0 0)) (C := RX0) (T := TX0) (N := 7) hx hb hts hiX0 hown hK hP 0 rfl rfl 0 (by decide) (hts _ flX0_13) (fun _ h9 => h9) rfl dX0_moveAllBack_29 ?_
      refine lv_iconst (v := 2) hx hb dX0_moveAllBack_32 (by decide) ?_
      refine k_aald (f := fun j => a0 (10 + j)) (j := 2) hx hb hK hP 1 5 rfl rfl rfl (inb_in (by decide)) (by decide) dX0_moveAllBack_33 ?_
      refine lv_iload_n hx hb dX0_moveAllBack_34 rfl (lv_at hl 3 rfl) ?_
      refine va_iald (f := r0 (10 + 2)) hx hb hK hP (4 + 2) 0 (row0_10 (by decide : 2 < 4)) rfl (ck_in hf) dX0_moveAllBack_35 ?_
      have hf := ck_2 hf
      refine lv_istore (lv' := [(4, .int (r0 (10 + 2) x2.toNatClampNeg)), (3, .int (r0 (10 + 0) x2.toNatClampNeg)), (0, .ref h0), (1, .int x1), (2, .int x2)]) hx hb dX0_moveAllBack_36 hl (by decide) rfl (fun ls hl => ?_)
      refine lv_aload_n hx hb dX0_moveAllBack_38 rfl (lv_at hl 2 rfl) ?_
      refine va_get (D := D) (ci := 0) (v := .ref (a0 0)) (C := RX0) (T := TX0) (N := 7) hx hb hts hiX0 hown hK hP 0 rfl rfl 0 (by decide) (hts _ flX0_13) (fun _ h9 => h9) rfl dX0_moveAllBack_39 ?_
      refine lv_iconst (v := 0) hx hb dX0_moveAllBack_42 (by decide) ?_
      refine k_aald (f := fun j => a0 (10 + j)) (j := 0) hx hb hK hP 1 5 rfl rfl rfl (inb_in (by decide)) (by decide) dX0_moveAllBack_43 ?_
      refine lv_iload_n hx hb dX0_moveAllBack_44 rfl (lv_at hl 4 rfl) ?_
      refine lv_iload_n hx hb dX0_moveAllBack_45 rfl (lv_at hl 1 rfl) ?_
      refine lv_iconst (v := 1) hx hb dX0_moveAllBack_46 (by decide) ?_
      refine lv_ishr hx hb dX0_moveAllBack_47 ?_
      refine lv_iload hx hb dX0_moveAllBack_48 (lv_at hl 0 rfl) ?_
      refine lv_iload_n hx hb dX0_moveAllBack_50 rfl (lv_at hl 3 rfl) ?_
      refine lv_iand hx hb dX0_moveAllBack_51 ?_
      refine lv_ior hx hb dX0_moveAllBack_52 ?_
      refine va_iast (f := r0 (10 + 0)) hx hb hK hP hD hS (4 + 0) 0 (row0_10 (by decide : 0 < 4)) rfl (ck_in hf) dX0_moveAllBack_53 (fun H locs hP hD hS => ?_)
      have hf := ck_2 hf
      obtain ⟨hP, hD⟩ := set0_10 (by decide : 0 < 4) hP hD
      refine lv_aload_n hx hb dX0_moveAllBack_54 rfl (lv_at hl 2 rfl) ?_
      refine va_get (D := D) (ci := 0) (v := .ref (a0 0)) (C := RX0) (T := TX0) (N := 7) hx hb hts hiX0 hown hK hP 0 rfl rfl 0 (by decide) (hts _ flX0_13) (fun _ h9 => h9) rfl dX0_moveAllBack_55 ?_
      refine lv_iconst (v := 2) hx hb dX0_moveAllBack_58 (by decide) ?_
      refine k_aald (f := fun j => a0 (10 + j)) (j := 2) hx hb hK hP 1 5 rfl rfl rfl (inb_in (by decide)) (by decide) dX0_moveAllBack_59 ?_
      refine lv_iload_n hx hb dX0_moveAllBack_60 rfl (lv_at hl 4 rfl) ?_
      refine lv_iload hx hb dX0_moveAllBack_61 (lv_at hl 0 rfl) ?_
      refine lv_iload_n hx hb dX0_moveAllBack_63 rfl (lv_at hl 3 rfl) ?_
      refine lv_iconst (v := (-1)) hx hb dX0_moveAllBack_64 (by decide) ?_
      refine lv_ixor hx hb dX0_moveAllBack_65 ?_
      refine lv_iand hx hb dX0_moveAllBack_66 ?_
      refine lv_iconst (v := 1) hx hb dX0_moveAllBack_67 (by decide) ?_
      refine lv_ishl hx hb dX0_moveAllBack_68 ?_
      refine lv_iload_n hx hb dX0_moveAllBack_69 rfl (lv_at hl 1 rfl) ?_
      refine lv_iconst (v := 1) hx hb dX0_moveAllBack_70 (by decide) ?_
      refine lv_iand hx hb dX0_moveAllBack_71 ?_
      refine lv_ior hx hb dX0_moveAllBack_72 ?_
      refine va_iast (f := r0 (10 + 2)) hx hb hK hP hD hS (4 + 2) 0 (row0_10 (by decide : 2 < 4)) rfl (ck_in hf) dX0_moveAllBack_73 (fun H locs hP hD hS => ?_)
      have hf := ck_2 hf
      obtain ⟨hP, hD⟩ := set0_10 (by decide : 2 < 4) hP hD
      exact w_X0_moveAllBack_74 C _ (ih) _ _ _ _ _ _ hf hP hD hS (lv_sub hl [2, 3, 4] rfl)
def f_X0_moveAllBack  (i0 : Nat → Int32) (r0 : Nat → Nat → Int32)  : Option ((Nat → Nat → Int32)) := f_X0_moveAllBack_11 i0 2000000 r0 ((1 : Int32) <<< (((i0 3) - 1) &&& 31)) 0
set_option maxRecDepth 100000 in
set_option maxHeartbeats 4000000 in
theorem c_X0_moveAllBack {l : Launch} {D : va_G} {cs zs : Nat → Nat} {h0 : Nat} {a0 : Nat → Nat} {i0 : Nat → Int32} {r0 : Nat → Nat → Int32}  {q : (Nat → Nat → Int32)} (hf : f_X0_moveAllBack i0 r0 = some q) : Mv l yX0_moveAllBack wlX0_moveAllBack rmX0_moveAllBack D cs zs [.ref h0] (W0 cs h0 a0 i0 r0) (W0 cs h0 a0 i0 q) := by
  refine Mv.of RX0 (by decide) rfl (Nat.le_of_ble_eq_true rfl) (fun p e s m below meth c A C hP hD hS ls hl => ?_)
  generalize ([.ref h0] : List Value).toArray = args at C ⊢
  obtain ⟨hx, hb, hr, hml, hown, hts, hK, hA, hlocks, hZ⟩ := id C
  have hl : lv_has ls 5 [(0, .ref h0)] := hl
  rw [f_X0_moveAllBack] at hf
  refine lv_iconst (v := 1) hx hb dX0_moveAllBack_0 (by decide) ?_
  refine lv_aload_n hx hb dX0_moveAllBack_1 rfl (lv_at hl 0 rfl) ?_
  refine va_get (D := D) (ci := 0) (v := .int (i0 3)) (C := RX0) (T := TX0) (N := 7) hx hb hts hiX0 hown hK hP 0 rfl rfl 3 (by decide) (hts _ flX0_26) (fun _ h9 => h9) rfl dX0_moveAllBack_2 ?_
  refine lv_iconst (v := 1) hx hb dX0_moveAllBack_5 (by decide) ?_
  refine lv_isub hx hb dX0_moveAllBack_6 ?_
  refine lv_ishl hx hb dX0_moveAllBack_7 ?_
  refine lv_istore_n (lv' := [(1, .int ((1 : Int32) <<< (((i0 3) - 1) &&& 31))), (0, .ref h0)]) hx hb dX0_moveAllBack_8 rfl hl (by decide) rfl (fun ls hl => ?_)
  refine lv_iconst (v := 0) hx hb dX0_moveAllBack_9 (by decide) ?_
  refine lv_istore_n (lv' := [(2, .int 0), (1, .int ((1 : Int32) <<< (((i0 3) - 1) &&& 31))), (0, .ref h0)]) hx hb dX0_moveAllBack_10 rfl hl (by decide) rfl (fun ls hl => ?_)
  exact w_X0_moveAllBack_11 C  2000000 _ _ _ _ _ _ hf hP hD hS (lv_sub hl [2, 1, 0] rfl)
/-! MarbleFloor$Cells.goBack(I)V -/
abbrev wlX0_goBack : List Cond := Cond.code yX0_goBack cX0_goBack 3 none :: tbG
abbrev rmX0_goBack : Room := { frames := 3, cells := 0, slots := 0, locals := 73 }
theorem qnX0_goBack : yX0_goBack.cls = RX0 ∧ yX0_goBack.cls ≠ "java/lang/invoke/MethodHandle" ∧ yX0_goBack.cls ≠ "java/lang/invoke/VarHandle" ∧ (parseMethodDescriptor yX0_goBack.desc).map (fun d => d.parameters.length) = some 1 := by decide +kernel
def f_X0_goBack_2   : Nat → (Nat → Int32) → (Nat → Nat → Int32) → Int32 → Int32 → Option ((Nat → Int32) × (Nat → Nat → Int32))
  | 0, _, _, _, _ => none
  | n + 1, i0, r0, x1, x2 => if x1 ≤ x2 then (some ((upd i0 6 ((i0 6) - x1)), r0)) else (bd (f_X0_moveAllBack i0 r0) (fun q3 => bd (f_X0_meetAll i0 q3) (fun q4 => f_X0_goBack_2 n i0 q4.2 x1 (x2 + 1))))
set_option maxRecDepth 100000 in
set_option maxHeartbeats 4000000 in
theorem w_X0_goBack_2 {p : Program} {l : Launch} {e : Env} {s : State} {m : MethodId} {args : Array Value} {below : List Frame} {meth : Method} {c : Code} {A : Nat → Prop} {D : va_G} {cs zs : Nat → Nat} {h0 : Nat} {a0 : Nat → Nat}  {q : (Nat → Int32) × (Nat → Nat → Int32)} (C : Cx p s m args meth c A D cs zs cX0_goBack 3 none RX0)  : ∀ (n : Nat), ∀ (i0 : Nat → Int32) (r0 : Nat → Nat → Int32) (x1 : Int32) (x2 : Int32) (H : Heap) (locs : List Loc) (ls : Array Slot), f_X0_goBack_2 n i0 r0 x1 x2 = some q → va_P D vwCl (W0 cs h0 a0 i0 r0) H → va_D A (W0 cs h0 a0 i0 r0) → va_S A s.heap H locs → lv_has ls 3 [(0, .ref h0), (1, .int x1), (2, .int x2)] → W p l e rmX0_goBack s m args below meth c H locs 0 0 (MQ below (Qv D cs A (W0 cs h0 a0 q.1 q.2)) args s 0 0 A) (F0 m 2 ls []) := by
  obtain ⟨hx, hb, hr, hml, hown, hts, hK, hA, hlocks, hZ⟩ := id C
  intro n
  induction n with
  | zero =>
    intro i0 r0 x1 x2 H locs ls hf
    rw [f_X0_goBack_2] at hf
    cases hf
  | succ n ih =>
    intro i0 r0 x1 x2 H locs ls hf hP hD hS hl
    rw [f_X0_goBack_2] at hf
    refine lv_iload_n hx hb dX0_goBack_2 rfl (lv_at hl 2 rfl) ?_
    refine lv_iload_n hx hb dX0_goBack_3 rfl (lv_at hl 1 rfl) ?_
    refine lv_icmp_ge (tgt := 22) hx hb dX0_goBack_4 (by decide) (fun hc => ?_) (fun hc => ?_)
    · have hf := ite_t hf hc
      refine lv_aload_n hx hb dX0_goBack_22 rfl (lv_at hl 0 rfl) ?_
      refine lv_dup hx hb dX0_goBack_23 rfl ?_
      refine va_get (D := D) (ci := 0) (v := .int (i0 6)) (C := RX0) (T := TX0) (N := 7) hx hb hts hiX0 hown hK hP 0 rfl rfl 6 (by decide) (hts _ flX0_36) (fun _ h9 => h9) rfl dX0_goBack_24 ?_
      refine lv_iload_n hx hb dX0_goBack_27 rfl (lv_at hl 1 rfl) ?_
      refine lv_isub hx hb dX0_goBack_28 ?_
      refine va_put (D := D) (ci := 0) (v := .int ((i0 6) - x1)) (ty := .int) (C := RX0) (T := TX0) (N := 7) hx hb hts hiX0 tyX0 tyX0_ok nmX0 hown hK hP hD hS 0 rfl rfl 6 (by decide) (hts _ flX0_36) (fun _ h9 => h9) rfl (tyX0_ok 6 (by decide)) rfl rfl (Nat.le_of_ble_eq_true rfl) dX0_goBack_29 (fun H locs hP hD hS => ?_)
      obtain ⟨hP, hD⟩ := st0_6 hP hD
      obtain rfl := Option.some.inj hf
      exact k_vret hx hb hr hlocks hK hP hD hS dX0_goBack_32
    · have hf := ite_f hf hc
      refine lv_aload_n hx hb dX0_goBack_7 rfl (lv_at hl 0 rfl) ?_
      obtain ⟨q3, hq3, hf⟩ := bd_s hf
      refine k_sVv (ws2 := W0 cs h0 a0 i0 q3) (As := []) (rest := []) hx hb hml hown hts hK hA hZ hl.1 hP hD hS (c_X0_moveAllBack (h0 := h0) (a0 := a0) hq3) (gVt mlX0_65 imX0_moveAllBack seX0_moveAllBack inX0 coX0_moveAllBack) rfl qnX0_moveAllBack rfl rfl ⟨Nat.le_of_ble_eq_true rfl, Nat.le_of_ble_eq_true rfl⟩ 0 0 rfl rfl rfl rfl rfl (Nat.le_of_ble_eq_true rfl) ⟨Nat.zero_le _, Nat.zero_le _⟩ dX0_goBack_8 (fun H locs hP hD hS => ?_)
      refine lv_aload_n hx hb dX0_goBack_11 rfl (lv_at hl 0 rfl) ?_
      obtain ⟨q4, hq4, hf⟩ := bd_s hf
      refine k_sVi (ws2 := W0 cs h0 a0 i0 q4.2) (As := []) (rest := []) hx hb hml hown hts hK hA hZ hl.1 hP hD hS (c_X0_meetAll (h0 := h0) (a0 := a0) hq4) (gVt mlX0_51 imX0_meetAll seX0_meetAll inX0 coX0_meetAll) rfl qnX0_meetAll rfl rfl ⟨Nat.le_of_ble_eq_true rfl, Nat.le_of_ble_eq_true rfl⟩ 0 0 rfl rfl rfl rfl rfl (Nat.le_of_ble_eq_true rfl) ⟨Nat.zero_le _, Nat.zero_le _⟩ dX0_goBack_12 (fun H locs hP hD hS => ?_)
      refine lv_pop hx hb dX0_goBack_15 rfl ?_
      refine lv_iinc (v := x2 + 1) (lv' := [(2, .int (x2 + 1)), (0, .ref h0), (1, .int x1)]) hx hb dX0_goBack_16 hl (k := 2) rfl rfl (by decide) rfl (fun ls hl => ?_)
      refine lv_goto (tgt := 2) hx hb dX0_goBack_19 (by decide) ?_
      exact ih _ _ _ _ _ _ _ hf hP hD hS (lv_sub hl [1, 2, 0] rfl)
def f_X0_goBack  (i0 : Nat → Int32) (r0 : Nat → Nat → Int32) (x1 : Int32) : Option ((Nat → Int32) × (Nat → Nat → Int32)) := f_X0_goBack_2 2000000 i0 r0 x1 0
set_option maxRecDepth 100000 in
set_option maxHeartbeats 4000000 in
theorem c_X0_goBack {l : Launch} {D : va_G} {cs zs : Nat → Nat} {h0 : Nat} {a0 : Nat → Nat} {i0 : Nat → Int32} {r0 : Nat → Nat → Int32} {x1 : Int32} {q : (Nat → Int32) × (Nat → Nat → Int32)} (hf : f_X0_goBack i0 r0 x1 = some q) : Mv l yX0_goBack wlX0_goBack rmX0_goBack D cs zs [.ref h0, .int x1] (W0 cs h0 a0 i0 r0) (W0 cs h0 a0 q.1 q.2) := by
  refine Mv.of RX0 (by decide) rfl (Nat.le_of_ble_eq_true rfl) (fun p e s m below meth c A C hP hD hS ls hl => ?_)
  generalize ([.ref h0, .int x1] : List Value).toArray = args at C ⊢
  obtain ⟨hx, hb, hr, hml, hown, hts, hK, hA, hlocks, hZ⟩ := id C
  have hl : lv_has ls 3 [(0, .ref h0), (1, .int x1)] := hl
  rw [f_X0_goBack] at hf
  refine lv_iconst (v := 0) hx hb dX0_goBack_0 (by decide) ?_
  refine lv_istore_n (lv' := [(2, .int 0), (0, .ref h0), (1, .int x1)]) hx hb dX0_goBack_1 rfl hl (by decide) rfl (fun ls hl => ?_)
  exact w_X0_goBack_2 C  2000000 _ _ _ _ _ _ _ hf hP hD hS (lv_sub hl [1, 2, 0] rfl)
/-! MarbleFloor$Cells.copyBalls([[I[[I)V -/
abbrev wlX0_copyBalls_A : List Cond := Cond.code yX0_copyBalls cX0_copyBalls 4 none :: tbG
abbrev rmX0_copyBalls_A : Room := { frames := 1, cells := 0, slots := 0, locals := 60 }
theorem qnX0_copyBalls_A : yX0_copyBalls.cls = RX0 ∧ yX0_copyBalls.cls ≠ "java/lang/invoke/MethodHandle" ∧ yX0_copyBalls.cls ≠ "java/lang/invoke/VarHandle" ∧ (parseMethodDescriptor yX0_copyBalls.desc).map (fun d => d.parameters.length) = some 2 := by decide +kernel
def f_X0_copyBalls_A_2 (i0 : Nat → Int32)  : Nat → (Nat → Nat → Int32) → Int32 → Option ((Nat → Nat → Int32))
  | 0, _, _ => none
  | n + 1, r0, x3 => if 4 ≤ x3 then (some (r0)) else (ck (inb x3 4) (ck (inb x3 4) (f_X0_copyBalls_A_2 i0 n (va_up r0 (20 + x3.toNatClampNeg) (va_cpy (r0 (10 + x3.toNatClampNeg)) (r0 (20 + x3.toNatClampNeg)) (0 : Int32).toNatClampNeg (0 : Int32).toNatClampNeg (10 : Int32).toNatClampNeg)) (x3 + 1))))
set_option maxRecDepth 100000 in
set_option maxHeartbeats 4000000 in
theorem w_X0_copyBalls_A_2 {p : Program} {l : Launch} {e : Env} {s : State} {m : MethodId} {args : Array Value} {below : List Frame} {meth : Method} {c : Code} {A : Nat → Prop} {D : va_G} {cs zs : Nat → Nat} {h0 : Nat} {a0 : Nat → Nat} {i0 : Nat → Int32} {q : (Nat → Nat → Int32)} (C : Cx p s m args meth c A D cs zs cX0_copyBalls 4 none RX0)  : ∀ (n : Nat), ∀ (r0 : Nat → Nat → Int32) (x3 : Int32) (H : Heap) (locs : List Loc) (ls : Array Slot), f_X0_copyBalls_A_2 i0 n r0 x3 = some q → va_P D vwCl (W0 cs h0 a0 i0 r0) H → va_D A (W0 cs h0 a0 i0 r0) → va_S A s.heap H locs → lv_has ls 4 [(1, .ref (a0 0)), (2, .ref (a0 1)), (3, .int x3)] → W p l e rmX0_copyBalls_A s m args below meth c H locs 0 0 (MQ below (Qv D cs A (W0 cs h0 a0 i0 q)) args s 0 0 A) (F0 m 2 ls []) := by
  obtain ⟨hx, hb, hr, hml, hown, hts, hK, hA, hlocks, hZ⟩ := id C
  intro n
  induction n with
  | zero =>
    intro r0 x3 H locs ls hf
    rw [f_X0_copyBalls_A_2] at hf
    cases hf
  | succ n ih =>
    intro r0 x3 H locs ls hf hP hD hS hl
    rw [f_X0_copyBalls_A_2] at hf
    refine lv_iload_n hx hb dX0_copyBalls_2 rfl (lv_at hl 2 rfl) ?_
    refine lv_iconst (v := 4) hx hb dX0_copyBalls_3 (by decide) ?_
    refine lv_icmp_ge (tgt := 26) hx hb dX0_copyBalls_4 (by decide) (fun hc => ?_) (fun hc => ?_)
    · have hf := ite_t hf hc
      obtain rfl := Option.some.inj hf
      exact k_vret hx hb hr hlocks hK hP hD hS dX0_copyBalls_26
    · have hf := ite_f hf hc
      refine lv_aload_n hx hb dX0_copyBalls_7 rfl (lv_at hl 0 rfl) ?_
      refine lv_iload_n hx hb dX0_copyBalls_8 rfl (lv_at hl 2 rfl) ?_
      have hj1 := inb_lt (ck_in hf)
      refine k_aald (f := fun j => a0 (10 + j)) (j := x3.toNatClampNeg) hx hb hK hP 1 5 rfl rfl rfl (ck_in hf) rfl dX0_copyBalls_9 ?_
      have hf := ck_2 hf
      refine lv_iconst (v := 0) hx hb dX0_copyBalls_10 (by decide) ?_
      refine lv_aload_n hx hb dX0_copyBalls_11 rfl (lv_at hl 1 rfl) ?_
      refine lv_iload_n hx hb dX0_copyBalls_12 rfl (lv_at hl 2 rfl) ?_
      have hj2 := inb_lt (ck_in hf)
      refine k_aald (f := fun j => a0 (20 + j)) (j := x3.toNatClampNeg) hx hb hK hP 2 5 rfl rfl rfl (ck_in hf) rfl dX0_copyBalls_13 ?_
      have hf := ck_2 hf
      refine lv_iconst (v := 0) hx hb dX0_copyBalls_14 (by decide) ?_
      refine lv_bipush (v := 10) hx hb dX0_copyBalls_15 (by decide) ?_
      refine va_copyi (f := r0 (10 + x3.toNatClampNeg)) (g := r0 (20 + x3.toNatClampNeg)) hx hb (hml.trans hl.1.symm) hown (hts _ mlX0_76) (hts _ ntacopy) (hts _ stacopy) (hts _ ini_System) hK hP hD hS (4 + x3.toNatClampNeg) (8 + x3.toNatClampNeg) 0 0 (row0_10 hj1) (row0_20 hj2) rfl rfl rfl (by decide) (by decide) (by decide) (by decide) (by decide) (fun _ _ => rfl) (Nat.le_of_ble_eq_true rfl) (Nat.le_of_ble_eq_true rfl) dX0_copyBalls_17 (fun H locs hP hD hS => ?_)
      obtain ⟨hP, hD⟩ := set0_20 hj2 hP hD
      refine lv_iinc (v := x3 + 1) (lv' := [(3, .int (x3 + 1)), (1, .ref (a0 0)), (2, .ref (a0 1))]) hx hb dX0_copyBalls_20 hl (k := 2) rfl rfl (by decide) rfl (fun ls hl => ?_)
      refine lv_goto (tgt := 2) hx hb dX0_copyBalls_23 (by decide) ?_
      exact ih _ _ _ _ _ hf hP hD hS (lv_sub hl [1, 2, 0] rfl)
def f_X0_copyBalls_A  (i0 : Nat → Int32) (r0 : Nat → Nat → Int32)  : Option ((Nat → Nat → Int32)) := f_X0_copyBalls_A_2 i0 2000000 r0 0
set_option maxRecDepth 100000 in
set_option maxHeartbeats 4000000 in
theorem c_X0_copyBalls_A {l : Launch} {D : va_G} {cs zs : Nat → Nat} {h0 : Nat} {a0 : Nat → Nat} {i0 : Nat → Int32} {r0 : Nat → Nat → Int32}  {q : (Nat → Nat → Int32)} (hf : f_X0_copyBalls_A i0 r0 = some q) : Mv l yX0_copyBalls wlX0_copyBalls_A rmX0_copyBalls_A D cs zs [.ref h0, .ref (a0 0), .ref (a0 1)] (W0 cs h0 a0 i0 r0) (W0 cs h0 a0 i0 q) := by
  refine Mv.of RX0 (by decide) rfl (Nat.le_of_ble_eq_true rfl) (fun p e s m below meth c A C hP hD hS ls hl => ?_)
  generalize ([.ref h0, .ref (a0 0), .ref (a0 1)] : List Value).toArray = args at C ⊢
  obtain ⟨hx, hb, hr, hml, hown, hts, hK, hA, hlocks, hZ⟩ := id C
  have hl : lv_has ls 4 [(0, .ref h0), (1, .ref (a0 0)), (2, .ref (a0 1))] := hl
  rw [f_X0_copyBalls_A] at hf
  refine lv_iconst (v := 0) hx hb dX0_copyBalls_0 (by decide) ?_
  refine lv_istore_n (lv' := [(3, .int 0), (0, .ref h0), (1, .ref (a0 0)), (2, .ref (a0 1))]) hx hb dX0_copyBalls_1 rfl hl (by decide) rfl (fun ls hl => ?_)
  exact w_X0_copyBalls_A_2 C  2000000 _ _ _ _ _ hf hP hD hS (lv_sub hl [2, 3, 0] rfl)
/-! MarbleFloor$Cells.isAsSaved()Z -/
abbrev wlX0_isAsSaved : List Cond := Cond.code yX0_isAsSaved cX0_isAsSaved 3 (some .boolean) :: tbG
abbrev rmX0_isAsSaved : Room := { frames := 0, cells := 0, slots := 0, locals := 0 }
theorem qnX0_isAsSaved : yX0_isAsSaved.cls = RX0 ∧ yX0_isAsSaved.cls ≠ "java/lang/invoke/MethodHandle" ∧ yX0_isAsSaved.cls ≠ "java/lang/invoke/VarHandle" ∧ (parseMethodDescriptor yX0_isAsSaved.desc).map (fun d => d.parameters.length) = some 0 := by decide +kernel
def f_X0_isAsSaved_9 (i0 : Nat → Int32) (r0 : Nat → Nat → Int32) (K2 : Int32 → Option (Int32)) : Nat → Int32 → Int32 → Option (Int32)
  | 0, _, _ => none
  | n + 1, x1, x2 => if (i0 4) ≤ x2 then (K2 (x1 + 1)) else (ck (inb x1 4) (ck (inb x2 10) (ck (inb x1 4) (ck (inb x2 10) (if (r0 (10 + x1.toNatClampNeg) x2.toNatClampNeg) = (r0 (20 + x1.toNatClampNeg) x2.toNatClampNeg) then (f_X0_isAsSaved_9 i0 r0 K2 n x1 (x2 + 1)) else (some (0)))))))
set_option maxRecDepth 100000 in
set_option maxHeartbeats 4000000 in
theorem w_X0_isAsSaved_9 {p : Program} {l : Launch} {e : Env} {s : State} {m : MethodId} {args : Array Value} {below : List Frame} {meth : Method} {c : Code} {A : Nat → Prop} {D : va_G} {cs zs : Nat → Nat} {h0 : Nat} {a0 : Nat → Nat} {i0 : Nat → Int32} {r0 : Nat → Nat → Int32} {q : Int32} (C : Cx p s m args meth c A D cs zs cX0_isAsSaved 3 (some .boolean) RX0) (K2 : Int32 → Option (Int32)) (hK2 : ∀ (x1 : Int32) (H : Heap) (locs : List Loc) (ls : Array Slot), K2 x1 = some q → va_P D vwCl (W0 cs h0 a0 i0 r0) H → va_D A (W0 cs h0 a0 i0 r0) → va_S A s.heap H locs → lv_has ls 3 [(0, .ref h0), (1, .int x1)] → W p l e rmX0_isAsSaved s m args below meth c H locs 0 0 (MQ below (Qi D cs A q (W0 cs h0 a0 i0 r0)) args s 0 0 A) (F0 m 2 ls [])) : ∀ (n : Nat), ∀ (x1 : Int32) (x2 : Int32) (H : Heap) (locs : List Loc) (ls : Array Slot), f_X0_isAsSaved_9 i0 r0 K2 n x1 x2 = some q → va_P D vwCl (W0 cs h0 a0 i0 r0) H → va_D A (W0 cs h0 a0 i0 r0) → va_S A s.heap H locs → lv_has ls 3 [(0, .ref h0), (1, .int x1), (2, .int x2)] → W p l e rmX0_isAsSaved s m args below meth c H locs 0 0 (MQ below (Qi D cs A q (W0 cs h0 a0 i0 r0)) args s 0 0 A) (F0 m 9 ls []) := by
  obtain ⟨hx, hb, hr, hml, hown, hts, hK, hA, hlocks, hZ⟩ := id C
  intro n
  induction n with
  | zero =>
    intro x1 x2 H locs ls hf
    rw [f_X0_isAsSaved_9] at hf
    cases hf
  | succ n ih =>
    intro x1 x2 H locs ls hf hP hD hS hl
    rw [f_X0_isAsSaved_9] at hf
    refine lv_iload_n hx hb dX0_isAsSaved_9 rfl (lv_at hl 2 rfl) ?_
    refine lv_aload_n hx hb dX0_isAsSaved_10 rfl (lv_at hl 0 rfl) ?_
    refine va_get (D := D) (ci := 0) (v := .int (i0 4)) (C := RX0) (T := TX0) (N := 7) hx hb hts hiX0 hown hK hP 0 rfl rfl 4 (by decide) (hts _ flX0_30) (fun _ h9 => h9) rfl dX0_isAsSaved_11 ?_
    refine lv_icmp_ge (tgt := 44) hx hb dX0_isAsSaved_14 (by decide) (fun hc => ?_) (fun hc => ?_)
    · have hf := ite_t hf hc
      refine lv_iinc (v := x1 + 1) (lv' := [(1, .int (x1 + 1)), (0, .ref h0), (2, .int x2)]) hx hb dX0_isAsSaved_44 hl (k := 1) rfl rfl (by decide) rfl (fun ls hl => ?_)
      refine lv_goto (tgt := 2) hx hb dX0_isAsSaved_47 (by decide) ?_
      exact hK2 _ _ _ _ hf hP hD hS (lv_sub hl [1, 0] rfl)
    · have hf := ite_f hf hc
      refine lv_aload_n hx hb dX0_isAsSaved_17 rfl (lv_at hl 0 rfl) ?_
      refine va_get (D := D) (ci := 0) (v := .ref (a0 0)) (C := RX0) (T := TX0) (N := 7) hx hb hts hiX0 hown hK hP 0 rfl rfl 0 (by decide) (hts _ flX0_13) (fun _ h9 => h9) rfl dX0_isAsSaved_18 ?_
      refine lv_iload_n hx hb dX0_isAsSaved_21 rfl (lv_at hl 1 rfl) ?_
      have hj1 := inb_lt (ck_in hf)
      refine k_aald (f := fun j => a0 (10 + j)) (j := x1.toNatClampNeg) hx hb hK hP 1 5 rfl rfl rfl (ck_in hf) rfl dX0_isAsSaved_22 ?_
      have hf := ck_2 hf
      refine lv_iload_n hx hb dX0_isAsSaved_23 rfl (lv_at hl 2 rfl) ?_
      refine va_iald (f := r0 (10 + x1.toNatClampNeg)) hx hb hK hP (4 + x1.toNatClampNeg) 0 (row0_10 hj1) rfl (ck_in hf) dX0_isAsSaved_24 ?_
      have hf := ck_2 hf
      refine lv_aload_n hx hb dX0_isAsSaved_25 rfl (lv_at hl 0 rfl) ?_
      refine va_get (D := D) (ci := 0) (v := .ref (a0 1)) (C := RX0) (T := TX0) (N := 7) hx hb hts hiX0 hown hK hP 0 rfl rfl 1 (by decide) (hts _ flX0_16) (fun _ h9 => h9) rfl dX0_isAsSaved_26 ?_
      refine lv_iload_n hx hb dX0_isAsSaved_29 rfl (lv_at hl 1 rfl) ?_
      have hj2 := inb_lt (ck_in hf)
      refine k_aald (f := fun j => a0 (20 + j)) (j := x1.toNatClampNeg) hx hb hK hP 2 5 rfl rfl rfl (ck_in hf) rfl dX0_isAsSaved_30 ?_
      have hf := ck_2 hf
      refine lv_iload_n hx hb dX0_isAsSaved_31 rfl (lv_at hl 2 rfl) ?_
      refine va_iald (f := r0 (20 + x1.toNatClampNeg)) hx hb hK hP (8 + x1.toNatClampNeg) 0 (row0_20 hj2) rfl (ck_in hf) dX0_isAsSaved_32 ?_
      have hf := ck_2 hf
      refine lv_icmp_eq (tgt := 38) hx hb dX0_isAsSaved_33 (by decide) (fun hc => ?_) (fun hc => ?_)
      · have hf := ite_t hf hc
        refine lv_iinc (v := x2 + 1) (lv' := [(2, .int (x2 + 1)), (0, .ref h0), (1, .int x1)]) hx hb dX0_isAsSaved_38 hl (k := 2) rfl rfl (by decide) rfl (fun ls hl => ?_)
        refine lv_goto (tgt := 9) hx hb dX0_isAsSaved_41 (by decide) ?_
        exact ih _ _ _ _ _ hf hP hD hS (lv_sub hl [1, 2, 0] rfl)
      · have hf := ite_f hf hc
        refine lv_iconst (v := 0) hx hb dX0_isAsSaved_36 (by decide) ?_
        obtain rfl := Option.some.inj hf
        exact k_zret (r := 0) hx hb hr hlocks rfl hK hP hD hS dX0_isAsSaved_37
def f_X0_isAsSaved_2 (i0 : Nat → Int32) (r0 : Nat → Nat → Int32)  : Nat → Int32 → Option (Int32)
  | 0, _ => none
  | n + 1, x1 => if 4 ≤ x1 then (some (1)) else (f_X0_isAsSaved_9 i0 r0 (f_X0_isAsSaved_2 i0 r0 n) 2000000 x1 0)
set_option maxRecDepth 100000 in
set_option maxHeartbeats 4000000 in
theorem w_X0_isAsSaved_2 {p : Program} {l : Launch} {e : Env} {s : State} {m : MethodId} {args : Array Value} {below : List Frame} {meth : Method} {c : Code} {A : Nat → Prop} {D : va_G} {cs zs : Nat → Nat} {h0 : Nat} {a0 : Nat → Nat} {i0 : Nat → Int32} {r0 : Nat → Nat → Int32} {q : Int32} (C : Cx p s m args meth c A D cs zs cX0_isAsSaved 3 (some .boolean) RX0)  : ∀ (n : Nat), ∀ (x1 : Int32) (H : Heap) (locs : List Loc) (ls : Array Slot), f_X0_isAsSaved_2 i0 r0 n x1 = some q → va_P D vwCl (W0 cs h0 a0 i0 r0) H → va_D A (W0 cs h0 a0 i0 r0) → va_S A s.heap H locs → lv_has ls 3 [(0, .ref h0), (1, .int x1)] → W p l e rmX0_isAsSaved s m args below meth c H locs 0 0 (MQ below (Qi D cs A q (W0 cs h0 a0 i0 r0)) args s 0 0 A) (F0 m 2 ls []) := by
  obtain ⟨hx, hb, hr, hml, hown, hts, hK, hA, hlocks, hZ⟩ := id C
  intro n
  induction n with
  | zero =>
    intro x1 H locs ls hf
    rw [f_X0_isAsSaved_2] at hf
    cases hf
  | succ n ih =>
    intro x1 H locs ls hf hP hD hS hl
    rw [f_X0_isAsSaved_2] at hf
    refine lv_iload_n hx hb dX0_isAsSaved_2 rfl (lv_at hl 1 rfl) ?_
    refine lv_iconst (v := 4) hx hb dX0_isAsSaved_3 (by decide) ?_
    refine lv_icmp_ge (tgt := 50) hx hb dX0_isAsSaved_4 (by decide) (fun hc => ?_) (fun hc => ?_)
    · have hf := ite_t hf hc
      refine lv_iconst (v := 1) hx hb dX0_isAsSaved_50 (by decide) ?_
      obtain rfl := Option.some.inj hf
      exact k_zret (r := 1) hx hb hr hlocks rfl hK hP hD hS dX0_isAsSaved_51
    · have hf := ite_f hf hc
      refine lv_iconst (v := 0) hx hb dX0_isAsSaved_7 (by decide) ?_
      refine lv_istore_n (lv' := [(2, .int 0), (0, .ref h0), (1, .int x1)]) hx hb dX0_isAsSaved_8 rfl hl (by decide) rfl (fun ls hl => ?_)
      exact w_X0_isAsSaved_9 C _ (ih) 2000000 _ _ _ _ _ hf hP hD hS (lv_sub hl [1, 2, 0] rfl)
def f_X0_isAsSaved  (i0 : Nat → Int32) (r0 : Nat → Nat → Int32)  : Option (Int32) := f_X0_isAsSaved_2 i0 r0 2000000 0
set_option maxRecDepth 100000 in
set_option maxHeartbeats 4000000 in
theorem c_X0_isAsSaved {l : Launch} {D : va_G} {cs zs : Nat → Nat} {h0 : Nat} {a0 : Nat → Nat} {i0 : Nat → Int32} {r0 : Nat → Nat → Int32}  {q : Int32} (hf : f_X0_isAsSaved i0 r0 = some q) : Mi l yX0_isAsSaved wlX0_isAsSaved rmX0_isAsSaved D cs zs [.ref h0] (W0 cs h0 a0 i0 r0) q (W0 cs h0 a0 i0 r0) := by
  refine Mi.of RX0 (by decide) rfl (Nat.le_of_ble_eq_true rfl) (fun p e s m below meth c A C hP hD hS ls hl => ?_)
  generalize ([.ref h0] : List Value).toArray = args at C ⊢
  obtain ⟨hx, hb, hr, hml, hown, hts, hK, hA, hlocks, hZ⟩ := id C
  have hl : lv_has ls 3 [(0, .ref h0)] := hl
  rw [f_X0_isAsSaved] at hf
  refine lv_iconst (v := 0) hx hb dX0_isAsSaved_0 (by decide) ?_
  refine lv_istore_n (lv' := [(1, .int 0), (0, .ref h0)]) hx hb dX0_isAsSaved_1 rfl hl (by decide) rfl (fun ls hl => ?_)
  exact w_X0_isAsSaved_2 C  2000000 _ _ _ _ hf hP hD hS (lv_sub hl [1, 0] rfl)
/-! MarbleFloor$Cells.copyBalls([[I[[I)V -/
abbrev wlX0_copyBalls_B : List Cond := Cond.code yX0_copyBalls cX0_copyBalls 4 none :: tbG
abbrev rmX0_copyBalls_B : Room := { frames := 1, cells := 0, slots := 0, locals := 60 }
theorem qnX0_copyBalls_B : yX0_copyBalls.cls = RX0 ∧ yX0_copyBalls.cls ≠ "java/lang/invoke/MethodHandle" ∧ yX0_copyBalls.cls ≠ "java/lang/invoke/VarHandle" ∧ (parseMethodDescriptor yX0_copyBalls.desc).map (fun d => d.parameters.length) = some 2 := by decide +kernel
def f_X0_copyBalls_B_2 (i0 : Nat → Int32)  : Nat → (Nat → Nat → Int32) → Int32 → Option ((Nat → Nat → Int32))
  | 0, _, _ => none
  | n + 1, r0, x3 => if 4 ≤ x3 then (some (r0)) else (ck (inb x3 4) (ck (inb x3 4) (f_X0_copyBalls_B_2 i0 n (va_up r0 (10 + x3.toNatClampNeg) (va_cpy (r0 (20 + x3.toNatClampNeg)) (r0 (10 + x3.toNatClampNeg)) (0 : Int32).toNatClampNeg (0 : Int32).toNatClampNeg (10 : Int32).toNatClampNeg)) (x3 + 1))))
set_option maxRecDepth 100000 in
set_option maxHeartbeats 4000000 in
theorem w_X0_copyBalls_B_2 {p : Program} {l : Launch} {e : Env} {s : State} {m : MethodId} {args : Array Value} {below : List Frame} {meth : Method} {c : Code} {A : Nat → Prop} {D : va_G} {cs zs : Nat → Nat} {h0 : Nat} {a0 : Nat → Nat} {i0 : Nat → Int32} {q : (Nat → Nat → Int32)} (C : Cx p s m args meth c A D cs zs cX0_copyBalls 4 none RX0)  : ∀ (n : Nat), ∀ (r0 : Nat → Nat → Int32) (x3 : Int32) (H : Heap) (locs : List Loc) (ls : Array Slot), f_X0_copyBalls_B_2 i0 n r0 x3 = some q → va_P D vwCl (W0 cs h0 a0 i0 r0) H → va_D A (W0 cs h0 a0 i0 r0) → va_S A s.heap H locs → lv_has ls 4 [(1, .ref (a0 1)), (2, .ref (a0 0)), (3, .int x3)] → W p l e rmX0_copyBalls_B s m args below meth c H locs 0 0 (MQ below (Qv D cs A (W0 cs h0 a0 i0 q)) args s 0 0 A) (F0 m 2 ls []) := by
  obtain ⟨hx, hb, hr, hml, hown, hts, hK, hA, hlocks, hZ⟩ := id C
  intro n
  induction n with
  | zero =>
    intro r0 x3 H locs ls hf
    rw [f_X0_copyBalls_B_2] at hf
    cases hf
  | succ n ih =>
    intro r0 x3 H locs ls hf hP hD hS hl
    rw [f_X0_copyBalls_B_2] at hf
    refine lv_iload_n hx hb dX0_copyBalls_2 rfl (lv_at hl 2 rfl) ?_
    refine lv_iconst (v := 4) hx hb dX0_copyBalls_3 (by decide) ?_
    refine lv_icmp_ge (tgt := 26) hx hb dX0_copyBalls_4 (by decide) (fun hc => ?_) (fun hc => ?_)
    · have hf := ite_t hf hc
      obtain rfl := Option.some.inj hf
      exact k_vret hx hb hr hlocks hK hP hD hS dX0_copyBalls_26
    · have hf := ite_f hf hc
      refine lv_aload_n hx hb dX0_copyBalls_7 rfl (lv_at hl 0 rfl) ?_
      refine lv_iload_n hx hb dX0_copyBalls_8 rfl (lv_at hl 2 rfl) ?_
      have hj1 := inb_lt (ck_in hf)
      refine k_aald (f := fun j => a0 (20 + j)) (j := x3.toNatClampNeg) hx hb hK hP 2 5 rfl rfl rfl (ck_in hf) rfl dX0_copyBalls_9 ?_
      have hf := ck_2 hf
      refine lv_iconst (v := 0) hx hb dX0_copyBalls_10 (by decide) ?_
      refine lv_aload_n hx hb dX0_copyBalls_11 rfl (lv_at hl 1 rfl) ?_
      refine lv_iload_n hx hb dX0_copyBalls_12 rfl (lv_at hl 2 rfl) ?_
      have hj2 := inb_lt (ck_in hf)
      refine k_aald (f := fun j => a0 (10 + j)) (j := x3.toNatClampNeg) hx hb hK hP 1 5 rfl rfl rfl (ck_in hf) rfl dX0_copyBalls_13 ?_
      have hf := ck_2 hf
      refine lv_iconst (v := 0) hx hb dX0_copyBalls_14 (by decide) ?_
      refine lv_bipush (v := 10) hx hb dX0_copyBalls_15 (by decide) ?_
      refine va_copyi (f := r0 (20 + x3.toNatClampNeg)) (g := r0 (10 + x3.toNatClampNeg)) hx hb (hml.trans hl.1.symm) hown (hts _ mlX0_76) (hts _ ntacopy) (hts _ stacopy) (hts _ ini_System) hK hP hD hS (8 + x3.toNatClampNeg) (4 + x3.toNatClampNeg) 0 0 (row0_20 hj1) (row0_10 hj2) rfl rfl rfl (by decide) (by decide) (by decide) (by decide) (by decide) (fun _ _ => rfl) (Nat.le_of_ble_eq_true rfl) (Nat.le_of_ble_eq_true rfl) dX0_copyBalls_17 (fun H locs hP hD hS => ?_)
      obtain ⟨hP, hD⟩ := set0_10 hj2 hP hD
      refine lv_iinc (v := x3 + 1) (lv' := [(3, .int (x3 + 1)), (1, .ref (a0 1)), (2, .ref (a0 0))]) hx hb dX0_copyBalls_20 hl (k := 2) rfl rfl (by decide) rfl (fun ls hl => ?_)
      refine lv_goto (tgt := 2) hx hb dX0_copyBalls_23 (by decide) ?_
      exact ih _ _ _ _ _ hf hP hD hS (lv_sub hl [1, 2, 0] rfl)
def f_X0_copyBalls_B  (i0 : Nat → Int32) (r0 : Nat → Nat → Int32)  : Option ((Nat → Nat → Int32)) := f_X0_copyBalls_B_2 i0 2000000 r0 0
set_option maxRecDepth 100000 in
set_option maxHeartbeats 4000000 in
theorem c_X0_copyBalls_B {l : Launch} {D : va_G} {cs zs : Nat → Nat} {h0 : Nat} {a0 : Nat → Nat} {i0 : Nat → Int32} {r0 : Nat → Nat → Int32}  {q : (Nat → Nat → Int32)} (hf : f_X0_copyBalls_B i0 r0 = some q) : Mv l yX0_copyBalls wlX0_copyBalls_B rmX0_copyBalls_B D cs zs [.ref h0, .ref (a0 1), .ref (a0 0)] (W0 cs h0 a0 i0 r0) (W0 cs h0 a0 i0 q) := by
  refine Mv.of RX0 (by decide) rfl (Nat.le_of_ble_eq_true rfl) (fun p e s m below meth c A C hP hD hS ls hl => ?_)
  generalize ([.ref h0, .ref (a0 1), .ref (a0 0)] : List Value).toArray = args at C ⊢
  obtain ⟨hx, hb, hr, hml, hown, hts, hK, hA, hlocks, hZ⟩ := id C
  have hl : lv_has ls 4 [(0, .ref h0), (1, .ref (a0 1)), (2, .ref (a0 0))] := hl
  rw [f_X0_copyBalls_B] at hf
  refine lv_iconst (v := 0) hx hb dX0_copyBalls_0 (by decide) ?_
  refine lv_istore_n (lv' := [(3, .int 0), (0, .ref h0), (1, .ref (a0 1)), (2, .ref (a0 0))]) hx hb dX0_copyBalls_1 rfl hl (by decide) rfl (fun ls hl => ?_)
  exact w_X0_copyBalls_B_2 C  2000000 _ _ _ _ _ hf hP hD hS (lv_sub hl [2, 3, 0] rfl)
/-! MarbleFloor$Cells.beatsTillAsNow()I -/
abbrev wlX0_beatsTillAsNow : List Cond := Cond.code yX0_beatsTillAsNow cX0_beatsTillAsNow 4 (some .int) :: tbG
abbrev rmX0_beatsTillAsNow : Room := { frames := 3, cells := 0, slots := 0, locals := 83 }
theorem qnX0_beatsTillAsNow : yX0_beatsTillAsNow.cls = RX0 ∧ yX0_beatsTillAsNow.cls ≠ "java/lang/invoke/MethodHandle" ∧ yX0_beatsTillAsNow.cls ≠ "java/lang/invoke/VarHandle" ∧ (parseMethodDescriptor yX0_beatsTillAsNow.desc).map (fun d => d.parameters.length) = some 0 := by decide +kernel
def f_X0_beatsTillAsNow_64 (i0 : Nat → Int32) (K18 : (Nat → Nat → Int32) → Int32 → Int32 → Int32 → Option (Int32 × (Nat → Nat → Int32))) (r0 : Nat → Nat → Int32) (x1 : Int32) (x2 : Int32) (x3 : Int32) : Option (Int32 × (Nat → Nat → Int32)) := K18 r0 x1 x2 (x3 + 1)
set_option maxRecDepth 100000 in
set_option maxHeartbeats 4000000 in
theorem w_X0_beatsTillAsNow_64 {p : Program} {l : Launch} {e : Env} {s : State} {m : MethodId} {args : Array Value} {below : List Frame} {meth : Method} {c : Code} {A : Nat → Prop} {D : va_G} {cs zs : Nat → Nat} {h0 : Nat} {a0 : Nat → Nat} {i0 : Nat → Int32} {q : Int32 × (Nat → Nat → Int32)} (C : Cx p s m args meth c A D cs zs cX0_beatsTillAsNow 4 (some .int) RX0) (K18 : (Nat → Nat → Int32) → Int32 → Int32 → Int32 → Option (Int32 × (Nat → Nat → Int32))) (hK18 : ∀ (r0 : Nat → Nat → Int32) (x1 : Int32) (x2 : Int32) (x3 : Int32) (H : Heap) (locs : List Loc) (ls : Array Slot), K18 r0 x1 x2 x3 = some q → va_P D vwCl (W0 cs h0 a0 i0 r0) H → va_D A (W0 cs h0 a0 i0 r0) → va_S A s.heap H locs → lv_has ls 4 [(0, .ref h0), (1, .int x1), (2, .int x2), (3, .int x3)] → W p l e rmX0_beatsTillAsNow s m args below meth c H locs 0 0 (MQ below (Qi D cs A q.1 (W0 cs h0 a0 i0 q.2)) args s 0 0 A) (F0 m 18 ls [])) : ∀ (r0 : Nat → Nat → Int32) (x1 : Int32) (x2 : Int32) (x3 : Int32) (H : Heap) (locs : List Loc) (ls : Array Slot), f_X0_beatsTillAsNow_64 i0 K18 r0 x1 x2 x3 = some q → va_P D vwCl (W0 cs h0 a0 i0 r0) H → va_D A (W0 cs h0 a0 i0 r0) → va_S A s.heap H locs → lv_has ls 4 [(0, .ref h0), (1, .int x1), (2, .int x2), (3, .int x3)] → W p l e rmX0_beatsTillAsNow s m args below meth c H locs 0 0 (MQ below (Qi D cs A q.1 (W0 cs h0 a0 i0 q.2)) args s 0 0 A) (F0 m 64 ls []) := by
  obtain ⟨hx, hb, hr, hml, hown, hts, hK, hA, hlocks, hZ⟩ := id C
  intro r0 x1 x2 x3 H locs ls hf hP hD hS hl
  rw [f_X0_beatsTillAsNow_64] at hf
  refine lv_iinc (v := x3 + 1) (lv' := [(3, .int (x3 + 1)), (0, .ref h0), (1, .int x1), (2, .int x2)]) hx hb dX0_beatsTillAsNow_64 hl (k := 3) rfl rfl (by decide) rfl (fun ls hl => ?_)
  refine lv_goto (tgt := 18) hx hb dX0_beatsTillAsNow_67 (by decide) ?_
  exact hK18 _ _ _ _ _ _ _ hf hP hD hS (lv_sub hl [1, 2, 3, 0] rfl)
def f_X0_beatsTillAsNow_46 (i0 : Nat → Int32) (K18 : (Nat → Nat → Int32) → Int32 → Int32 → Int32 → Option (Int32 × (Nat → Nat → Int32))) (r0 : Nat → Nat → Int32) (x1 : Int32) (x3 : Int32) (y0 : Int32) : Option (Int32 × (Nat → Nat → Int32)) := bd (f_X0_moveAll i0 r0) (fun q6 => if y0 = 0 then (bd (f_X0_isAsSaved i0 q6) (fun q7 => if q7 = 0 then (f_X0_beatsTillAsNow_64 i0 K18 q6 x1 y0 x3) else (f_X0_beatsTillAsNow_64 i0 K18 q6 x3 y0 x3))) else (f_X0_beatsTillAsNow_64 i0 K18 q6 x1 y0 x3))
set_option maxRecDepth 100000 in
set_option maxHeartbeats 4000000 in
theorem w_X0_beatsTillAsNow_46 {p : Program} {l : Launch} {e : Env} {s : State} {m : MethodId} {args : Array Value} {below : List Frame} {meth : Method} {c : Code} {A : Nat → Prop} {D : va_G} {cs zs : Nat → Nat} {h0 : Nat} {a0 : Nat → Nat} {i0 : Nat → Int32} {q : Int32 × (Nat → Nat → Int32)} (C : Cx p s m args meth c A D cs zs cX0_beatsTillAsNow 4 (some .int) RX0) (K18 : (Nat → Nat → Int32) → Int32 → Int32 → Int32 → Option (Int32 × (Nat → Nat → Int32))) (hK18 : ∀ (r0 : Nat → Nat → Int32) (x1 : Int32) (x2 : Int32) (x3 : Int32) (H : Heap) (locs : List Loc) (ls : Array Slot), K18 r0 x1 x2 x3 = some q → va_P D vwCl (W0 cs h0 a0 i0 r0) H → va_D A (W0 cs h0 a0 i0 r0) → va_S A s.heap H locs → lv_has ls 4 [(0, .ref h0), (1, .int x1), (2, .int x2), (3, .int x3)] → W p l e rmX0_beatsTillAsNow s m args below meth c H locs 0 0 (MQ below (Qi D cs A q.1 (W0 cs h0 a0 i0 q.2)) args s 0 0 A) (F0 m 18 ls [])) : ∀ (r0 : Nat → Nat → Int32) (x1 : Int32) (x3 : Int32) (y0 : Int32) (H : Heap) (locs : List Loc) (ls : Array Slot), f_X0_beatsTillAsNow_46 i0 K18 r0 x1 x3 y0 = some q → va_P D vwCl (W0 cs h0 a0 i0 r0) H → va_D A (W0 cs h0 a0 i0 r0) → va_S A s.heap H locs → lv_has ls 4 [(0, .ref h0), (1, .int x1), (3, .int x3)] → W p l e rmX0_beatsTillAsNow s m args below meth c H locs 0 0 (MQ below (Qi D cs A q.1 (W0 cs h0 a0 i0 q.2)) args s 0 0 A) (F0 m 46 ls [.int y0]) := by
  obtain ⟨hx, hb, hr, hml, hown, hts, hK, hA, hlocks, hZ⟩ := id C
  intro r0 x1 x3 y0 H locs ls hf hP hD hS hl
  rw [f_X0_beatsTillAsNow_46] at hf
  refine lv_istore_n (lv' := [(2, .int y0), (0, .ref h0), (1, .int x1), (3, .int x3)]) hx hb dX0_beatsTillAsNow_46 rfl hl (by decide) rfl (fun ls hl => ?_)
  refine lv_aload_n hx hb dX0_beatsTillAsNow_47 rfl (lv_at hl 1 rfl) ?_
  obtain ⟨q6, hq6, hf⟩ := bd_s hf
  refine k_sVv (ws2 := W0 cs h0 a0 i0 q6) (As := []) (rest := []) hx hb hml hown hts hK hA hZ hl.1 hP hD hS (c_X0_moveAll (h0 := h0) (a0 := a0) hq6) (gVt mlX0_55 imX0_moveAll seX0_moveAll inX0 coX0_moveAll) rfl qnX0_moveAll rfl rfl ⟨Nat.le_of_ble_eq_true rfl, Nat.le_of_ble_eq_true rfl⟩ 0 0 rfl rfl rfl rfl rfl (Nat.le_of_ble_eq_true rfl) ⟨Nat.zero_le _, Nat.zero_le _⟩ dX0_beatsTillAsNow_48 (fun H locs hP hD hS => ?_)
  refine lv_iload_n hx hb dX0_beatsTillAsNow_51 rfl (lv_at hl 0 rfl) ?_
  refine lv_if_ne (tgt := 64) hx hb dX0_beatsTillAsNow_52 (by decide) (fun hc => ?_) (fun hc => ?_)
  · have hf := ite_f hf hc
    exact w_X0_beatsTillAsNow_64 C _ (hK18) _ _ _ _ _ _ _ hf hP hD hS (lv_sub hl [1, 2, 0, 3] rfl)
  · have hf := ite_t hf hc
    refine lv_aload_n hx hb dX0_beatsTillAsNow_55 rfl (lv_at hl 1 rfl) ?_
    obtain ⟨q7, hq7, hf⟩ := bd_s hf
    refine k_sVi (ws2 := W0 cs h0 a0 i0 q6) (As := []) (rest := []) hx hb hml hown hts hK hA hZ hl.1 hP hD hS (c_X0_isAsSaved (h0 := h0) (a0 := a0) hq7) (gVt mlX0_72 imX0_isAsSaved seX0_isAsSaved inX0 coX0_isAsSaved) rfl qnX0_isAsSaved rfl rfl ⟨Nat.le_of_ble_eq_true rfl, Nat.le_of_ble_eq_true rfl⟩ 0 0 rfl rfl rfl rfl rfl (Nat.le_of_ble_eq_true rfl) ⟨Nat.zero_le _, Nat.zero_le _⟩ dX0_beatsTillAsNow_56 (fun H locs hP hD hS => ?_)
    refine lv_if_eq (tgt := 64) hx hb dX0_beatsTillAsNow_59 (by decide) (fun hc => ?_) (fun hc => ?_)
    · have hf := ite_t hf hc
      exact w_X0_beatsTillAsNow_64 C _ (hK18) _ _ _ _ _ _ _ hf hP hD hS (lv_sub hl [1, 2, 0, 3] rfl)
    · have hf := ite_f hf hc
      refine lv_iload_n hx hb dX0_beatsTillAsNow_62 rfl (lv_at hl 3 rfl) ?_
      refine lv_istore_n (lv' := [(1, .int x3), (2, .int y0), (0, .ref h0), (3, .int x3)]) hx hb dX0_beatsTillAsNow_63 rfl hl (by decide) rfl (fun ls hl => ?_)
      exact w_X0_beatsTillAsNow_64 C _ (hK18) _ _ _ _ _ _ _ hf hP hD hS (lv_sub hl [2, 0, 1, 3] rfl)
def f_X0_beatsTillAsNow_70 (i0 : Nat → Int32)  (r0 : Nat → Nat → Int32) (x1 : Int32) : Option (Int32 × (Nat → Nat → Int32)) := bd (f_X0_copyBalls_B i0 r0) (fun q8 => some (x1, q8))
set_option maxRecDepth 100000 in
set_option maxHeartbeats 4000000 in
theorem w_X0_beatsTillAsNow_70 {p : Program} {l : Launch} {e : Env} {s : State} {m : MethodId} {args : Array Value} {below : List Frame} {meth : Method} {c : Code} {A : Nat → Prop} {D : va_G} {cs zs : Nat → Nat} {h0 : Nat} {a0 : Nat → Nat} {i0 : Nat → Int32} {q : Int32 × (Nat → Nat → Int32)} (C : Cx p s m args meth c A D cs zs cX0_beatsTillAsNow 4 (some .int) RX0)  : ∀ (r0 : Nat → Nat → Int32) (x1 : Int32) (H : Heap) (locs : List Loc) (ls : Array Slot), f_X0_beatsTillAsNow_70 i0 r0 x1 = some q → va_P D vwCl (W0 cs h0 a0 i0 r0) H → va_D A (W0 cs h0 a0 i0 r0) → va_S A s.heap H locs → lv_has ls 4 [(0, .ref h0), (1, .int x1)] → W p l e rmX0_beatsTillAsNow s m args below meth c H locs 0 0 (MQ below (Qi D cs A q.1 (W0 cs h0 a0 i0 q.2)) args s 0 0 A) (F0 m 70 ls []) := by
  obtain ⟨hx, hb, hr, hml, hown, hts, hK, hA, hlocks, hZ⟩ := id C
  intro r0 x1 H locs ls hf hP hD hS hl
  rw [f_X0_beatsTillAsNow_70] at hf
  refine lv_aload_n hx hb dX0_beatsTillAsNow_70 rfl (lv_at hl 0 rfl) ?_
  refine lv_aload_n hx hb dX0_beatsTillAsNow_71 rfl (lv_at hl 0 rfl) ?_
  refine va_get (D := D) (ci := 0) (v := .ref (a0 1)) (C := RX0) (T := TX0) (N := 7) hx hb hts hiX0 hown hK hP 0 rfl rfl 1 (by decide) (hts _ flX0_16) (fun _ h9 => h9) rfl dX0_beatsTillAsNow_72 ?_
  refine lv_aload_n hx hb dX0_beatsTillAsNow_75 rfl (lv_at hl 0 rfl) ?_
  refine va_get (D := D) (ci := 0) (v := .ref (a0 0)) (C := RX0) (T := TX0) (N := 7) hx hb hts hiX0 hown hK hP 0 rfl rfl 0 (by decide) (hts _ flX0_13) (fun _ h9 => h9) rfl dX0_beatsTillAsNow_76 ?_
  obtain ⟨q8, hq8, hf⟩ := bd_s hf
  refine k_sVv (ws2 := W0 cs h0 a0 i0 q8) (As := [.ref (a0 1), .ref (a0 0)]) (rest := []) hx hb hml hown hts hK hA hZ hl.1 hP hD hS (c_X0_copyBalls_B (h0 := h0) (a0 := a0) hq8) (gVt mlX0_68 imX0_copyBalls seX0_copyBalls inX0 coX0_copyBalls) rfl qnX0_copyBalls_B rfl rfl ⟨Nat.le_of_ble_eq_true rfl, Nat.le_of_ble_eq_true rfl⟩ 0 0 rfl rfl rfl rfl rfl (Nat.le_of_ble_eq_true rfl) ⟨Nat.zero_le _, Nat.zero_le _⟩ dX0_beatsTillAsNow_79 (fun H locs hP hD hS => ?_)
  refine lv_iload_n hx hb dX0_beatsTillAsNow_82 rfl (lv_at hl 1 rfl) ?_
  obtain rfl := Option.some.inj hf
  exact k_iret hx hb hr hlocks hK hP hD hS dX0_beatsTillAsNow_83
def f_X0_beatsTillAsNow_18 (i0 : Nat → Int32)  : Nat → (Nat → Nat → Int32) → Int32 → Int32 → Int32 → Option (Int32 × (Nat → Nat → Int32))
  | 0, _, _, _, _ => none
  | n + 1, r0, x1, x2, x3 => if 2000 < x3 then (f_X0_beatsTillAsNow_70 i0 r0 x1) else (if x1 = (-1) then (if x2 = 0 then (bd (f_X0_meetAll i0 r0) (fun q9 => if q9.1 ≤ 0 then (f_X0_beatsTillAsNow_46 i0 (f_X0_beatsTillAsNow_18 i0 n) q9.2 x1 x3 0) else (f_X0_beatsTillAsNow_46 i0 (f_X0_beatsTillAsNow_18 i0 n) q9.2 x1 x3 1))) else (f_X0_beatsTillAsNow_70 i0 r0 x1)) else (f_X0_beatsTillAsNow_70 i0 r0 x1))
set_option maxRecDepth 100000 in
set_option maxHeartbeats 4000000 in
theorem w_X0_beatsTillAsNow_18 {p : Program} {l : Launch} {e : Env} {s : State} {m : MethodId} {args : Array Value} {below : List Frame} {meth : Method} {c : Code} {A : Nat → Prop} {D : va_G} {cs zs : Nat → Nat} {h0 : Nat} {a0 : Nat → Nat} {i0 : Nat → Int32} {q : Int32 × (Nat → Nat → Int32)} (C : Cx p s m args meth c A D cs zs cX0_beatsTillAsNow 4 (some .int) RX0)  : ∀ (n : Nat), ∀ (r0 : Nat → Nat → Int32) (x1 : Int32) (x2 : Int32) (x3 : Int32) (H : Heap) (locs : List Loc) (ls : Array Slot), f_X0_beatsTillAsNow_18 i0 n r0 x1 x2 x3 = some q → va_P D vwCl (W0 cs h0 a0 i0 r0) H → va_D A (W0 cs h0 a0 i0 r0) → va_S A s.heap H locs → lv_has ls 4 [(0, .ref h0), (1, .int x1), (2, .int x2), (3, .int x3)] → W p l e rmX0_beatsTillAsNow s m args below meth c H locs 0 0 (MQ below (Qi D cs A q.1 (W0 cs h0 a0 i0 q.2)) args s 0 0 A) (F0 m 18 ls []) := by
  obtain ⟨hx, hb, hr, hml, hown, hts, hK, hA, hlocks, hZ⟩ := id C
  intro n
  induction n with
  | zero =>
    intro r0 x1 x2 x3 H locs ls hf
    rw [f_X0_beatsTillAsNow_18] at hf
    cases hf
  | succ n ih =>
    intro r0 x1 x2 x3 H locs ls hf hP hD hS hl
    rw [f_X0_beatsTillAsNow_18] at hf
    refine lv_iload_n hx hb dX0_beatsTillAsNow_18 rfl (lv_at hl 3 rfl) ?_
    refine lv_sipush (v := 2000) hx hb dX0_beatsTillAsNow_19 (by decide) ?_
    refine lv_icmp_gt (tgt := 70) hx hb dX0_beatsTillAsNow_22 (by decide) (fun hc => ?_) (fun hc => ?_)
    · have hf := ite_t hf hc
      exact w_X0_beatsTillAsNow_70 C  _ _ _ _ _ hf hP hD hS (lv_sub hl [0, 1] rfl)
    · have hf := ite_f hf hc
      refine lv_iload_n hx hb dX0_beatsTillAsNow_25 rfl (lv_at hl 1 rfl) ?_
      refine lv_iconst (v := (-1)) hx hb dX0_beatsTillAsNow_26 (by decide) ?_
      refine lv_icmp_ne (tgt := 70) hx hb dX0_beatsTillAsNow_27 (by decide) (fun hc => ?_) (fun hc => ?_)
      · have hf := ite_f hf hc
        exact w_X0_beatsTillAsNow_70 C  _ _ _ _ _ hf hP hD hS (lv_sub hl [0, 1] rfl)
      · have hf := ite_t hf hc
        refine lv_iload_n hx hb dX0_beatsTillAsNow_30 rfl (lv_at hl 2 rfl) ?_
        refine lv_if_ne (tgt := 70) hx hb dX0_beatsTillAsNow_31 (by decide) (fun hc => ?_) (fun hc => ?_)
        · have hf := ite_f hf hc
          exact w_X0_beatsTillAsNow_70 C  _ _ _ _ _ hf hP hD hS (lv_sub hl [0, 1] rfl)
        · have hf := ite_t hf hc
          refine lv_aload_n hx hb dX0_beatsTillAsNow_34 rfl (lv_at hl 0 rfl) ?_
          obtain ⟨q9, hq9, hf⟩ := bd_s hf
          refine k_sVi (ws2 := W0 cs h0 a0 i0 q9.2) (As := []) (rest := []) hx hb hml hown hts hK hA hZ hl.1 hP hD hS (c_X0_meetAll (h0 := h0) (a0 := a0) hq9) (gVt mlX0_51 imX0_meetAll seX0_meetAll inX0 coX0_meetAll) rfl qnX0_meetAll rfl rfl ⟨Nat.le_of_ble_eq_true rfl, Nat.le_of_ble_eq_true rfl⟩ 0 0 rfl rfl rfl rfl rfl (Nat.le_of_ble_eq_true rfl) ⟨Nat.zero_le _, Nat.zero_le _⟩ dX0_beatsTillAsNow_35 (fun H locs hP hD hS => ?_)
          refine lv_if_le (tgt := 45) hx hb dX0_beatsTillAsNow_38 (by decide) (fun hc => ?_) (fun hc => ?_)
          · have hf := ite_t hf hc
            refine lv_iconst (v := 0) hx hb dX0_beatsTillAsNow_45 (by decide) ?_
            exact w_X0_beatsTillAsNow_46 C _ (ih) _ _ _ _ _ _ _ hf hP hD hS (lv_sub hl [0, 1, 3] rfl)
          · have hf := ite_f hf hc
            refine lv_iconst (v := 1) hx hb dX0_beatsTillAsNow_41 (by decide) ?_
            refine lv_goto (tgt := 46) hx hb dX0_beatsTillAsNow_42 (by decide) ?_
            exact w_X0_beatsTillAsNow_46 C _ (ih) _ _ _ _ _ _ _ hf hP hD hS (lv_sub hl [0, 1, 3] rfl)
def f_X0_beatsTillAsNow  (i0 : Nat → Int32) (r0 : Nat → Nat → Int32)  : Option (Int32 × (Nat → Nat → Int32)) := bd (f_X0_copyBalls_A i0 r0) (fun q10 => f_X0_beatsTillAsNow_18 i0 2000000 q10 (-1) 0 1)
set_option maxRecDepth 100000 in
set_option maxHeartbeats 4000000 in
theorem c_X0_beatsTillAsNow {l : Launch} {D : va_G} {cs zs : Nat → Nat} {h0 : Nat} {a0 : Nat → Nat} {i0 : Nat → Int32} {r0 : Nat → Nat → Int32}  {q : Int32 × (Nat → Nat → Int32)} (hf : f_X0_beatsTillAsNow i0 r0 = some q) : Mi l yX0_beatsTillAsNow wlX0_beatsTillAsNow rmX0_beatsTillAsNow D cs zs [.ref h0] (W0 cs h0 a0 i0 r0) q.1 (W0 cs h0 a0 i0 q.2) := by
  refine Mi.of RX0 (by decide) rfl (Nat.le_of_ble_eq_true rfl) (fun p e s m below meth c A C hP hD hS ls hl => ?_)
  generalize ([.ref h0] : List Value).toArray = args at C ⊢
  obtain ⟨hx, hb, hr, hml, hown, hts, hK, hA, hlocks, hZ⟩ := id C
  have hl : lv_has ls 4 [(0, .ref h0)] := hl
  rw [f_X0_beatsTillAsNow] at hf
  refine lv_aload_n hx hb dX0_beatsTillAsNow_0 rfl (lv_at hl 0 rfl) ?_
  refine lv_aload_n hx hb dX0_beatsTillAsNow_1 rfl (lv_at hl 0 rfl) ?_
  refine va_get (D := D) (ci := 0) (v := .ref (a0 0)) (C := RX0) (T := TX0) (N := 7) hx hb hts hiX0 hown hK hP 0 rfl rfl 0 (by decide) (hts _ flX0_13) (fun _ h9 => h9) rfl dX0_beatsTillAsNow_2 ?_
  refine lv_aload_n hx hb dX0_beatsTillAsNow_5 rfl (lv_at hl 0 rfl) ?_
  refine va_get (D := D) (ci := 0) (v := .ref (a0 1)) (C := RX0) (T := TX0) (N := 7) hx hb hts hiX0 hown hK hP 0 rfl rfl 1 (by decide) (hts _ flX0_16) (fun _ h9 => h9) rfl dX0_beatsTillAsNow_6 ?_
  obtain ⟨q10, hq10, hf⟩ := bd_s hf
  refine k_sVv (ws2 := W0 cs h0 a0 i0 q10) (As := [.ref (a0 0), .ref (a0 1)]) (rest := []) hx hb hml hown hts hK hA hZ hl.1 hP hD hS (c_X0_copyBalls_A (h0 := h0) (a0 := a0) hq10) (gVt mlX0_68 imX0_copyBalls seX0_copyBalls inX0 coX0_copyBalls) rfl qnX0_copyBalls_A rfl rfl ⟨Nat.le_of_ble_eq_true rfl, Nat.le_of_ble_eq_true rfl⟩ 0 0 rfl rfl rfl rfl rfl (Nat.le_of_ble_eq_true rfl) ⟨Nat.zero_le _, Nat.zero_le _⟩ dX0_beatsTillAsNow_9 (fun H locs hP hD hS => ?_)
  refine lv_iconst (v := (-1)) hx hb dX0_beatsTillAsNow_12 (by decide) ?_
  refine lv_istore_n (lv' := [(1, .int (-1)), (0, .ref h0)]) hx hb dX0_beatsTillAsNow_13 rfl hl (by decide) rfl (fun ls hl => ?_)
  refine lv_iconst (v := 0) hx hb dX0_beatsTillAsNow_14 (by decide) ?_
  refine lv_istore_n (lv' := [(2, .int 0), (1, .int (-1)), (0, .ref h0)]) hx hb dX0_beatsTillAsNow_15 rfl hl (by decide) rfl (fun ls hl => ?_)
  refine lv_iconst (v := 1) hx hb dX0_beatsTillAsNow_16 (by decide) ?_
  refine lv_istore_n (lv' := [(3, .int 1), (2, .int 0), (1, .int (-1)), (0, .ref h0)]) hx hb dX0_beatsTillAsNow_17 rfl hl (by decide) rfl (fun ls hl => ?_)
  exact w_X0_beatsTillAsNow_18 C  2000000 _ _ _ _ _ _ _ hf hP hD hS (lv_sub hl [3, 2, 1, 0] rfl)
