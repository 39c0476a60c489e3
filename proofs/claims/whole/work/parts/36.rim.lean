/-! MarbleFloor$Shortest.reachRim(III)Z -/
abbrev wlX7_reachRim : List Cond := Cond.code yX7_reachRim cX7_reachRim 5 (some .boolean) :: tbG
abbrev rmX7_reachRim (d : Nat) : Room := { frames := 2 + 1 * d, cells := 0, slots := 0, locals := 45 + 24 * d }
theorem qnX7_reachRim : yX7_reachRim.cls = RX7 ∧ yX7_reachRim.cls ≠ "java/lang/invoke/MethodHandle" ∧ yX7_reachRim.cls ≠ "java/lang/invoke/VarHandle" ∧ (parseMethodDescriptor yX7_reachRim.desc).map (fun d => d.parameters.length) = some 3 := by decide +kernel
def f_X7_reachRim_31 (F : (Nat → Int32) → (Nat → Nat → Int32) → (Nat → Nat) → Int32 → Int32 → Int32 → Option (Int32 × (Nat → Int32) × (Nat → Nat → Int32))) (u0 : Nat → Nat)  : Nat → (Nat → Int32) → (Nat → Nat → Int32) → Int32 → Int32 → Int32 → Int32 → Option (Int32 × (Nat → Int32) × (Nat → Nat → Int32))
  | 0, _, _, _, _, _, _ => none
  | n + 1, i0, r0, x1, x2, x3, x4 => if (i0 4) ≤ x4 then (some (0, i0, r0)) else (ck (inb x4 18) (ck (inb x2 40) (ck (inb x4 18) (bd (f_X7_pass (r0 0 x4.toNatClampNeg) x1) (fun q4 => bd (F i0 (va_up r0 1 (upd (r0 1) x2.toNatClampNeg (r0 0 x4.toNatClampNeg))) u0 q4 (x2 + 1) x3) (fun q5 => if q5.1 = 0 then (f_X7_reachRim_31 F u0 n q5.2.1 q5.2.2 x1 x2 x3 (x4 + 1)) else (some (1, q5.2.1, q5.2.2))))))))
set_option maxRecDepth 100000 in
set_option maxHeartbeats 4000000 in
theorem w_X7_reachRim_31 {p : Program} {l : Launch} {e : Env} {s : State} {m : MethodId} {args : Array Value} {below : List Frame} {meth : Method} {c : Code} {A : Nat → Prop} {D : va_G} {cs zs : Nat → Nat} {h0 : Nat} {a0 : Nat → Nat} {u0 : Nat → Nat} {q : Int32 × (Nat → Int32) × (Nat → Nat → Int32)} (C : Cx p s m args meth c A D cs zs cX7_reachRim 5 (some .boolean) RX7) {d : Nat} {F : (Nat → Int32) → (Nat → Nat → Int32) → (Nat → Nat) → Int32 → Int32 → Int32 → Option (Int32 × (Nat → Int32) × (Nat → Nat → Int32))} (hF : ∀ {i0 : Nat → Int32} {r0 : Nat → Nat → Int32} {u0 : Nat → Nat} {x1 : Int32} {x2 : Int32} {x3 : Int32} {q : Int32 × (Nat → Int32) × (Nat → Nat → Int32)}, F i0 r0 u0 x1 x2 x3 = some q → Mi l yX7_reachRim wlX7_reachRim (rmX7_reachRim d) D cs zs [.ref h0, .int x1, .int x2, .int x3] (W7 cs h0 a0 i0 r0 u0) q.1 (W7 cs h0 a0 q.2.1 q.2.2 u0))  : ∀ (n : Nat), ∀ (i0 : Nat → Int32) (r0 : Nat → Nat → Int32) (x1 : Int32) (x2 : Int32) (x3 : Int32) (x4 : Int32) (H : Heap) (locs : List Loc) (ls : Array Slot), f_X7_reachRim_31 F u0 n i0 r0 x1 x2 x3 x4 = some q → va_P D vwCl (W7 cs h0 a0 i0 r0 u0) H → va_D A (W7 cs h0 a0 i0 r0 u0) → va_S A s.heap H locs → lv_has ls 5 [(0, .ref h0), (1, .int x1), (2, .int x2), (3, .int x3), (4, .int x4)] → W p l e (rmX7_reachRim (d + 1)) s m args below meth c H locs 0 0 (MQ below (Qi D cs A q.1 (W7 cs h0 a0 q.2.1 q.2.2 u0)) args s 0 0 A) (F0 m 31 ls []) := by
  obtain ⟨hx, hb, hr, hml, hown, hts, hK, hA, hlocks, hZ⟩ := id C
  intro n
  induction n with
  | zero =>
    intro i0 r0 x1 x2 x3 x4 H locs ls hf
    rw [f_X7_reachRim_31] at hf
    cases hf
  | succ n ih =>
    intro i0 r0 x1 x2 x3 x4 H locs ls hf hP hD hS hl
    rw [f_X7_reachRim_31] at hf
    refine lv_iload hx hb dX7_reachRim_31 (lv_at hl 4 rfl) ?_
    refine lv_aload_n hx hb dX7_reachRim_33 rfl (lv_at hl 0 rfl) ?_
    refine va_get (D := D) (ci := 7) (v := .int (i0 4)) (C := RX7) (T := TX7) (N := 11) hx hb hts hiX7 hown hK hP 0 rfl rfl 4 (by decide) (hts _ flX7_96) (fun _ h9 => h9) rfl dX7_reachRim_34 ?_
    refine lv_icmp_ge (tgt := 83) hx hb dX7_reachRim_37 (by decide) (fun hc => ?_) (fun hc => ?_)
    · have hf := ite_t hf hc
      refine lv_iconst (v := 0) hx hb dX7_reachRim_83 (by decide) ?_
      obtain rfl := Option.some.inj hf
      exact k_zret (r := 0) hx hb hr hlocks rfl hK hP hD hS dX7_reachRim_84
    · have hf := ite_f hf hc
      refine lv_aload_n hx hb dX7_reachRim_40 rfl (lv_at hl 0 rfl) ?_
      refine va_get (D := D) (ci := 7) (v := .ref (a0 1)) (C := RX7) (T := TX7) (N := 11) hx hb hts hiX7 hown hK hP 0 rfl rfl 1 (by decide) (hts _ flX7_18) (fun _ h9 => h9) rfl dX7_reachRim_41 ?_
      refine lv_iload_n hx hb dX7_reachRim_44 rfl (lv_at hl 2 rfl) ?_
      refine lv_aload_n hx hb dX7_reachRim_45 rfl (lv_at hl 0 rfl) ?_
      refine va_get (D := D) (ci := 7) (v := .ref (a0 0)) (C := RX7) (T := TX7) (N := 11) hx hb hts hiX7 hown hK hP 0 rfl rfl 0 (by decide) (hts _ flX7_15) (fun _ h9 => h9) rfl dX7_reachRim_46 ?_
      refine lv_iload hx hb dX7_reachRim_49 (lv_at hl 4 rfl) ?_
      refine va_iald (f := r0 0) hx hb hK hP 1 0 rfl rfl (ck_in hf) dX7_reachRim_51 ?_
      have hf := ck_2 hf
      refine va_iast (f := r0 1) hx hb hK hP hD hS 2 0 rfl rfl (ck_in hf) dX7_reachRim_52 (fun H locs hP hD hS => ?_)
      have hf := ck_2 hf
      obtain ⟨hP, hD⟩ := st7_1 hP hD
      refine lv_aload_n hx hb dX7_reachRim_53 rfl (lv_at hl 0 rfl) ?_
      refine lv_aload_n hx hb dX7_reachRim_54 rfl (lv_at hl 0 rfl) ?_
      refine va_get (D := D) (ci := 7) (v := .ref (a0 0)) (C := RX7) (T := TX7) (N := 11) hx hb hts hiX7 hown hK hP 0 rfl rfl 0 (by decide) (hts _ flX7_15) (fun _ h9 => h9) rfl dX7_reachRim_55 ?_
      refine lv_iload hx hb dX7_reachRim_58 (lv_at hl 4 rfl) ?_
      refine va_iald (f := r0 0) hx hb hK hP 1 0 rfl rfl (ck_in hf) dX7_reachRim_60 ?_
      have hf := ck_2 hf
      refine lv_iload_n hx hb dX7_reachRim_61 rfl (lv_at hl 1 rfl) ?_
      obtain ⟨q4, hq4, hf⟩ := bd_s hf
      refine k_eSi (As := [.int (r0 0 x4.toNatClampNeg), .int x1]) (rest := [.ref h0]) hx hb hml hown hts hK hA hZ hl.1 hP hD hS (c_X7_pass  hq4) (gSt mlX7_112 stX7_pass inX7 coX7_pass) rfl qnX7_pass rfl rfl ⟨by show 0 + 1 ≤ 2 + 1 * (d + 1); omega, by show 8 + (6 + 11) + (0) ≤ 45 + 24 * (d + 1); omega⟩ rfl rfl (Nat.le_of_ble_eq_true rfl) ⟨Nat.zero_le _, Nat.zero_le _⟩ dX7_reachRim_62 (fun H locs hP hD hS => ?_)
      refine lv_iload_n hx hb dX7_reachRim_65 rfl (lv_at hl 2 rfl) ?_
      refine lv_iconst (v := 1) hx hb dX7_reachRim_66 (by decide) ?_
      refine lv_iadd hx hb dX7_reachRim_67 ?_
      refine lv_iload_n hx hb dX7_reachRim_68 rfl (lv_at hl 3 rfl) ?_
      obtain ⟨q5, hq5, hf⟩ := bd_s hf
      refine k_sVi (ws2 := W7 cs h0 a0 q5.2.1 q5.2.2 u0) (As := [.int q4, .int (x2 + 1), .int x3]) (rest := []) hx hb hml hown hts hK hA hZ hl.1 hP hD hS (hF hq5) (gVt mlX7_121 imX7_reachRim seX7_reachRim inX7 coX7_reachRim) rfl qnX7_reachRim rfl rfl ⟨by show 2 + 1 * d + 1 ≤ 2 + 1 * (d + 1); omega, by show 8 + (5 + 11) + (45 + 24 * d) ≤ 45 + 24 * (d + 1); omega⟩ 0 7 rfl rfl rfl rfl rfl (Nat.le_of_ble_eq_true rfl) ⟨Nat.zero_le _, Nat.zero_le _⟩ dX7_reachRim_69 (fun H locs hP hD hS => ?_)
      refine lv_if_eq (tgt := 77) hx hb dX7_reachRim_72 (by decide) (fun hc => ?_) (fun hc => ?_)
      · have hf := ite_t hf hc
        refine lv_iinc (v := x4 + 1) (lv' := [(4, .int (x4 + 1)), (0, .ref h0), (1, .int x1), (2, .int x2), (3, .int x3)]) hx hb dX7_reachRim_77 hl (k := 4) rfl rfl (by decide) rfl (fun ls hl => ?_)
        refine lv_goto (tgt := 31) hx hb dX7_reachRim_80 (by decide) ?_
        exact ih _ _ _ _ _ _ _ _ _ hf hP hD hS (lv_sub hl [1, 2, 3, 4, 0] rfl)
      · have hf := ite_f hf hc
        refine lv_iconst (v := 1) hx hb dX7_reachRim_75 (by decide) ?_
        obtain rfl := Option.some.inj hf
        exact k_zret (r := 1) hx hb hr hlocks rfl hK hP hD hS dX7_reachRim_76
def f_X7_reachRim_e (F : (Nat → Int32) → (Nat → Nat → Int32) → (Nat → Nat) → Int32 → Int32 → Int32 → Option (Int32 × (Nat → Int32) × (Nat → Nat → Int32)))  (i0 : Nat → Int32) (r0 : Nat → Nat → Int32) (u0 : Nat → Nat) (x1 : Int32) (x2 : Int32) (x3 : Int32) : Option (Int32 × (Nat → Int32) × (Nat → Nat → Int32)) := if x2 < x3 then (f_X7_reachRim_31 F u0 2000000 i0 r0 x1 x2 x3 0) else (bd (f_X7_distance (upd i0 10 x1) r0 u0 x1) (fun q6 => if q6 = (i0 8) then (some (1, (upd i0 10 x1), r0)) else (some (0, (upd i0 10 x1), r0))))
set_option maxRecDepth 100000 in
set_option maxHeartbeats 4000000 in
theorem c_X7_reachRim_e {l : Launch} {D : va_G} {cs zs : Nat → Nat} {h0 : Nat} {a0 : Nat → Nat} {i0 : Nat → Int32} {r0 : Nat → Nat → Int32} {u0 : Nat → Nat} {x1 : Int32} {x2 : Int32} {x3 : Int32} {q : Int32 × (Nat → Int32) × (Nat → Nat → Int32)} {d : Nat} {F : (Nat → Int32) → (Nat → Nat → Int32) → (Nat → Nat) → Int32 → Int32 → Int32 → Option (Int32 × (Nat → Int32) × (Nat → Nat → Int32))} (hF : ∀ {i0 : Nat → Int32} {r0 : Nat → Nat → Int32} {u0 : Nat → Nat} {x1 : Int32} {x2 : Int32} {x3 : Int32} {q : Int32 × (Nat → Int32) × (Nat → Nat → Int32)}, F i0 r0 u0 x1 x2 x3 = some q → Mi l yX7_reachRim wlX7_reachRim (rmX7_reachRim d) D cs zs [.ref h0, .int x1, .int x2, .int x3] (W7 cs h0 a0 i0 r0 u0) q.1 (W7 cs h0 a0 q.2.1 q.2.2 u0)) (hf : f_X7_reachRim_e F i0 r0 u0 x1 x2 x3 = some q) : Mi l yX7_reachRim wlX7_reachRim (rmX7_reachRim (d + 1)) D cs zs [.ref h0, .int x1, .int x2, .int x3] (W7 cs h0 a0 i0 r0 u0) q.1 (W7 cs h0 a0 q.2.1 q.2.2 u0) := by
  refine Mi.of RX7 (by decide) rfl (Nat.le_of_ble_eq_true rfl) (fun p e s m below meth c A C hP hD hS ls hl => ?_)
  generalize ([.ref h0, .int x1, .int x2, .int x3] : List Value).toArray = args at C ⊢
  obtain ⟨hx, hb, hr, hml, hown, hts, hK, hA, hlocks, hZ⟩ := id C
  have hl : lv_has ls 5 [(0, .ref h0), (1, .int x1), (2, .int x2), (3, .int x3)] := hl
  rw [f_X7_reachRim_e] at hf
  refine lv_iload_n hx hb dX7_reachRim_0 rfl (lv_at hl 2 rfl) ?_
  refine lv_iload_n hx hb dX7_reachRim_1 rfl (lv_at hl 3 rfl) ?_
  refine lv_icmp_lt (tgt := 28) hx hb dX7_reachRim_2 (by decide) (fun hc => ?_) (fun hc => ?_)
  · have hf := ite_t hf hc
    refine lv_iconst (v := 0) hx hb dX7_reachRim_28 (by decide) ?_
    refine lv_istore (lv' := [(4, .int 0), (0, .ref h0), (1, .int x1), (2, .int x2), (3, .int x3)]) hx hb dX7_reachRim_29 hl (by decide) rfl (fun ls hl => ?_)
    exact w_X7_reachRim_31 C hF  2000000 _ _ _ _ _ _ _ _ _ hf hP hD hS (lv_sub hl [1, 2, 3, 4, 0] rfl)
  · have hf := ite_f hf hc
    refine lv_aload_n hx hb dX7_reachRim_5 rfl (lv_at hl 0 rfl) ?_
    refine lv_iload_n hx hb dX7_reachRim_6 rfl (lv_at hl 1 rfl) ?_
    refine va_put (D := D) (ci := 7) (v := .int x1) (ty := .int) (C := RX7) (T := TX7) (N := 11) hx hb hts hiX7 tyX7 tyX7_ok nmX7 hown hK hP hD hS 0 rfl rfl 10 (by decide) (hts _ flX7_39) (fun _ h9 => h9) rfl (tyX7_ok 10 (by decide)) rfl rfl (Nat.le_of_ble_eq_true rfl) dX7_reachRim_7 (fun H locs hP hD hS => ?_)
    obtain ⟨hP, hD⟩ := st7_10 hP hD
    refine lv_aload_n hx hb dX7_reachRim_10 rfl (lv_at hl 0 rfl) ?_
    refine lv_iload_n hx hb dX7_reachRim_11 rfl (lv_at hl 1 rfl) ?_
    obtain ⟨q6, hq6, hf⟩ := bd_s hf
    refine k_sVi (ws2 := W7 cs h0 a0 (upd i0 10 x1) r0 u0) (As := [.int x1]) (rest := []) hx hb hml hown hts hK hA hZ hl.1 hP hD hS (c_X7_distance (h0 := h0) (a0 := a0) hq6) (gVt mlX7_42 imX7_distance seX7_distance inX7 coX7_distance) rfl qnX7_distance rfl rfl ⟨by show 1 + 1 ≤ 2 + 1 * (d + 1); omega, by show 8 + (3 + 11) + (23) ≤ 45 + 24 * (d + 1); omega⟩ 0 7 rfl rfl rfl rfl rfl (Nat.le_of_ble_eq_true rfl) ⟨Nat.zero_le _, Nat.zero_le _⟩ dX7_reachRim_12 (fun H locs hP hD hS => ?_)
    refine lv_aload_n hx hb dX7_reachRim_15 rfl (lv_at hl 0 rfl) ?_
    refine va_get (D := D) (ci := 7) (v := .int (i0 8)) (C := RX7) (T := TX7) (N := 11) hx hb hts hiX7 hown hK hP 0 rfl rfl 8 (by decide) (hts _ flX7_105) (fun _ h9 => h9) rfl dX7_reachRim_16 ?_
    refine lv_icmp_ne (tgt := 26) hx hb dX7_reachRim_19 (by decide) (fun hc => ?_) (fun hc => ?_)
    · have hf := ite_f hf hc
      refine lv_iconst (v := 0) hx hb dX7_reachRim_26 (by decide) ?_
      obtain rfl := Option.some.inj hf
      exact k_zret (r := 0) hx hb hr hlocks rfl hK hP hD hS dX7_reachRim_27
    · have hf := ite_t hf hc
      refine lv_iconst (v := 1) hx hb dX7_reachRim_22 (by decide) ?_
      refine lv_goto (tgt := 27) hx hb dX7_reachRim_23 (by decide) ?_
      obtain rfl := Option.some.inj hf
      exact k_zret (r := 1) hx hb hr hlocks rfl hK hP hD hS dX7_reachRim_27
def f_X7_reachRim : Nat → (Nat → Int32) → (Nat → Nat → Int32) → (Nat → Nat) → (Int32) → (Int32) → (Int32) → Option (Int32 × (Nat → Int32) × (Nat → Nat → Int32))
  | 0, _, _, _, _, _, _ => none
  | d + 1, i0, r0, u0, x1, x2, x3 => f_X7_reachRim_e (f_X7_reachRim d) i0 r0 u0 x1 x2 x3
theorem c_X7_reachRim {l : Launch} {D : va_G} {cs zs : Nat → Nat} {h0 : Nat} {a0 : Nat → Nat} : ∀ (d : Nat) {i0 : Nat → Int32} {r0 : Nat → Nat → Int32} {u0 : Nat → Nat} {x1 : Int32} {x2 : Int32} {x3 : Int32} {q : Int32 × (Nat → Int32) × (Nat → Nat → Int32)}, f_X7_reachRim d i0 r0 u0 x1 x2 x3 = some q → Mi l yX7_reachRim wlX7_reachRim (rmX7_reachRim d) D cs zs [.ref h0, .int x1, .int x2, .int x3] (W7 cs h0 a0 i0 r0 u0) q.1 (W7 cs h0 a0 q.2.1 q.2.2 u0) := by
  intro d
  induction d with
  | zero =>
    intro i0 r0 u0 x1 x2 x3 q hf
    rw [f_X7_reachRim] at hf
    cases hf
  | succ d ih =>
    intro i0 r0 u0 x1 x2 x3 q hf
    rw [f_X7_reachRim] at hf
    exact c_X7_reachRim_e (fun hq => ih hq) hf
/-! MarbleFloor$Shortest.stepsToRim()I -/
abbrev wlX7_stepsToRim : List Cond := Cond.code yX7_stepsToRim cX7_stepsToRim 3 (some .int) :: tbG
abbrev rmX7_stepsToRim : Room := { frames := 23, cells := 0, slots := 0, locals := 549 }
theorem qnX7_stepsToRim : yX7_stepsToRim.cls = RX7 ∧ yX7_stepsToRim.cls ≠ "java/lang/invoke/MethodHandle" ∧ yX7_stepsToRim.cls ≠ "java/lang/invoke/VarHandle" ∧ (parseMethodDescriptor yX7_stepsToRim.desc).map (fun d => d.parameters.length) = some 0 := by decide +kernel
def f_X7_stepsToRim_7 (u0 : Nat → Nat)  : Nat → (Nat → Int32) → (Nat → Nat → Int32) → Int32 → Int32 → Option (Int32 × (Nat → Int32) × (Nat → Nat → Int32))
  | 0, _, _, _, _ => none
  | n + 1, i0, r0, x1, x2 => if 12 < x2 then (some ((-1), i0, r0)) else (bd (f_X7_reachRim 20 i0 r0 u0 x1 0 x2) (fun q2 => if q2.1 = 0 then (f_X7_stepsToRim_7 u0 n q2.2.1 q2.2.2 x1 (x2 + 1)) else (some (x2, q2.2.1, q2.2.2))))
set_option maxRecDepth 100000 in
set_option maxHeartbeats 4000000 in
theorem w_X7_stepsToRim_7 {p : Program} {l : Launch} {e : Env} {s : State} {m : MethodId} {args : Array Value} {below : List Frame} {meth : Method} {c : Code} {A : Nat → Prop} {D : va_G} {cs zs : Nat → Nat} {h0 : Nat} {a0 : Nat → Nat} {u0 : Nat → Nat} {q : Int32 × (Nat → Int32) × (Nat → Nat → Int32)} (C : Cx p s m args meth c A D cs zs cX7_stepsToRim 3 (some .int) RX7)  : ∀ (n : Nat), ∀ (i0 : Nat → Int32) (r0 : Nat → Nat → Int32) (x1 : Int32) (x2 : Int32) (H : Heap) (locs : List Loc) (ls : Array Slot), f_X7_stepsToRim_7 u0 n i0 r0 x1 x2 = some q → va_P D vwCl (W7 cs h0 a0 i0 r0 u0) H → va_D A (W7 cs h0 a0 i0 r0 u0) → va_S A s.heap H locs → lv_has ls 3 [(0, .ref h0), (1, .int x1), (2, .int x2)] → W p l e rmX7_stepsToRim s m args below meth c H locs 0 0 (MQ below (Qi D cs A q.1 (W7 cs h0 a0 q.2.1 q.2.2 u0)) args s 0 0 A) (F0 m 7 ls []) := by
  obtain ⟨hx, hb, hr, hml, hown, hts, hK, hA, hlocks, hZ⟩ := id C
  intro n
  induction n with
  | zero =>
    intro i0 r0 x1 x2 H locs ls hf
    rw [f_X7_stepsToRim_7] at hf
    cases hf
  | succ n ih =>
    intro i0 r0 x1 x2 H locs ls hf hP hD hS hl
    rw [f_X7_stepsToRim_7] at hf
    refine lv_iload_n hx hb dX7_stepsToRim_7 rfl (lv_at hl 2 rfl) ?_
    refine lv_bipush (v := 12) hx hb dX7_stepsToRim_8 (by decide) ?_
    refine lv_icmp_gt (tgt := 31) hx hb dX7_stepsToRim_10 (by decide) (fun hc => ?_) (fun hc => ?_)
    · have hf := ite_t hf hc
      refine lv_iconst (v := (-1)) hx hb dX7_stepsToRim_31 (by decide) ?_
      obtain rfl := Option.some.inj hf
      exact k_iret hx hb hr hlocks hK hP hD hS dX7_stepsToRim_32
    · have hf := ite_f hf hc
      refine lv_aload_n hx hb dX7_stepsToRim_13 rfl (lv_at hl 0 rfl) ?_
      refine lv_iload_n hx hb dX7_stepsToRim_14 rfl (lv_at hl 1 rfl) ?_
      refine lv_iconst (v := 0) hx hb dX7_stepsToRim_15 (by decide) ?_
      refine lv_iload_n hx hb dX7_stepsToRim_16 rfl (lv_at hl 2 rfl) ?_
      obtain ⟨q2, hq2, hf⟩ := bd_s hf
      refine k_sVi (ws2 := W7 cs h0 a0 q2.2.1 q2.2.2 u0) (As := [.int x1, .int 0, .int x2]) (rest := []) hx hb hml hown hts hK hA hZ hl.1 hP hD hS (c_X7_reachRim (h0 := h0) (a0 := a0) 20 hq2) (gVt mlX7_121 imX7_reachRim seX7_reachRim inX7 coX7_reachRim) rfl qnX7_reachRim rfl rfl ⟨Nat.le_of_ble_eq_true rfl, Nat.le_of_ble_eq_true rfl⟩ 0 7 rfl rfl rfl rfl rfl (Nat.le_of_ble_eq_true rfl) ⟨Nat.zero_le _, Nat.zero_le _⟩ dX7_stepsToRim_17 (fun H locs hP hD hS => ?_)
      refine lv_if_eq (tgt := 25) hx hb dX7_stepsToRim_20 (by decide) (fun hc => ?_) (fun hc => ?_)
      · have hf := ite_t hf hc
        refine lv_iinc (v := x2 + 1) (lv' := [(2, .int (x2 + 1)), (0, .ref h0), (1, .int x1)]) hx hb dX7_stepsToRim_25 hl (k := 2) rfl rfl (by decide) rfl (fun ls hl => ?_)
        refine lv_goto (tgt := 7) hx hb dX7_stepsToRim_28 (by decide) ?_
        exact ih _ _ _ _ _ _ _ hf hP hD hS (lv_sub hl [1, 2, 0] rfl)
      · have hf := ite_f hf hc
        refine lv_iload_n hx hb dX7_stepsToRim_23 rfl (lv_at hl 2 rfl) ?_
        obtain rfl := Option.some.inj hf
        exact k_iret hx hb hr hlocks hK hP hD hS dX7_stepsToRim_24
def f_X7_stepsToRim  (i0 : Nat → Int32) (r0 : Nat → Nat → Int32) (u0 : Nat → Nat)  : Option (Int32 × (Nat → Int32) × (Nat → Nat → Int32)) := f_X7_stepsToRim_7 u0 2000000 i0 r0 (i0 10) 1
set_option maxRecDepth 100000 in
set_option maxHeartbeats 4000000 in
theorem c_X7_stepsToRim {l : Launch} {D : va_G} {cs zs : Nat → Nat} {h0 : Nat} {a0 : Nat → Nat} {i0 : Nat → Int32} {r0 : Nat → Nat → Int32} {u0 : Nat → Nat}  {q : Int32 × (Nat → Int32) × (Nat → Nat → Int32)} (hf : f_X7_stepsToRim i0 r0 u0 = some q) : Mi l yX7_stepsToRim wlX7_stepsToRim rmX7_stepsToRim D cs zs [.ref h0] (W7 cs h0 a0 i0 r0 u0) q.1 (W7 cs h0 a0 q.2.1 q.2.2 u0) := by
  refine Mi.of RX7 (by decide) rfl (Nat.le_of_ble_eq_true rfl) (fun p e s m below meth c A C hP hD hS ls hl => ?_)
  generalize ([.ref h0] : List Value).toArray = args at C ⊢
  obtain ⟨hx, hb, hr, hml, hown, hts, hK, hA, hlocks, hZ⟩ := id C
  have hl : lv_has ls 3 [(0, .ref h0)] := hl
  rw [f_X7_stepsToRim] at hf
  refine lv_aload_n hx hb dX7_stepsToRim_0 rfl (lv_at hl 0 rfl) ?_
  refine va_get (D := D) (ci := 7) (v := .int (i0 10)) (C := RX7) (T := TX7) (N := 11) hx hb hts hiX7 hown hK hP 0 rfl rfl 10 (by decide) (hts _ flX7_39) (fun _ h9 => h9) rfl dX7_stepsToRim_1 ?_
  refine lv_istore_n (lv' := [(1, .int (i0 10)), (0, .ref h0)]) hx hb dX7_stepsToRim_4 rfl hl (by decide) rfl (fun ls hl => ?_)
  refine lv_iconst (v := 1) hx hb dX7_stepsToRim_5 (by decide) ?_
  refine lv_istore_n (lv' := [(2, .int 1), (1, .int (i0 10)), (0, .ref h0)]) hx hb dX7_stepsToRim_6 rfl hl (by decide) rfl (fun ls hl => ?_)
  exact w_X7_stepsToRim_7 C  2000000 _ _ _ _ _ _ _ hf hP hD hS (lv_sub hl [2, 1, 0] rfl)
