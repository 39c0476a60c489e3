def fs8 (a : Nat → Nat) (i : Nat → Int32) : List Value := [.ref (a 0), .ref (a 1), .ref (a 2), .int (i 3)]
def W8 (cs : Nat → ClassId) (h : Nat) (a : Nat → Nat) (i : Nat → Int32) (r : Nat → Nat → Int32) : va_W := [(h, .inr (8, fs8 a i)), (a 0, .inl (cs 0, 256, .inl (r 0))), (a 1, .inl (cs 0, 40, .inl (r 1))), (a 2, .inl (cs 0, 40, .inl (r 2)))]
theorem st8_0 {D : va_G} {A : Nat → Prop} {H : Heap} {cs : Nat → ClassId} {h : Nat} {a : Nat → Nat} {i : Nat → Int32} {r : Nat → Nat → Int32} {f : Nat → Int32} (hP : va_P D vwCl ((W8 cs h a i r).set 1 (a 0, .inl (cs 0, 256, .inl f))) H) (hD : va_D A ((W8 cs h a i r).set 1 (a 0, .inl (cs 0, 256, .inl f)))) : va_P D vwCl (W8 cs h a i (va_up r 0 f)) H ∧ va_D A (W8 cs h a i (va_up r 0 f)) := ⟨hP, hD⟩
theorem st8_0_T {D : va_G} {A : Nat → Prop} {H : Heap} {cs : Nat → ClassId} {h : Nat} {a : Nat → Nat} {i : Nat → Int32} {r : Nat → Nat → Int32} {f : Nat → Int32} {T : va_W} (hP : va_P D vwCl ((W8 cs h a i r ++ T).set 1 (a 0, .inl (cs 0, 256, .inl f))) H) (hD : va_D A ((W8 cs h a i r ++ T).set 1 (a 0, .inl (cs 0, 256, .inl f)))) : va_P D vwCl (W8 cs h a i (va_up r 0 f) ++ T) H ∧ va_D A (W8 cs h a i (va_up r 0 f) ++ T) := ⟨hP, hD⟩
theorem st8_1 {D : va_G} {A : Nat → Prop} {H : Heap} {cs : Nat → ClassId} {h : Nat} {a : Nat → Nat} {i : Nat → Int32} {r : Nat → Nat → Int32} {f : Nat → Int32} (hP : va_P D vwCl ((W8 cs h a i r).set 2 (a 1, .inl (cs 0, 40, .inl f))) H) (hD : va_D A ((W8 cs h a i r).set 2 (a 1, .inl (cs 0, 40, .inl f)))) : va_P D vwCl (W8 cs h a i (va_up r 1 f)) H ∧ va_D A (W8 cs h a i (va_up r 1 f)) := ⟨hP, hD⟩
theorem st8_1_T {D : va_G} {A : Nat → Prop} {H : Heap} {cs : Nat → ClassId} {h : Nat} {a : Nat → Nat} {i : Nat → Int32} {r : Nat → Nat → Int32} {f : Nat → Int32} {T : va_W} (hP : va_P D vwCl ((W8 cs h a i r ++ T).set 2 (a 1, .inl (cs 0, 40, .inl f))) H) (hD : va_D A ((W8 cs h a i r ++ T).set 2 (a 1, .inl (cs 0, 40, .inl f)))) : va_P D vwCl (W8 cs h a i (va_up r 1 f) ++ T) H ∧ va_D A (W8 cs h a i (va_up r 1 f) ++ T) := ⟨hP, hD⟩
theorem st8_2 {D : va_G} {A : Nat → Prop} {H : Heap} {cs : Nat → ClassId} {h : Nat} {a : Nat → Nat} {i : Nat → Int32} {r : Nat → Nat → Int32} {f : Nat → Int32} (hP : va_P D vwCl ((W8 cs h a i r).set 3 (a 2, .inl (cs 0, 40, .inl f))) H) (hD : va_D A ((W8 cs h a i r).set 3 (a 2, .inl (cs 0, 40, .inl f)))) : va_P D vwCl (W8 cs h a i (va_up r 2 f)) H ∧ va_D A (W8 cs h a i (va_up r 2 f)) := ⟨hP, hD⟩
theorem st8_2_T {D : va_G} {A : Nat → Prop} {H : Heap} {cs : Nat → ClassId} {h : Nat} {a : Nat → Nat} {i : Nat → Int32} {r : Nat → Nat → Int32} {f : Nat → Int32} {T : va_W} (hP : va_P D vwCl ((W8 cs h a i r ++ T).set 3 (a 2, .inl (cs 0, 40, .inl f))) H) (hD : va_D A ((W8 cs h a i r ++ T).set 3 (a 2, .inl (cs 0, 40, .inl f)))) : va_P D vwCl (W8 cs h a i (va_up r 2 f) ++ T) H ∧ va_D A (W8 cs h a i (va_up r 2 f) ++ T) := ⟨hP, hD⟩
theorem st8_3 {D : va_G} {A : Nat → Prop} {H : Heap} {cs : Nat → ClassId} {h : Nat} {a : Nat → Nat} {i : Nat → Int32} {r : Nat → Nat → Int32} {v : Int32} (hP : va_P D vwCl ((W8 cs h a i r).set 0 (h, .inr (8, (fs8 a i).set 3 (.int v)))) H) (hD : va_D A ((W8 cs h a i r).set 0 (h, .inr (8, (fs8 a i).set 3 (.int v))))) : va_P D vwCl (W8 cs h a (upd i 3 v) r) H ∧ va_D A (W8 cs h a (upd i 3 v) r) := ⟨hP, hD⟩
theorem st8_3_T {D : va_G} {A : Nat → Prop} {H : Heap} {cs : Nat → ClassId} {h : Nat} {a : Nat → Nat} {i : Nat → Int32} {r : Nat → Nat → Int32} {v : Int32} {T : va_W} (hP : va_P D vwCl ((W8 cs h a i r ++ T).set 0 (h, .inr (8, (fs8 a i).set 3 (.int v)))) H) (hD : va_D A ((W8 cs h a i r ++ T).set 0 (h, .inr (8, (fs8 a i).set 3 (.int v))))) : va_P D vwCl (W8 cs h a (upd i 3 v) r ++ T) H ∧ va_D A (W8 cs h a (upd i 3 v) r ++ T) := ⟨hP, hD⟩
/-! MarbleFloor$Tables.takeCycle(I)I -/
abbrev wlX8_takeCycle : List Cond := Cond.code yX8_takeCycle cX8_takeCycle 5 (some .int) :: tbG
abbrev rmX8_takeCycle : Room := { frames := 0, cells := 0, slots := 0, locals := 0 }
theorem qnX8_takeCycle : yX8_takeCycle.cls = RX8 ∧ yX8_takeCycle.cls ≠ "java/lang/invoke/MethodHandle" ∧ yX8_takeCycle.cls ≠ "java/lang/invoke/VarHandle" ∧ (parseMethodDescriptor yX8_takeCycle.desc).map (fun d => d.parameters.length) = some 1 := by decide +kernel
def f_X8_takeCycle_4 (i0 : Nat → Int32)  : Nat → (Nat → Nat → Int32) → Int32 → Int32 → Option (Int32 × (Nat → Nat → Int32))
  | 0, _, _, _ => none
  | n + 1, r0, x2, x3 => if 256 ≤ x2 then (some (x2, r0)) else (ck (inb x3 256) (if (r0 0 x3.toNatClampNeg) = (-1) then (some (x2, r0)) else (ck (inb x3 256) (ck (inb x3 256) (f_X8_takeCycle_4 i0 n (va_up r0 0 (upd (r0 0) x3.toNatClampNeg (-1))) (x2 + 1) (r0 0 x3.toNatClampNeg))))))
set_option maxRecDepth 100000 in
set_option maxHeartbeats 4000000 in
theorem w_X8_takeCycle_4 {p : Program} {l : Launch} {e : Env} {s : State} {m : MethodId} {args : Array Value} {below : List Frame} {meth : Method} {c : Code} {A : Nat → Prop} {D : va_G} {cs zs : Nat → Nat} {h0 : Nat} {a0 : Nat → Nat} {i0 : Nat → Int32} {q : Int32 × (Nat → Nat → Int32)} (C : Cx p s m args meth c A D cs zs cX8_takeCycle 5 (some .int) RX8)  : ∀ (n : Nat), ∀ (r0 : Nat → Nat → Int32) (x2 : Int32) (x3 : Int32) (H : Heap) (locs : List Loc) (ls : Array Slot), f_X8_takeCycle_4 i0 n r0 x2 x3 = some q → va_P D vwCl (W8 cs h0 a0 i0 r0) H → va_D A (W8 cs h0 a0 i0 r0) → va_S A s.heap H locs → lv_has ls 5 [(0, .ref h0), (2, .int x2), (3, .int x3)] → W p l e rmX8_takeCycle s m args below meth c H locs 0 0 (MQ below (Qi D cs A q.1 (W8 cs h0 a0 i0 q.2)) args s 0 0 A) (F0 m 4 ls []) := by
  obtain ⟨hx, hb, hr, hml, hown, hts, hK, hA, hlocks, hZ⟩ := id C
  intro n
  induction n with
  | zero =>
    intro r0 x2 x3 H locs ls hf
    rw [f_X8_takeCycle_4] at hf
    cases hf
  | succ n ih =>
    intro r0 x2 x3 H locs ls hf hP hD hS hl
    rw [f_X8_takeCycle_4] at hf
    refine lv_iload_n hx hb dX8_takeCycle_4 rfl (lv_at hl 1 rfl) ?_
    refine lv_sipush (v := 256) hx hb dX8_takeCycle_5 (by decide) ?_
    refine lv_icmp_ge (tgt := 45) hx hb dX8_takeCycle_8 (by decide) (fun hc => ?_) (fun hc => ?_)
    · have hf := ite_t hf hc
      refine lv_iload_n hx hb dX8_takeCycle_45 rfl (lv_at hl 1 rfl) ?_
      obtain rfl := Option.some.inj hf
      exact k_iret hx hb hr hlocks hK hP hD hS dX8_takeCycle_46
    · have hf := ite_f hf hc
      refine lv_aload_n hx hb dX8_takeCycle_11 rfl (lv_at hl 0 rfl) ?_
      refine va_get (D := D) (ci := 8) (v := .ref (a0 0)) (C := RX8) (T := TX8) (N := 4) hx hb hts hiX8 hown hK hP 0 rfl rfl 0 (by decide) (hts _ flX8_9) (fun _ h9 => h9) rfl dX8_takeCycle_12 ?_
      refine lv_iload_n hx hb dX8_takeCycle_15 rfl (lv_at hl 2 rfl) ?_
      refine va_iald (f := r0 0) hx hb hK hP 1 0 rfl rfl (ck_in hf) dX8_takeCycle_16 ?_
      have hf := ck_2 hf
      refine lv_iconst (v := (-1)) hx hb dX8_takeCycle_17 (by decide) ?_
      refine lv_icmp_eq (tgt := 45) hx hb dX8_takeCycle_18 (by decide) (fun hc => ?_) (fun hc => ?_)
      · have hf := ite_t hf hc
        refine lv_iload_n hx hb dX8_takeCycle_45 rfl (lv_at hl 1 rfl) ?_
        obtain rfl := Option.some.inj hf
        exact k_iret hx hb hr hlocks hK hP hD hS dX8_takeCycle_46
      · have hf := ite_f hf hc
        refine lv_aload_n hx hb dX8_takeCycle_21 rfl (lv_at hl 0 rfl) ?_
        refine va_get (D := D) (ci := 8) (v := .ref (a0 0)) (C := RX8) (T := TX8) (N := 4) hx hb hts hiX8 hown hK hP 0 rfl rfl 0 (by decide) (hts _ flX8_9) (fun _ h9 => h9) rfl dX8_takeCycle_22 ?_
        refine lv_iload_n hx hb dX8_takeCycle_25 rfl (lv_at hl 2 rfl) ?_
        refine va_iald (f := r0 0) hx hb hK hP 1 0 rfl rfl (ck_in hf) dX8_takeCycle_26 ?_
        have hf := ck_2 hf
        refine lv_istore (lv' := [(4, .int (r0 0 x3.toNatClampNeg)), (0, .ref h0), (2, .int x2), (3, .int x3)]) hx hb dX8_takeCycle_27 hl (by decide) rfl (fun ls hl => ?_)
        refine lv_aload_n hx hb dX8_takeCycle_29 rfl (lv_at hl 1 rfl) ?_
        refine va_get (D := D) (ci := 8) (v := .ref (a0 0)) (C := RX8) (T := TX8) (N := 4) hx hb hts hiX8 hown hK hP 0 rfl rfl 0 (by decide) (hts _ flX8_9) (fun _ h9 => h9) rfl dX8_takeCycle_30 ?_
        refine lv_iload_n hx hb dX8_takeCycle_33 rfl (lv_at hl 3 rfl) ?_
        refine lv_iconst (v := (-1)) hx hb dX8_takeCycle_34 (by decide) ?_
        refine va_iast (f := r0 0) hx hb hK hP hD hS 1 0 rfl rfl (ck_in hf) dX8_takeCycle_35 (fun H locs hP hD hS => ?_)
        have hf := ck_2 hf
        obtain ⟨hP, hD⟩ := st8_0 hP hD
        refine lv_iload hx hb dX8_takeCycle_36 (lv_at hl 0 rfl) ?_
        refine lv_istore_n (lv' := [(3, .int (r0 0 x3.toNatClampNeg)), (4, .int (r0 0 x3.toNatClampNeg)), (0, .ref h0), (2, .int x2)]) hx hb dX8_takeCycle_38 rfl hl (by decide) rfl (fun ls hl => ?_)
        refine lv_iinc (v := x2 + 1) (lv' := [(2, .int (x2 + 1)), (3, .int (r0 0 x3.toNatClampNeg)), (4, .int (r0 0 x3.toNatClampNeg)), (0, .ref h0)]) hx hb dX8_takeCycle_39 hl (k := 3) rfl rfl (by decide) rfl (fun ls hl => ?_)
        refine lv_goto (tgt := 4) hx hb dX8_takeCycle_42 (by decide) ?_
        exact ih _ _ _ _ _ _ hf hP hD hS (lv_sub hl [3, 0, 1] rfl)
def f_X8_takeCycle  (i0 : Nat → Int32) (r0 : Nat → Nat → Int32) (x1 : Int32) : Option (Int32 × (Nat → Nat → Int32)) := f_X8_takeCycle_4 i0 2000000 r0 0 x1
set_option maxRecDepth 100000 in
set_option maxHeartbeats 4000000 in
theorem c_X8_takeCycle {l : Launch} {D : va_G} {cs zs : Nat → Nat} {h0 : Nat} {a0 : Nat → Nat} {i0 : Nat → Int32} {r0 : Nat → Nat → Int32} {x1 : Int32} {q : Int32 × (Nat → Nat → Int32)} (hf : f_X8_takeCycle i0 r0 x1 = some q) : Mi l yX8_takeCycle wlX8_takeCycle rmX8_takeCycle D cs zs [.ref h0, .int x1] (W8 cs h0 a0 i0 r0) q.1 (W8 cs h0 a0 i0 q.2) := by
  refine Mi.of RX8 (by decide) rfl (Nat.le_of_ble_eq_true rfl) (fun p e s m below meth c A C hP hD hS ls hl => ?_)
  generalize ([.ref h0, .int x1] : List Value).toArray = args at C ⊢
  obtain ⟨hx, hb, hr, hml, hown, hts, hK, hA, hlocks, hZ⟩ := id C
  have hl : lv_has ls 5 [(0, .ref h0), (1, .int x1)] := hl
  rw [f_X8_takeCycle] at hf
  refine lv_iconst (v := 0) hx hb dX8_takeCycle_0 (by decide) ?_
  refine lv_istore_n (lv' := [(2, .int 0), (0, .ref h0), (1, .int x1)]) hx hb dX8_takeCycle_1 rfl hl (by decide) rfl (fun ls hl => ?_)
  refine lv_iload_n hx hb dX8_takeCycle_2 rfl (lv_at hl 2 rfl) ?_
  refine lv_istore_n (lv' := [(3, .int x1), (2, .int 0), (0, .ref h0), (1, .int x1)]) hx hb dX8_takeCycle_3 rfl hl (by decide) rfl (fun ls hl => ?_)
  exact w_X8_takeCycle_4 C  2000000 _ _ _ _ _ _ hf hP hD hS (lv_sub hl [2, 1, 0] rfl)
/-! MarbleFloor$Tables.oddness(LMarbleFloor$Floor;)I -/
abbrev wlX8_oddness : List Cond := Cond.code yX8_oddness cX8_oddness 4 (some .int) :: tbG
abbrev rmX8_oddness : Room := { frames := 3, cells := 0, slots := 0, locals := 70 }
theorem qnX8_oddness : yX8_oddness.cls = RX8 ∧ yX8_oddness.cls ≠ "java/lang/invoke/MethodHandle" ∧ yX8_oddness.cls ≠ "java/lang/invoke/VarHandle" ∧ (parseMethodDescriptor yX8_oddness.desc).map (fun d => d.parameters.length) = some 1 := by decide +kernel
def f_X8_oddness_42 (i0 : Nat → Int32) (i1 : Nat → Int32) (r1 : Nat → Nat → Int32) (K12 : (Nat → Nat → Int32) → Int32 → Int32 → Option (Int32 × (Nat → Nat → Int32))) (r0 : Nat → Nat → Int32) (x2 : Int32) (x3 : Int32) : Option (Int32 × (Nat → Nat → Int32)) := K12 r0 x2 (x3 + 1)
set_option maxRecDepth 100000 in
set_option maxHeartbeats 4000000 in
theorem w_X8_oddness_42 {p : Program} {l : Launch} {e : Env} {s : State} {m : MethodId} {args : Array Value} {below : List Frame} {meth : Method} {c : Code} {A : Nat → Prop} {D : va_G} {cs zs : Nat → Nat} {h0 : Nat} {a0 : Nat → Nat} {h1 : Nat} {a1 : Nat → Nat} {i0 : Nat → Int32} {i1 : Nat → Int32} {r1 : Nat → Nat → Int32} {q : Int32 × (Nat → Nat → Int32)} (C : Cx p s m args meth c A D cs zs cX8_oddness 4 (some .int) RX8) (K12 : (Nat → Nat → Int32) → Int32 → Int32 → Option (Int32 × (Nat → Nat → Int32))) (hK12 : ∀ (r0 : Nat → Nat → Int32) (x2 : Int32) (x3 : Int32) (H : Heap) (locs : List Loc) (ls : Array Slot), K12 r0 x2 x3 = some q → va_P D vwCl (W8 cs h0 a0 i0 r0 ++ W2 cs h1 a1 i1 r1) H → va_D A (W8 cs h0 a0 i0 r0 ++ W2 cs h1 a1 i1 r1) → va_S A s.heap H locs → lv_has ls 4 [(0, .ref h0), (1, .ref h1), (2, .int x2), (3, .int x3)] → W p l e rmX8_oddness s m args below meth c H locs 0 0 (MQ below (Qi D cs A q.1 (W8 cs h0 a0 i0 q.2 ++ W2 cs h1 a1 i1 r1)) args s 0 0 A) (F0 m 12 ls [])) : ∀ (r0 : Nat → Nat → Int32) (x2 : Int32) (x3 : Int32) (H : Heap) (locs : List Loc) (ls : Array Slot), f_X8_oddness_42 i0 i1 r1 K12 r0 x2 x3 = some q → va_P D vwCl (W8 cs h0 a0 i0 r0 ++ W2 cs h1 a1 i1 r1) H → va_D A (W8 cs h0 a0 i0 r0 ++ W2 cs h1 a1 i1 r1) → va_S A s.heap H locs → lv_has ls 4 [(0, .ref h0), (1, .ref h1), (2, .int x2), (3, .int x3)] → W p l e rmX8_oddness s m args below meth c H locs 0 0 (MQ below (Qi D cs A q.1 (W8 cs h0 a0 i0 q.2 ++ W2 cs h1 a1 i1 r1)) args s 0 0 A) (F0 m 42 ls []) := by
  obtain ⟨hx, hb, hr, hml, hown, hts, hK, hA, hlocks, hZ⟩ := id C
  intro r0 x2 x3 H locs ls hf hP hD hS hl
  rw [f_X8_oddness_42] at hf
  refine lv_iinc (v := x3 + 1) (lv' := [(3, .int (x3 + 1)), (0, .ref h0), (1, .ref h1), (2, .int x2)]) hx hb dX8_oddness_42 hl (k := 3) rfl rfl (by decide) rfl (fun ls hl => ?_)
  refine lv_goto (tgt := 12) hx hb dX8_oddness_45 (by decide) ?_
  exact hK12 _ _ _ _ _ _ hf hP hD hS (lv_sub hl [1, 2, 3, 0] rfl)
def f_X8_oddness_12 (i0 : Nat → Int32) (i1 : Nat → Int32) (r1 : Nat → Nat → Int32)  : Nat → (Nat → Nat → Int32) → Int32 → Int32 → Option (Int32 × (Nat → Nat → Int32))
  | 0, _, _, _ => none
  | n + 1, r0, x2, x3 => bd (f_X2_rows i1 r1) (fun q4 => if q4 ≤ x3 then (some (x2, r0)) else (ck (inb x3 256) (if (r0 0 x3.toNatClampNeg) = (-1) then (f_X8_oddness_42 i0 i1 r1 (f_X8_oddness_12 i0 i1 r1 n) r0 x2 x3) else (bd (f_X8_takeCycle i0 r0 x3) (fun q5 => f_X8_oddness_42 i0 i1 r1 (f_X8_oddness_12 i0 i1 r1 n) q5.2 (x2 ^^^ ((q5.1 - 1) &&& 1)) x3)))))
set_option maxRecDepth 100000 in
set_option maxHeartbeats 4000000 in
theorem w_X8_oddness_12 {p : Program} {l : Launch} {e : Env} {s : State} {m : MethodId} {args : Array Value} {below : List Frame} {meth : Method} {c : Code} {A : Nat → Prop} {D : va_G} {cs zs : Nat → Nat} {h0 : Nat} {a0 : Nat → Nat} {h1 : Nat} {a1 : Nat → Nat} {i0 : Nat → Int32} {i1 : Nat → Int32} {r1 : Nat → Nat → Int32} {q : Int32 × (Nat → Nat → Int32)} (C : Cx p s m args meth c A D cs zs cX8_oddness 4 (some .int) RX8)  : ∀ (n : Nat), ∀ (r0 : Nat → Nat → Int32) (x2 : Int32) (x3 : Int32) (H : Heap) (locs : List Loc) (ls : Array Slot), f_X8_oddness_12 i0 i1 r1 n r0 x2 x3 = some q → va_P D vwCl (W8 cs h0 a0 i0 r0 ++ W2 cs h1 a1 i1 r1) H → va_D A (W8 cs h0 a0 i0 r0 ++ W2 cs h1 a1 i1 r1) → va_S A s.heap H locs → lv_has ls 4 [(0, .ref h0), (1, .ref h1), (2, .int x2), (3, .int x3)] → W p l e rmX8_oddness s m args below meth c H locs 0 0 (MQ below (Qi D cs A q.1 (W8 cs h0 a0 i0 q.2 ++ W2 cs h1 a1 i1 r1)) args s 0 0 A) (F0 m 12 ls []) := by
  obtain ⟨hx, hb, hr, hml, hown, hts, hK, hA, hlocks, hZ⟩ := id C
  intro n
  induction n with
  | zero =>
    intro r0 x2 x3 H locs ls hf
    rw [f_X8_oddness_12] at hf
    cases hf
  | succ n ih =>
    intro r0 x2 x3 H locs ls hf hP hD hS hl
    rw [f_X8_oddness_12] at hf
    refine lv_iload_n hx hb dX8_oddness_12 rfl (lv_at hl 3 rfl) ?_
    refine lv_aload_n hx hb dX8_oddness_13 rfl (lv_at hl 1 rfl) ?_
    obtain ⟨q4, hq4, hf⟩ := bd_s hf
    refine k_pVi (wr := W8 cs h0 a0 i0 r0) (ws2 := W8 cs h0 a0 i0 r0 ++ W2 cs h1 a1 i1 r1) (As := []) (rest := [.int x3]) hx hb hml hown hts hK hA hZ hl.1 hP hD hS (c_X2_rows (h0 := h1) (a0 := a1) hq4) (gVt mlX8_27 imX2_rows seX2_rows inX2 coX2_rows) rfl qnX2_rows rfl rfl ⟨Nat.le_of_ble_eq_true rfl, Nat.le_of_ble_eq_true rfl⟩ [4, 5, 6, 7, 8] [0, 1, 2, 3] [0, 1, 2, 3, 4, 5, 6, 7, 8] rfl rfl rfl (by decide) 0 2 rfl rfl rfl rfl rfl (Nat.le_of_ble_eq_true rfl) ⟨Nat.zero_le _, Nat.zero_le _⟩ dX8_oddness_14 (fun H locs hP hD hS => ?_)
    refine lv_icmp_ge (tgt := 48) hx hb dX8_oddness_17 (by decide) (fun hc => ?_) (fun hc => ?_)
    · have hf := ite_t hf hc
      refine lv_iload_n hx hb dX8_oddness_48 rfl (lv_at hl 2 rfl) ?_
      obtain rfl := Option.some.inj hf
      exact k_iret hx hb hr hlocks hK hP hD hS dX8_oddness_49
    · have hf := ite_f hf hc
      refine lv_aload_n hx hb dX8_oddness_20 rfl (lv_at hl 0 rfl) ?_
      refine va_get (D := D) (ci := 8) (v := .ref (a0 0)) (C := RX8) (T := TX8) (N := 4) hx hb hts hiX8 hown hK hP 0 rfl rfl 0 (by decide) (hts _ flX8_9) (fun _ h9 => h9) rfl dX8_oddness_21 ?_
      refine lv_iload_n hx hb dX8_oddness_24 rfl (lv_at hl 3 rfl) ?_
      refine va_iald (f := r0 0) hx hb hK hP 1 0 rfl rfl (ck_in hf) dX8_oddness_25 ?_
      have hf := ck_2 hf
      refine lv_iconst (v := (-1)) hx hb dX8_oddness_26 (by decide) ?_
      refine lv_icmp_eq (tgt := 42) hx hb dX8_oddness_27 (by decide) (fun hc => ?_) (fun hc => ?_)
      · have hf := ite_t hf hc
        exact w_X8_oddness_42 C _ (ih) _ _ _ _ _ _ hf hP hD hS (lv_sub hl [0, 1, 2, 3] rfl)
      · have hf := ite_f hf hc
        refine lv_iload_n hx hb dX8_oddness_30 rfl (lv_at hl 2 rfl) ?_
        refine lv_aload_n hx hb dX8_oddness_31 rfl (lv_at hl 0 rfl) ?_
        refine lv_iload_n hx hb dX8_oddness_32 rfl (lv_at hl 3 rfl) ?_
        obtain ⟨q5, hq5, hf⟩ := bd_s hf
        refine k_pVi (wr := W2 cs h1 a1 i1 r1) (ws2 := W8 cs h0 a0 i0 q5.2 ++ W2 cs h1 a1 i1 r1) (As := [.int x3]) (rest := [.int x2]) hx hb hml hown hts hK hA hZ hl.1 hP hD hS (c_X8_takeCycle (h0 := h0) (a0 := a0) hq5) (gVt mlX8_31 imX8_takeCycle seX8_takeCycle inX8 coX8_takeCycle) rfl qnX8_takeCycle rfl rfl ⟨Nat.le_of_ble_eq_true rfl, Nat.le_of_ble_eq_true rfl⟩ [0, 1, 2, 3] [4, 5, 6, 7, 8] [5, 6, 7, 8, 0, 1, 2, 3, 4] rfl rfl rfl (by decide) 0 8 rfl rfl rfl rfl rfl (Nat.le_of_ble_eq_true rfl) ⟨Nat.zero_le _, Nat.zero_le _⟩ dX8_oddness_33 (fun H locs hP hD hS => ?_)
        refine lv_iconst (v := 1) hx hb dX8_oddness_36 (by decide) ?_
        refine lv_isub hx hb dX8_oddness_37 ?_
        refine lv_iconst (v := 1) hx hb dX8_oddness_38 (by decide) ?_
        refine lv_iand hx hb dX8_oddness_39 ?_
        refine lv_ixor hx hb dX8_oddness_40 ?_
        refine lv_istore_n (lv' := [(2, .int (x2 ^^^ ((q5.1 - 1) &&& 1))), (0, .ref h0), (1, .ref h1), (3, .int x3)]) hx hb dX8_oddness_41 rfl hl (by decide) rfl (fun ls hl => ?_)
        exact w_X8_oddness_42 C _ (ih) _ _ _ _ _ _ hf hP hD hS (lv_sub hl [1, 2, 0, 3] rfl)
def f_X8_oddness  (i0 : Nat → Int32) (r0 : Nat → Nat → Int32) (i1 : Nat → Int32) (r1 : Nat → Nat → Int32)  : Option (Int32 × (Nat → Nat → Int32)) := bd (f_X2_fillTable 256 i1 r1 (r0 0)) (fun q6 => f_X8_oddness_12 i0 i1 r1 2000000 (va_up r0 0 q6) 0 0)
set_option maxRecDepth 100000 in
set_option maxHeartbeats 4000000 in
theorem c_X8_oddness {l : Launch} {D : va_G} {cs zs : Nat → Nat} {h0 : Nat} {a0 : Nat → Nat} {h1 : Nat} {a1 : Nat → Nat} {i0 : Nat → Int32} {r0 : Nat → Nat → Int32} {i1 : Nat → Int32} {r1 : Nat → Nat → Int32}  {q : Int32 × (Nat → Nat → Int32)} (hf : f_X8_oddness i0 r0 i1 r1 = some q) : Mi l yX8_oddness wlX8_oddness rmX8_oddness D cs zs [.ref h0, .ref h1] (W8 cs h0 a0 i0 r0 ++ W2 cs h1 a1 i1 r1) q.1 (W8 cs h0 a0 i0 q.2 ++ W2 cs h1 a1 i1 r1) := by
  refine Mi.of RX8 (by decide) rfl (Nat.le_of_ble_eq_true rfl) (fun p e s m below meth c A C hP hD hS ls hl => ?_)
  generalize ([.ref h0, .ref h1] : List Value).toArray = args at C ⊢
  obtain ⟨hx, hb, hr, hml, hown, hts, hK, hA, hlocks, hZ⟩ := id C
  have hl : lv_has ls 4 [(0, .ref h0), (1, .ref h1)] := hl
  rw [f_X8_oddness] at hf
  refine lv_aload_n hx hb dX8_oddness_0 rfl (lv_at hl 1 rfl) ?_
  refine lv_aload_n hx hb dX8_oddness_1 rfl (lv_at hl 0 rfl) ?_
  refine va_get (D := D) (ci := 8) (v := .ref (a0 0)) (C := RX8) (T := TX8) (N := 4) hx hb hts hiX8 hown hK hP 0 rfl rfl 0 (by decide) (hts _ flX8_9) (fun _ h9 => h9) rfl dX8_oddness_2 ?_
  obtain ⟨q6, hq6, hf⟩ := bd_s hf
  refine k_pVv (wr := [(h0, .inr (8, fs8 a0 i0)), (a0 1, .inl (cs 0, 40, .inl (r0 1))), (a0 2, .inl (cs 0, 40, .inl (r0 2)))]) (ws2 := W8 cs h0 a0 i0 (va_up r0 0 q6) ++ W2 cs h1 a1 i1 r1) (As := [.ref (a0 0)]) (rest := []) hx hb hml hown hts hK hA hZ hl.1 hP hD hS (c_X2_fillTable (h0 := h1) (a0 := a1) (h1 := (a0 0)) (n1 := 256) hq6) (gVt mlX8_21 imX2_fillTable seX2_fillTable inX2 coX2_fillTable) rfl qnX2_fillTable rfl rfl ⟨Nat.le_of_ble_eq_true rfl, Nat.le_of_ble_eq_true rfl⟩ [4, 5, 6, 7, 8, 1] [0, 2, 3] [0, 8, 1, 2, 3, 4, 5, 6, 7] rfl rfl rfl (by decide) 0 2 rfl rfl rfl rfl rfl (Nat.le_of_ble_eq_true rfl) ⟨Nat.zero_le _, Nat.zero_le _⟩ dX8_oddness_5 (fun H locs hP hD hS => ?_)
  refine lv_iconst (v := 0) hx hb dX8_oddness_8 (by decide) ?_
  refine lv_istore_n (lv' := [(2, .int 0), (0, .ref h0), (1, .ref h1)]) hx hb dX8_oddness_9 rfl hl (by decide) rfl (fun ls hl => ?_)
  refine lv_iconst (v := 0) hx hb dX8_oddness_10 (by decide) ?_
  refine lv_istore_n (lv' := [(3, .int 0), (2, .int 0), (0, .ref h0), (1, .ref h1)]) hx hb dX8_oddness_11 rfl hl (by decide) rfl (fun ls hl => ?_)
  exact w_X8_oddness_12 C  2000000 _ _ _ _ _ _ hf hP hD hS (lv_sub hl [2, 3, 1, 0] rfl)
/-! MarbleFloor$Tables.greatestCommon(JJ)J -/
abbrev wlX8_greatestCommon : List Cond := Cond.code yX8_greatestCommon cX8_greatestCommon 11 (some .long) :: tbG
abbrev rmX8_greatestCommon : Room := { frames := 0, cells := 0, slots := 0, locals := 0 }
theorem qnX8_greatestCommon : yX8_greatestCommon.cls ≠ "java/lang/invoke/MethodHandle" ∧ yX8_greatestCommon.cls ≠ "java/lang/invoke/VarHandle" ∧ (parseMethodDescriptor yX8_greatestCommon.desc).map (fun d => d.parameters.length) = some 2 := by decide +kernel
def f_X8_greatestCommon_45   (x4 : Int64) : Option (Int64) := if (lg_cmp x4 0) ≤ 0 then (some (1)) else (some (x4))
set_option maxRecDepth 100000 in
set_option maxHeartbeats 4000000 in
theorem w_X8_greatestCommon_45 {p : Program} {l : Launch} {e : Env} {s : State} {m : MethodId} {args : Array Value} {below : List Frame} {meth : Method} {c : Code} {A : Nat → Prop} {D : va_G} {cs zs : Nat → Nat}   {q : Int64} (C : Cx p s m args meth c A D cs zs cX8_greatestCommon 11 (some .long) RX8)  : ∀ (x4 : Int64) (H : Heap) (locs : List Loc) (ls : Array Slot), f_X8_greatestCommon_45 x4 = some q → va_P D vwCl (([] : va_W)) H → va_D A (([] : va_W)) → va_S A s.heap H locs → lv_has ls 11 [(4, .long x4)] → W p l e rmX8_greatestCommon s m args below meth c H locs 0 0 (MQ below (Ql D cs A q (([] : va_W))) args s 0 0 A) (F0 m 45 ls []) := by
  obtain ⟨hx, hb, hr, hml, hown, hts, hK, hA, hlocks, hZ⟩ := id C
  intro x4 H locs ls hf hP hD hS hl
  rw [f_X8_greatestCommon_45] at hf
  refine lv_lload hx hb dX8_greatestCommon_45 (lv_at hl 0 rfl) ?_
  refine lv_lconst (v := 0) hx hb dX8_greatestCommon_47 (by decide) ?_
  refine W.lcmp hx hb dX8_greatestCommon_48 ?_
  refine lv_if_le (tgt := 57) hx hb dX8_greatestCommon_49 (by decide) (fun hc => ?_) (fun hc => ?_)
  · have hf := ite_t hf hc
    refine lv_lconst (v := 1) hx hb dX8_greatestCommon_57 (by decide) ?_
    obtain rfl := Option.some.inj hf
    exact k_lret hx hb hr hlocks hK hP hD hS dX8_greatestCommon_58
  · have hf := ite_f hf hc
    refine lv_lload hx hb dX8_greatestCommon_52 (lv_at hl 0 rfl) ?_
    refine lv_goto (tgt := 58) hx hb dX8_greatestCommon_54 (by decide) ?_
    obtain rfl := Option.some.inj hf
    exact k_lret hx hb hr hlocks hK hP hD hS dX8_greatestCommon_58
def f_X8_greatestCommon_9   : Nat → Int64 → Int64 → Int32 → Option (Int64)
  | 0, _, _, _ => none
  | n + 1, x4, x6, x8 => if 200 ≤ x8 then (f_X8_greatestCommon_45 x4) else (if (lg_cmp x6 0) ≤ 0 then (f_X8_greatestCommon_45 x4) else (ck (nzl x6) (f_X8_greatestCommon_9 n x6 (x4 - x4 / x6 * x6) (x8 + 1))))
set_option maxRecDepth 100000 in
set_option maxHeartbeats 4000000 in
theorem w_X8_greatestCommon_9 {p : Program} {l : Launch} {e : Env} {s : State} {m : MethodId} {args : Array Value} {below : List Frame} {meth : Method} {c : Code} {A : Nat → Prop} {D : va_G} {cs zs : Nat → Nat}   {q : Int64} (C : Cx p s m args meth c A D cs zs cX8_greatestCommon 11 (some .long) RX8)  : ∀ (n : Nat), ∀ (x4 : Int64) (x6 : Int64) (x8 : Int32) (H : Heap) (locs : List Loc) (ls : Array Slot), f_X8_greatestCommon_9 n x4 x6 x8 = some q → va_P D vwCl (([] : va_W)) H → va_D A (([] : va_W)) → va_S A s.heap H locs → lv_has ls 11 [(4, .long x4), (6, .long x6), (8, .int x8)] → W p l e rmX8_greatestCommon s m args below meth c H locs 0 0 (MQ below (Ql D cs A q (([] : va_W))) args s 0 0 A) (F0 m 9 ls []) := by
  obtain ⟨hx, hb, hr, hml, hown, hts, hK, hA, hlocks, hZ⟩ := id C
  intro n
  induction n with
  | zero =>
    intro x4 x6 x8 H locs ls hf
    rw [f_X8_greatestCommon_9] at hf
    cases hf
  | succ n ih =>
    intro x4 x6 x8 H locs ls hf hP hD hS hl
    rw [f_X8_greatestCommon_9] at hf
    refine lv_iload hx hb dX8_greatestCommon_9 (lv_at hl 2 rfl) ?_
    refine lv_sipush (v := 200) hx hb dX8_greatestCommon_11 (by decide) ?_
    refine lv_icmp_ge (tgt := 45) hx hb dX8_greatestCommon_14 (by decide) (fun hc => ?_) (fun hc => ?_)
    · have hf := ite_t hf hc
      exact w_X8_greatestCommon_45 C  _ _ _ _ hf hP hD hS (lv_sub hl [0] rfl)
    · have hf := ite_f hf hc
      refine lv_lload hx hb dX8_greatestCommon_17 (lv_at hl 1 rfl) ?_
      refine lv_lconst (v := 0) hx hb dX8_greatestCommon_19 (by decide) ?_
      refine W.lcmp hx hb dX8_greatestCommon_20 ?_
      refine lv_if_le (tgt := 45) hx hb dX8_greatestCommon_21 (by decide) (fun hc => ?_) (fun hc => ?_)
      · have hf := ite_t hf hc
        exact w_X8_greatestCommon_45 C  _ _ _ _ hf hP hD hS (lv_sub hl [0] rfl)
      · have hf := ite_f hf hc
        refine lv_lload hx hb dX8_greatestCommon_24 (lv_at hl 0 rfl) ?_
        refine lv_lload hx hb dX8_greatestCommon_26 (lv_at hl 1 rfl) ?_
        refine lv_lrem hx hb dX8_greatestCommon_28 (ck_nzl hf) ?_
        have hf := ck_2 hf
        refine lv_lstore (lv' := [(9, .long (x4 - x4 / x6 * x6)), (4, .long x4), (6, .long x6), (8, .int x8)]) hx hb dX8_greatestCommon_29 hl (by decide) rfl (fun ls hl => ?_)
        refine lv_lload hx hb dX8_greatestCommon_31 (lv_at hl 2 rfl) ?_
        refine lv_lstore (lv' := [(4, .long x6), (9, .long (x4 - x4 / x6 * x6)), (6, .long x6), (8, .int x8)]) hx hb dX8_greatestCommon_33 hl (by decide) rfl (fun ls hl => ?_)
        refine lv_lload hx hb dX8_greatestCommon_35 (lv_at hl 1 rfl) ?_
        refine lv_lstore (lv' := [(6, .long (x4 - x4 / x6 * x6)), (4, .long x6), (9, .long (x4 - x4 / x6 * x6)), (8, .int x8)]) hx hb dX8_greatestCommon_37 hl (by decide) rfl (fun ls hl => ?_)
        refine lv_iinc (v := x8 + 1) (lv' := [(8, .int (x8 + 1)), (6, .long (x4 - x4 / x6 * x6)), (4, .long x6), (9, .long (x4 - x4 / x6 * x6))]) hx hb dX8_greatestCommon_39 hl (k := 3) rfl rfl (by decide) rfl (fun ls hl => ?_)
        refine lv_goto (tgt := 9) hx hb dX8_greatestCommon_42 (by decide) ?_
        exact ih _ _ _ _ _ _ hf hP hD hS (lv_sub hl [2, 1, 0] rfl)
def f_X8_greatestCommon   (x0 : Int64) (x2 : Int64) : Option (Int64) := f_X8_greatestCommon_9 2000000 x0 x2 0
set_option maxRecDepth 100000 in
set_option maxHeartbeats 4000000 in
theorem c_X8_greatestCommon {l : Launch} {D : va_G} {cs zs : Nat → Nat}   {x0 : Int64} {x2 : Int64} {q : Int64} (hf : f_X8_greatestCommon x0 x2 = some q) : Ml l yX8_greatestCommon wlX8_greatestCommon rmX8_greatestCommon D cs zs [.long x0, .long x2] (([] : va_W)) q (([] : va_W)) := by
  refine Ml.of RX8 (by decide) rfl (Nat.le_of_ble_eq_true rfl) (fun p e s m below meth c A C hP hD hS ls hl => ?_)
  generalize ([.long x0, .long x2] : List Value).toArray = args at C ⊢
  obtain ⟨hx, hb, hr, hml, hown, hts, hK, hA, hlocks, hZ⟩ := id C
  have hl : lv_has ls 11 [(0, .long x0), (2, .long x2)] := hl
  rw [f_X8_greatestCommon] at hf
  refine lv_lload_n hx hb dX8_greatestCommon_0 rfl (lv_at hl 0 rfl) ?_
  refine lv_lstore (lv' := [(4, .long x0), (0, .long x0), (2, .long x2)]) hx hb dX8_greatestCommon_1 hl (by decide) rfl (fun ls hl => ?_)
  refine lv_lload_n hx hb dX8_greatestCommon_3 rfl (lv_at hl 2 rfl) ?_
  refine lv_lstore (lv' := [(6, .long x2), (4, .long x0), (0, .long x0), (2, .long x2)]) hx hb dX8_greatestCommon_4 hl (by decide) rfl (fun ls hl => ?_)
  refine lv_iconst (v := 0) hx hb dX8_greatestCommon_6 (by decide) ?_
  refine lv_istore (lv' := [(8, .int 0), (6, .long x2), (4, .long x0), (0, .long x0), (2, .long x2)]) hx hb dX8_greatestCommon_7 hl (by decide) rfl (fun ls hl => ?_)
  exact w_X8_greatestCommon_9 C  2000000 _ _ _ _ _ _ hf hP hD hS (lv_sub hl [2, 1, 0] rfl)
/-! MarbleFloor$Tables.runsTillAllAreThere(LMarbleFloor$Floor;)J -/
abbrev wlX8_runsTillAllAreThere : List Cond := Cond.code yX8_runsTillAllAreThere cX8_runsTillAllAreThere 7 (some .long) :: tbG
abbrev rmX8_runsTillAllAreThere : Room := { frames := 3, cells := 0, slots := 0, locals := 70 }
theorem qnX8_runsTillAllAreThere : yX8_runsTillAllAreThere.cls = RX8 ∧ yX8_runsTillAllAreThere.cls ≠ "java/lang/invoke/MethodHandle" ∧ yX8_runsTillAllAreThere.cls ≠ "java/lang/invoke/VarHandle" ∧ (parseMethodDescriptor yX8_runsTillAllAreThere.desc).map (fun d => d.parameters.length) = some 1 := by decide +kernel
def f_X8_runsTillAllAreThere_54 (i0 : Nat → Int32) (i1 : Nat → Int32) (r1 : Nat → Nat → Int32) (K13 : (Nat → Nat → Int32) → Int64 → Int32 → Option (Int64 × (Nat → Nat → Int32))) (r0 : Nat → Nat → Int32) (x2 : Int64) (x4 : Int32) : Option (Int64 × (Nat → Nat → Int32)) := K13 r0 x2 (x4 + 1)
set_option maxRecDepth 100000 in
set_option maxHeartbeats 4000000 in
theorem w_X8_runsTillAllAreThere_54 {p : Program} {l : Launch} {e : Env} {s : State} {m : MethodId} {args : Array Value} {below : List Frame} {meth : Method} {c : Code} {A : Nat → Prop} {D : va_G} {cs zs : Nat → Nat} {h0 : Nat} {a0 : Nat → Nat} {h1 : Nat} {a1 : Nat → Nat} {i0 : Nat → Int32} {i1 : Nat → Int32} {r1 : Nat → Nat → Int32} {q : Int64 × (Nat → Nat → Int32)} (C : Cx p s m args meth c A D cs zs cX8_runsTillAllAreThere 7 (some .long) RX8) (K13 : (Nat → Nat → Int32) → Int64 → Int32 → Option (Int64 × (Nat → Nat → Int32))) (hK13 : ∀ (r0 : Nat → Nat → Int32) (x2 : Int64) (x4 : Int32) (H : Heap) (locs : List Loc) (ls : Array Slot), K13 r0 x2 x4 = some q → va_P D vwCl (W8 cs h0 a0 i0 r0 ++ W2 cs h1 a1 i1 r1) H → va_D A (W8 cs h0 a0 i0 r0 ++ W2 cs h1 a1 i1 r1) → va_S A s.heap H locs → lv_has ls 7 [(0, .ref h0), (1, .ref h1), (2, .long x2), (4, .int x4)] → W p l e rmX8_runsTillAllAreThere s m args below meth c H locs 0 0 (MQ below (Ql D cs A q.1 (W8 cs h0 a0 i0 q.2 ++ W2 cs h1 a1 i1 r1)) args s 0 0 A) (F0 m 13 ls [])) : ∀ (r0 : Nat → Nat → Int32) (x2 : Int64) (x4 : Int32) (H : Heap) (locs : List Loc) (ls : Array Slot), f_X8_runsTillAllAreThere_54 i0 i1 r1 K13 r0 x2 x4 = some q → va_P D vwCl (W8 cs h0 a0 i0 r0 ++ W2 cs h1 a1 i1 r1) H → va_D A (W8 cs h0 a0 i0 r0 ++ W2 cs h1 a1 i1 r1) → va_S A s.heap H locs → lv_has ls 7 [(0, .ref h0), (1, .ref h1), (2, .long x2), (4, .int x4)] → W p l e rmX8_runsTillAllAreThere s m args below meth c H locs 0 0 (MQ below (Ql D cs A q.1 (W8 cs h0 a0 i0 q.2 ++ W2 cs h1 a1 i1 r1)) args s 0 0 A) (F0 m 54 ls []) := by
  obtain ⟨hx, hb, hr, hml, hown, hts, hK, hA, hlocks, hZ⟩ := id C
  intro r0 x2 x4 H locs ls hf hP hD hS hl
  rw [f_X8_runsTillAllAreThere_54] at hf
  refine lv_iinc (v := x4 + 1) (lv' := [(4, .int (x4 + 1)), (0, .ref h0), (1, .ref h1), (2, .long x2)]) hx hb dX8_runsTillAllAreThere_54 hl (k := 3) rfl rfl (by decide) rfl (fun ls hl => ?_)
  refine lv_goto (tgt := 13) hx hb dX8_runsTillAllAreThere_57 (by decide) ?_
  exact hK13 _ _ _ _ _ _ hf hP hD hS (lv_sub hl [1, 2, 3, 0] rfl)
def f_X8_runsTillAllAreThere_13 (i0 : Nat → Int32) (i1 : Nat → Int32) (r1 : Nat → Nat → Int32)  : Nat → (Nat → Nat → Int32) → Int64 → Int32 → Option (Int64 × (Nat → Nat → Int32))
  | 0, _, _, _ => none
  | n + 1, r0, x2, x4 => bd (f_X2_rows i1 r1) (fun q5 => if q5 ≤ x4 then (some (x2, r0)) else (ck (inb x4 256) (if (r0 0 x4.toNatClampNeg) = (-1) then (f_X8_runsTillAllAreThere_54 i0 i1 r1 (f_X8_runsTillAllAreThere_13 i0 i1 r1 n) r0 x2 x4) else (bd (f_X8_takeCycle i0 r0 x4) (fun q6 => bd (f_X8_greatestCommon x2 q6.1.toInt64) (fun q7 => ck (nzl q7) (f_X8_runsTillAllAreThere_54 i0 i1 r1 (f_X8_runsTillAllAreThere_13 i0 i1 r1 n) q6.2 ((x2 / q7) * q6.1.toInt64) x4)))))))
set_option maxRecDepth 100000 in
set_option maxHeartbeats 4000000 in
theorem w_X8_runsTillAllAreThere_13 {p : Program} {l : Launch} {e : Env} {s : State} {m : MethodId} {args : Array Value} {below : List Frame} {meth : Method} {c : Code} {A : Nat → Prop} {D : va_G} {cs zs : Nat → Nat} {h0 : Nat} {a0 : Nat → Nat} {h1 : Nat} {a1 : Nat → Nat} {i0 : Nat → Int32} {i1 : Nat → Int32} {r1 : Nat → Nat → Int32} {q : Int64 × (Nat → Nat → Int32)} (C : Cx p s m args meth c A D cs zs cX8_runsTillAllAreThere 7 (some .long) RX8)  : ∀ (n : Nat), ∀ (r0 : Nat → Nat → Int32) (x2 : Int64) (x4 : Int32) (H : Heap) (locs : List Loc) (ls : Array Slot), f_X8_runsTillAllAreThere_13 i0 i1 r1 n r0 x2 x4 = some q → va_P D vwCl (W8 cs h0 a0 i0 r0 ++ W2 cs h1 a1 i1 r1) H → va_D A (W8 cs h0 a0 i0 r0 ++ W2 cs h1 a1 i1 r1) → va_S A s.heap H locs → lv_has ls 7 [(0, .ref h0), (1, .ref h1), (2, .long x2), (4, .int x4)] → W p l e rmX8_runsTillAllAreThere s m args below meth c H locs 0 0 (MQ below (Ql D cs A q.1 (W8 cs h0 a0 i0 q.2 ++ W2 cs h1 a1 i1 r1)) args s 0 0 A) (F0 m 13 ls []) := by
  obtain ⟨hx, hb, hr, hml, hown, hts, hK, hA, hlocks, hZ⟩ := id C
  intro n
  induction n with
  | zero =>
    intro r0 x2 x4 H locs ls hf
    rw [f_X8_runsTillAllAreThere_13] at hf
    cases hf
  | succ n ih =>
    intro r0 x2 x4 H locs ls hf hP hD hS hl
    rw [f_X8_runsTillAllAreThere_13] at hf
    refine lv_iload hx hb dX8_runsTillAllAreThere_13 (lv_at hl 3 rfl) ?_
    refine lv_aload_n hx hb dX8_runsTillAllAreThere_15 rfl (lv_at hl 1 rfl) ?_
    obtain ⟨q5, hq5, hf⟩ := bd_s hf
    refine k_pVi (wr := W8 cs h0 a0 i0 r0) (ws2 := W8 cs h0 a0 i0 r0 ++ W2 cs h1 a1 i1 r1) (As := []) (rest := [.int x4]) hx hb hml hown hts hK hA hZ hl.1 hP hD hS (c_X2_rows (h0 := h1) (a0 := a1) hq5) (gVt mlX8_27 imX2_rows seX2_rows inX2 coX2_rows) rfl qnX2_rows rfl rfl ⟨Nat.le_of_ble_eq_true rfl, Nat.le_of_ble_eq_true rfl⟩ [4, 5, 6, 7, 8] [0, 1, 2, 3] [0, 1, 2, 3, 4, 5, 6, 7, 8] rfl rfl rfl (by decide) 0 2 rfl rfl rfl rfl rfl (Nat.le_of_ble_eq_true rfl) ⟨Nat.zero_le _, Nat.zero_le _⟩ dX8_runsTillAllAreThere_16 (fun H locs hP hD hS => ?_)
    refine lv_icmp_ge (tgt := 60) hx hb dX8_runsTillAllAreThere_19 (by decide) (fun hc => ?_) (fun hc => ?_)
    · have hf := ite_t hf hc
      refine lv_lload_n hx hb dX8_runsTillAllAreThere_60 rfl (lv_at hl 2 rfl) ?_
      obtain rfl := Option.some.inj hf
      exact k_lret hx hb hr hlocks hK hP hD hS dX8_runsTillAllAreThere_61
    · have hf := ite_f hf hc
      refine lv_aload_n hx hb dX8_runsTillAllAreThere_22 rfl (lv_at hl 0 rfl) ?_
      refine va_get (D := D) (ci := 8) (v := .ref (a0 0)) (C := RX8) (T := TX8) (N := 4) hx hb hts hiX8 hown hK hP 0 rfl rfl 0 (by decide) (hts _ flX8_9) (fun _ h9 => h9) rfl dX8_runsTillAllAreThere_23 ?_
      refine lv_iload hx hb dX8_runsTillAllAreThere_26 (lv_at hl 3 rfl) ?_
      refine va_iald (f := r0 0) hx hb hK hP 1 0 rfl rfl (ck_in hf) dX8_runsTillAllAreThere_28 ?_
      have hf := ck_2 hf
      refine lv_iconst (v := (-1)) hx hb dX8_runsTillAllAreThere_29 (by decide) ?_
      refine lv_icmp_eq (tgt := 54) hx hb dX8_runsTillAllAreThere_30 (by decide) (fun hc => ?_) (fun hc => ?_)
      · have hf := ite_t hf hc
        exact w_X8_runsTillAllAreThere_54 C _ (ih) _ _ _ _ _ _ hf hP hD hS (lv_sub hl [0, 1, 2, 3] rfl)
      · have hf := ite_f hf hc
        refine lv_aload_n hx hb dX8_runsTillAllAreThere_33 rfl (lv_at hl 0 rfl) ?_
        refine lv_iload hx hb dX8_runsTillAllAreThere_34 (lv_at hl 3 rfl) ?_
        obtain ⟨q6, hq6, hf⟩ := bd_s hf
        refine k_pVi (wr := W2 cs h1 a1 i1 r1) (ws2 := W8 cs h0 a0 i0 q6.2 ++ W2 cs h1 a1 i1 r1) (As := [.int x4]) (rest := []) hx hb hml hown hts hK hA hZ hl.1 hP hD hS (c_X8_takeCycle (h0 := h0) (a0 := a0) hq6) (gVt mlX8_31 imX8_takeCycle seX8_takeCycle inX8 coX8_takeCycle) rfl qnX8_takeCycle rfl rfl ⟨Nat.le_of_ble_eq_true rfl, Nat.le_of_ble_eq_true rfl⟩ [0, 1, 2, 3] [4, 5, 6, 7, 8] [5, 6, 7, 8, 0, 1, 2, 3, 4] rfl rfl rfl (by decide) 0 8 rfl rfl rfl rfl rfl (Nat.le_of_ble_eq_true rfl) ⟨Nat.zero_le _, Nat.zero_le _⟩ dX8_runsTillAllAreThere_36 (fun H locs hP hD hS => ?_)
        refine lv_i2l hx hb dX8_runsTillAllAreThere_39 rfl ?_
        refine lv_lstore (lv' := [(5, .long q6.1.toInt64), (0, .ref h0), (1, .ref h1), (2, .long x2), (4, .int x4)]) hx hb dX8_runsTillAllAreThere_40 hl (by decide) rfl (fun ls hl => ?_)
        refine lv_lload_n hx hb dX8_runsTillAllAreThere_42 rfl (lv_at hl 3 rfl) ?_
        refine lv_lload_n hx hb dX8_runsTillAllAreThere_43 rfl (lv_at hl 3 rfl) ?_
        refine lv_lload hx hb dX8_runsTillAllAreThere_44 (lv_at hl 0 rfl) ?_
        obtain ⟨q7, hq7, hf⟩ := bd_s hf
        refine k_eSl (As := [.long x2, .long q6.1.toInt64]) (rest := [.long x2]) hx hb hml hown hts hK hA hZ hl.1 hP hD hS (c_X8_greatestCommon  hq7) (gSt mlX8_35 stX8_greatestCommon inX8 coX8_greatestCommon) rfl qnX8_greatestCommon rfl rfl ⟨Nat.le_of_ble_eq_true rfl, Nat.le_of_ble_eq_true rfl⟩ rfl rfl (Nat.le_of_ble_eq_true rfl) ⟨Nat.zero_le _, Nat.zero_le _⟩ dX8_runsTillAllAreThere_46 (fun H locs hP hD hS => ?_)
        refine lv_ldiv hx hb dX8_runsTillAllAreThere_49 (ck_nzl hf) ?_
        have hf := ck_2 hf
        refine lv_lload hx hb dX8_runsTillAllAreThere_50 (lv_at hl 0 rfl) ?_
        refine lv_lmul hx hb dX8_runsTillAllAreThere_52 ?_
        refine lv_lstore_n (lv' := [(2, .long ((x2 / q7) * q6.1.toInt64)), (5, .long q6.1.toInt64), (0, .ref h0), (1, .ref h1), (4, .int x4)]) hx hb dX8_runsTillAllAreThere_53 rfl hl (by decide) rfl (fun ls hl => ?_)
        exact w_X8_runsTillAllAreThere_54 C _ (ih) _ _ _ _ _ _ hf hP hD hS (lv_sub hl [2, 3, 0, 4] rfl)
def f_X8_runsTillAllAreThere  (i0 : Nat → Int32) (r0 : Nat → Nat → Int32) (i1 : Nat → Int32) (r1 : Nat → Nat → Int32)  : Option (Int64 × (Nat → Nat → Int32)) := bd (f_X2_fillTable 256 i1 r1 (r0 0)) (fun q8 => f_X8_runsTillAllAreThere_13 i0 i1 r1 2000000 (va_up r0 0 q8) 1 0)
set_option maxRecDepth 100000 in
set_option maxHeartbeats 4000000 in
theorem c_X8_runsTillAllAreThere {l : Launch} {D : va_G} {cs zs : Nat → Nat} {h0 : Nat} {a0 : Nat → Nat} {h1 : Nat} {a1 : Nat → Nat} {i0 : Nat → Int32} {r0 : Nat → Nat → Int32} {i1 : Nat → Int32} {r1 : Nat → Nat → Int32}  {q : Int64 × (Nat → Nat → Int32)} (hf : f_X8_runsTillAllAreThere i0 r0 i1 r1 = some q) : Ml l yX8_runsTillAllAreThere wlX8_runsTillAllAreThere rmX8_runsTillAllAreThere D cs zs [.ref h0, .ref h1] (W8 cs h0 a0 i0 r0 ++ W2 cs h1 a1 i1 r1) q.1 (W8 cs h0 a0 i0 q.2 ++ W2 cs h1 a1 i1 r1) := by
  refine Ml.of RX8 (by decide) rfl (Nat.le_of_ble_eq_true rfl) (fun p e s m below meth c A C hP hD hS ls hl => ?_)
  generalize ([.ref h0, .ref h1] : List Value).toArray = args at C ⊢
  obtain ⟨hx, hb, hr, hml, hown, hts, hK, hA, hlocks, hZ⟩ := id C
  have hl : lv_has ls 7 [(0, .ref h0), (1, .ref h1)] := hl
  rw [f_X8_runsTillAllAreThere] at hf
  refine lv_aload_n hx hb dX8_runsTillAllAreThere_0 rfl (lv_at hl 1 rfl) ?_
  refine lv_aload_n hx hb dX8_runsTillAllAreThere_1 rfl (lv_at hl 0 rfl) ?_
  refine va_get (D := D) (ci := 8) (v := .ref (a0 0)) (C := RX8) (T := TX8) (N := 4) hx hb hts hiX8 hown hK hP 0 rfl rfl 0 (by decide) (hts _ flX8_9) (fun _ h9 => h9) rfl dX8_runsTillAllAreThere_2 ?_
  obtain ⟨q8, hq8, hf⟩ := bd_s hf
  refine k_pVv (wr := [(h0, .inr (8, fs8 a0 i0)), (a0 1, .inl (cs 0, 40, .inl (r0 1))), (a0 2, .inl (cs 0, 40, .inl (r0 2)))]) (ws2 := W8 cs h0 a0 i0 (va_up r0 0 q8) ++ W2 cs h1 a1 i1 r1) (As := [.ref (a0 0)]) (rest := []) hx hb hml hown hts hK hA hZ hl.1 hP hD hS (c_X2_fillTable (h0 := h1) (a0 := a1) (h1 := (a0 0)) (n1 := 256) hq8) (gVt mlX8_21 imX2_fillTable seX2_fillTable inX2 coX2_fillTable) rfl qnX2_fillTable rfl rfl ⟨Nat.le_of_ble_eq_true rfl, Nat.le_of_ble_eq_true rfl⟩ [4, 5, 6, 7, 8, 1] [0, 2, 3] [0, 8, 1, 2, 3, 4, 5, 6, 7] rfl rfl rfl (by decide) 0 2 rfl rfl rfl rfl rfl (Nat.le_of_ble_eq_true rfl) ⟨Nat.zero_le _, Nat.zero_le _⟩ dX8_runsTillAllAreThere_5 (fun H locs hP hD hS => ?_)
  refine lv_lconst (v := 1) hx hb dX8_runsTillAllAreThere_8 (by decide) ?_
  refine lv_lstore_n (lv' := [(2, .long 1), (0, .ref h0), (1, .ref h1)]) hx hb dX8_runsTillAllAreThere_9 rfl hl (by decide) rfl (fun ls hl => ?_)
  refine lv_iconst (v := 0) hx hb dX8_runsTillAllAreThere_10 (by decide) ?_
  refine lv_istore (lv' := [(4, .int 0), (2, .long 1), (0, .ref h0), (1, .ref h1)]) hx hb dX8_runsTillAllAreThere_11 hl (by decide) rfl (fun ls hl => ?_)
  exact w_X8_runsTillAllAreThere_13 C  2000000 _ _ _ _ _ _ hf hP hD hS (lv_sub hl [2, 3, 1, 0] rfl)
/-! MarbleFloor$Tables.layTurn(III)V -/
abbrev wlX8_layTurn : List Cond := Cond.code yX8_layTurn cX8_layTurn 5 none :: tbG
abbrev rmX8_layTurn : Room := { frames := 0, cells := 0, slots := 0, locals := 0 }
theorem qnX8_layTurn : yX8_layTurn.cls = RX8 ∧ yX8_layTurn.cls ≠ "java/lang/invoke/MethodHandle" ∧ yX8_layTurn.cls ≠ "java/lang/invoke/VarHandle" ∧ (parseMethodDescriptor yX8_layTurn.desc).map (fun d => d.parameters.length) = some 3 := by decide +kernel
def f_X8_layTurn_35  (K3 : (Nat → Int32) → (Nat → Nat → Int32) → Int32 → Int32 → Int32 → Int32 → Option ((Nat → Int32) × (Nat → Nat → Int32))) (i0 : Nat → Int32) (r0 : Nat → Nat → Int32) (x1 : Int32) (x2 : Int32) (x3 : Int32) (x4 : Int32) : Option ((Nat → Int32) × (Nat → Nat → Int32)) := K3 i0 r0 x1 x2 x3 (x4 + 1)
set_option maxRecDepth 100000 in
set_option maxHeartbeats 4000000 in
theorem w_X8_layTurn_35 {p : Program} {l : Launch} {e : Env} {s : State} {m : MethodId} {args : Array Value} {below : List Frame} {meth : Method} {c : Code} {A : Nat → Prop} {D : va_G} {cs zs : Nat → Nat} {h0 : Nat} {a0 : Nat → Nat}  {q : (Nat → Int32) × (Nat → Nat → Int32)} (C : Cx p s m args meth c A D cs zs cX8_layTurn 5 none RX8) (K3 : (Nat → Int32) → (Nat → Nat → Int32) → Int32 → Int32 → Int32 → Int32 → Option ((Nat → Int32) × (Nat → Nat → Int32))) (hK3 : ∀ (i0 : Nat → Int32) (r0 : Nat → Nat → Int32) (x1 : Int32) (x2 : Int32) (x3 : Int32) (x4 : Int32) (H : Heap) (locs : List Loc) (ls : Array Slot), K3 i0 r0 x1 x2 x3 x4 = some q → va_P D vwCl (W8 cs h0 a0 i0 r0) H → va_D A (W8 cs h0 a0 i0 r0) → va_S A s.heap H locs → lv_has ls 5 [(0, .ref h0), (1, .int x1), (2, .int x2), (3, .int x3), (4, .int x4)] → W p l e rmX8_layTurn s m args below meth c H locs 0 0 (MQ below (Qv D cs A (W8 cs h0 a0 q.1 q.2)) args s 0 0 A) (F0 m 3 ls [])) : ∀ (i0 : Nat → Int32) (r0 : Nat → Nat → Int32) (x1 : Int32) (x2 : Int32) (x3 : Int32) (x4 : Int32) (H : Heap) (locs : List Loc) (ls : Array Slot), f_X8_layTurn_35 K3 i0 r0 x1 x2 x3 x4 = some q → va_P D vwCl (W8 cs h0 a0 i0 r0) H → va_D A (W8 cs h0 a0 i0 r0) → va_S A s.heap H locs → lv_has ls 5 [(0, .ref h0), (1, .int x1), (2, .int x2), (3, .int x3), (4, .int x4)] → W p l e rmX8_layTurn s m args below meth c H locs 0 0 (MQ below (Qv D cs A (W8 cs h0 a0 q.1 q.2)) args s 0 0 A) (F0 m 35 ls []) := by
  obtain ⟨hx, hb, hr, hml, hown, hts, hK, hA, hlocks, hZ⟩ := id C
  intro i0 r0 x1 x2 x3 x4 H locs ls hf hP hD hS hl
  rw [f_X8_layTurn_35] at hf
  refine lv_iinc (v := x4 + 1) (lv' := [(4, .int (x4 + 1)), (0, .ref h0), (1, .int x1), (2, .int x2), (3, .int x3)]) hx hb dX8_layTurn_35 hl (k := 4) rfl rfl (by decide) rfl (fun ls hl => ?_)
  refine lv_goto (tgt := 3) hx hb dX8_layTurn_38 (by decide) ?_
  exact hK3 _ _ _ _ _ _ _ _ _ hf hP hD hS (lv_sub hl [1, 2, 3, 4, 0] rfl)
def f_X8_layTurn_70   (i0 : Nat → Int32) (r0 : Nat → Nat → Int32) : Option ((Nat → Int32) × (Nat → Nat → Int32)) := some ((upd i0 3 ((i0 3) + 1)), r0)
set_option maxRecDepth 100000 in
set_option maxHeartbeats 4000000 in
theorem w_X8_layTurn_70 {p : Program} {l : Launch} {e : Env} {s : State} {m : MethodId} {args : Array Value} {below : List Frame} {meth : Method} {c : Code} {A : Nat → Prop} {D : va_G} {cs zs : Nat → Nat} {h0 : Nat} {a0 : Nat → Nat}  {q : (Nat → Int32) × (Nat → Nat → Int32)} (C : Cx p s m args meth c A D cs zs cX8_layTurn 5 none RX8)  : ∀ (i0 : Nat → Int32) (r0 : Nat → Nat → Int32) (H : Heap) (locs : List Loc) (ls : Array Slot), f_X8_layTurn_70 i0 r0 = some q → va_P D vwCl (W8 cs h0 a0 i0 r0) H → va_D A (W8 cs h0 a0 i0 r0) → va_S A s.heap H locs → lv_has ls 5 [(0, .ref h0)] → W p l e rmX8_layTurn s m args below meth c H locs 0 0 (MQ below (Qv D cs A (W8 cs h0 a0 q.1 q.2)) args s 0 0 A) (F0 m 70 ls []) := by
  obtain ⟨hx, hb, hr, hml, hown, hts, hK, hA, hlocks, hZ⟩ := id C
  intro i0 r0 H locs ls hf hP hD hS hl
  rw [f_X8_layTurn_70] at hf
  refine lv_aload_n hx hb dX8_layTurn_70 rfl (lv_at hl 0 rfl) ?_
  refine lv_dup hx hb dX8_layTurn_71 rfl ?_
  refine va_get (D := D) (ci := 8) (v := .int (i0 3)) (C := RX8) (T := TX8) (N := 4) hx hb hts hiX8 hown hK hP 0 rfl rfl 3 (by decide) (hts _ flX8_39) (fun _ h9 => h9) rfl dX8_layTurn_72 ?_
  refine lv_iconst (v := 1) hx hb dX8_layTurn_75 (by decide) ?_
  refine lv_iadd hx hb dX8_layTurn_76 ?_
  refine va_put (D := D) (ci := 8) (v := .int ((i0 3) + 1)) (ty := .int) (C := RX8) (T := TX8) (N := 4) hx hb hts hiX8 tyX8 tyX8_ok nmX8 hown hK hP hD hS 0 rfl rfl 3 (by decide) (hts _ flX8_39) (fun _ h9 => h9) rfl (tyX8_ok 3 (by decide)) rfl rfl (Nat.le_of_ble_eq_true rfl) dX8_layTurn_77 (fun H locs hP hD hS => ?_)
  obtain ⟨hP, hD⟩ := st8_3 hP hD
  obtain rfl := Option.some.inj hf
  exact k_vret hx hb hr hlocks hK hP hD hS dX8_layTurn_80
def f_X8_layTurn_3   : Nat → (Nat → Int32) → (Nat → Nat → Int32) → Int32 → Int32 → Int32 → Int32 → Option ((Nat → Int32) × (Nat → Nat → Int32))
  | 0, _, _, _, _, _, _ => none
  | n + 1, i0, r0, x1, x2, x3, x4 => if x3 ≤ x4 then (if 40 ≤ (i0 3) then (f_X8_layTurn_70 i0 r0) else (ck (inb (i0 3) 40) (ck (inb (i0 3) 40) (f_X8_layTurn_70 i0 (va_up (va_up r0 1 (upd (r0 1) (i0 3).toNatClampNeg x1)) 2 (upd (r0 2) (i0 3).toNatClampNeg x2)))))) else (ck (inb x4 256) (if ((r0 0 x4.toNatClampNeg) &&& x2) = x2 then (ck (inb x4 256) (ck (inb x4 256) (f_X8_layTurn_35 (f_X8_layTurn_3 n) i0 (va_up r0 0 (upd (r0 0) x4.toNatClampNeg ((r0 0 x4.toNatClampNeg) ^^^ ((1 : Int32) <<< (x1 &&& 31))))) x1 x2 x3 x4))) else (f_X8_layTurn_35 (f_X8_layTurn_3 n) i0 r0 x1 x2 x3 x4)))
set_option maxRecDepth 100000 in
set_option maxHeartbeats 4000000 in
theorem w_X8_layTurn_3 {p : Program} {l : Launch} {e : Env} {s : State} {m : MethodId} {args : Array Value} {below : List Frame} {meth : Method} {c : Code} {A : Nat → Prop} {D : va_G} {cs zs : Nat → Nat} {h0 : Nat} {a0 : Nat → Nat}  {q : (Nat → Int32) × (Nat → Nat → Int32)} (C : Cx p s m args meth c A D cs zs cX8_layTurn 5 none RX8)  : ∀ (n : Nat), ∀ (i0 : Nat → Int32) (r0 : Nat → Nat → Int32) (x1 : Int32) (x2 : Int32) (x3 : Int32) (x4 : Int32) (H : Heap) (locs : List Loc) (ls : Array Slot), f_X8_layTurn_3 n i0 r0 x1 x2 x3 x4 = some q → va_P D vwCl (W8 cs h0 a0 i0 r0) H → va_D A (W8 cs h0 a0 i0 r0) → va_S A s.heap H locs → lv_has ls 5 [(0, .ref h0), (1, .int x1), (2, .int x2), (3, .int x3), (4, .int x4)] → W p l e rmX8_layTurn s m args below meth c H locs 0 0 (MQ below (Qv D cs A (W8 cs h0 a0 q.1 q.2)) args s 0 0 A) (F0 m 3 ls []) := by
  obtain ⟨hx, hb, hr, hml, hown, hts, hK, hA, hlocks, hZ⟩ := id C
  intro n
  induction n with
  | zero =>
    intro i0 r0 x1 x2 x3 x4 H locs ls hf
    rw [f_X8_layTurn_3] at hf
    cases hf
  | succ n ih =>
    intro i0 r0 x1 x2 x3 x4 H locs ls hf hP hD hS hl
    rw [f_X8_layTurn_3] at hf
    refine lv_iload hx hb dX8_layTurn_3 (lv_at hl 4 rfl) ?_
    refine lv_iload_n hx hb dX8_layTurn_5 rfl (lv_at hl 3 rfl) ?_
    refine lv_icmp_ge (tgt := 41) hx hb dX8_layTurn_6 (by decide) (fun hc => ?_) (fun hc => ?_)
    · have hf := ite_t hf hc
      refine lv_aload_n hx hb dX8_layTurn_41 rfl (lv_at hl 0 rfl) ?_
      refine va_get (D := D) (ci := 8) (v := .int (i0 3)) (C := RX8) (T := TX8) (N := 4) hx hb hts hiX8 hown hK hP 0 rfl rfl 3 (by decide) (hts _ flX8_39) (fun _ h9 => h9) rfl dX8_layTurn_42 ?_
      refine lv_bipush (v := 40) hx hb dX8_layTurn_45 (by decide) ?_
      refine lv_icmp_ge (tgt := 70) hx hb dX8_layTurn_47 (by decide) (fun hc => ?_) (fun hc => ?_)
      · have hf := ite_t hf hc
        exact w_X8_layTurn_70 C  _ _ _ _ _ hf hP hD hS (lv_sub hl [0] rfl)
      · have hf := ite_f hf hc
        refine lv_aload_n hx hb dX8_layTurn_50 rfl (lv_at hl 0 rfl) ?_
        refine va_get (D := D) (ci := 8) (v := .ref (a0 1)) (C := RX8) (T := TX8) (N := 4) hx hb hts hiX8 hown hK hP 0 rfl rfl 1 (by decide) (hts _ flX8_15) (fun _ h9 => h9) rfl dX8_layTurn_51 ?_
        refine lv_aload_n hx hb dX8_layTurn_54 rfl (lv_at hl 0 rfl) ?_
        refine va_get (D := D) (ci := 8) (v := .int (i0 3)) (C := RX8) (T := TX8) (N := 4) hx hb hts hiX8 hown hK hP 0 rfl rfl 3 (by decide) (hts _ flX8_39) (fun _ h9 => h9) rfl dX8_layTurn_55 ?_
        refine lv_iload_n hx hb dX8_layTurn_58 rfl (lv_at hl 1 rfl) ?_
        refine va_iast (f := r0 1) hx hb hK hP hD hS 2 0 rfl rfl (ck_in hf) dX8_layTurn_59 (fun H locs hP hD hS => ?_)
        have hf := ck_2 hf
        obtain ⟨hP, hD⟩ := st8_1 hP hD
        refine lv_aload_n hx hb dX8_layTurn_60 rfl (lv_at hl 0 rfl) ?_
        refine va_get (D := D) (ci := 8) (v := .ref (a0 2)) (C := RX8) (T := TX8) (N := 4) hx hb hts hiX8 hown hK hP 0 rfl rfl 2 (by decide) (hts _ flX8_18) (fun _ h9 => h9) rfl dX8_layTurn_61 ?_
        refine lv_aload_n hx hb dX8_layTurn_64 rfl (lv_at hl 0 rfl) ?_
        refine va_get (D := D) (ci := 8) (v := .int (i0 3)) (C := RX8) (T := TX8) (N := 4) hx hb hts hiX8 hown hK hP 0 rfl rfl 3 (by decide) (hts _ flX8_39) (fun _ h9 => h9) rfl dX8_layTurn_65 ?_
        refine lv_iload_n hx hb dX8_layTurn_68 rfl (lv_at hl 2 rfl) ?_
        refine va_iast (f := r0 2) hx hb hK hP hD hS 3 0 rfl rfl (ck_in hf) dX8_layTurn_69 (fun H locs hP hD hS => ?_)
        have hf := ck_2 hf
        obtain ⟨hP, hD⟩ := st8_2 hP hD
        exact w_X8_layTurn_70 C  _ _ _ _ _ hf hP hD hS (lv_sub hl [0] rfl)
    · have hf := ite_f hf hc
      refine lv_aload_n hx hb dX8_layTurn_9 rfl (lv_at hl 0 rfl) ?_
      refine va_get (D := D) (ci := 8) (v := .ref (a0 0)) (C := RX8) (T := TX8) (N := 4) hx hb hts hiX8 hown hK hP 0 rfl rfl 0 (by decide) (hts _ flX8_9) (fun _ h9 => h9) rfl dX8_layTurn_10 ?_
      refine lv_iload hx hb dX8_layTurn_13 (lv_at hl 4 rfl) ?_
      refine va_iald (f := r0 0) hx hb hK hP 1 0 rfl rfl (ck_in hf) dX8_layTurn_15 ?_
      have hf := ck_2 hf
      refine lv_iload_n hx hb dX8_layTurn_16 rfl (lv_at hl 2 rfl) ?_
      refine lv_iand hx hb dX8_layTurn_17 ?_
      refine lv_iload_n hx hb dX8_layTurn_18 rfl (lv_at hl 2 rfl) ?_
      refine lv_icmp_ne (tgt := 35) hx hb dX8_layTurn_19 (by decide) (fun hc => ?_) (fun hc => ?_)
      · have hf := ite_f hf hc
        exact w_X8_layTurn_35 C _ (ih) _ _ _ _ _ _ _ _ _ hf hP hD hS (lv_sub hl [0, 1, 2, 3, 4] rfl)
      · have hf := ite_t hf hc
        refine lv_aload_n hx hb dX8_layTurn_22 rfl (lv_at hl 0 rfl) ?_
        refine va_get (D := D) (ci := 8) (v := .ref (a0 0)) (C := RX8) (T := TX8) (N := 4) hx hb hts hiX8 hown hK hP 0 rfl rfl 0 (by decide) (hts _ flX8_9) (fun _ h9 => h9) rfl dX8_layTurn_23 ?_
        refine lv_iload hx hb dX8_layTurn_26 (lv_at hl 4 rfl) ?_
        refine lv_dup2_11 hx hb dX8_layTurn_28 rfl rfl ?_
        refine va_iald (f := r0 0) hx hb hK hP 1 0 rfl rfl (ck_in hf) dX8_layTurn_29 ?_
        have hf := ck_2 hf
        refine lv_iconst (v := 1) hx hb dX8_layTurn_30 (by decide) ?_
        refine lv_iload_n hx hb dX8_layTurn_31 rfl (lv_at hl 1 rfl) ?_
        refine lv_ishl hx hb dX8_layTurn_32 ?_
        refine lv_ixor hx hb dX8_layTurn_33 ?_
        refine va_iast (f := r0 0) hx hb hK hP hD hS 1 0 rfl rfl (ck_in hf) dX8_layTurn_34 (fun H locs hP hD hS => ?_)
        have hf := ck_2 hf
        obtain ⟨hP, hD⟩ := st8_0 hP hD
        exact w_X8_layTurn_35 C _ (ih) _ _ _ _ _ _ _ _ _ hf hP hD hS (lv_sub hl [0, 1, 2, 3, 4] rfl)
def f_X8_layTurn  (i0 : Nat → Int32) (r0 : Nat → Nat → Int32) (x1 : Int32) (x2 : Int32) (x3 : Int32) : Option ((Nat → Int32) × (Nat → Nat → Int32)) := f_X8_layTurn_3 2000000 i0 r0 x1 x2 x3 0
set_option maxRecDepth 100000 in
set_option maxHeartbeats 4000000 in
theorem c_X8_layTurn {l : Launch} {D : va_G} {cs zs : Nat → Nat} {h0 : Nat} {a0 : Nat → Nat} {i0 : Nat → Int32} {r0 : Nat → Nat → Int32} {x1 : Int32} {x2 : Int32} {x3 : Int32} {q : (Nat → Int32) × (Nat → Nat → Int32)} (hf : f_X8_layTurn i0 r0 x1 x2 x3 = some q) : Mv l yX8_layTurn wlX8_layTurn rmX8_layTurn D cs zs [.ref h0, .int x1, .int x2, .int x3] (W8 cs h0 a0 i0 r0) (W8 cs h0 a0 q.1 q.2) := by
  refine Mv.of RX8 (by decide) rfl (Nat.le_of_ble_eq_true rfl) (fun p e s m below meth c A C hP hD hS ls hl => ?_)
  generalize ([.ref h0, .int x1, .int x2, .int x3] : List Value).toArray = args at C ⊢
  obtain ⟨hx, hb, hr, hml, hown, hts, hK, hA, hlocks, hZ⟩ := id C
  have hl : lv_has ls 5 [(0, .ref h0), (1, .int x1), (2, .int x2), (3, .int x3)] := hl
  rw [f_X8_layTurn] at hf
  refine lv_iconst (v := 0) hx hb dX8_layTurn_0 (by decide) ?_
  refine lv_istore (lv' := [(4, .int 0), (0, .ref h0), (1, .int x1), (2, .int x2), (3, .int x3)]) hx hb dX8_layTurn_1 hl (by decide) rfl (fun ls hl => ?_)
  exact w_X8_layTurn_3 C  2000000 _ _ _ _ _ _ _ _ _ hf hP hD hS (lv_sub hl [1, 2, 3, 4, 0] rfl)
/-! MarbleFloor$Tables.mendRow(III)V -/
abbrev wlX8_mendRow : List Cond := Cond.code yX8_mendRow cX8_mendRow 5 none :: tbG
abbrev rmX8_mendRow : Room := { frames := 1, cells := 0, slots := 0, locals := 24 }
theorem qnX8_mendRow : yX8_mendRow.cls = RX8 ∧ yX8_mendRow.cls ≠ "java/lang/invoke/MethodHandle" ∧ yX8_mendRow.cls ≠ "java/lang/invoke/VarHandle" ∧ (parseMethodDescriptor yX8_mendRow.desc).map (fun d => d.parameters.length) = some 3 := by decide +kernel
def f_X8_mendRow_40  (K3 : (Nat → Int32) → (Nat → Nat → Int32) → Int32 → Int32 → Int32 → Int32 → Option ((Nat → Int32) × (Nat → Nat → Int32))) (i0 : Nat → Int32) (r0 : Nat → Nat → Int32) (x1 : Int32) (x2 : Int32) (x3 : Int32) (x4 : Int32) : Option ((Nat → Int32) × (Nat → Nat → Int32)) := K3 i0 r0 x1 x2 x3 (x4 + 1)
set_option maxRecDepth 100000 in
set_option maxHeartbeats 4000000 in
theorem w_X8_mendRow_40 {p : Program} {l : Launch} {e : Env} {s : State} {m : MethodId} {args : Array Value} {below : List Frame} {meth : Method} {c : Code} {A : Nat → Prop} {D : va_G} {cs zs : Nat → Nat} {h0 : Nat} {a0 : Nat → Nat}  {q : (Nat → Int32) × (Nat → Nat → Int32)} (C : Cx p s m args meth c A D cs zs cX8_mendRow 5 none RX8) (K3 : (Nat → Int32) → (Nat → Nat → Int32) → Int32 → Int32 → Int32 → Int32 → Option ((Nat → Int32) × (Nat → Nat → Int32))) (hK3 : ∀ (i0 : Nat → Int32) (r0 : Nat → Nat → Int32) (x1 : Int32) (x2 : Int32) (x3 : Int32) (x4 : Int32) (H : Heap) (locs : List Loc) (ls : Array Slot), K3 i0 r0 x1 x2 x3 x4 = some q → va_P D vwCl (W8 cs h0 a0 i0 r0) H → va_D A (W8 cs h0 a0 i0 r0) → va_S A s.heap H locs → lv_has ls 5 [(0, .ref h0), (1, .int x1), (2, .int x2), (3, .int x3), (4, .int x4)] → W p l e rmX8_mendRow s m args below meth c H locs 0 0 (MQ below (Qv D cs A (W8 cs h0 a0 q.1 q.2)) args s 0 0 A) (F0 m 3 ls [])) : ∀ (i0 : Nat → Int32) (r0 : Nat → Nat → Int32) (x1 : Int32) (x2 : Int32) (x3 : Int32) (x4 : Int32) (H : Heap) (locs : List Loc) (ls : Array Slot), f_X8_mendRow_40 K3 i0 r0 x1 x2 x3 x4 = some q → va_P D vwCl (W8 cs h0 a0 i0 r0) H → va_D A (W8 cs h0 a0 i0 r0) → va_S A s.heap H locs → lv_has ls 5 [(0, .ref h0), (1, .int x1), (2, .int x2), (3, .int x3), (4, .int x4)] → W p l e rmX8_mendRow s m args below meth c H locs 0 0 (MQ below (Qv D cs A (W8 cs h0 a0 q.1 q.2)) args s 0 0 A) (F0 m 40 ls []) := by
  obtain ⟨hx, hb, hr, hml, hown, hts, hK, hA, hlocks, hZ⟩ := id C
  intro i0 r0 x1 x2 x3 x4 H locs ls hf hP hD hS hl
  rw [f_X8_mendRow_40] at hf
  refine lv_iinc (v := x4 + 1) (lv' := [(4, .int (x4 + 1)), (0, .ref h0), (1, .int x1), (2, .int x2), (3, .int x3)]) hx hb dX8_mendRow_40 hl (k := 4) rfl rfl (by decide) rfl (fun ls hl => ?_)
  refine lv_goto (tgt := 3) hx hb dX8_mendRow_43 (by decide) ?_
  exact hK3 _ _ _ _ _ _ _ _ _ hf hP hD hS (lv_sub hl [1, 2, 3, 4, 0] rfl)
def f_X8_mendRow_93  (K49 : (Nat → Int32) → (Nat → Nat → Int32) → Int32 → Int32 → Int32 → Int32 → Option ((Nat → Int32) × (Nat → Nat → Int32))) (i0 : Nat → Int32) (r0 : Nat → Nat → Int32) (x1 : Int32) (x2 : Int32) (x3 : Int32) (x4 : Int32) : Option ((Nat → Int32) × (Nat → Nat → Int32)) := K49 i0 r0 x1 x2 x3 (x4 + 1)
set_option maxRecDepth 100000 in
set_option maxHeartbeats 4000000 in
theorem w_X8_mendRow_93 {p : Program} {l : Launch} {e : Env} {s : State} {m : MethodId} {args : Array Value} {below : List Frame} {meth : Method} {c : Code} {A : Nat → Prop} {D : va_G} {cs zs : Nat → Nat} {h0 : Nat} {a0 : Nat → Nat}  {q : (Nat → Int32) × (Nat → Nat → Int32)} (C : Cx p s m args meth c A D cs zs cX8_mendRow 5 none RX8) (K49 : (Nat → Int32) → (Nat → Nat → Int32) → Int32 → Int32 → Int32 → Int32 → Option ((Nat → Int32) × (Nat → Nat → Int32))) (hK49 : ∀ (i0 : Nat → Int32) (r0 : Nat → Nat → Int32) (x1 : Int32) (x2 : Int32) (x3 : Int32) (x4 : Int32) (H : Heap) (locs : List Loc) (ls : Array Slot), K49 i0 r0 x1 x2 x3 x4 = some q → va_P D vwCl (W8 cs h0 a0 i0 r0) H → va_D A (W8 cs h0 a0 i0 r0) → va_S A s.heap H locs → lv_has ls 5 [(0, .ref h0), (1, .int x1), (2, .int x2), (3, .int x3), (4, .int x4)] → W p l e rmX8_mendRow s m args below meth c H locs 0 0 (MQ below (Qv D cs A (W8 cs h0 a0 q.1 q.2)) args s 0 0 A) (F0 m 49 ls [])) : ∀ (i0 : Nat → Int32) (r0 : Nat → Nat → Int32) (x1 : Int32) (x2 : Int32) (x3 : Int32) (x4 : Int32) (H : Heap) (locs : List Loc) (ls : Array Slot), f_X8_mendRow_93 K49 i0 r0 x1 x2 x3 x4 = some q → va_P D vwCl (W8 cs h0 a0 i0 r0) H → va_D A (W8 cs h0 a0 i0 r0) → va_S A s.heap H locs → lv_has ls 5 [(0, .ref h0), (1, .int x1), (2, .int x2), (3, .int x3), (4, .int x4)] → W p l e rmX8_mendRow s m args below meth c H locs 0 0 (MQ below (Qv D cs A (W8 cs h0 a0 q.1 q.2)) args s 0 0 A) (F0 m 93 ls []) := by
  obtain ⟨hx, hb, hr, hml, hown, hts, hK, hA, hlocks, hZ⟩ := id C
  intro i0 r0 x1 x2 x3 x4 H locs ls hf hP hD hS hl
  rw [f_X8_mendRow_93] at hf
  refine lv_iinc (v := x4 + 1) (lv' := [(4, .int (x4 + 1)), (0, .ref h0), (1, .int x1), (2, .int x2), (3, .int x3)]) hx hb dX8_mendRow_93 hl (k := 4) rfl rfl (by decide) rfl (fun ls hl => ?_)
  refine lv_goto (tgt := 49) hx hb dX8_mendRow_96 (by decide) ?_
  exact hK49 _ _ _ _ _ _ _ _ _ hf hP hD hS (lv_sub hl [1, 2, 3, 4, 0] rfl)
def f_X8_mendRow_49   : Nat → (Nat → Int32) → (Nat → Nat → Int32) → Int32 → Int32 → Int32 → Int32 → Option ((Nat → Int32) × (Nat → Nat → Int32))
  | 0, _, _, _, _, _, _ => none
  | n + 1, i0, r0, x1, x2, x3, x4 => if x2 ≤ x4 then (some (i0, r0)) else (ck (inb x1 256) (if (((r0 0 x1.toNatClampNeg) &&& (x1 ^^^ (-1))) &&& ((1 : Int32) <<< (x4 &&& 31))) = 0 then (f_X8_mendRow_93 (f_X8_mendRow_49 n) i0 r0 x1 x2 x3 x4) else (ck (inb x1 256) (bd (f_X8_layTurn i0 r0 x4 ((r0 0 x1.toNatClampNeg) &&& (((1 : Int32) <<< (x4 &&& 31)) ^^^ (-1))) x3) (fun q3 => f_X8_mendRow_93 (f_X8_mendRow_49 n) q3.1 q3.2 x1 x2 x3 x4)))))
set_option maxRecDepth 100000 in
set_option maxHeartbeats 4000000 in
theorem w_X8_mendRow_49 {p : Program} {l : Launch} {e : Env} {s : State} {m : MethodId} {args : Array Value} {below : List Frame} {meth : Method} {c : Code} {A : Nat → Prop} {D : va_G} {cs zs : Nat → Nat} {h0 : Nat} {a0 : Nat → Nat}  {q : (Nat → Int32) × (Nat → Nat → Int32)} (C : Cx p s m args meth c A D cs zs cX8_mendRow 5 none RX8)  : ∀ (n : Nat), ∀ (i0 : Nat → Int32) (r0 : Nat → Nat → Int32) (x1 : Int32) (x2 : Int32) (x3 : Int32) (x4 : Int32) (H : Heap) (locs : List Loc) (ls : Array Slot), f_X8_mendRow_49 n i0 r0 x1 x2 x3 x4 = some q → va_P D vwCl (W8 cs h0 a0 i0 r0) H → va_D A (W8 cs h0 a0 i0 r0) → va_S A s.heap H locs → lv_has ls 5 [(0, .ref h0), (1, .int x1), (2, .int x2), (3, .int x3), (4, .int x4)] → W p l e rmX8_mendRow s m args below meth c H locs 0 0 (MQ below (Qv D cs A (W8 cs h0 a0 q.1 q.2)) args s 0 0 A) (F0 m 49 ls []) := by
  obtain ⟨hx, hb, hr, hml, hown, hts, hK, hA, hlocks, hZ⟩ := id C
  intro n
  induction n with
  | zero =>
    intro i0 r0 x1 x2 x3 x4 H locs ls hf
    rw [f_X8_mendRow_49] at hf
    cases hf
  | succ n ih =>
    intro i0 r0 x1 x2 x3 x4 H locs ls hf hP hD hS hl
    rw [f_X8_mendRow_49] at hf
    refine lv_iload hx hb dX8_mendRow_49 (lv_at hl 4 rfl) ?_
    refine lv_iload_n hx hb dX8_mendRow_51 rfl (lv_at hl 2 rfl) ?_
    refine lv_icmp_ge (tgt := 99) hx hb dX8_mendRow_52 (by decide) (fun hc => ?_) (fun hc => ?_)
    · have hf := ite_t hf hc
      obtain rfl := Option.some.inj hf
      exact k_vret hx hb hr hlocks hK hP hD hS dX8_mendRow_99
    · have hf := ite_f hf hc
      refine lv_aload_n hx hb dX8_mendRow_55 rfl (lv_at hl 0 rfl) ?_
      refine va_get (D := D) (ci := 8) (v := .ref (a0 0)) (C := RX8) (T := TX8) (N := 4) hx hb hts hiX8 hown hK hP 0 rfl rfl 0 (by decide) (hts _ flX8_9) (fun _ h9 => h9) rfl dX8_mendRow_56 ?_
      refine lv_iload_n hx hb dX8_mendRow_59 rfl (lv_at hl 1 rfl) ?_
      refine va_iald (f := r0 0) hx hb hK hP 1 0 rfl rfl (ck_in hf) dX8_mendRow_60 ?_
      have hf := ck_2 hf
      refine lv_iload_n hx hb dX8_mendRow_61 rfl (lv_at hl 1 rfl) ?_
      refine lv_iconst (v := (-1)) hx hb dX8_mendRow_62 (by decide) ?_
      refine lv_ixor hx hb dX8_mendRow_63 ?_
      refine lv_iand hx hb dX8_mendRow_64 ?_
      refine lv_iconst (v := 1) hx hb dX8_mendRow_65 (by decide) ?_
      refine lv_iload hx hb dX8_mendRow_66 (lv_at hl 4 rfl) ?_
      refine lv_ishl hx hb dX8_mendRow_68 ?_
      refine lv_iand hx hb dX8_mendRow_69 ?_
      refine lv_if_eq (tgt := 93) hx hb dX8_mendRow_70 (by decide) (fun hc => ?_) (fun hc => ?_)
      · have hf := ite_t hf hc
        exact w_X8_mendRow_93 C _ (ih) _ _ _ _ _ _ _ _ _ hf hP hD hS (lv_sub hl [0, 1, 2, 3, 4] rfl)
      · have hf := ite_f hf hc
        refine lv_aload_n hx hb dX8_mendRow_73 rfl (lv_at hl 0 rfl) ?_
        refine lv_iload hx hb dX8_mendRow_74 (lv_at hl 4 rfl) ?_
        refine lv_aload_n hx hb dX8_mendRow_76 rfl (lv_at hl 0 rfl) ?_
        refine va_get (D := D) (ci := 8) (v := .ref (a0 0)) (C := RX8) (T := TX8) (N := 4) hx hb hts hiX8 hown hK hP 0 rfl rfl 0 (by decide) (hts _ flX8_9) (fun _ h9 => h9) rfl dX8_mendRow_77 ?_
        refine lv_iload_n hx hb dX8_mendRow_80 rfl (lv_at hl 1 rfl) ?_
        refine va_iald (f := r0 0) hx hb hK hP 1 0 rfl rfl (ck_in hf) dX8_mendRow_81 ?_
        have hf := ck_2 hf
        refine lv_iconst (v := 1) hx hb dX8_mendRow_82 (by decide) ?_
        refine lv_iload hx hb dX8_mendRow_83 (lv_at hl 4 rfl) ?_
        refine lv_ishl hx hb dX8_mendRow_85 ?_
        refine lv_iconst (v := (-1)) hx hb dX8_mendRow_86 (by decide) ?_
        refine lv_ixor hx hb dX8_mendRow_87 ?_
        refine lv_iand hx hb dX8_mendRow_88 ?_
        refine lv_iload_n hx hb dX8_mendRow_89 rfl (lv_at hl 3 rfl) ?_
        obtain ⟨q3, hq3, hf⟩ := bd_s hf
        refine k_sVv (ws2 := W8 cs h0 a0 q3.1 q3.2) (As := [.int x4, .int ((r0 0 x1.toNatClampNeg) &&& (((1 : Int32) <<< (x4 &&& 31)) ^^^ (-1))), .int x3]) (rest := []) hx hb hml hown hts hK hA hZ hl.1 hP hD hS (c_X8_layTurn (h0 := h0) (a0 := a0) hq3) (gVt mlX8_58 imX8_layTurn seX8_layTurn inX8 coX8_layTurn) rfl qnX8_layTurn rfl rfl ⟨Nat.le_of_ble_eq_true rfl, Nat.le_of_ble_eq_true rfl⟩ 0 8 rfl rfl rfl rfl rfl (Nat.le_of_ble_eq_true rfl) ⟨Nat.zero_le _, Nat.zero_le _⟩ dX8_mendRow_90 (fun H locs hP hD hS => ?_)
        exact w_X8_mendRow_93 C _ (ih) _ _ _ _ _ _ _ _ _ hf hP hD hS (lv_sub hl [0, 1, 2, 3, 4] rfl)
def f_X8_mendRow_3   : Nat → (Nat → Int32) → (Nat → Nat → Int32) → Int32 → Int32 → Int32 → Int32 → Option ((Nat → Int32) × (Nat → Nat → Int32))
  | 0, _, _, _, _, _, _ => none
  | n + 1, i0, r0, x1, x2, x3, x4 => if x2 ≤ x4 then (f_X8_mendRow_49 2000000 i0 r0 x1 x2 x3 0) else (ck (inb x1 256) (if ((x1 &&& ((r0 0 x1.toNatClampNeg) ^^^ (-1))) &&& ((1 : Int32) <<< (x4 &&& 31))) = 0 then (f_X8_mendRow_40 (f_X8_mendRow_3 n) i0 r0 x1 x2 x3 x4) else (ck (inb x1 256) (bd (f_X8_layTurn i0 r0 x4 (r0 0 x1.toNatClampNeg) x3) (fun q4 => f_X8_mendRow_40 (f_X8_mendRow_3 n) q4.1 q4.2 x1 x2 x3 x4)))))
set_option maxRecDepth 100000 in
set_option maxHeartbeats 4000000 in
theorem w_X8_mendRow_3 {p : Program} {l : Launch} {e : Env} {s : State} {m : MethodId} {args : Array Value} {below : List Frame} {meth : Method} {c : Code} {A : Nat → Prop} {D : va_G} {cs zs : Nat → Nat} {h0 : Nat} {a0 : Nat → Nat}  {q : (Nat → Int32) × (Nat → Nat → Int32)} (C : Cx p s m args meth c A D cs zs cX8_mendRow 5 none RX8)  : ∀ (n : Nat), ∀ (i0 : Nat → Int32) (r0 : Nat → Nat → Int32) (x1 : Int32) (x2 : Int32) (x3 : Int32) (x4 : Int32) (H : Heap) (locs : List Loc) (ls : Array Slot), f_X8_mendRow_3 n i0 r0 x1 x2 x3 x4 = some q → va_P D vwCl (W8 cs h0 a0 i0 r0) H → va_D A (W8 cs h0 a0 i0 r0) → va_S A s.heap H locs → lv_has ls 5 [(0, .ref h0), (1, .int x1), (2, .int x2), (3, .int x3), (4, .int x4)] → W p l e rmX8_mendRow s m args below meth c H locs 0 0 (MQ below (Qv D cs A (W8 cs h0 a0 q.1 q.2)) args s 0 0 A) (F0 m 3 ls []) := by
  obtain ⟨hx, hb, hr, hml, hown, hts, hK, hA, hlocks, hZ⟩ := id C
  intro n
  induction n with
  | zero =>
    intro i0 r0 x1 x2 x3 x4 H locs ls hf
    rw [f_X8_mendRow_3] at hf
    cases hf
  | succ n ih =>
    intro i0 r0 x1 x2 x3 x4 H locs ls hf hP hD hS hl
    rw [f_X8_mendRow_3] at hf
    refine lv_iload hx hb dX8_mendRow_3 (lv_at hl 4 rfl) ?_
    refine lv_iload_n hx hb dX8_mendRow_5 rfl (lv_at hl 2 rfl) ?_
    refine lv_icmp_ge (tgt := 46) hx hb dX8_mendRow_6 (by decide) (fun hc => ?_) (fun hc => ?_)
    · have hf := ite_t hf hc
      refine lv_iconst (v := 0) hx hb dX8_mendRow_46 (by decide) ?_
      refine lv_istore (lv' := [(4, .int 0), (0, .ref h0), (1, .int x1), (2, .int x2), (3, .int x3)]) hx hb dX8_mendRow_47 hl (by decide) rfl (fun ls hl => ?_)
      exact w_X8_mendRow_49 C  2000000 _ _ _ _ _ _ _ _ _ hf hP hD hS (lv_sub hl [1, 2, 3, 4, 0] rfl)
    · have hf := ite_f hf hc
      refine lv_iload_n hx hb dX8_mendRow_9 rfl (lv_at hl 1 rfl) ?_
      refine lv_aload_n hx hb dX8_mendRow_10 rfl (lv_at hl 0 rfl) ?_
      refine va_get (D := D) (ci := 8) (v := .ref (a0 0)) (C := RX8) (T := TX8) (N := 4) hx hb hts hiX8 hown hK hP 0 rfl rfl 0 (by decide) (hts _ flX8_9) (fun _ h9 => h9) rfl dX8_mendRow_11 ?_
      refine lv_iload_n hx hb dX8_mendRow_14 rfl (lv_at hl 1 rfl) ?_
      refine va_iald (f := r0 0) hx hb hK hP 1 0 rfl rfl (ck_in hf) dX8_mendRow_15 ?_
      have hf := ck_2 hf
      refine lv_iconst (v := (-1)) hx hb dX8_mendRow_16 (by decide) ?_
      refine lv_ixor hx hb dX8_mendRow_17 ?_
      refine lv_iand hx hb dX8_mendRow_18 ?_
      refine lv_iconst (v := 1) hx hb dX8_mendRow_19 (by decide) ?_
      refine lv_iload hx hb dX8_mendRow_20 (lv_at hl 4 rfl) ?_
      refine lv_ishl hx hb dX8_mendRow_22 ?_
      refine lv_iand hx hb dX8_mendRow_23 ?_
      refine lv_if_eq (tgt := 40) hx hb dX8_mendRow_24 (by decide) (fun hc => ?_) (fun hc => ?_)
      · have hf := ite_t hf hc
        exact w_X8_mendRow_40 C _ (ih) _ _ _ _ _ _ _ _ _ hf hP hD hS (lv_sub hl [0, 1, 2, 3, 4] rfl)
      · have hf := ite_f hf hc
        refine lv_aload_n hx hb dX8_mendRow_27 rfl (lv_at hl 0 rfl) ?_
        refine lv_iload hx hb dX8_mendRow_28 (lv_at hl 4 rfl) ?_
        refine lv_aload_n hx hb dX8_mendRow_30 rfl (lv_at hl 0 rfl) ?_
        refine va_get (D := D) (ci := 8) (v := .ref (a0 0)) (C := RX8) (T := TX8) (N := 4) hx hb hts hiX8 hown hK hP 0 rfl rfl 0 (by decide) (hts _ flX8_9) (fun _ h9 => h9) rfl dX8_mendRow_31 ?_
        refine lv_iload_n hx hb dX8_mendRow_34 rfl (lv_at hl 1 rfl) ?_
        refine va_iald (f := r0 0) hx hb hK hP 1 0 rfl rfl (ck_in hf) dX8_mendRow_35 ?_
        have hf := ck_2 hf
        refine lv_iload_n hx hb dX8_mendRow_36 rfl (lv_at hl 3 rfl) ?_
        obtain ⟨q4, hq4, hf⟩ := bd_s hf
        refine k_sVv (ws2 := W8 cs h0 a0 q4.1 q4.2) (As := [.int x4, .int (r0 0 x1.toNatClampNeg), .int x3]) (rest := []) hx hb hml hown hts hK hA hZ hl.1 hP hD hS (c_X8_layTurn (h0 := h0) (a0 := a0) hq4) (gVt mlX8_58 imX8_layTurn seX8_layTurn inX8 coX8_layTurn) rfl qnX8_layTurn rfl rfl ⟨Nat.le_of_ble_eq_true rfl, Nat.le_of_ble_eq_true rfl⟩ 0 8 rfl rfl rfl rfl rfl (Nat.le_of_ble_eq_true rfl) ⟨Nat.zero_le _, Nat.zero_le _⟩ dX8_mendRow_37 (fun H locs hP hD hS => ?_)
        exact w_X8_mendRow_40 C _ (ih) _ _ _ _ _ _ _ _ _ hf hP hD hS (lv_sub hl [0, 1, 2, 3, 4] rfl)
def f_X8_mendRow  (i0 : Nat → Int32) (r0 : Nat → Nat → Int32) (x1 : Int32) (x2 : Int32) (x3 : Int32) : Option ((Nat → Int32) × (Nat → Nat → Int32)) := f_X8_mendRow_3 2000000 i0 r0 x1 x2 x3 0
set_option maxRecDepth 100000 in
set_option maxHeartbeats 4000000 in
theorem c_X8_mendRow {l : Launch} {D : va_G} {cs zs : Nat → Nat} {h0 : Nat} {a0 : Nat → Nat} {i0 : Nat → Int32} {r0 : Nat → Nat → Int32} {x1 : Int32} {x2 : Int32} {x3 : Int32} {q : (Nat → Int32) × (Nat → Nat → Int32)} (hf : f_X8_mendRow i0 r0 x1 x2 x3 = some q) : Mv l yX8_mendRow wlX8_mendRow rmX8_mendRow D cs zs [.ref h0, .int x1, .int x2, .int x3] (W8 cs h0 a0 i0 r0) (W8 cs h0 a0 q.1 q.2) := by
  refine Mv.of RX8 (by decide) rfl (Nat.le_of_ble_eq_true rfl) (fun p e s m below meth c A C hP hD hS ls hl => ?_)
  generalize ([.ref h0, .int x1, .int x2, .int x3] : List Value).toArray = args at C ⊢
  obtain ⟨hx, hb, hr, hml, hown, hts, hK, hA, hlocks, hZ⟩ := id C
  have hl : lv_has ls 5 [(0, .ref h0), (1, .int x1), (2, .int x2), (3, .int x3)] := hl
  rw [f_X8_mendRow] at hf
  refine lv_iconst (v := 0) hx hb dX8_mendRow_0 (by decide) ?_
  refine lv_istore (lv' := [(4, .int 0), (0, .ref h0), (1, .int x1), (2, .int x2), (3, .int x3)]) hx hb dX8_mendRow_1 hl (by decide) rfl (fun ls hl => ?_)
  exact w_X8_mendRow_3 C  2000000 _ _ _ _ _ _ _ _ _ hf hP hD hS (lv_sub hl [1, 2, 3, 4, 0] rfl)
/-! MarbleFloor$Tables.layInto(LMarbleFloor$Floor;LMarbleFloor$Floor;)Z -/
abbrev wlX8_layInto : List Cond := Cond.code yX8_layInto cX8_layInto 5 (some .boolean) :: tbG
abbrev rmX8_layInto : Room := { frames := 3, cells := 0, slots := 0, locals := 70 }
theorem qnX8_layInto : yX8_layInto.cls = RX8 ∧ yX8_layInto.cls ≠ "java/lang/invoke/MethodHandle" ∧ yX8_layInto.cls ≠ "java/lang/invoke/VarHandle" ∧ (parseMethodDescriptor yX8_layInto.desc).map (fun d => d.parameters.length) = some 2 := by decide +kernel
def f_X8_layInto_80 (i1 : Nat → Int32) (r1 : Nat → Nat → Int32)  : Nat → (Nat → Int32) → (Nat → Nat → Int32) → (Nat → Int32) → (Nat → Nat → Int32) → Int32 → Option (Int32 × (Nat → Int32) × (Nat → Nat → Int32) × (Nat → Int32) × (Nat → Nat → Int32))
  | 0, _, _, _, _, _ => none
  | n + 1, i0, r0, i2, r2, x4 => if x4 < 0 then (some (1, i0, r0, i2, r2)) else (ck (inb x4 40) (ck (inb x4 40) (bd (f_X2_addTurn i2 r2 (r0 1 x4.toNatClampNeg) (r0 2 x4.toNatClampNeg)) (fun q8 => f_X8_layInto_80 i1 r1 n i0 r0 q8.1 q8.2 (x4 + (-1))))))
set_option maxRecDepth 100000 in
set_option maxHeartbeats 4000000 in
theorem w_X8_layInto_80 {p : Program} {l : Launch} {e : Env} {s : State} {m : MethodId} {args : Array Value} {below : List Frame} {meth : Method} {c : Code} {A : Nat → Prop} {D : va_G} {cs zs : Nat → Nat} {h0 : Nat} {a0 : Nat → Nat} {h1 : Nat} {a1 : Nat → Nat} {h2 : Nat} {a2 : Nat → Nat} {i1 : Nat → Int32} {r1 : Nat → Nat → Int32} {q : Int32 × (Nat → Int32) × (Nat → Nat → Int32) × (Nat → Int32) × (Nat → Nat → Int32)} (C : Cx p s m args meth c A D cs zs cX8_layInto 5 (some .boolean) RX8)  : ∀ (n : Nat), ∀ (i0 : Nat → Int32) (r0 : Nat → Nat → Int32) (i2 : Nat → Int32) (r2 : Nat → Nat → Int32) (x4 : Int32) (H : Heap) (locs : List Loc) (ls : Array Slot), f_X8_layInto_80 i1 r1 n i0 r0 i2 r2 x4 = some q → va_P D vwCl (W8 cs h0 a0 i0 r0 ++ (W2 cs h1 a1 i1 r1 ++ W2 cs h2 a2 i2 r2)) H → va_D A (W8 cs h0 a0 i0 r0 ++ (W2 cs h1 a1 i1 r1 ++ W2 cs h2 a2 i2 r2)) → va_S A s.heap H locs → lv_has ls 5 [(0, .ref h0), (2, .ref h2), (4, .int x4)] → W p l e rmX8_layInto s m args below meth c H locs 0 0 (MQ below (Qi D cs A q.1 (W8 cs h0 a0 q.2.1 q.2.2.1 ++ (W2 cs h1 a1 i1 r1 ++ W2 cs h2 a2 q.2.2.2.1 q.2.2.2.2))) args s 0 0 A) (F0 m 80 ls []) := by
  obtain ⟨hx, hb, hr, hml, hown, hts, hK, hA, hlocks, hZ⟩ := id C
  intro n
  induction n with
  | zero =>
    intro i0 r0 i2 r2 x4 H locs ls hf
    rw [f_X8_layInto_80] at hf
    cases hf
  | succ n ih =>
    intro i0 r0 i2 r2 x4 H locs ls hf hP hD hS hl
    rw [f_X8_layInto_80] at hf
    refine lv_iload hx hb dX8_layInto_80 (lv_at hl 2 rfl) ?_
    refine lv_if_lt (tgt := 109) hx hb dX8_layInto_82 (by decide) (fun hc => ?_) (fun hc => ?_)
    · have hf := ite_t hf hc
      refine lv_iconst (v := 1) hx hb dX8_layInto_109 (by decide) ?_
      obtain rfl := Option.some.inj hf
      exact k_zret (r := 1) hx hb hr hlocks rfl hK hP hD hS dX8_layInto_110
    · have hf := ite_f hf hc
      refine lv_aload_n hx hb dX8_layInto_85 rfl (lv_at hl 1 rfl) ?_
      refine lv_aload_n hx hb dX8_layInto_86 rfl (lv_at hl 0 rfl) ?_
      refine va_get (D := D) (ci := 8) (v := .ref (a0 1)) (C := RX8) (T := TX8) (N := 4) hx hb hts hiX8 hown hK hP 0 rfl rfl 1 (by decide) (hts _ flX8_15) (fun _ h9 => h9) rfl dX8_layInto_87 ?_
      refine lv_iload hx hb dX8_layInto_90 (lv_at hl 2 rfl) ?_
      refine va_iald (f := r0 1) hx hb hK hP 2 0 rfl rfl (ck_in hf) dX8_layInto_92 ?_
      have hf := ck_2 hf
      refine lv_aload_n hx hb dX8_layInto_93 rfl (lv_at hl 0 rfl) ?_
      refine va_get (D := D) (ci := 8) (v := .ref (a0 2)) (C := RX8) (T := TX8) (N := 4) hx hb hts hiX8 hown hK hP 0 rfl rfl 2 (by decide) (hts _ flX8_18) (fun _ h9 => h9) rfl dX8_layInto_94 ?_
      refine lv_iload hx hb dX8_layInto_97 (lv_at hl 2 rfl) ?_
      refine va_iald (f := r0 2) hx hb hK hP 3 0 rfl rfl (ck_in hf) dX8_layInto_99 ?_
      have hf := ck_2 hf
      obtain ⟨q8, hq8, hf⟩ := bd_s hf
      refine k_pVv (wr := W8 cs h0 a0 i0 r0 ++ W2 cs h1 a1 i1 r1) (ws2 := W8 cs h0 a0 i0 r0 ++ (W2 cs h1 a1 i1 r1 ++ W2 cs h2 a2 q8.1 q8.2)) (As := [.int (r0 1 x4.toNatClampNeg), .int (r0 2 x4.toNatClampNeg)]) (rest := []) hx hb hml hown hts hK hA hZ hl.1 hP hD hS (c_X2_addTurn (h0 := h2) (a0 := a2) hq8) (gVt mlX8_54 imX2_addTurn seX2_addTurn inX2 coX2_addTurn) rfl qnX2_addTurn rfl rfl ⟨Nat.le_of_ble_eq_true rfl, Nat.le_of_ble_eq_true rfl⟩ [9, 10, 11, 12, 13] [0, 1, 2, 3, 4, 5, 6, 7, 8] [0, 1, 2, 3, 4, 5, 6, 7, 8, 9, 10, 11, 12, 13] rfl rfl rfl (by decide) 0 2 rfl rfl rfl rfl rfl (Nat.le_of_ble_eq_true rfl) ⟨Nat.zero_le _, Nat.zero_le _⟩ dX8_layInto_100 (fun H locs hP hD hS => ?_)
      refine lv_iinc (v := x4 + (-1)) (lv' := [(4, .int (x4 + (-1))), (0, .ref h0), (2, .ref h2)]) hx hb dX8_layInto_103 hl (k := 2) rfl rfl (by decide) rfl (fun ls hl => ?_)
      refine lv_goto (tgt := 80) hx hb dX8_layInto_106 (by decide) ?_
      exact ih _ _ _ _ _ _ _ _ hf hP hD hS (lv_sub hl [1, 2, 0] rfl)
def f_X8_layInto_53 (i1 : Nat → Int32) (r1 : Nat → Nat → Int32)  (i0 : Nat → Int32) (r0 : Nat → Nat → Int32) (i2 : Nat → Int32) (r2 : Nat → Nat → Int32) : Option (Int32 × (Nat → Int32) × (Nat → Nat → Int32) × (Nat → Int32) × (Nat → Nat → Int32)) := if (i0 3) ≤ 40 then (bd (f_X2_lanes i1 r1) (fun q9 => bd (f_X2_clear i2 r2 q9) (fun q10 => f_X8_layInto_80 i1 r1 2000000 i0 r0 q10 r2 ((i0 3) - 1)))) else (some (0, i0, r0, i2, r2))
set_option maxRecDepth 100000 in
set_option maxHeartbeats 4000000 in
theorem w_X8_layInto_53 {p : Program} {l : Launch} {e : Env} {s : State} {m : MethodId} {args : Array Value} {below : List Frame} {meth : Method} {c : Code} {A : Nat → Prop} {D : va_G} {cs zs : Nat → Nat} {h0 : Nat} {a0 : Nat → Nat} {h1 : Nat} {a1 : Nat → Nat} {h2 : Nat} {a2 : Nat → Nat} {i1 : Nat → Int32} {r1 : Nat → Nat → Int32} {q : Int32 × (Nat → Int32) × (Nat → Nat → Int32) × (Nat → Int32) × (Nat → Nat → Int32)} (C : Cx p s m args meth c A D cs zs cX8_layInto 5 (some .boolean) RX8)  : ∀ (i0 : Nat → Int32) (r0 : Nat → Nat → Int32) (i2 : Nat → Int32) (r2 : Nat → Nat → Int32) (H : Heap) (locs : List Loc) (ls : Array Slot), f_X8_layInto_53 i1 r1 i0 r0 i2 r2 = some q → va_P D vwCl (W8 cs h0 a0 i0 r0 ++ (W2 cs h1 a1 i1 r1 ++ W2 cs h2 a2 i2 r2)) H → va_D A (W8 cs h0 a0 i0 r0 ++ (W2 cs h1 a1 i1 r1 ++ W2 cs h2 a2 i2 r2)) → va_S A s.heap H locs → lv_has ls 5 [(0, .ref h0), (1, .ref h1), (2, .ref h2)] → W p l e rmX8_layInto s m args below meth c H locs 0 0 (MQ below (Qi D cs A q.1 (W8 cs h0 a0 q.2.1 q.2.2.1 ++ (W2 cs h1 a1 i1 r1 ++ W2 cs h2 a2 q.2.2.2.1 q.2.2.2.2))) args s 0 0 A) (F0 m 53 ls []) := by
  obtain ⟨hx, hb, hr, hml, hown, hts, hK, hA, hlocks, hZ⟩ := id C
  intro i0 r0 i2 r2 H locs ls hf hP hD hS hl
  rw [f_X8_layInto_53] at hf
  refine lv_aload_n hx hb dX8_layInto_53 rfl (lv_at hl 0 rfl) ?_
  refine va_get (D := D) (ci := 8) (v := .int (i0 3)) (C := RX8) (T := TX8) (N := 4) hx hb hts hiX8 hown hK hP 0 rfl rfl 3 (by decide) (hts _ flX8_39) (fun _ h9 => h9) rfl dX8_layInto_54 ?_
  refine lv_bipush (v := 40) hx hb dX8_layInto_57 (by decide) ?_
  refine lv_icmp_le (tgt := 64) hx hb dX8_layInto_59 (by decide) (fun hc => ?_) (fun hc => ?_)
  · have hf := ite_t hf hc
    refine lv_aload_n hx hb dX8_layInto_64 rfl (lv_at hl 2 rfl) ?_
    refine lv_aload_n hx hb dX8_layInto_65 rfl (lv_at hl 1 rfl) ?_
    obtain ⟨q9, hq9, hf⟩ := bd_s hf
    refine k_pVi (wr := W8 cs h0 a0 i0 r0 ++ W2 cs h2 a2 i2 r2) (ws2 := W8 cs h0 a0 i0 r0 ++ (W2 cs h1 a1 i1 r1 ++ W2 cs h2 a2 i2 r2)) (As := []) (rest := [.ref h2]) hx hb hml hown hts hK hA hZ hl.1 hP hD hS (c_X2_lanes (h0 := h1) (a0 := a1) hq9) (gVt mlX8_43 imX2_lanes seX2_lanes inX2 coX2_lanes) rfl qnX2_lanes rfl rfl ⟨Nat.le_of_ble_eq_true rfl, Nat.le_of_ble_eq_true rfl⟩ [4, 5, 6, 7, 8] [0, 1, 2, 3, 9, 10, 11, 12, 13] [0, 1, 2, 3, 9, 10, 11, 12, 13, 4, 5, 6, 7, 8] rfl rfl rfl (by decide) 0 2 rfl rfl rfl rfl rfl (Nat.le_of_ble_eq_true rfl) ⟨Nat.zero_le _, Nat.zero_le _⟩ dX8_layInto_66 (fun H locs hP hD hS => ?_)
    obtain ⟨q10, hq10, hf⟩ := bd_s hf
    refine k_pVv (wr := W8 cs h0 a0 i0 r0 ++ W2 cs h1 a1 i1 r1) (ws2 := W8 cs h0 a0 i0 r0 ++ (W2 cs h1 a1 i1 r1 ++ W2 cs h2 a2 q10 r2)) (As := [.int q9]) (rest := []) hx hb hml hown hts hK hA hZ hl.1 hP hD hS (c_X2_clear (h0 := h2) (a0 := a2) hq10) (gVt mlX8_50 imX2_clear seX2_clear inX2 coX2_clear) rfl qnX2_clear rfl rfl ⟨Nat.le_of_ble_eq_true rfl, Nat.le_of_ble_eq_true rfl⟩ [9, 10, 11, 12, 13] [0, 1, 2, 3, 4, 5, 6, 7, 8] [0, 1, 2, 3, 4, 5, 6, 7, 8, 9, 10, 11, 12, 13] rfl rfl rfl (by decide) 0 2 rfl rfl rfl rfl rfl (Nat.le_of_ble_eq_true rfl) ⟨Nat.zero_le _, Nat.zero_le _⟩ dX8_layInto_69 (fun H locs hP hD hS => ?_)
    refine lv_aload_n hx hb dX8_layInto_72 rfl (lv_at hl 0 rfl) ?_
    refine va_get (D := D) (ci := 8) (v := .int (i0 3)) (C := RX8) (T := TX8) (N := 4) hx hb hts hiX8 hown hK hP 0 rfl rfl 3 (by decide) (hts _ flX8_39) (fun _ h9 => h9) rfl dX8_layInto_73 ?_
    refine lv_iconst (v := 1) hx hb dX8_layInto_76 (by decide) ?_
    refine lv_isub hx hb dX8_layInto_77 ?_
    refine lv_istore (lv' := [(4, .int ((i0 3) - 1)), (0, .ref h0), (1, .ref h1), (2, .ref h2)]) hx hb dX8_layInto_78 hl (by decide) rfl (fun ls hl => ?_)
    exact w_X8_layInto_80 C  2000000 _ _ _ _ _ _ _ _ hf hP hD hS (lv_sub hl [1, 3, 0] rfl)
  · have hf := ite_f hf hc
    refine lv_iconst (v := 0) hx hb dX8_layInto_62 (by decide) ?_
    obtain rfl := Option.some.inj hf
    exact k_zret (r := 0) hx hb hr hlocks rfl hK hP hD hS dX8_layInto_63
def f_X8_layInto_21 (i1 : Nat → Int32) (r1 : Nat → Nat → Int32)  : Nat → (Nat → Int32) → (Nat → Nat → Int32) → (Nat → Int32) → (Nat → Nat → Int32) → Int32 → Int32 → Option (Int32 × (Nat → Int32) × (Nat → Nat → Int32) × (Nat → Int32) × (Nat → Nat → Int32))
  | 0, _, _, _, _, _, _ => none
  | n + 1, i0, r0, i2, r2, x3, x4 => if x3 ≤ x4 then (f_X8_layInto_53 i1 r1 i0 r0 i2 r2) else (if 40 < (i0 3) then (f_X8_layInto_53 i1 r1 i0 r0 i2 r2) else (bd (f_X2_lanes i1 r1) (fun q11 => bd (f_X8_mendRow i0 r0 x4 q11 x3) (fun q12 => f_X8_layInto_21 i1 r1 n q12.1 q12.2 i2 r2 x3 (x4 + 1)))))
set_option maxRecDepth 100000 in
set_option maxHeartbeats 4000000 in
theorem w_X8_layInto_21 {p : Program} {l : Launch} {e : Env} {s : State} {m : MethodId} {args : Array Value} {below : List Frame} {meth : Method} {c : Code} {A : Nat → Prop} {D : va_G} {cs zs : Nat → Nat} {h0 : Nat} {a0 : Nat → Nat} {h1 : Nat} {a1 : Nat → Nat} {h2 : Nat} {a2 : Nat → Nat} {i1 : Nat → Int32} {r1 : Nat → Nat → Int32} {q : Int32 × (Nat → Int32) × (Nat → Nat → Int32) × (Nat → Int32) × (Nat → Nat → Int32)} (C : Cx p s m args meth c A D cs zs cX8_layInto 5 (some .boolean) RX8)  : ∀ (n : Nat), ∀ (i0 : Nat → Int32) (r0 : Nat → Nat → Int32) (i2 : Nat → Int32) (r2 : Nat → Nat → Int32) (x3 : Int32) (x4 : Int32) (H : Heap) (locs : List Loc) (ls : Array Slot), f_X8_layInto_21 i1 r1 n i0 r0 i2 r2 x3 x4 = some q → va_P D vwCl (W8 cs h0 a0 i0 r0 ++ (W2 cs h1 a1 i1 r1 ++ W2 cs h2 a2 i2 r2)) H → va_D A (W8 cs h0 a0 i0 r0 ++ (W2 cs h1 a1 i1 r1 ++ W2 cs h2 a2 i2 r2)) → va_S A s.heap H locs → lv_has ls 5 [(0, .ref h0), (1, .ref h1), (2, .ref h2), (3, .int x3), (4, .int x4)] → W p l e rmX8_layInto s m args below meth c H locs 0 0 (MQ below (Qi D cs A q.1 (W8 cs h0 a0 q.2.1 q.2.2.1 ++ (W2 cs h1 a1 i1 r1 ++ W2 cs h2 a2 q.2.2.2.1 q.2.2.2.2))) args s 0 0 A) (F0 m 21 ls []) := by
  obtain ⟨hx, hb, hr, hml, hown, hts, hK, hA, hlocks, hZ⟩ := id C
  intro n
  induction n with
  | zero =>
    intro i0 r0 i2 r2 x3 x4 H locs ls hf
    rw [f_X8_layInto_21] at hf
    cases hf
  | succ n ih =>
    intro i0 r0 i2 r2 x3 x4 H locs ls hf hP hD hS hl
    rw [f_X8_layInto_21] at hf
    refine lv_iload hx hb dX8_layInto_21 (lv_at hl 4 rfl) ?_
    refine lv_iload_n hx hb dX8_layInto_23 rfl (lv_at hl 3 rfl) ?_
    refine lv_icmp_ge (tgt := 53) hx hb dX8_layInto_24 (by decide) (fun hc => ?_) (fun hc => ?_)
    · have hf := ite_t hf hc
      exact w_X8_layInto_53 C  _ _ _ _ _ _ _ hf hP hD hS (lv_sub hl [0, 1, 2] rfl)
    · have hf := ite_f hf hc
      refine lv_aload_n hx hb dX8_layInto_27 rfl (lv_at hl 0 rfl) ?_
      refine va_get (D := D) (ci := 8) (v := .int (i0 3)) (C := RX8) (T := TX8) (N := 4) hx hb hts hiX8 hown hK hP 0 rfl rfl 3 (by decide) (hts _ flX8_39) (fun _ h9 => h9) rfl dX8_layInto_28 ?_
      refine lv_bipush (v := 40) hx hb dX8_layInto_31 (by decide) ?_
      refine lv_icmp_gt (tgt := 53) hx hb dX8_layInto_33 (by decide) (fun hc => ?_) (fun hc => ?_)
      · have hf := ite_t hf hc
        exact w_X8_layInto_53 C  _ _ _ _ _ _ _ hf hP hD hS (lv_sub hl [0, 1, 2] rfl)
      · have hf := ite_f hf hc
        refine lv_aload_n hx hb dX8_layInto_36 rfl (lv_at hl 0 rfl) ?_
        refine lv_iload hx hb dX8_layInto_37 (lv_at hl 4 rfl) ?_
        refine lv_aload_n hx hb dX8_layInto_39 rfl (lv_at hl 1 rfl) ?_
        obtain ⟨q11, hq11, hf⟩ := bd_s hf
        refine k_pVi (wr := W8 cs h0 a0 i0 r0 ++ W2 cs h2 a2 i2 r2) (ws2 := W8 cs h0 a0 i0 r0 ++ (W2 cs h1 a1 i1 r1 ++ W2 cs h2 a2 i2 r2)) (As := []) (rest := [.int x4, .ref h0]) hx hb hml hown hts hK hA hZ hl.1 hP hD hS (c_X2_lanes (h0 := h1) (a0 := a1) hq11) (gVt mlX8_43 imX2_lanes seX2_lanes inX2 coX2_lanes) rfl qnX2_lanes rfl rfl ⟨Nat.le_of_ble_eq_true rfl, Nat.le_of_ble_eq_true rfl⟩ [4, 5, 6, 7, 8] [0, 1, 2, 3, 9, 10, 11, 12, 13] [0, 1, 2, 3, 9, 10, 11, 12, 13, 4, 5, 6, 7, 8] rfl rfl rfl (by decide) 0 2 rfl rfl rfl rfl rfl (Nat.le_of_ble_eq_true rfl) ⟨Nat.zero_le _, Nat.zero_le _⟩ dX8_layInto_40 (fun H locs hP hD hS => ?_)
        refine lv_iload_n hx hb dX8_layInto_43 rfl (lv_at hl 3 rfl) ?_
        obtain ⟨q12, hq12, hf⟩ := bd_s hf
        refine k_pVv (wr := W2 cs h1 a1 i1 r1 ++ W2 cs h2 a2 i2 r2) (ws2 := W8 cs h0 a0 q12.1 q12.2 ++ (W2 cs h1 a1 i1 r1 ++ W2 cs h2 a2 i2 r2)) (As := [.int x4, .int q11, .int x3]) (rest := []) hx hb hml hown hts hK hA hZ hl.1 hP hD hS (c_X8_mendRow (h0 := h0) (a0 := a0) hq12) (gVt mlX8_46 imX8_mendRow seX8_mendRow inX8 coX8_mendRow) rfl qnX8_mendRow rfl rfl ⟨Nat.le_of_ble_eq_true rfl, Nat.le_of_ble_eq_true rfl⟩ [0, 1, 2, 3] [4, 5, 6, 7, 8, 9, 10, 11, 12, 13] [10, 11, 12, 13, 0, 1, 2, 3, 4, 5, 6, 7, 8, 9] rfl rfl rfl (by decide) 0 8 rfl rfl rfl rfl rfl (Nat.le_of_ble_eq_true rfl) ⟨Nat.zero_le _, Nat.zero_le _⟩ dX8_layInto_44 (fun H locs hP hD hS => ?_)
        refine lv_iinc (v := x4 + 1) (lv' := [(4, .int (x4 + 1)), (0, .ref h0), (1, .ref h1), (2, .ref h2), (3, .int x3)]) hx hb dX8_layInto_47 hl (k := 4) rfl rfl (by decide) rfl (fun ls hl => ?_)
        refine lv_goto (tgt := 21) hx hb dX8_layInto_50 (by decide) ?_
        exact ih _ _ _ _ _ _ _ _ _ hf hP hD hS (lv_sub hl [1, 2, 3, 4, 0] rfl)
def f_X8_layInto  (i0 : Nat → Int32) (r0 : Nat → Nat → Int32) (i1 : Nat → Int32) (r1 : Nat → Nat → Int32) (i2 : Nat → Int32) (r2 : Nat → Nat → Int32)  : Option (Int32 × (Nat → Int32) × (Nat → Nat → Int32) × (Nat → Int32) × (Nat → Nat → Int32)) := bd (f_X2_fillTable 256 i1 r1 (r0 0)) (fun q13 => bd (f_X2_rows i1 r1) (fun q14 => f_X8_layInto_21 i1 r1 2000000 (upd i0 3 0) (va_up r0 0 q13) i2 r2 q14 0))
set_option maxRecDepth 100000 in
set_option maxHeartbeats 4000000 in
theorem c_X8_layInto {l : Launch} {D : va_G} {cs zs : Nat → Nat} {h0 : Nat} {a0 : Nat → Nat} {h1 : Nat} {a1 : Nat → Nat} {h2 : Nat} {a2 : Nat → Nat} {i0 : Nat → Int32} {r0 : Nat → Nat → Int32} {i1 : Nat → Int32} {r1 : Nat → Nat → Int32} {i2 : Nat → Int32} {r2 : Nat → Nat → Int32}  {q : Int32 × (Nat → Int32) × (Nat → Nat → Int32) × (Nat → Int32) × (Nat → Nat → Int32)} (hf : f_X8_layInto i0 r0 i1 r1 i2 r2 = some q) : Mi l yX8_layInto wlX8_layInto rmX8_layInto D cs zs [.ref h0, .ref h1, .ref h2] (W8 cs h0 a0 i0 r0 ++ (W2 cs h1 a1 i1 r1 ++ W2 cs h2 a2 i2 r2)) q.1 (W8 cs h0 a0 q.2.1 q.2.2.1 ++ (W2 cs h1 a1 i1 r1 ++ W2 cs h2 a2 q.2.2.2.1 q.2.2.2.2)) := by
  refine Mi.of RX8 (by decide) rfl (Nat.le_of_ble_eq_true rfl) (fun p e s m below meth c A C hP hD hS ls hl => ?_)
  generalize ([.ref h0, .ref h1, .ref h2] : List Value).toArray = args at C ⊢
  obtain ⟨hx, hb, hr, hml, hown, hts, hK, hA, hlocks, hZ⟩ := id C
  have hl : lv_has ls 5 [(0, .ref h0), (1, .ref h1), (2, .ref h2)] := hl
  rw [f_X8_layInto] at hf
  refine lv_aload_n hx hb dX8_layInto_0 rfl (lv_at hl 1 rfl) ?_
  refine lv_aload_n hx hb dX8_layInto_1 rfl (lv_at hl 0 rfl) ?_
  refine va_get (D := D) (ci := 8) (v := .ref (a0 0)) (C := RX8) (T := TX8) (N := 4) hx hb hts hiX8 hown hK hP 0 rfl rfl 0 (by decide) (hts _ flX8_9) (fun _ h9 => h9) rfl dX8_layInto_2 ?_
  obtain ⟨q13, hq13, hf⟩ := bd_s hf
  refine k_pVv (wr := [(h0, .inr (8, fs8 a0 i0)), (a0 1, .inl (cs 0, 40, .inl (r0 1))), (a0 2, .inl (cs 0, 40, .inl (r0 2)))] ++ W2 cs h2 a2 i2 r2) (ws2 := W8 cs h0 a0 i0 (va_up r0 0 q13) ++ (W2 cs h1 a1 i1 r1 ++ W2 cs h2 a2 i2 r2)) (As := [.ref (a0 0)]) (rest := []) hx hb hml hown hts hK hA hZ hl.1 hP hD hS (c_X2_fillTable (h0 := h1) (a0 := a1) (h1 := (a0 0)) (n1 := 256) hq13) (gVt mlX8_21 imX2_fillTable seX2_fillTable inX2 coX2_fillTable) rfl qnX2_fillTable rfl rfl ⟨Nat.le_of_ble_eq_true rfl, Nat.le_of_ble_eq_true rfl⟩ [4, 5, 6, 7, 8, 1] [0, 2, 3, 9, 10, 11, 12, 13] [0, 13, 1, 2, 8, 9, 10, 11, 12, 3, 4, 5, 6, 7] rfl rfl rfl (by decide) 0 2 rfl rfl rfl rfl rfl (Nat.le_of_ble_eq_true rfl) ⟨Nat.zero_le _, Nat.zero_le _⟩ dX8_layInto_5 (fun H locs hP hD hS => ?_)
  refine lv_aload_n hx hb dX8_layInto_8 rfl (lv_at hl 0 rfl) ?_
  refine lv_iconst (v := 0) hx hb dX8_layInto_9 (by decide) ?_
  refine va_put (D := D) (ci := 8) (v := .int 0) (ty := .int) (C := RX8) (T := TX8) (N := 4) hx hb hts hiX8 tyX8 tyX8_ok nmX8 hown hK hP hD hS 0 rfl rfl 3 (by decide) (hts _ flX8_39) (fun _ h9 => h9) rfl (tyX8_ok 3 (by decide)) rfl rfl (Nat.le_of_ble_eq_true rfl) dX8_layInto_10 (fun H locs hP hD hS => ?_)
  obtain ⟨hP, hD⟩ := st8_3_T hP hD
  refine lv_aload_n hx hb dX8_layInto_13 rfl (lv_at hl 1 rfl) ?_
  obtain ⟨q14, hq14, hf⟩ := bd_s hf
  refine k_pVi (wr := W8 cs h0 a0 (upd i0 3 0) (va_up r0 0 q13) ++ W2 cs h2 a2 i2 r2) (ws2 := W8 cs h0 a0 (upd i0 3 0) (va_up r0 0 q13) ++ (W2 cs h1 a1 i1 r1 ++ W2 cs h2 a2 i2 r2)) (As := []) (rest := []) hx hb hml hown hts hK hA hZ hl.1 hP hD hS (c_X2_rows (h0 := h1) (a0 := a1) hq14) (gVt mlX8_27 imX2_rows seX2_rows inX2 coX2_rows) rfl qnX2_rows rfl rfl ⟨Nat.le_of_ble_eq_true rfl, Nat.le_of_ble_eq_true rfl⟩ [4, 5, 6, 7, 8] [0, 1, 2, 3, 9, 10, 11, 12, 13] [0, 1, 2, 3, 9, 10, 11, 12, 13, 4, 5, 6, 7, 8] rfl rfl rfl (by decide) 0 2 rfl rfl rfl rfl rfl (Nat.le_of_ble_eq_true rfl) ⟨Nat.zero_le _, Nat.zero_le _⟩ dX8_layInto_14 (fun H locs hP hD hS => ?_)
  refine lv_istore_n (lv' := [(3, .int q14), (0, .ref h0), (1, .ref h1), (2, .ref h2)]) hx hb dX8_layInto_17 rfl hl (by decide) rfl (fun ls hl => ?_)
  refine lv_iconst (v := 0) hx hb dX8_layInto_18 (by decide) ?_
  refine lv_istore (lv' := [(4, .int 0), (3, .int q14), (0, .ref h0), (1, .ref h1), (2, .ref h2)]) hx hb dX8_layInto_19 hl (by decide) rfl (fun ls hl => ?_)
  exact w_X8_layInto_21 C  2000000 _ _ _ _ _ _ _ _ _ hf hP hD hS (lv_sub hl [2, 3, 4, 1, 0] rfl)
