def fs10 (a : Nat → Nat) (i : Nat → Int32) : List Value := [.ref (a 0), .ref (a 1), .ref (a 2), .int (i 3)]
def W10 (cs : Nat → ClassId) (h : Nat) (a : Nat → Nat) (i : Nat → Int32) (r : Nat → Nat → Int32) (u : Nat → Nat) : va_W := [(h, .inr (10, fs10 a i)), (a 0, .inl (cs 0, u 0, .inl (r 0))), (a 1, .inl (cs 0, u 1, .inl (r 1))), (a 2, .inl (cs 0, u 2, .inl (r 2)))]
theorem st10_0 {D : va_G} {A : Nat → Prop} {H : Heap} {cs : Nat → ClassId} {h : Nat} {a : Nat → Nat} {i : Nat → Int32} {r : Nat → Nat → Int32} {u : Nat → Nat} {f : Nat → Int32} (hP : va_P D vwCl ((W10 cs h a i r u).set 1 (a 0, .inl (cs 0, u 0, .inl f))) H) (hD : va_D A ((W10 cs h a i r u).set 1 (a 0, .inl (cs 0, u 0, .inl f)))) : va_P D vwCl (W10 cs h a i (va_up r 0 f) u) H ∧ va_D A (W10 cs h a i (va_up r 0 f) u) := ⟨hP, hD⟩
theorem st10_1 {D : va_G} {A : Nat → Prop} {H : Heap} {cs : Nat → ClassId} {h : Nat} {a : Nat → Nat} {i : Nat → Int32} {r : Nat → Nat → Int32} {u : Nat → Nat} {f : Nat → Int32} (hP : va_P D vwCl ((W10 cs h a i r u).set 2 (a 1, .inl (cs 0, u 1, .inl f))) H) (hD : va_D A ((W10 cs h a i r u).set 2 (a 1, .inl (cs 0, u 1, .inl f)))) : va_P D vwCl (W10 cs h a i (va_up r 1 f) u) H ∧ va_D A (W10 cs h a i (va_up r 1 f) u) := ⟨hP, hD⟩
theorem st10_2 {D : va_G} {A : Nat → Prop} {H : Heap} {cs : Nat → ClassId} {h : Nat} {a : Nat → Nat} {i : Nat → Int32} {r : Nat → Nat → Int32} {u : Nat → Nat} {f : Nat → Int32} (hP : va_P D vwCl ((W10 cs h a i r u).set 3 (a 2, .inl (cs 0, u 2, .inl f))) H) (hD : va_D A ((W10 cs h a i r u).set 3 (a 2, .inl (cs 0, u 2, .inl f)))) : va_P D vwCl (W10 cs h a i (va_up r 2 f) u) H ∧ va_D A (W10 cs h a i (va_up r 2 f) u) := ⟨hP, hD⟩
theorem st10_3 {D : va_G} {A : Nat → Prop} {H : Heap} {cs : Nat → ClassId} {h : Nat} {a : Nat → Nat} {i : Nat → Int32} {r : Nat → Nat → Int32} {u : Nat → Nat} {v : Int32} (hP : va_P D vwCl ((W10 cs h a i r u).set 0 (h, .inr (10, (fs10 a i).set 3 (.int v)))) H) (hD : va_D A ((W10 cs h a i r u).set 0 (h, .inr (10, (fs10 a i).set 3 (.int v))))) : va_P D vwCl (W10 cs h a (upd i 3 v) r u) H ∧ va_D A (W10 cs h a (upd i 3 v) r u) := ⟨hP, hD⟩
/-! MarbleFloor$Trails.mayChange(II)Z -/
abbrev wlX10_mayChange : List Cond := Cond.code yX10_mayChange cX10_mayChange 2 (some .boolean) :: tbG
abbrev rmX10_mayChange : Room := { frames := 0, cells := 0, slots := 0, locals := 0 }
theorem qnX10_mayChange : yX10_mayChange.cls ≠ "java/lang/invoke/MethodHandle" ∧ yX10_mayChange.cls ≠ "java/lang/invoke/VarHandle" ∧ (parseMethodDescriptor yX10_mayChange.desc).map (fun d => d.parameters.length) = some 2 := by decide +kernel
def f_X10_mayChange   (x0 : Int32) (x1 : Int32) : Option (Int32) := if x1 = 0 then (some (1)) else (if ((x0 >>> ((x1 - 1) &&& 31)) &&& 1) = 0 then (some (0)) else (some (1)))
set_option maxRecDepth 100000 in
set_option maxHeartbeats 4000000 in
theorem c_X10_mayChange {l : Launch} {D : va_G} {cs zs : Nat → Nat}   {x0 : Int32} {x1 : Int32} {q : Int32} (hf : f_X10_mayChange x0 x1 = some q) : Mi l yX10_mayChange wlX10_mayChange rmX10_mayChange D cs zs [.int x0, .int x1] (([] : va_W)) q (([] : va_W)) := by
  refine Mi.of RX10 (by decide) rfl (Nat.le_of_ble_eq_true rfl) (fun p e s m below meth c A C hP hD hS ls hl => ?_)
  generalize ([.int x0, .int x1] : List Value).toArray = args at C ⊢
  obtain ⟨hx, hb, hr, hml, hown, hts, hK, hA, hlocks, hZ⟩ := id C
  have hl : lv_has ls 2 [(0, .int x0), (1, .int x1)] := hl
  rw [f_X10_mayChange] at hf
  refine lv_iload_n hx hb dX10_mayChange_0 rfl (lv_at hl 1 rfl) ?_
  refine lv_if_eq (tgt := 14) hx hb dX10_mayChange_1 (by decide) (fun hc => ?_) (fun hc => ?_)
  · have hf := ite_t hf hc
    refine lv_iconst (v := 1) hx hb dX10_mayChange_14 (by decide) ?_
    refine lv_goto (tgt := 19) hx hb dX10_mayChange_15 (by decide) ?_
    obtain rfl := Option.some.inj hf
    exact k_zret (r := 1) hx hb hr hlocks rfl hK hP hD hS dX10_mayChange_19
  · have hf := ite_f hf hc
    refine lv_iload_n hx hb dX10_mayChange_4 rfl (lv_at hl 0 rfl) ?_
    refine lv_iload_n hx hb dX10_mayChange_5 rfl (lv_at hl 1 rfl) ?_
    refine lv_iconst (v := 1) hx hb dX10_mayChange_6 (by decide) ?_
    refine lv_isub hx hb dX10_mayChange_7 ?_
    refine lv_ishr hx hb dX10_mayChange_8 ?_
    refine lv_iconst (v := 1) hx hb dX10_mayChange_9 (by decide) ?_
    refine lv_iand hx hb dX10_mayChange_10 ?_
    refine lv_if_eq (tgt := 18) hx hb dX10_mayChange_11 (by decide) (fun hc => ?_) (fun hc => ?_)
    · have hf := ite_t hf hc
      refine lv_iconst (v := 0) hx hb dX10_mayChange_18 (by decide) ?_
      obtain rfl := Option.some.inj hf
      exact k_zret (r := 0) hx hb hr hlocks rfl hK hP hD hS dX10_mayChange_19
    · have hf := ite_f hf hc
      refine lv_iconst (v := 1) hx hb dX10_mayChange_14 (by decide) ?_
      refine lv_goto (tgt := 19) hx hb dX10_mayChange_15 (by decide) ?_
      obtain rfl := Option.some.inj hf
      exact k_zret (r := 1) hx hb hr hlocks rfl hK hP hD hS dX10_mayChange_19
/-! MarbleFloor$Trails.measure(II)V -/
abbrev wlX10_measure : List Cond := Cond.code yX10_measure cX10_measure 10 none :: tbG
abbrev rmX10_measure : Room := { frames := 2, cells := 0, slots := 0, locals := 46 }
theorem qnX10_measure : yX10_measure.cls = RX10 ∧ yX10_measure.cls ≠ "java/lang/invoke/MethodHandle" ∧ yX10_measure.cls ≠ "java/lang/invoke/VarHandle" ∧ (parseMethodDescriptor yX10_measure.desc).map (fun d => d.parameters.length) = some 2 := by decide +kernel
def f_X10_measure_168 (i0 : Nat → Int32) (u0 : Nat → Nat) (K38 : (Nat → Nat → Int32) → Int32 → Int32 → Int32 → Int32 → Option ((Nat → Nat → Int32))) (K75 : (Nat → Nat → Int32) → Int32 → Int32 → Int32 → Int32 → Int32 → Int32 → Option ((Nat → Nat → Int32))) (r0 : Nat → Nat → Int32) (x1 : Int32) (x2 : Int32) (x4 : Int32) (x5 : Int32) (x6 : Int32) (x7 : Int32) : Option ((Nat → Nat → Int32)) := K75 r0 x1 x2 x4 x5 x6 (x7 + 1)
set_option maxRecDepth 100000 in
set_option maxHeartbeats 4000000 in
theorem w_X10_measure_168 {p : Program} {l : Launch} {e : Env} {s : State} {m : MethodId} {args : Array Value} {below : List Frame} {meth : Method} {c : Code} {A : Nat → Prop} {D : va_G} {cs zs : Nat → Nat} {h0 : Nat} {a0 : Nat → Nat} {i0 : Nat → Int32} {u0 : Nat → Nat} {q : (Nat → Nat → Int32)} (C : Cx p s m args meth c A D cs zs cX10_measure 10 none RX10) (K38 : (Nat → Nat → Int32) → Int32 → Int32 → Int32 → Int32 → Option ((Nat → Nat → Int32))) (hK38 : ∀ (r0 : Nat → Nat → Int32) (x1 : Int32) (x2 : Int32) (x4 : Int32) (x5 : Int32) (H : Heap) (locs : List Loc) (ls : Array Slot), K38 r0 x1 x2 x4 x5 = some q → va_P D vwCl (W10 cs h0 a0 i0 r0 u0) H → va_D A (W10 cs h0 a0 i0 r0 u0) → va_S A s.heap H locs → lv_has ls 10 [(0, .ref h0), (1, .int x1), (2, .int x2), (4, .int x4), (5, .int x5)] → W p l e rmX10_measure s m args below meth c H locs 0 0 (MQ below (Qv D cs A (W10 cs h0 a0 i0 q u0)) args s 0 0 A) (F0 m 38 ls [])) (K75 : (Nat → Nat → Int32) → Int32 → Int32 → Int32 → Int32 → Int32 → Int32 → Option ((Nat → Nat → Int32))) (hK75 : ∀ (r0 : Nat → Nat → Int32) (x1 : Int32) (x2 : Int32) (x4 : Int32) (x5 : Int32) (x6 : Int32) (x7 : Int32) (H : Heap) (locs : List Loc) (ls : Array Slot), K75 r0 x1 x2 x4 x5 x6 x7 = some q → va_P D vwCl (W10 cs h0 a0 i0 r0 u0) H → va_D A (W10 cs h0 a0 i0 r0 u0) → va_S A s.heap H locs → lv_has ls 10 [(0, .ref h0), (1, .int x1), (2, .int x2), (4, .int x4), (5, .int x5), (6, .int x6), (7, .int x7)] → W p l e rmX10_measure s m args below meth c H locs 0 0 (MQ below (Qv D cs A (W10 cs h0 a0 i0 q u0)) args s 0 0 A) (F0 m 75 ls [])) : ∀ (r0 : Nat → Nat → Int32) (x1 : Int32) (x2 : Int32) (x4 : Int32) (x5 : Int32) (x6 : Int32) (x7 : Int32) (H : Heap) (locs : List Loc) (ls : Array Slot), f_X10_measure_168 i0 u0 K38 K75 r0 x1 x2 x4 x5 x6 x7 = some q → va_P D vwCl (W10 cs h0 a0 i0 r0 u0) H → va_D A (W10 cs h0 a0 i0 r0 u0) → va_S A s.heap H locs → lv_has ls 10 [(0, .ref h0), (1, .int x1), (2, .int x2), (4, .int x4), (5, .int x5), (6, .int x6), (7, .int x7)] → W p l e rmX10_measure s m args below meth c H locs 0 0 (MQ below (Qv D cs A (W10 cs h0 a0 i0 q u0)) args s 0 0 A) (F0 m 168 ls []) := by
  obtain ⟨hx, hb, hr, hml, hown, hts, hK, hA, hlocks, hZ⟩ := id C
  intro r0 x1 x2 x4 x5 x6 x7 H locs ls hf hP hD hS hl
  rw [f_X10_measure_168] at hf
  refine lv_iinc (v := x7 + 1) (lv' := [(7, .int (x7 + 1)), (0, .ref h0), (1, .int x1), (2, .int x2), (4, .int x4), (5, .int x5), (6, .int x6)]) hx hb dX10_measure_168 hl (k := 6) rfl rfl (by decide) rfl (fun ls hl => ?_)
  refine lv_goto (tgt := 75) hx hb dX10_measure_171 (by decide) ?_
  exact hK75 _ _ _ _ _ _ _ _ _ _ hf hP hD hS (lv_sub hl [1, 2, 3, 4, 5, 6, 0] rfl)
def f_X10_measure_165 (i0 : Nat → Int32) (u0 : Nat → Nat) (K38 : (Nat → Nat → Int32) → Int32 → Int32 → Int32 → Int32 → Option ((Nat → Nat → Int32))) (K75 : (Nat → Nat → Int32) → Int32 → Int32 → Int32 → Int32 → Int32 → Int32 → Option ((Nat → Nat → Int32))) (r0 : Nat → Nat → Int32) (x1 : Int32) (x2 : Int32) (x4 : Int32) (x5 : Int32) (x6 : Int32) (x7 : Int32) : Option ((Nat → Nat → Int32)) := f_X10_measure_168 i0 u0 K38 K75 r0 x1 x2 (x4 + 1) x5 x6 x7
set_option maxRecDepth 100000 in
set_option maxHeartbeats 4000000 in
theorem w_X10_measure_165 {p : Program} {l : Launch} {e : Env} {s : State} {m : MethodId} {args : Array Value} {below : List Frame} {meth : Method} {c : Code} {A : Nat → Prop} {D : va_G} {cs zs : Nat → Nat} {h0 : Nat} {a0 : Nat → Nat} {i0 : Nat → Int32} {u0 : Nat → Nat} {q : (Nat → Nat → Int32)} (C : Cx p s m args meth c A D cs zs cX10_measure 10 none RX10) (K38 : (Nat → Nat → Int32) → Int32 → Int32 → Int32 → Int32 → Option ((Nat → Nat → Int32))) (hK38 : ∀ (r0 : Nat → Nat → Int32) (x1 : Int32) (x2 : Int32) (x4 : Int32) (x5 : Int32) (H : Heap) (locs : List Loc) (ls : Array Slot), K38 r0 x1 x2 x4 x5 = some q → va_P D vwCl (W10 cs h0 a0 i0 r0 u0) H → va_D A (W10 cs h0 a0 i0 r0 u0) → va_S A s.heap H locs → lv_has ls 10 [(0, .ref h0), (1, .int x1), (2, .int x2), (4, .int x4), (5, .int x5)] → W p l e rmX10_measure s m args below meth c H locs 0 0 (MQ below (Qv D cs A (W10 cs h0 a0 i0 q u0)) args s 0 0 A) (F0 m 38 ls [])) (K75 : (Nat → Nat → Int32) → Int32 → Int32 → Int32 → Int32 → Int32 → Int32 → Option ((Nat → Nat → Int32))) (hK75 : ∀ (r0 : Nat → Nat → Int32) (x1 : Int32) (x2 : Int32) (x4 : Int32) (x5 : Int32) (x6 : Int32) (x7 : Int32) (H : Heap) (locs : List Loc) (ls : Array Slot), K75 r0 x1 x2 x4 x5 x6 x7 = some q → va_P D vwCl (W10 cs h0 a0 i0 r0 u0) H → va_D A (W10 cs h0 a0 i0 r0 u0) → va_S A s.heap H locs → lv_has ls 10 [(0, .ref h0), (1, .int x1), (2, .int x2), (4, .int x4), (5, .int x5), (6, .int x6), (7, .int x7)] → W p l e rmX10_measure s m args below meth c H locs 0 0 (MQ below (Qv D cs A (W10 cs h0 a0 i0 q u0)) args s 0 0 A) (F0 m 75 ls [])) : ∀ (r0 : Nat → Nat → Int32) (x1 : Int32) (x2 : Int32) (x4 : Int32) (x5 : Int32) (x6 : Int32) (x7 : Int32) (H : Heap) (locs : List Loc) (ls : Array Slot), f_X10_measure_165 i0 u0 K38 K75 r0 x1 x2 x4 x5 x6 x7 = some q → va_P D vwCl (W10 cs h0 a0 i0 r0 u0) H → va_D A (W10 cs h0 a0 i0 r0 u0) → va_S A s.heap H locs → lv_has ls 10 [(0, .ref h0), (1, .int x1), (2, .int x2), (4, .int x4), (5, .int x5), (6, .int x6), (7, .int x7)] → W p l e rmX10_measure s m args below meth c H locs 0 0 (MQ below (Qv D cs A (W10 cs h0 a0 i0 q u0)) args s 0 0 A) (F0 m 165 ls []) := by
  obtain ⟨hx, hb, hr, hml, hown, hts, hK, hA, hlocks, hZ⟩ := id C
  intro r0 x1 x2 x4 x5 x6 x7 H locs ls hf hP hD hS hl
  rw [f_X10_measure_165] at hf
  refine lv_iinc (v := x4 + 1) (lv' := [(4, .int (x4 + 1)), (0, .ref h0), (1, .int x1), (2, .int x2), (5, .int x5), (6, .int x6), (7, .int x7)]) hx hb dX10_measure_165 hl (k := 3) rfl rfl (by decide) rfl (fun ls hl => ?_)
  exact w_X10_measure_168 C _ (hK38) _ (hK75) _ _ _ _ _ _ _ _ _ _ hf hP hD hS (lv_sub hl [1, 2, 3, 0, 4, 5, 6] rfl)
def f_X10_measure_114 (i0 : Nat → Int32) (u0 : Nat → Nat) (K38 : (Nat → Nat → Int32) → Int32 → Int32 → Int32 → Int32 → Option ((Nat → Nat → Int32))) (K75 : (Nat → Nat → Int32) → Int32 → Int32 → Int32 → Int32 → Int32 → Int32 → Option ((Nat → Nat → Int32))) (r0 : Nat → Nat → Int32) (x1 : Int32) (x2 : Int32) (x4 : Int32) (x5 : Int32) (x6 : Int32) (x7 : Int32) (x8 : Int32) (y0 : Int32) : Option ((Nat → Nat → Int32)) := if y0 = 0 then (f_X10_measure_168 i0 u0 K38 K75 r0 x1 x2 x4 x5 x6 x7) else (bd (f_X10_mayChange x6 x7) (fun q4 => if q4 = 0 then (f_X10_measure_168 i0 u0 K38 K75 r0 x1 x2 x4 x5 x6 x7) else (bd (f_J6_bitCount_0f7a4 x8) (fun q5 => if x2 < q5 then (f_X10_measure_168 i0 u0 K38 K75 r0 x1 x2 x4 x5 x6 x7) else (ck (inb x6 (u0 0)) (ck (inb x8 (u0 0)) (ck (inb x4 (u0 1)) (f_X10_measure_165 i0 u0 K38 K75 (va_up (va_up r0 0 (upd (r0 0) x8.toNatClampNeg ((r0 0 x6.toNatClampNeg) + 1))) 1 (upd (r0 1) x4.toNatClampNeg x8)) x1 x2 x4 x5 x6 x7))))))))
set_option maxRecDepth 100000 in
set_option maxHeartbeats 4000000 in
theorem w_X10_measure_114 {p : Program} {l : Launch} {e : Env} {s : State} {m : MethodId} {args : Array Value} {below : List Frame} {meth : Method} {c : Code} {A : Nat → Prop} {D : va_G} {cs zs : Nat → Nat} {h0 : Nat} {a0 : Nat → Nat} {i0 : Nat → Int32} {u0 : Nat → Nat} {q : (Nat → Nat → Int32)} (C : Cx p s m args meth c A D cs zs cX10_measure 10 none RX10) (K38 : (Nat → Nat → Int32) → Int32 → Int32 → Int32 → Int32 → Option ((Nat → Nat → Int32))) (hK38 : ∀ (r0 : Nat → Nat → Int32) (x1 : Int32) (x2 : Int32) (x4 : Int32) (x5 : Int32) (H : Heap) (locs : List Loc) (ls : Array Slot), K38 r0 x1 x2 x4 x5 = some q → va_P D vwCl (W10 cs h0 a0 i0 r0 u0) H → va_D A (W10 cs h0 a0 i0 r0 u0) → va_S A s.heap H locs → lv_has ls 10 [(0, .ref h0), (1, .int x1), (2, .int x2), (4, .int x4), (5, .int x5)] → W p l e rmX10_measure s m args below meth c H locs 0 0 (MQ below (Qv D cs A (W10 cs h0 a0 i0 q u0)) args s 0 0 A) (F0 m 38 ls [])) (K75 : (Nat → Nat → Int32) → Int32 → Int32 → Int32 → Int32 → Int32 → Int32 → Option ((Nat → Nat → Int32))) (hK75 : ∀ (r0 : Nat → Nat → Int32) (x1 : Int32) (x2 : Int32) (x4 : Int32) (x5 : Int32) (x6 : Int32) (x7 : Int32) (H : Heap) (locs : List Loc) (ls : Array Slot), K75 r0 x1 x2 x4 x5 x6 x7 = some q → va_P D vwCl (W10 cs h0 a0 i0 r0 u0) H → va_D A (W10 cs h0 a0 i0 r0 u0) → va_S A s.heap H locs → lv_has ls 10 [(0, .ref h0), (1, .int x1), (2, .int x2), (4, .int x4), (5, .int x5), (6, .int x6), (7, .int x7)] → W p l e rmX10_measure s m args below meth c H locs 0 0 (MQ below (Qv D cs A (W10 cs h0 a0 i0 q u0)) args s 0 0 A) (F0 m 75 ls [])) : ∀ (r0 : Nat → Nat → Int32) (x1 : Int32) (x2 : Int32) (x4 : Int32) (x5 : Int32) (x6 : Int32) (x7 : Int32) (x8 : Int32) (y0 : Int32) (H : Heap) (locs : List Loc) (ls : Array Slot), f_X10_measure_114 i0 u0 K38 K75 r0 x1 x2 x4 x5 x6 x7 x8 y0 = some q → va_P D vwCl (W10 cs h0 a0 i0 r0 u0) H → va_D A (W10 cs h0 a0 i0 r0 u0) → va_S A s.heap H locs → lv_has ls 10 [(0, .ref h0), (1, .int x1), (2, .int x2), (4, .int x4), (5, .int x5), (6, .int x6), (7, .int x7), (8, .int x8)] → W p l e rmX10_measure s m args below meth c H locs 0 0 (MQ below (Qv D cs A (W10 cs h0 a0 i0 q u0)) args s 0 0 A) (F0 m 114 ls [.int y0]) := by
  obtain ⟨hx, hb, hr, hml, hown, hts, hK, hA, hlocks, hZ⟩ := id C
  intro r0 x1 x2 x4 x5 x6 x7 x8 y0 H locs ls hf hP hD hS hl
  rw [f_X10_measure_114] at hf
  refine lv_istore (lv' := [(9, .int y0), (0, .ref h0), (1, .int x1), (2, .int x2), (4, .int x4), (5, .int x5), (6, .int x6), (7, .int x7), (8, .int x8)]) hx hb dX10_measure_114 hl (by decide) rfl (fun ls hl => ?_)
  refine lv_iload hx hb dX10_measure_116 (lv_at hl 0 rfl) ?_
  refine lv_if_eq (tgt := 168) hx hb dX10_measure_118 (by decide) (fun hc => ?_) (fun hc => ?_)
  · have hf := ite_t hf hc
    exact w_X10_measure_168 C _ (hK38) _ (hK75) _ _ _ _ _ _ _ _ _ _ hf hP hD hS (lv_sub hl [1, 2, 3, 4, 5, 6, 7] rfl)
  · have hf := ite_f hf hc
    refine lv_iload hx hb dX10_measure_121 (lv_at hl 6 rfl) ?_
    refine lv_iload hx hb dX10_measure_123 (lv_at hl 7 rfl) ?_
    obtain ⟨q4, hq4, hf⟩ := bd_s hf
    refine k_eSi (As := [.int x6, .int x7]) (rest := []) hx hb hml hown hts hK hA hZ hl.1 hP hD hS (c_X10_mayChange  hq4) (gSt mlX10_39 stX10_mayChange inX10 coX10_mayChange) rfl qnX10_mayChange rfl rfl ⟨Nat.le_of_ble_eq_true rfl, Nat.le_of_ble_eq_true rfl⟩ rfl rfl (Nat.le_of_ble_eq_true rfl) ⟨Nat.zero_le _, Nat.zero_le _⟩ dX10_measure_125 (fun H locs hP hD hS => ?_)
    refine lv_if_eq (tgt := 168) hx hb dX10_measure_128 (by decide) (fun hc => ?_) (fun hc => ?_)
    · have hf := ite_t hf hc
      exact w_X10_measure_168 C _ (hK38) _ (hK75) _ _ _ _ _ _ _ _ _ _ hf hP hD hS (lv_sub hl [1, 2, 3, 4, 5, 6, 7] rfl)
    · have hf := ite_f hf hc
      refine lv_iload hx hb dX10_measure_131 (lv_at hl 8 rfl) ?_
      obtain ⟨q5, hq5, hf⟩ := bd_s hf
      refine k_eSi (As := [.int x8]) (rest := []) hx hb hml hown hts hK hA hZ hl.1 hP hD hS (c_J6_bitCount_0f7a4  hq5) (gSt mlX10_43 stJ6_bitCount_0f7a4 inJ6 coJ6_bitCount_0f7a4) rfl qnJ6_bitCount_0f7a4 rfl rfl ⟨Nat.le_of_ble_eq_true rfl, Nat.le_of_ble_eq_true rfl⟩ rfl rfl (Nat.le_of_ble_eq_true rfl) ⟨Nat.zero_le _, Nat.zero_le _⟩ dX10_measure_133 (fun H locs hP hD hS => ?_)
      refine lv_iload_n hx hb dX10_measure_136 rfl (lv_at hl 3 rfl) ?_
      refine lv_icmp_gt (tgt := 168) hx hb dX10_measure_137 (by decide) (fun hc => ?_) (fun hc => ?_)
      · have hf := ite_t hf hc
        exact w_X10_measure_168 C _ (hK38) _ (hK75) _ _ _ _ _ _ _ _ _ _ hf hP hD hS (lv_sub hl [1, 2, 3, 4, 5, 6, 7] rfl)
      · have hf := ite_f hf hc
        refine lv_aload_n hx hb dX10_measure_140 rfl (lv_at hl 1 rfl) ?_
        refine va_get (D := D) (ci := 10) (v := .ref (a0 0)) (C := RX10) (T := TX10) (N := 4) hx hb hts hiX10 hown hK hP 0 rfl rfl 0 (by decide) (hts _ flX10_9) (fun _ h9 => h9) rfl dX10_measure_141 ?_
        refine lv_iload hx hb dX10_measure_144 (lv_at hl 8 rfl) ?_
        refine lv_aload_n hx hb dX10_measure_146 rfl (lv_at hl 1 rfl) ?_
        refine va_get (D := D) (ci := 10) (v := .ref (a0 0)) (C := RX10) (T := TX10) (N := 4) hx hb hts hiX10 hown hK hP 0 rfl rfl 0 (by decide) (hts _ flX10_9) (fun _ h9 => h9) rfl dX10_measure_147 ?_
        refine lv_iload hx hb dX10_measure_150 (lv_at hl 6 rfl) ?_
        refine va_iald (f := r0 0) hx hb hK hP 1 0 rfl rfl (ck_in hf) dX10_measure_152 ?_
        have hf := ck_2 hf
        refine lv_iconst (v := 1) hx hb dX10_measure_153 (by decide) ?_
        refine lv_iadd hx hb dX10_measure_154 ?_
        refine va_iast (f := r0 0) hx hb hK hP hD hS 1 0 rfl rfl (ck_in hf) dX10_measure_155 (fun H locs hP hD hS => ?_)
        have hf := ck_2 hf
        obtain ⟨hP, hD⟩ := st10_0 hP hD
        refine lv_aload_n hx hb dX10_measure_156 rfl (lv_at hl 1 rfl) ?_
        refine va_get (D := D) (ci := 10) (v := .ref (a0 1)) (C := RX10) (T := TX10) (N := 4) hx hb hts hiX10 hown hK hP 0 rfl rfl 1 (by decide) (hts _ flX10_15) (fun _ h9 => h9) rfl dX10_measure_157 ?_
        refine lv_iload hx hb dX10_measure_160 (lv_at hl 4 rfl) ?_
        refine lv_iload hx hb dX10_measure_162 (lv_at hl 8 rfl) ?_
        refine va_iast (f := r0 1) hx hb hK hP hD hS 2 0 rfl rfl (ck_in hf) dX10_measure_164 (fun H locs hP hD hS => ?_)
        have hf := ck_2 hf
        obtain ⟨hP, hD⟩ := st10_1 hP hD
        exact w_X10_measure_165 C _ (hK38) _ (hK75) _ _ _ _ _ _ _ _ _ _ hf hP hD hS (lv_sub hl [1, 2, 3, 4, 5, 6, 7] rfl)
def f_X10_measure_113 (i0 : Nat → Int32) (u0 : Nat → Nat) (K38 : (Nat → Nat → Int32) → Int32 → Int32 → Int32 → Int32 → Option ((Nat → Nat → Int32))) (K75 : (Nat → Nat → Int32) → Int32 → Int32 → Int32 → Int32 → Int32 → Int32 → Option ((Nat → Nat → Int32))) (r0 : Nat → Nat → Int32) (x1 : Int32) (x2 : Int32) (x4 : Int32) (x5 : Int32) (x6 : Int32) (x7 : Int32) (x8 : Int32) : Option ((Nat → Nat → Int32)) := f_X10_measure_114 i0 u0 K38 K75 r0 x1 x2 x4 x5 x6 x7 x8 0
set_option maxRecDepth 100000 in
set_option maxHeartbeats 4000000 in
theorem w_X10_measure_113 {p : Program} {l : Launch} {e : Env} {s : State} {m : MethodId} {args : Array Value} {below : List Frame} {meth : Method} {c : Code} {A : Nat → Prop} {D : va_G} {cs zs : Nat → Nat} {h0 : Nat} {a0 : Nat → Nat} {i0 : Nat → Int32} {u0 : Nat → Nat} {q : (Nat → Nat → Int32)} (C : Cx p s m args meth c A D cs zs cX10_measure 10 none RX10) (K38 : (Nat → Nat → Int32) → Int32 → Int32 → Int32 → Int32 → Option ((Nat → Nat → Int32))) (hK38 : ∀ (r0 : Nat → Nat → Int32) (x1 : Int32) (x2 : Int32) (x4 : Int32) (x5 : Int32) (H : Heap) (locs : List Loc) (ls : Array Slot), K38 r0 x1 x2 x4 x5 = some q → va_P D vwCl (W10 cs h0 a0 i0 r0 u0) H → va_D A (W10 cs h0 a0 i0 r0 u0) → va_S A s.heap H locs → lv_has ls 10 [(0, .ref h0), (1, .int x1), (2, .int x2), (4, .int x4), (5, .int x5)] → W p l e rmX10_measure s m args below meth c H locs 0 0 (MQ below (Qv D cs A (W10 cs h0 a0 i0 q u0)) args s 0 0 A) (F0 m 38 ls [])) (K75 : (Nat → Nat → Int32) → Int32 → Int32 → Int32 → Int32 → Int32 → Int32 → Option ((Nat → Nat → Int32))) (hK75 : ∀ (r0 : Nat → Nat → Int32) (x1 : Int32) (x2 : Int32) (x4 : Int32) (x5 : Int32) (x6 : Int32) (x7 : Int32) (H : Heap) (locs : List Loc) (ls : Array Slot), K75 r0 x1 x2 x4 x5 x6 x7 = some q → va_P D vwCl (W10 cs h0 a0 i0 r0 u0) H → va_D A (W10 cs h0 a0 i0 r0 u0) → va_S A s.heap H locs → lv_has ls 10 [(0, .ref h0), (1, .int x1), (2, .int x2), (4, .int x4), (5, .int x5), (6, .int x6), (7, .int x7)] → W p l e rmX10_measure s m args below meth c H locs 0 0 (MQ below (Qv D cs A (W10 cs h0 a0 i0 q u0)) args s 0 0 A) (F0 m 75 ls [])) : ∀ (r0 : Nat → Nat → Int32) (x1 : Int32) (x2 : Int32) (x4 : Int32) (x5 : Int32) (x6 : Int32) (x7 : Int32) (x8 : Int32) (H : Heap) (locs : List Loc) (ls : Array Slot), f_X10_measure_113 i0 u0 K38 K75 r0 x1 x2 x4 x5 x6 x7 x8 = some q → va_P D vwCl (W10 cs h0 a0 i0 r0 u0) H → va_D A (W10 cs h0 a0 i0 r0 u0) → va_S A s.heap H locs → lv_has ls 10 [(0, .ref h0), (1, .int x1), (2, .int x2), (4, .int x4), (5, .int x5), (6, .int x6), (7, .int x7), (8, .int x8)] → W p l e rmX10_measure s m args below meth c H locs 0 0 (MQ below (Qv D cs A (W10 cs h0 a0 i0 q u0)) args s 0 0 A) (F0 m 113 ls []) := by
  obtain ⟨hx, hb, hr, hml, hown, hts, hK, hA, hlocks, hZ⟩ := id C
  intro r0 x1 x2 x4 x5 x6 x7 x8 H locs ls hf hP hD hS hl
  rw [f_X10_measure_113] at hf
  refine lv_iconst (v := 0) hx hb dX10_measure_113 (by decide) ?_
  exact w_X10_measure_114 C _ (hK38) _ (hK75) _ _ _ _ _ _ _ _ _ _ _ _ hf hP hD hS (lv_sub hl [0, 1, 2, 3, 4, 5, 6, 7] rfl)
def f_X10_measure_75 (i0 : Nat → Int32) (u0 : Nat → Nat) (K38 : (Nat → Nat → Int32) → Int32 → Int32 → Int32 → Int32 → Option ((Nat → Nat → Int32))) : Nat → (Nat → Nat → Int32) → Int32 → Int32 → Int32 → Int32 → Int32 → Int32 → Option ((Nat → Nat → Int32))
  | 0, _, _, _, _, _, _, _ => none
  | n + 1, r0, x1, x2, x4, x5, x6, x7 => if x1 ≤ x7 then (K38 r0 x1 x2 x4 (x5 + 1)) else (ck (inb (x6 ^^^ ((1 : Int32) <<< (x7 &&& 31))) (u0 0)) (if (r0 0 (x6 ^^^ ((1 : Int32) <<< (x7 &&& 31))).toNatClampNeg) = (-1) then (if 4096 ≤ x4 then (f_X10_measure_113 i0 u0 K38 (f_X10_measure_75 i0 u0 K38 n) r0 x1 x2 x4 x5 x6 x7 (x6 ^^^ ((1 : Int32) <<< (x7 &&& 31)))) else (f_X10_measure_114 i0 u0 K38 (f_X10_measure_75 i0 u0 K38 n) r0 x1 x2 x4 x5 x6 x7 (x6 ^^^ ((1 : Int32) <<< (x7 &&& 31))) 1)) else (f_X10_measure_113 i0 u0 K38 (f_X10_measure_75 i0 u0 K38 n) r0 x1 x2 x4 x5 x6 x7 (x6 ^^^ ((1 : Int32) <<< (x7 &&& 31))))))
set_option maxRecDepth 100000 in
set_option maxHeartbeats 4000000 in
theorem w_X10_measure_75 {p : Program} {l : Launch} {e : Env} {s : State} {m : MethodId} {args : Array Value} {below : List Frame} {meth : Method} {c : Code} {A : Nat → Prop} {D : va_G} {cs zs : Nat → Nat} {h0 : Nat} {a0 : Nat → Nat} {i0 : Nat → Int32} {u0 : Nat → Nat} {q : (Nat → Nat → Int32)} (C : Cx p s m args meth c A D cs zs cX10_measure 10 none RX10) (K38 : (Nat → Nat → Int32) → Int32 → Int32 → Int32 → Int32 → Option ((Nat → Nat → Int32))) (hK38 : ∀ (r0 : Nat → Nat → Int32) (x1 : Int32) (x2 : Int32) (x4 : Int32) (x5 : Int32) (H : Heap) (locs : List Loc) (ls : Array Slot), K38 r0 x1 x2 x4 x5 = some q → va_P D vwCl (W10 cs h0 a0 i0 r0 u0) H → va_D A (W10 cs h0 a0 i0 r0 u0) → va_S A s.heap H locs → lv_has ls 10 [(0, .ref h0), (1, .int x1), (2, .int x2), (4, .int x4), (5, .int x5)] → W p l e rmX10_measure s m args below meth c H locs 0 0 (MQ below (Qv D cs A (W10 cs h0 a0 i0 q u0)) args s 0 0 A) (F0 m 38 ls [])) : ∀ (n : Nat), ∀ (r0 : Nat → Nat → Int32) (x1 : Int32) (x2 : Int32) (x4 : Int32) (x5 : Int32) (x6 : Int32) (x7 : Int32) (H : Heap) (locs : List Loc) (ls : Array Slot), f_X10_measure_75 i0 u0 K38 n r0 x1 x2 x4 x5 x6 x7 = some q → va_P D vwCl (W10 cs h0 a0 i0 r0 u0) H → va_D A (W10 cs h0 a0 i0 r0 u0) → va_S A s.heap H locs → lv_has ls 10 [(0, .ref h0), (1, .int x1), (2, .int x2), (4, .int x4), (5, .int x5), (6, .int x6), (7, .int x7)] → W p l e rmX10_measure s m args below meth c H locs 0 0 (MQ below (Qv D cs A (W10 cs h0 a0 i0 q u0)) args s 0 0 A) (F0 m 75 ls []) := by
  obtain ⟨hx, hb, hr, hml, hown, hts, hK, hA, hlocks, hZ⟩ := id C
  intro n
  induction n with
  | zero =>
    intro r0 x1 x2 x4 x5 x6 x7 H locs ls hf
    rw [f_X10_measure_75] at hf
    cases hf
  | succ n ih =>
    intro r0 x1 x2 x4 x5 x6 x7 H locs ls hf hP hD hS hl
    rw [f_X10_measure_75] at hf
    refine lv_iload hx hb dX10_measure_75 (lv_at hl 6 rfl) ?_
    refine lv_iload_n hx hb dX10_measure_77 rfl (lv_at hl 1 rfl) ?_
    refine lv_icmp_ge (tgt := 174) hx hb dX10_measure_78 (by decide) (fun hc => ?_) (fun hc => ?_)
    · have hf := ite_t hf hc
      refine lv_iinc (v := x5 + 1) (lv' := [(5, .int (x5 + 1)), (0, .ref h0), (1, .int x1), (2, .int x2), (4, .int x4), (6, .int x6), (7, .int x7)]) hx hb dX10_measure_174 hl (k := 4) rfl rfl (by decide) rfl (fun ls hl => ?_)
      refine lv_goto (tgt := 38) hx hb dX10_measure_177 (by decide) ?_
      exact hK38 _ _ _ _ _ _ _ _ hf hP hD hS (lv_sub hl [1, 2, 3, 4, 0] rfl)
    · have hf := ite_f hf hc
      refine lv_iload hx hb dX10_measure_81 (lv_at hl 5 rfl) ?_
      refine lv_iconst (v := 1) hx hb dX10_measure_83 (by decide) ?_
      refine lv_iload hx hb dX10_measure_84 (lv_at hl 6 rfl) ?_
      refine lv_ishl hx hb dX10_measure_86 ?_
      refine lv_ixor hx hb dX10_measure_87 ?_
      refine lv_istore (lv' := [(8, .int (x6 ^^^ ((1 : Int32) <<< (x7 &&& 31)))), (0, .ref h0), (1, .int x1), (2, .int x2), (4, .int x4), (5, .int x5), (6, .int x6), (7, .int x7)]) hx hb dX10_measure_88 hl (by decide) rfl (fun ls hl => ?_)
      refine lv_aload_n hx hb dX10_measure_90 rfl (lv_at hl 1 rfl) ?_
      refine va_get (D := D) (ci := 10) (v := .ref (a0 0)) (C := RX10) (T := TX10) (N := 4) hx hb hts hiX10 hown hK hP 0 rfl rfl 0 (by decide) (hts _ flX10_9) (fun _ h9 => h9) rfl dX10_measure_91 ?_
      refine lv_iload hx hb dX10_measure_94 (lv_at hl 0 rfl) ?_
      refine va_iald (f := r0 0) hx hb hK hP 1 0 rfl rfl (ck_in hf) dX10_measure_96 ?_
      have hf := ck_2 hf
      refine lv_iconst (v := (-1)) hx hb dX10_measure_97 (by decide) ?_
      refine lv_icmp_ne (tgt := 113) hx hb dX10_measure_98 (by decide) (fun hc => ?_) (fun hc => ?_)
      · have hf := ite_f hf hc
        exact w_X10_measure_113 C _ (hK38) _ (ih) _ _ _ _ _ _ _ _ _ _ _ hf hP hD hS (lv_sub hl [1, 2, 3, 4, 5, 6, 7, 0] rfl)
      · have hf := ite_t hf hc
        refine lv_iload hx hb dX10_measure_101 (lv_at hl 4 rfl) ?_
        refine lv_sipush (v := 4096) hx hb dX10_measure_103 (by decide) ?_
        refine lv_icmp_ge (tgt := 113) hx hb dX10_measure_106 (by decide) (fun hc => ?_) (fun hc => ?_)
        · have hf := ite_t hf hc
          exact w_X10_measure_113 C _ (hK38) _ (ih) _ _ _ _ _ _ _ _ _ _ _ hf hP hD hS (lv_sub hl [1, 2, 3, 4, 5, 6, 7, 0] rfl)
        · have hf := ite_f hf hc
          refine lv_iconst (v := 1) hx hb dX10_measure_109 (by decide) ?_
          refine lv_goto (tgt := 114) hx hb dX10_measure_110 (by decide) ?_
          exact w_X10_measure_114 C _ (hK38) _ (ih) _ _ _ _ _ _ _ _ _ _ _ _ hf hP hD hS (lv_sub hl [1, 2, 3, 4, 5, 6, 7, 0] rfl)
def f_X10_measure_38 (i0 : Nat → Int32) (u0 : Nat → Nat)  : Nat → (Nat → Nat → Int32) → Int32 → Int32 → Int32 → Int32 → Option ((Nat → Nat → Int32))
  | 0, _, _, _, _, _ => none
  | n + 1, r0, x1, x2, x4, x5 => if 4096 ≤ x5 then (some (r0)) else (if x4 ≤ x5 then (some (r0)) else (ck (inb 0 (u0 0)) (if (r0 0 (0 : Int32).toNatClampNeg) = (-1) then (ck (inb x5 (u0 1)) (f_X10_measure_75 i0 u0 (f_X10_measure_38 i0 u0 n) 2000000 r0 x1 x2 x4 x5 (r0 1 x5.toNatClampNeg) 0)) else (some (r0)))))
set_option maxRecDepth 100000 in
set_option maxHeartbeats 4000000 in
theorem w_X10_measure_38 {p : Program} {l : Launch} {e : Env} {s : State} {m : MethodId} {args : Array Value} {below : List Frame} {meth : Method} {c : Code} {A : Nat → Prop} {D : va_G} {cs zs : Nat → Nat} {h0 : Nat} {a0 : Nat → Nat} {i0 : Nat → Int32} {u0 : Nat → Nat} {q : (Nat → Nat → Int32)} (C : Cx p s m args meth c A D cs zs cX10_measure 10 none RX10)  : ∀ (n : Nat), ∀ (r0 : Nat → Nat → Int32) (x1 : Int32) (x2 : Int32) (x4 : Int32) (x5 : Int32) (H : Heap) (locs : List Loc) (ls : Array Slot), f_X10_measure_38 i0 u0 n r0 x1 x2 x4 x5 = some q → va_P D vwCl (W10 cs h0 a0 i0 r0 u0) H → va_D A (W10 cs h0 a0 i0 r0 u0) → va_S A s.heap H locs → lv_has ls 10 [(0, .ref h0), (1, .int x1), (2, .int x2), (4, .int x4), (5, .int x5)] → W p l e rmX10_measure s m args below meth c H locs 0 0 (MQ below (Qv D cs A (W10 cs h0 a0 i0 q u0)) args s 0 0 A) (F0 m 38 ls []) := by
  obtain ⟨hx, hb, hr, hml, hown, hts, hK, hA, hlocks, hZ⟩ := id C
  intro n
  induction n with
  | zero =>
    intro r0 x1 x2 x4 x5 H locs ls hf
    rw [f_X10_measure_38] at hf
    cases hf
  | succ n ih =>
    intro r0 x1 x2 x4 x5 H locs ls hf hP hD hS hl
    rw [f_X10_measure_38] at hf
    refine lv_iload hx hb dX10_measure_38 (lv_at hl 4 rfl) ?_
    refine lv_sipush (v := 4096) hx hb dX10_measure_40 (by decide) ?_
    refine lv_icmp_ge (tgt := 180) hx hb dX10_measure_43 (by decide) (fun hc => ?_) (fun hc => ?_)
    · have hf := ite_t hf hc
      obtain rfl := Option.some.inj hf
      exact k_vret hx hb hr hlocks hK hP hD hS dX10_measure_180
    · have hf := ite_f hf hc
      refine lv_iload hx hb dX10_measure_46 (lv_at hl 4 rfl) ?_
      refine lv_iload hx hb dX10_measure_48 (lv_at hl 3 rfl) ?_
      refine lv_icmp_ge (tgt := 180) hx hb dX10_measure_50 (by decide) (fun hc => ?_) (fun hc => ?_)
      · have hf := ite_t hf hc
        obtain rfl := Option.some.inj hf
        exact k_vret hx hb hr hlocks hK hP hD hS dX10_measure_180
      · have hf := ite_f hf hc
        refine lv_aload_n hx hb dX10_measure_53 rfl (lv_at hl 0 rfl) ?_
        refine va_get (D := D) (ci := 10) (v := .ref (a0 0)) (C := RX10) (T := TX10) (N := 4) hx hb hts hiX10 hown hK hP 0 rfl rfl 0 (by decide) (hts _ flX10_9) (fun _ h9 => h9) rfl dX10_measure_54 ?_
        refine lv_iconst (v := 0) hx hb dX10_measure_57 (by decide) ?_
        refine va_iald (f := r0 0) hx hb hK hP 1 0 rfl rfl (ck_in hf) dX10_measure_58 ?_
        have hf := ck_2 hf
        refine lv_iconst (v := (-1)) hx hb dX10_measure_59 (by decide) ?_
        refine lv_icmp_ne (tgt := 180) hx hb dX10_measure_60 (by decide) (fun hc => ?_) (fun hc => ?_)
        · have hf := ite_f hf hc
          obtain rfl := Option.some.inj hf
          exact k_vret hx hb hr hlocks hK hP hD hS dX10_measure_180
        · have hf := ite_t hf hc
          refine lv_aload_n hx hb dX10_measure_63 rfl (lv_at hl 0 rfl) ?_
          refine va_get (D := D) (ci := 10) (v := .ref (a0 1)) (C := RX10) (T := TX10) (N := 4) hx hb hts hiX10 hown hK hP 0 rfl rfl 1 (by decide) (hts _ flX10_15) (fun _ h9 => h9) rfl dX10_measure_64 ?_
          refine lv_iload hx hb dX10_measure_67 (lv_at hl 4 rfl) ?_
          refine va_iald (f := r0 1) hx hb hK hP 2 0 rfl rfl (ck_in hf) dX10_measure_69 ?_
          have hf := ck_2 hf
          refine lv_istore (lv' := [(6, .int (r0 1 x5.toNatClampNeg)), (0, .ref h0), (1, .int x1), (2, .int x2), (4, .int x4), (5, .int x5)]) hx hb dX10_measure_70 hl (by decide) rfl (fun ls hl => ?_)
          refine lv_iconst (v := 0) hx hb dX10_measure_72 (by decide) ?_
          refine lv_istore (lv' := [(7, .int 0), (6, .int (r0 1 x5.toNatClampNeg)), (0, .ref h0), (1, .int x1), (2, .int x2), (4, .int x4), (5, .int x5)]) hx hb dX10_measure_73 hl (by decide) rfl (fun ls hl => ?_)
          exact w_X10_measure_75 C _ (ih) 2000000 _ _ _ _ _ _ _ _ _ _ hf hP hD hS (lv_sub hl [2, 3, 4, 5, 6, 1, 0] rfl)
def f_X10_measure_25 (i0 : Nat → Int32) (u0 : Nat → Nat)  (r0 : Nat → Nat → Int32) (x1 : Int32) (x2 : Int32) (x3 : Int32) : Option ((Nat → Nat → Int32)) := ck (inb 0 (u0 1)) (f_X10_measure_38 i0 u0 2000000 (va_up r0 1 (upd (r0 1) (0 : Int32).toNatClampNeg x3)) x1 x2 1 0)
set_option maxRecDepth 100000 in
set_option maxHeartbeats 4000000 in
theorem w_X10_measure_25 {p : Program} {l : Launch} {e : Env} {s : State} {m : MethodId} {args : Array Value} {below : List Frame} {meth : Method} {c : Code} {A : Nat → Prop} {D : va_G} {cs zs : Nat → Nat} {h0 : Nat} {a0 : Nat → Nat} {i0 : Nat → Int32} {u0 : Nat → Nat} {q : (Nat → Nat → Int32)} (C : Cx p s m args meth c A D cs zs cX10_measure 10 none RX10)  : ∀ (r0 : Nat → Nat → Int32) (x1 : Int32) (x2 : Int32) (x3 : Int32) (H : Heap) (locs : List Loc) (ls : Array Slot), f_X10_measure_25 i0 u0 r0 x1 x2 x3 = some q → va_P D vwCl (W10 cs h0 a0 i0 r0 u0) H → va_D A (W10 cs h0 a0 i0 r0 u0) → va_S A s.heap H locs → lv_has ls 10 [(0, .ref h0), (1, .int x1), (2, .int x2), (3, .int x3)] → W p l e rmX10_measure s m args below meth c H locs 0 0 (MQ below (Qv D cs A (W10 cs h0 a0 i0 q u0)) args s 0 0 A) (F0 m 25 ls []) := by
  obtain ⟨hx, hb, hr, hml, hown, hts, hK, hA, hlocks, hZ⟩ := id C
  intro r0 x1 x2 x3 H locs ls hf hP hD hS hl
  rw [f_X10_measure_25] at hf
  refine lv_aload_n hx hb dX10_measure_25 rfl (lv_at hl 0 rfl) ?_
  refine va_get (D := D) (ci := 10) (v := .ref (a0 1)) (C := RX10) (T := TX10) (N := 4) hx hb hts hiX10 hown hK hP 0 rfl rfl 1 (by decide) (hts _ flX10_15) (fun _ h9 => h9) rfl dX10_measure_26 ?_
  refine lv_iconst (v := 0) hx hb dX10_measure_29 (by decide) ?_
  refine lv_iload_n hx hb dX10_measure_30 rfl (lv_at hl 3 rfl) ?_
  refine va_iast (f := r0 1) hx hb hK hP hD hS 2 0 rfl rfl (ck_in hf) dX10_measure_31 (fun H locs hP hD hS => ?_)
  have hf := ck_2 hf
  obtain ⟨hP, hD⟩ := st10_1 hP hD
  refine lv_iconst (v := 1) hx hb dX10_measure_32 (by decide) ?_
  refine lv_istore (lv' := [(4, .int 1), (0, .ref h0), (1, .int x1), (2, .int x2), (3, .int x3)]) hx hb dX10_measure_33 hl (by decide) rfl (fun ls hl => ?_)
  refine lv_iconst (v := 0) hx hb dX10_measure_35 (by decide) ?_
  refine lv_istore (lv' := [(5, .int 0), (4, .int 1), (0, .ref h0), (1, .int x1), (2, .int x2), (3, .int x3)]) hx hb dX10_measure_36 hl (by decide) rfl (fun ls hl => ?_)
  exact w_X10_measure_38 C  2000000 _ _ _ _ _ _ _ _ hf hP hD hS (lv_sub hl [2, 3, 4, 1, 0] rfl)
def f_X10_measure  (i0 : Nat → Int32) (r0 : Nat → Nat → Int32) (u0 : Nat → Nat) (x1 : Int32) (x2 : Int32) : Option ((Nat → Nat → Int32)) := bd (f_J7_fill_fda19 (u0 0) (r0 0) 0 ((1 : Int32) <<< (x1 &&& 31)) (-1)) (fun q6 => ck (inb ((1 : Int32) <<< ((x1 - 1) &&& 31)) (u0 0)) (f_X10_measure_25 i0 u0 (va_up (va_up r0 0 q6) 0 (upd q6 ((1 : Int32) <<< ((x1 - 1) &&& 31)).toNatClampNeg 0)) x1 x2 ((1 : Int32) <<< ((x1 - 1) &&& 31))))
set_option maxRecDepth 100000 in
set_option maxHeartbeats 4000000 in
theorem c_X10_measure {l : Launch} {D : va_G} {cs zs : Nat → Nat} {h0 : Nat} {a0 : Nat → Nat} {i0 : Nat → Int32} {r0 : Nat → Nat → Int32} {u0 : Nat → Nat} {x1 : Int32} {x2 : Int32} {q : (Nat → Nat → Int32)} (hf : f_X10_measure i0 r0 u0 x1 x2 = some q) : Mv l yX10_measure wlX10_measure rmX10_measure D cs zs [.ref h0, .int x1, .int x2] (W10 cs h0 a0 i0 r0 u0) (W10 cs h0 a0 i0 q u0) := by
  refine Mv.of RX10 (by decide) rfl (Nat.le_of_ble_eq_true rfl) (fun p e s m below meth c A C hP hD hS ls hl => ?_)
  generalize ([.ref h0, .int x1, .int x2] : List Value).toArray = args at C ⊢
  obtain ⟨hx, hb, hr, hml, hown, hts, hK, hA, hlocks, hZ⟩ := id C
  have hl : lv_has ls 10 [(0, .ref h0), (1, .int x1), (2, .int x2)] := hl
  rw [f_X10_measure] at hf
  refine lv_aload_n hx hb dX10_measure_0 rfl (lv_at hl 0 rfl) ?_
  refine va_get (D := D) (ci := 10) (v := .ref (a0 0)) (C := RX10) (T := TX10) (N := 4) hx hb hts hiX10 hown hK hP 0 rfl rfl 0 (by decide) (hts _ flX10_9) (fun _ h9 => h9) rfl dX10_measure_1 ?_
  refine lv_iconst (v := 0) hx hb dX10_measure_4 (by decide) ?_
  refine lv_iconst (v := 1) hx hb dX10_measure_5 (by decide) ?_
  refine lv_iload_n hx hb dX10_measure_6 rfl (lv_at hl 1 rfl) ?_
  refine lv_ishl hx hb dX10_measure_7 ?_
  refine lv_iconst (v := (-1)) hx hb dX10_measure_8 (by decide) ?_
  obtain ⟨q6, hq6, hf⟩ := bd_s hf
  refine k_pSv (wr := [(h0, .inr (10, fs10 a0 i0)), (a0 1, .inl (cs 0, u0 1, .inl (r0 1))), (a0 2, .inl (cs 0, u0 2, .inl (r0 2)))]) (ws2 := W10 cs h0 a0 i0 (va_up r0 0 q6) u0) (As := [.ref (a0 0), .int 0, .int ((1 : Int32) <<< (x1 &&& 31)), .int (-1)]) (rest := []) hx hb hml hown hts hK hA hZ hl.1 hP hD hS (c_J7_fill_fda19 (h0 := (a0 0)) (n0 := (u0 0)) hq6) (gSt mlX10_33 stJ7_fill_fda19 inJ7 coJ7_fill_fda19) rfl qnJ7_fill_fda19 rfl rfl ⟨Nat.le_of_ble_eq_true rfl, Nat.le_of_ble_eq_true rfl⟩ [1] [0, 2, 3] [0, 3, 1, 2] rfl rfl rfl (by decide) rfl rfl (Nat.le_of_ble_eq_true rfl) ⟨Nat.zero_le _, Nat.zero_le _⟩ dX10_measure_9 (fun H locs hP hD hS => ?_)
  refine lv_iconst (v := 1) hx hb dX10_measure_12 (by decide) ?_
  refine lv_iload_n hx hb dX10_measure_13 rfl (lv_at hl 1 rfl) ?_
  refine lv_iconst (v := 1) hx hb dX10_measure_14 (by decide) ?_
  refine lv_isub hx hb dX10_measure_15 ?_
  refine lv_ishl hx hb dX10_measure_16 ?_
  refine lv_istore_n (lv' := [(3, .int ((1 : Int32) <<< ((x1 - 1) &&& 31))), (0, .ref h0), (1, .int x1), (2, .int x2)]) hx hb dX10_measure_17 rfl hl (by decide) rfl (fun ls hl => ?_)
  refine lv_aload_n hx hb dX10_measure_18 rfl (lv_at hl 1 rfl) ?_
  refine va_get (D := D) (ci := 10) (v := .ref (a0 0)) (C := RX10) (T := TX10) (N := 4) hx hb hts hiX10 hown hK hP 0 rfl rfl 0 (by decide) (hts _ flX10_9) (fun _ h9 => h9) rfl dX10_measure_19 ?_
  refine lv_iload_n hx hb dX10_measure_22 rfl (lv_at hl 0 rfl) ?_
  refine lv_iconst (v := 0) hx hb dX10_measure_23 (by decide) ?_
  refine va_iast (f := q6) hx hb hK hP hD hS 1 0 rfl rfl (ck_in hf) dX10_measure_24 (fun H locs hP hD hS => ?_)
  have hf := ck_2 hf
  obtain ⟨hP, hD⟩ := st10_0 hP hD
  exact w_X10_measure_25 C  _ _ _ _ _ _ _ hf hP hD hS (lv_sub hl [1, 2, 3, 0] rfl)
/-! MarbleFloor$Trails.placeNearer(III)I -/
abbrev wlX10_placeNearer : List Cond := Cond.code yX10_placeNearer cX10_placeNearer 5 (some .int) :: tbG
abbrev rmX10_placeNearer : Room := { frames := 1, cells := 0, slots := 0, locals := 21 }
theorem qnX10_placeNearer : yX10_placeNearer.cls = RX10 ∧ yX10_placeNearer.cls ≠ "java/lang/invoke/MethodHandle" ∧ yX10_placeNearer.cls ≠ "java/lang/invoke/VarHandle" ∧ (parseMethodDescriptor yX10_placeNearer.desc).map (fun d => d.parameters.length) = some 3 := by decide +kernel
def f_X10_placeNearer_36 (i0 : Nat → Int32) (r0 : Nat → Nat → Int32) (u0 : Nat → Nat) (K3 : Int32 → Int32 → Int32 → Int32 → Option (Int32)) (x1 : Int32) (x2 : Int32) (x3 : Int32) (x4 : Int32) : Option (Int32) := K3 x1 x2 x3 (x4 + 1)
set_option maxRecDepth 100000 in
set_option maxHeartbeats 4000000 in
theorem w_X10_placeNearer_36 {p : Program} {l : Launch} {e : Env} {s : State} {m : MethodId} {args : Array Value} {below : List Frame} {meth : Method} {c : Code} {A : Nat → Prop} {D : va_G} {cs zs : Nat → Nat} {h0 : Nat} {a0 : Nat → Nat} {i0 : Nat → Int32} {r0 : Nat → Nat → Int32} {u0 : Nat → Nat} {q : Int32} (C : Cx p s m args meth c A D cs zs cX10_placeNearer 5 (some .int) RX10) (K3 : Int32 → Int32 → Int32 → Int32 → Option (Int32)) (hK3 : ∀ (x1 : Int32) (x2 : Int32) (x3 : Int32) (x4 : Int32) (H : Heap) (locs : List Loc) (ls : Array Slot), K3 x1 x2 x3 x4 = some q → va_P D vwCl (W10 cs h0 a0 i0 r0 u0) H → va_D A (W10 cs h0 a0 i0 r0 u0) → va_S A s.heap H locs → lv_has ls 5 [(0, .ref h0), (1, .int x1), (2, .int x2), (3, .int x3), (4, .int x4)] → W p l e rmX10_placeNearer s m args below meth c H locs 0 0 (MQ below (Qi D cs A q (W10 cs h0 a0 i0 r0 u0)) args s 0 0 A) (F0 m 3 ls [])) : ∀ (x1 : Int32) (x2 : Int32) (x3 : Int32) (x4 : Int32) (H : Heap) (locs : List Loc) (ls : Array Slot), f_X10_placeNearer_36 i0 r0 u0 K3 x1 x2 x3 x4 = some q → va_P D vwCl (W10 cs h0 a0 i0 r0 u0) H → va_D A (W10 cs h0 a0 i0 r0 u0) → va_S A s.heap H locs → lv_has ls 5 [(0, .ref h0), (1, .int x1), (2, .int x2), (3, .int x3), (4, .int x4)] → W p l e rmX10_placeNearer s m args below meth c H locs 0 0 (MQ below (Qi D cs A q (W10 cs h0 a0 i0 r0 u0)) args s 0 0 A) (F0 m 36 ls []) := by
  obtain ⟨hx, hb, hr, hml, hown, hts, hK, hA, hlocks, hZ⟩ := id C
  intro x1 x2 x3 x4 H locs ls hf hP hD hS hl
  rw [f_X10_placeNearer_36] at hf
  refine lv_iinc (v := x4 + 1) (lv' := [(4, .int (x4 + 1)), (0, .ref h0), (1, .int x1), (2, .int x2), (3, .int x3)]) hx hb dX10_placeNearer_36 hl (k := 4) rfl rfl (by decide) rfl (fun ls hl => ?_)
  refine lv_goto (tgt := 3) hx hb dX10_placeNearer_39 (by decide) ?_
  exact hK3 _ _ _ _ _ _ _ hf hP hD hS (lv_sub hl [1, 2, 3, 4, 0] rfl)
def f_X10_placeNearer_3 (i0 : Nat → Int32) (r0 : Nat → Nat → Int32) (u0 : Nat → Nat)  : Nat → Int32 → Int32 → Int32 → Int32 → Option (Int32)
  | 0, _, _, _, _ => none
  | n + 1, x1, x2, x3, x4 => if x2 ≤ x4 then (some (0)) else (bd (f_X10_mayChange x1 x4) (fun q2 => if q2 = 0 then (f_X10_placeNearer_36 i0 r0 u0 (f_X10_placeNearer_3 i0 r0 u0 n) x1 x2 x3 x4) else (ck (inb (x1 ^^^ ((1 : Int32) <<< (x4 &&& 31))) (u0 0)) (if (r0 0 (x1 ^^^ ((1 : Int32) <<< (x4 &&& 31))).toNatClampNeg) = x3 then (some (x4)) else (f_X10_placeNearer_36 i0 r0 u0 (f_X10_placeNearer_3 i0 r0 u0 n) x1 x2 x3 x4)))))
set_option maxRecDepth 100000 in
set_option maxHeartbeats 4000000 in
theorem w_X10_placeNearer_3 {p : Program} {l : Launch} {e : Env} {s : State} {m : MethodId} {args : Array Value} {below : List Frame} {meth : Method} {c : Code} {A : Nat → Prop} {D : va_G} {cs zs : Nat → Nat} {h0 : Nat} {a0 : Nat → Nat} {i0 : Nat → Int32} {r0 : Nat → Nat → Int32} {u0 : Nat → Nat} {q : Int32} (C : Cx p s m args meth c A D cs zs cX10_placeNearer 5 (some .int) RX10)  : ∀ (n : Nat), ∀ (x1 : Int32) (x2 : Int32) (x3 : Int32) (x4 : Int32) (H : Heap) (locs : List Loc) (ls : Array Slot), f_X10_placeNearer_3 i0 r0 u0 n x1 x2 x3 x4 = some q → va_P D vwCl (W10 cs h0 a0 i0 r0 u0) H → va_D A (W10 cs h0 a0 i0 r0 u0) → va_S A s.heap H locs → lv_has ls 5 [(0, .ref h0), (1, .int x1), (2, .int x2), (3, .int x3), (4, .int x4)] → W p l e rmX10_placeNearer s m args below meth c H locs 0 0 (MQ below (Qi D cs A q (W10 cs h0 a0 i0 r0 u0)) args s 0 0 A) (F0 m 3 ls []) := by
  obtain ⟨hx, hb, hr, hml, hown, hts, hK, hA, hlocks, hZ⟩ := id C
  intro n
  induction n with
  | zero =>
    intro x1 x2 x3 x4 H locs ls hf
    rw [f_X10_placeNearer_3] at hf
    cases hf
  | succ n ih =>
    intro x1 x2 x3 x4 H locs ls hf hP hD hS hl
    rw [f_X10_placeNearer_3] at hf
    refine lv_iload hx hb dX10_placeNearer_3 (lv_at hl 4 rfl) ?_
    refine lv_iload_n hx hb dX10_placeNearer_5 rfl (lv_at hl 2 rfl) ?_
    refine lv_icmp_ge (tgt := 42) hx hb dX10_placeNearer_6 (by decide) (fun hc => ?_) (fun hc => ?_)
    · have hf := ite_t hf hc
      refine lv_iconst (v := 0) hx hb dX10_placeNearer_42 (by decide) ?_
      obtain rfl := Option.some.inj hf
      exact k_iret hx hb hr hlocks hK hP hD hS dX10_placeNearer_43
    · have hf := ite_f hf hc
      refine lv_iload_n hx hb dX10_placeNearer_9 rfl (lv_at hl 1 rfl) ?_
      refine lv_iload hx hb dX10_placeNearer_10 (lv_at hl 4 rfl) ?_
      obtain ⟨q2, hq2, hf⟩ := bd_s hf
      refine k_eSi (As := [.int x1, .int x4]) (rest := []) hx hb hml hown hts hK hA hZ hl.1 hP hD hS (c_X10_mayChange  hq2) (gSt mlX10_39 stX10_mayChange inX10 coX10_mayChange) rfl qnX10_mayChange rfl rfl ⟨Nat.le_of_ble_eq_true rfl, Nat.le_of_ble_eq_true rfl⟩ rfl rfl (Nat.le_of_ble_eq_true rfl) ⟨Nat.zero_le _, Nat.zero_le _⟩ dX10_placeNearer_12 (fun H locs hP hD hS => ?_)
      refine lv_if_eq (tgt := 36) hx hb dX10_placeNearer_15 (by decide) (fun hc => ?_) (fun hc => ?_)
      · have hf := ite_t hf hc
        exact w_X10_placeNearer_36 C _ (ih) _ _ _ _ _ _ _ hf hP hD hS (lv_sub hl [0, 1, 2, 3, 4] rfl)
      · have hf := ite_f hf hc
        refine lv_aload_n hx hb dX10_placeNearer_18 rfl (lv_at hl 0 rfl) ?_
        refine va_get (D := D) (ci := 10) (v := .ref (a0 0)) (C := RX10) (T := TX10) (N := 4) hx hb hts hiX10 hown hK hP 0 rfl rfl 0 (by decide) (hts _ flX10_9) (fun _ h9 => h9) rfl dX10_placeNearer_19 ?_
        refine lv_iload_n hx hb dX10_placeNearer_22 rfl (lv_at hl 1 rfl) ?_
        refine lv_iconst (v := 1) hx hb dX10_placeNearer_23 (by decide) ?_
        refine lv_iload hx hb dX10_placeNearer_24 (lv_at hl 4 rfl) ?_
        refine lv_ishl hx hb dX10_placeNearer_26 ?_
        refine lv_ixor hx hb dX10_placeNearer_27 ?_
        refine va_iald (f := r0 0) hx hb hK hP 1 0 rfl rfl (ck_in hf) dX10_placeNearer_28 ?_
        have hf := ck_2 hf
        refine lv_iload_n hx hb dX10_placeNearer_29 rfl (lv_at hl 3 rfl) ?_
        refine lv_icmp_ne (tgt := 36) hx hb dX10_placeNearer_30 (by decide) (fun hc => ?_) (fun hc => ?_)
        · have hf := ite_f hf hc
          exact w_X10_placeNearer_36 C _ (ih) _ _ _ _ _ _ _ hf hP hD hS (lv_sub hl [0, 1, 2, 3, 4] rfl)
        · have hf := ite_t hf hc
          refine lv_iload hx hb dX10_placeNearer_33 (lv_at hl 4 rfl) ?_
          obtain rfl := Option.some.inj hf
          exact k_iret hx hb hr hlocks hK hP hD hS dX10_placeNearer_35
def f_X10_placeNearer  (i0 : Nat → Int32) (r0 : Nat → Nat → Int32) (u0 : Nat → Nat) (x1 : Int32) (x2 : Int32) (x3 : Int32) : Option (Int32) := f_X10_placeNearer_3 i0 r0 u0 2000000 x1 x2 x3 0
set_option maxRecDepth 100000 in
set_option maxHeartbeats 4000000 in
theorem c_X10_placeNearer {l : Launch} {D : va_G} {cs zs : Nat → Nat} {h0 : Nat} {a0 : Nat → Nat} {i0 : Nat → Int32} {r0 : Nat → Nat → Int32} {u0 : Nat → Nat} {x1 : Int32} {x2 : Int32} {x3 : Int32} {q : Int32} (hf : f_X10_placeNearer i0 r0 u0 x1 x2 x3 = some q) : Mi l yX10_placeNearer wlX10_placeNearer rmX10_placeNearer D cs zs [.ref h0, .int x1, .int x2, .int x3] (W10 cs h0 a0 i0 r0 u0) q (W10 cs h0 a0 i0 r0 u0) := by
  refine Mi.of RX10 (by decide) rfl (Nat.le_of_ble_eq_true rfl) (fun p e s m below meth c A C hP hD hS ls hl => ?_)
  generalize ([.ref h0, .int x1, .int x2, .int x3] : List Value).toArray = args at C ⊢
  obtain ⟨hx, hb, hr, hml, hown, hts, hK, hA, hlocks, hZ⟩ := id C
  have hl : lv_has ls 5 [(0, .ref h0), (1, .int x1), (2, .int x2), (3, .int x3)] := hl
  rw [f_X10_placeNearer] at hf
  refine lv_iconst (v := 0) hx hb dX10_placeNearer_0 (by decide) ?_
  refine lv_istore (lv' := [(4, .int 0), (0, .ref h0), (1, .int x1), (2, .int x2), (3, .int x3)]) hx hb dX10_placeNearer_1 hl (by decide) rfl (fun ls hl => ?_)
  exact w_X10_placeNearer_3 C  2000000 _ _ _ _ _ _ _ hf hP hD hS (lv_sub hl [1, 2, 3, 4, 0] rfl)
/-! MarbleFloor$Trails.moveAt(I)I -/
abbrev wlX10_moveAt : List Cond := Cond.code yX10_moveAt cX10_moveAt 2 (some .int) :: tbG
abbrev rmX10_moveAt : Room := { frames := 0, cells := 0, slots := 0, locals := 0 }
theorem qnX10_moveAt : yX10_moveAt.cls = RX10 ∧ yX10_moveAt.cls ≠ "java/lang/invoke/MethodHandle" ∧ yX10_moveAt.cls ≠ "java/lang/invoke/VarHandle" ∧ (parseMethodDescriptor yX10_moveAt.desc).map (fun d => d.parameters.length) = some 1 := by decide +kernel
def f_X10_moveAt  (i0 : Nat → Int32) (r0 : Nat → Nat → Int32) (u0 : Nat → Nat) (x1 : Int32) : Option (Int32) := if x1 < 0 then (some ((-1))) else (if x1 < (i0 3) then (ck (inb x1 (u0 2)) (some (r0 2 x1.toNatClampNeg))) else (some ((-1))))
set_option maxRecDepth 100000 in
set_option maxHeartbeats 4000000 in
theorem c_X10_moveAt {l : Launch} {D : va_G} {cs zs : Nat → Nat} {h0 : Nat} {a0 : Nat → Nat} {i0 : Nat → Int32} {r0 : Nat → Nat → Int32} {u0 : Nat → Nat} {x1 : Int32} {q : Int32} (hf : f_X10_moveAt i0 r0 u0 x1 = some q) : Mi l yX10_moveAt wlX10_moveAt rmX10_moveAt D cs zs [.ref h0, .int x1] (W10 cs h0 a0 i0 r0 u0) q (W10 cs h0 a0 i0 r0 u0) := by
  refine Mi.of RX10 (by decide) rfl (Nat.le_of_ble_eq_true rfl) (fun p e s m below meth c A C hP hD hS ls hl => ?_)
  generalize ([.ref h0, .int x1] : List Value).toArray = args at C ⊢
  obtain ⟨hx, hb, hr, hml, hown, hts, hK, hA, hlocks, hZ⟩ := id C
  have hl : lv_has ls 2 [(0, .ref h0), (1, .int x1)] := hl
  rw [f_X10_moveAt] at hf
  refine lv_iload_n hx hb dX10_moveAt_0 rfl (lv_at hl 1 rfl) ?_
  refine lv_if_lt (tgt := 12) hx hb dX10_moveAt_1 (by decide) (fun hc => ?_) (fun hc => ?_)
  · have hf := ite_t hf hc
    refine lv_iconst (v := (-1)) hx hb dX10_moveAt_12 (by decide) ?_
    refine lv_goto (tgt := 22) hx hb dX10_moveAt_13 (by decide) ?_
    obtain rfl := Option.some.inj hf
    exact k_iret hx hb hr hlocks hK hP hD hS dX10_moveAt_22
  · have hf := ite_f hf hc
    refine lv_iload_n hx hb dX10_moveAt_4 rfl (lv_at hl 1 rfl) ?_
    refine lv_aload_n hx hb dX10_moveAt_5 rfl (lv_at hl 0 rfl) ?_
    refine va_get (D := D) (ci := 10) (v := .int (i0 3)) (C := RX10) (T := TX10) (N := 4) hx hb hts hiX10 hown hK hP 0 rfl rfl 3 (by decide) (hts _ flX10_25) (fun _ h9 => h9) rfl dX10_moveAt_6 ?_
    refine lv_icmp_lt (tgt := 16) hx hb dX10_moveAt_9 (by decide) (fun hc => ?_) (fun hc => ?_)
    · have hf := ite_t hf hc
      refine lv_aload_n hx hb dX10_moveAt_16 rfl (lv_at hl 0 rfl) ?_
      refine va_get (D := D) (ci := 10) (v := .ref (a0 2)) (C := RX10) (T := TX10) (N := 4) hx hb hts hiX10 hown hK hP 0 rfl rfl 2 (by decide) (hts _ flX10_18) (fun _ h9 => h9) rfl dX10_moveAt_17 ?_
      refine lv_iload_n hx hb dX10_moveAt_20 rfl (lv_at hl 1 rfl) ?_
      refine va_iald (f := r0 2) hx hb hK hP 3 0 rfl rfl (ck_in hf) dX10_moveAt_21 ?_
      have hf := ck_2 hf
      obtain rfl := Option.some.inj hf
      exact k_iret hx hb hr hlocks hK hP hD hS dX10_moveAt_22
    · have hf := ite_f hf hc
      refine lv_iconst (v := (-1)) hx hb dX10_moveAt_12 (by decide) ?_
      refine lv_goto (tgt := 22) hx hb dX10_moveAt_13 (by decide) ?_
      obtain rfl := Option.some.inj hf
      exact k_iret hx hb hr hlocks hK hP hD hS dX10_moveAt_22
