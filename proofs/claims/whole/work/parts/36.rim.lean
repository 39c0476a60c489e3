/-! MarbleFloor$Shortest.reachRim(I)Z -/
abbrev wlX7_reachRim : List Cond := Cond.code yX7_reachRim cX7_reachRim 4 (some .boolean) :: tbG
abbrev rmX7_reachRim : Room := { frames := 2, cells := 0, slots := 0, locals := 45 }
theorem qnX7_reachRim : yX7_reachRim.cls = RX7 ∧ yX7_reachRim.cls ≠ "java/lang/invoke/MethodHandle" ∧ yX7_reachRim.cls ≠ "java/lang/invoke/VarHandle" ∧ (parseMethodDescriptor yX7_reachRim.desc).map (fun d => d.parameters.length) = some 1 := by decide +kernel
def f_X7_reachRim_139 (u0 : Nat → Nat) (K11 : (Nat → Int32) → (Nat → Nat → Int32) → Int32 → Int32 → Int32 → Option (Int32 × (Nat → Int32) × (Nat → Nat → Int32))) (i0 : Nat → Int32) (r0 : Nat → Nat → Int32) (x1 : Int32) (x2 : Int32) (x3 : Int32) : Option (Int32 × (Nat → Int32) × (Nat → Nat → Int32)) := K11 i0 r0 x1 x2 (x3 + 1)
set_option maxRecDepth 100000 in
set_option maxHeartbeats 4000000 in
theorem w_X7_reachRim_139 {p : Program} {l : Launch} {e : Env} {s : State} {m : MethodId} {args : Array Value} {below : List Frame} {meth : Method} {c : Code} {A : Nat → Prop} {D : va_G} {cs zs : Nat → Nat} {h0 : Nat} {a0 : Nat → Nat} {u0 : Nat → Nat} {q : Int32 × (Nat → Int32) × (Nat → Nat → Int32)} (C : Cx p s m args meth c A D cs zs cX7_reachRim 4 (some .boolean) RX7) (K11 : (Nat → Int32) → (Nat → Nat → Int32) → Int32 → Int32 → Int32 → Option (Int32 × (Nat → Int32) × (Nat → Nat → Int32))) (hK11 : ∀ (i0 : Nat → Int32) (r0 : Nat → Nat → Int32) (x1 : Int32) (x2 : Int32) (x3 : Int32) (H : Heap) (locs : List Loc) (ls : Array Slot), K11 i0 r0 x1 x2 x3 = some q → va_P D vwCl (W7 cs h0 a0 i0 r0 u0) H → va_D A (W7 cs h0 a0 i0 r0 u0) → va_S A s.heap H locs → lv_has ls 4 [(0, .ref h0), (1, .int x1), (2, .int x2), (3, .int x3)] → W p l e rmX7_reachRim s m args below meth c H locs 0 0 (MQ below (Qi D cs A q.1 (W7 cs h0 a0 q.2.1 q.2.2 u0)) args s 0 0 A) (F0 m 11 ls [])) : ∀ (i0 : Nat → Int32) (r0 : Nat → Nat → Int32) (x1 : Int32) (x2 : Int32) (x3 : Int32) (H : Heap) (locs : List Loc) (ls : Array Slot), f_X7_reachRim_139 u0 K11 i0 r0 x1 x2 x3 = some q → va_P D vwCl (W7 cs h0 a0 i0 r0 u0) H → va_D A (W7 cs h0 a0 i0 r0 u0) → va_S A s.heap H locs → lv_has ls 4 [(0, .ref h0), (1, .int x1), (2, .int x2), (3, .int x3)] → W p l e rmX7_reachRim s m args below meth c H locs 0 0 (MQ below (Qi D cs A q.1 (W7 cs h0 a0 q.2.1 q.2.2 u0)) args s 0 0 A) (F0 m 139 ls []) := by
  obtain ⟨hx, hb, hr, hml, hown, hts, hK, hA, hlocks, hZ⟩ := id C
  intro i0 r0 x1 x2 x3 H locs ls hf hP hD hS hl
  rw [f_X7_reachRim_139] at hf
  refine lv_iinc (v := x3 + 1) (lv' := [(3, .int (x3 + 1)), (0, .ref h0), (1, .int x1), (2, .int x2)]) hx hb dX7_reachRim_139 hl (k := 3) rfl rfl (by decide) rfl (fun ls hl => ?_)
  refine lv_goto (tgt := 11) hx hb dX7_reachRim_142 (by decide) ?_
  exact hK11 _ _ _ _ _ _ _ _ hf hP hD hS (lv_sub hl [1, 2, 3, 0] rfl)
def f_X7_reachRim_99 (u0 : Nat → Nat) (K11 : (Nat → Int32) → (Nat → Nat → Int32) → Int32 → Int32 → Int32 → Option (Int32 × (Nat → Int32) × (Nat → Nat → Int32))) (i0 : Nat → Int32) (r0 : Nat → Nat → Int32) (x1 : Int32) (x2 : Int32) (x3 : Int32) : Option (Int32 × (Nat → Int32) × (Nat → Nat → Int32)) := f_X7_reachRim_139 u0 K11 i0 r0 x1 x2 x3
set_option maxRecDepth 100000 in
set_option maxHeartbeats 4000000 in
theorem w_X7_reachRim_99 {p : Program} {l : Launch} {e : Env} {s : State} {m : MethodId} {args : Array Value} {below : List Frame} {meth : Method} {c : Code} {A : Nat → Prop} {D : va_G} {cs zs : Nat → Nat} {h0 : Nat} {a0 : Nat → Nat} {u0 : Nat → Nat} {q : Int32 × (Nat → Int32) × (Nat → Nat → Int32)} (C : Cx p s m args meth c A D cs zs cX7_reachRim 4 (some .boolean) RX7) (K11 : (Nat → Int32) → (Nat → Nat → Int32) → Int32 → Int32 → Int32 → Option (Int32 × (Nat → Int32) × (Nat → Nat → Int32))) (hK11 : ∀ (i0 : Nat → Int32) (r0 : Nat → Nat → Int32) (x1 : Int32) (x2 : Int32) (x3 : Int32) (H : Heap) (locs : List Loc) (ls : Array Slot), K11 i0 r0 x1 x2 x3 = some q → va_P D vwCl (W7 cs h0 a0 i0 r0 u0) H → va_D A (W7 cs h0 a0 i0 r0 u0) → va_S A s.heap H locs → lv_has ls 4 [(0, .ref h0), (1, .int x1), (2, .int x2), (3, .int x3)] → W p l e rmX7_reachRim s m args below meth c H locs 0 0 (MQ below (Qi D cs A q.1 (W7 cs h0 a0 q.2.1 q.2.2 u0)) args s 0 0 A) (F0 m 11 ls [])) : ∀ (i0 : Nat → Int32) (r0 : Nat → Nat → Int32) (x1 : Int32) (x2 : Int32) (x3 : Int32) (H : Heap) (locs : List Loc) (ls : Array Slot), f_X7_reachRim_99 u0 K11 i0 r0 x1 x2 x3 = some q → va_P D vwCl (W7 cs h0 a0 i0 r0 u0) H → va_D A (W7 cs h0 a0 i0 r0 u0) → va_S A s.heap H locs → lv_has ls 4 [(0, .ref h0), (1, .int x1), (2, .int x2), (3, .int x3)] → W p l e rmX7_reachRim s m args below meth c H locs 0 0 (MQ below (Qi D cs A q.1 (W7 cs h0 a0 q.2.1 q.2.2 u0)) args s 0 0 A) (F0 m 99 ls []) := by
  obtain ⟨hx, hb, hr, hml, hown, hts, hK, hA, hlocks, hZ⟩ := id C
  intro i0 r0 x1 x2 x3 H locs ls hf hP hD hS hl
  rw [f_X7_reachRim_99] at hf
  refine lv_goto (tgt := 139) hx hb dX7_reachRim_99 (by decide) ?_
  exact w_X7_reachRim_139 C _ (hK11) _ _ _ _ _ _ _ _ hf hP hD hS (lv_sub hl [0, 1, 2, 3] rfl)
def f_X7_reachRim_66 (u0 : Nat → Nat) (K11 : (Nat → Int32) → (Nat → Nat → Int32) → Int32 → Int32 → Int32 → Option (Int32 × (Nat → Int32) × (Nat → Nat → Int32))) (i0 : Nat → Int32) (r0 : Nat → Nat → Int32) (x1 : Int32) (x2 : Int32) (x3 : Int32) : Option (Int32 × (Nat → Int32) × (Nat → Nat → Int32)) := ck (inb x2 40) (ck (inb x2 13) (bd (f_X7_pass (r0 1 x2.toNatClampNeg) (r0 3 x2.toNatClampNeg)) (fun q3 => ck (inb (x2 + 1) 13) (ck (inb (x2 + 1) 13) (f_X7_reachRim_99 u0 K11 i0 (va_up (va_up r0 3 (upd (r0 3) (x2 + 1).toNatClampNeg q3)) 2 (upd (r0 2) (x2 + 1).toNatClampNeg 0)) x1 (x2 + 1) x3)))))
set_option maxRecDepth 100000 in
set_option maxHeartbeats 4000000 in
theorem w_X7_reachRim_66 {p : Program} {l : Launch} {e : Env} {s : State} {m : MethodId} {args : Array Value} {below : List Frame} {meth : Method} {c : Code} {A : Nat → Prop} {D : va_G} {cs zs : Nat → Nat} {h0 : Nat} {a0 : Nat → Nat} {u0 : Nat → Nat} {q : Int32 × (Nat → Int32) × (Nat → Nat → Int32)} (C : Cx p s m args meth c A D cs zs cX7_reachRim 4 (some .boolean) RX7) (K11 : (Nat → Int32) → (Nat → Nat → Int32) → Int32 → Int32 → Int32 → Option (Int32 × (Nat → Int32) × (Nat → Nat → Int32))) (hK11 : ∀ (i0 : Nat → Int32) (r0 : Nat → Nat → Int32) (x1 : Int32) (x2 : Int32) (x3 : Int32) (H : Heap) (locs : List Loc) (ls : Array Slot), K11 i0 r0 x1 x2 x3 = some q → va_P D vwCl (W7 cs h0 a0 i0 r0 u0) H → va_D A (W7 cs h0 a0 i0 r0 u0) → va_S A s.heap H locs → lv_has ls 4 [(0, .ref h0), (1, .int x1), (2, .int x2), (3, .int x3)] → W p l e rmX7_reachRim s m args below meth c H locs 0 0 (MQ below (Qi D cs A q.1 (W7 cs h0 a0 q.2.1 q.2.2 u0)) args s 0 0 A) (F0 m 11 ls [])) : ∀ (i0 : Nat → Int32) (r0 : Nat → Nat → Int32) (x1 : Int32) (x2 : Int32) (x3 : Int32) (H : Heap) (locs : List Loc) (ls : Array Slot), f_X7_reachRim_66 u0 K11 i0 r0 x1 x2 x3 = some q → va_P D vwCl (W7 cs h0 a0 i0 r0 u0) H → va_D A (W7 cs h0 a0 i0 r0 u0) → va_S A s.heap H locs → lv_has ls 4 [(0, .ref h0), (1, .int x1), (2, .int x2), (3, .int x3)] → W p l e rmX7_reachRim s m args below meth c H locs 0 0 (MQ below (Qi D cs A q.1 (W7 cs h0 a0 q.2.1 q.2.2 u0)) args s 0 0 A) (F0 m 66 ls []) := by
  obtain ⟨hx, hb, hr, hml, hown, hts, hK, hA, hlocks, hZ⟩ := id C
  intro i0 r0 x1 x2 x3 H locs ls hf hP hD hS hl
  rw [f_X7_reachRim_66] at hf
  refine lv_aload_n hx hb dX7_reachRim_66 rfl (lv_at hl 0 rfl) ?_
  refine va_get (D := D) (ci := 7) (v := .ref (a0 3)) (C := RX7) (T := TX7) (N := 13) hx hb hts hiX7 hown hK hP 0 rfl rfl 3 (by decide) (hts _ flX7_24) (fun _ h9 => h9) rfl dX7_reachRim_67 ?_
  refine lv_iload_n hx hb dX7_reachRim_70 rfl (lv_at hl 2 rfl) ?_
  refine lv_iconst (v := 1) hx hb dX7_reachRim_71 (by decide) ?_
  refine lv_iadd hx hb dX7_reachRim_72 ?_
  refine lv_aload_n hx hb dX7_reachRim_73 rfl (lv_at hl 0 rfl) ?_
  refine va_get (D := D) (ci := 7) (v := .ref (a0 1)) (C := RX7) (T := TX7) (N := 13) hx hb hts hiX7 hown hK hP 0 rfl rfl 1 (by decide) (hts _ flX7_18) (fun _ h9 => h9) rfl dX7_reachRim_74 ?_
  refine lv_iload_n hx hb dX7_reachRim_77 rfl (lv_at hl 2 rfl) ?_
  refine va_iald (f := r0 1) hx hb hK hP 2 0 rfl rfl (ck_in hf) dX7_reachRim_78 ?_
  have hf := ck_2 hf
  refine lv_aload_n hx hb dX7_reachRim_79 rfl (lv_at hl 0 rfl) ?_
  refine va_get (D := D) (ci := 7) (v := .ref (a0 3)) (C := RX7) (T := TX7) (N := 13) hx hb hts hiX7 hown hK hP 0 rfl rfl 3 (by decide) (hts _ flX7_24) (fun _ h9 => h9) rfl dX7_reachRim_80 ?_
  refine lv_iload_n hx hb dX7_reachRim_83 rfl (lv_at hl 2 rfl) ?_
  refine va_iald (f := r0 3) hx hb hK hP 4 0 rfl rfl (ck_in hf) dX7_reachRim_84 ?_
  have hf := ck_2 hf
  obtain ⟨q3, hq3, hf⟩ := bd_s hf
  refine k_eSi (As := [.int (r0 1 x2.toNatClampNeg), .int (r0 3 x2.toNatClampNeg)]) (rest := [.int (x2 + 1), .ref (a0 3)]) hx hb hml hown hts hK hA hZ hl.1 hP hD hS (c_X7_pass  hq3) (gSt mlX7_118 stX7_pass inX7 coX7_pass) rfl qnX7_pass rfl rfl ⟨Nat.le_of_ble_eq_true rfl, Nat.le_of_ble_eq_true rfl⟩ rfl rfl (Nat.le_of_ble_eq_true rfl) ⟨Nat.zero_le _, Nat.zero_le _⟩ dX7_reachRim_85 (fun H locs hP hD hS => ?_)
  refine va_iast (f := r0 3) hx hb hK hP hD hS 4 0 rfl rfl (ck_in hf) dX7_reachRim_88 (fun H locs hP hD hS => ?_)
  have hf := ck_2 hf
  obtain ⟨hP, hD⟩ := st7_3 hP hD
  refine lv_iinc (v := x2 + 1) (lv' := [(2, .int (x2 + 1)), (0, .ref h0), (1, .int x1), (3, .int x3)]) hx hb dX7_reachRim_89 hl (k := 2) rfl rfl (by decide) rfl (fun ls hl => ?_)
  refine lv_aload_n hx hb dX7_reachRim_92 rfl (lv_at hl 1 rfl) ?_
  refine va_get (D := D) (ci := 7) (v := .ref (a0 2)) (C := RX7) (T := TX7) (N := 13) hx hb hts hiX7 hown hK hP 0 rfl rfl 2 (by decide) (hts _ flX7_21) (fun _ h9 => h9) rfl dX7_reachRim_93 ?_
  refine lv_iload_n hx hb dX7_reachRim_96 rfl (lv_at hl 0 rfl) ?_
  refine lv_iconst (v := 0) hx hb dX7_reachRim_97 (by decide) ?_
  refine va_iast (f := r0 2) hx hb hK hP hD hS 3 0 rfl rfl (ck_in hf) dX7_reachRim_98 (fun H locs hP hD hS => ?_)
  have hf := ck_2 hf
  obtain ⟨hP, hD⟩ := st7_2 hP hD
  exact w_X7_reachRim_99 C _ (hK11) _ _ _ _ _ _ _ _ hf hP hD hS (lv_sub hl [1, 2, 0, 3] rfl)
def f_X7_reachRim_136 (u0 : Nat → Nat) (K11 : (Nat → Int32) → (Nat → Nat → Int32) → Int32 → Int32 → Int32 → Option (Int32 × (Nat → Int32) × (Nat → Nat → Int32))) (i0 : Nat → Int32) (r0 : Nat → Nat → Int32) (x1 : Int32) (x2 : Int32) (x3 : Int32) : Option (Int32 × (Nat → Int32) × (Nat → Nat → Int32)) := f_X7_reachRim_139 u0 K11 i0 r0 x1 (x2 + (-1)) x3
set_option maxRecDepth 100000 in
set_option maxHeartbeats 4000000 in
theorem w_X7_reachRim_136 {p : Program} {l : Launch} {e : Env} {s : State} {m : MethodId} {args : Array Value} {below : List Frame} {meth : Method} {c : Code} {A : Nat → Prop} {D : va_G} {cs zs : Nat → Nat} {h0 : Nat} {a0 : Nat → Nat} {u0 : Nat → Nat} {q : Int32 × (Nat → Int32) × (Nat → Nat → Int32)} (C : Cx p s m args meth c A D cs zs cX7_reachRim 4 (some .boolean) RX7) (K11 : (Nat → Int32) → (Nat → Nat → Int32) → Int32 → Int32 → Int32 → Option (Int32 × (Nat → Int32) × (Nat → Nat → Int32))) (hK11 : ∀ (i0 : Nat → Int32) (r0 : Nat → Nat → Int32) (x1 : Int32) (x2 : Int32) (x3 : Int32) (H : Heap) (locs : List Loc) (ls : Array Slot), K11 i0 r0 x1 x2 x3 = some q → va_P D vwCl (W7 cs h0 a0 i0 r0 u0) H → va_D A (W7 cs h0 a0 i0 r0 u0) → va_S A s.heap H locs → lv_has ls 4 [(0, .ref h0), (1, .int x1), (2, .int x2), (3, .int x3)] → W p l e rmX7_reachRim s m args below meth c H locs 0 0 (MQ below (Qi D cs A q.1 (W7 cs h0 a0 q.2.1 q.2.2 u0)) args s 0 0 A) (F0 m 11 ls [])) : ∀ (i0 : Nat → Int32) (r0 : Nat → Nat → Int32) (x1 : Int32) (x2 : Int32) (x3 : Int32) (H : Heap) (locs : List Loc) (ls : Array Slot), f_X7_reachRim_136 u0 K11 i0 r0 x1 x2 x3 = some q → va_P D vwCl (W7 cs h0 a0 i0 r0 u0) H → va_D A (W7 cs h0 a0 i0 r0 u0) → va_S A s.heap H locs → lv_has ls 4 [(0, .ref h0), (1, .int x1), (2, .int x2), (3, .int x3)] → W p l e rmX7_reachRim s m args below meth c H locs 0 0 (MQ below (Qi D cs A q.1 (W7 cs h0 a0 q.2.1 q.2.2 u0)) args s 0 0 A) (F0 m 136 ls []) := by
  obtain ⟨hx, hb, hr, hml, hown, hts, hK, hA, hlocks, hZ⟩ := id C
  intro i0 r0 x1 x2 x3 H locs ls hf hP hD hS hl
  rw [f_X7_reachRim_136] at hf
  refine lv_iinc (v := x2 + (-1)) (lv' := [(2, .int (x2 + (-1))), (0, .ref h0), (1, .int x1), (3, .int x3)]) hx hb dX7_reachRim_136 hl (k := 2) rfl rfl (by decide) rfl (fun ls hl => ?_)
  exact w_X7_reachRim_139 C _ (hK11) _ _ _ _ _ _ _ _ hf hP hD hS (lv_sub hl [1, 2, 0, 3] rfl)
def f_X7_reachRim_102 (u0 : Nat → Nat) (K11 : (Nat → Int32) → (Nat → Nat → Int32) → Int32 → Int32 → Int32 → Option (Int32 × (Nat → Int32) × (Nat → Nat → Int32))) (i0 : Nat → Int32) (r0 : Nat → Nat → Int32) (x1 : Int32) (x2 : Int32) (x3 : Int32) : Option (Int32 × (Nat → Int32) × (Nat → Nat → Int32)) := if x2 = x1 then (ck (inb x2 13) (bd (f_X7_distance i0 r0 u0 (r0 3 x2.toNatClampNeg)) (fun q4 => if q4 = (i0 10) then (ck (inb x2 13) (some (1, (upd i0 12 (r0 3 x2.toNatClampNeg)), r0))) else (f_X7_reachRim_136 u0 K11 i0 r0 x1 x2 x3)))) else (f_X7_reachRim_136 u0 K11 i0 r0 x1 x2 x3)
set_option maxRecDepth 100000 in
set_option maxHeartbeats 4000000 in
theorem w_X7_reachRim_102 {p : Program} {l : Launch} {e : Env} {s : State} {m : MethodId} {args : Array Value} {below : List Frame} {meth : Method} {c : Code} {A : Nat → Prop} {D : va_G} {cs zs : Nat → Nat} {h0 : Nat} {a0 : Nat → Nat} {u0 : Nat → Nat} {q : Int32 × (Nat → Int32) × (Nat → Nat → Int32)} (C : Cx p s m args meth c A D cs zs cX7_reachRim 4 (some .boolean) RX7) (K11 : (Nat → Int32) → (Nat → Nat → Int32) → Int32 → Int32 → Int32 → Option (Int32 × (Nat → Int32) × (Nat → Nat → Int32))) (hK11 : ∀ (i0 : Nat → Int32) (r0 : Nat → Nat → Int32) (x1 : Int32) (x2 : Int32) (x3 : Int32) (H : Heap) (locs : List Loc) (ls : Array Slot), K11 i0 r0 x1 x2 x3 = some q → va_P D vwCl (W7 cs h0 a0 i0 r0 u0) H → va_D A (W7 cs h0 a0 i0 r0 u0) → va_S A s.heap H locs → lv_has ls 4 [(0, .ref h0), (1, .int x1), (2, .int x2), (3, .int x3)] → W p l e rmX7_reachRim s m args below meth c H locs 0 0 (MQ below (Qi D cs A q.1 (W7 cs h0 a0 q.2.1 q.2.2 u0)) args s 0 0 A) (F0 m 11 ls [])) : ∀ (i0 : Nat → Int32) (r0 : Nat → Nat → Int32) (x1 : Int32) (x2 : Int32) (x3 : Int32) (H : Heap) (locs : List Loc) (ls : Array Slot), f_X7_reachRim_102 u0 K11 i0 r0 x1 x2 x3 = some q → va_P D vwCl (W7 cs h0 a0 i0 r0 u0) H → va_D A (W7 cs h0 a0 i0 r0 u0) → va_S A s.heap H locs → lv_has ls 4 [(0, .ref h0), (1, .int x1), (2, .int x2), (3, .int x3)] → W p l e rmX7_reachRim s m args below meth c H locs 0 0 (MQ below (Qi D cs A q.1 (W7 cs h0 a0 q.2.1 q.2.2 u0)) args s 0 0 A) (F0 m 102 ls []) := by
  obtain ⟨hx, hb, hr, hml, hown, hts, hK, hA, hlocks, hZ⟩ := id C
  intro i0 r0 x1 x2 x3 H locs ls hf hP hD hS hl
  rw [f_X7_reachRim_102] at hf
  refine lv_iload_n hx hb dX7_reachRim_102 rfl (lv_at hl 2 rfl) ?_
  refine lv_iload_n hx hb dX7_reachRim_103 rfl (lv_at hl 1 rfl) ?_
  refine lv_icmp_ne (tgt := 136) hx hb dX7_reachRim_104 (by decide) (fun hc => ?_) (fun hc => ?_)
  · have hf := ite_f hf hc
    exact w_X7_reachRim_136 C _ (hK11) _ _ _ _ _ _ _ _ hf hP hD hS (lv_sub hl [0, 1, 2, 3] rfl)
  · have hf := ite_t hf hc
    refine lv_aload_n hx hb dX7_reachRim_107 rfl (lv_at hl 0 rfl) ?_
    refine lv_aload_n hx hb dX7_reachRim_108 rfl (lv_at hl 0 rfl) ?_
    refine va_get (D := D) (ci := 7) (v := .ref (a0 3)) (C := RX7) (T := TX7) (N := 13) hx hb hts hiX7 hown hK hP 0 rfl rfl 3 (by decide) (hts _ flX7_24) (fun _ h9 => h9) rfl dX7_reachRim_109 ?_
    refine lv_iload_n hx hb dX7_reachRim_112 rfl (lv_at hl 2 rfl) ?_
    refine va_iald (f := r0 3) hx hb hK hP 4 0 rfl rfl (ck_in hf) dX7_reachRim_113 ?_
    have hf := ck_2 hf
    obtain ⟨q4, hq4, hf⟩ := bd_s hf
    refine k_sVi (ws2 := W7 cs h0 a0 i0 r0 u0) (As := [.int (r0 3 x2.toNatClampNeg)]) (rest := []) hx hb hml hown hts hK hA hZ hl.1 hP hD hS (c_X7_distance (h0 := h0) (a0 := a0) hq4) (gVt mlX7_48 imX7_distance seX7_distance inX7 coX7_distance) rfl qnX7_distance rfl rfl ⟨Nat.le_of_ble_eq_true rfl, Nat.le_of_ble_eq_true rfl⟩ 0 7 rfl rfl rfl rfl rfl (Nat.le_of_ble_eq_true rfl) ⟨Nat.zero_le _, Nat.zero_le _⟩ dX7_reachRim_114 (fun H locs hP hD hS => ?_)
    refine lv_aload_n hx hb dX7_reachRim_117 rfl (lv_at hl 0 rfl) ?_
    refine va_get (D := D) (ci := 7) (v := .int (i0 10)) (C := RX7) (T := TX7) (N := 13) hx hb hts hiX7 hown hK hP 0 rfl rfl 10 (by decide) (hts _ flX7_111) (fun _ h9 => h9) rfl dX7_reachRim_118 ?_
    refine lv_icmp_ne (tgt := 136) hx hb dX7_reachRim_121 (by decide) (fun hc => ?_) (fun hc => ?_)
    · have hf := ite_f hf hc
      exact w_X7_reachRim_136 C _ (hK11) _ _ _ _ _ _ _ _ hf hP hD hS (lv_sub hl [0, 1, 2, 3] rfl)
    · have hf := ite_t hf hc
      refine lv_aload_n hx hb dX7_reachRim_124 rfl (lv_at hl 0 rfl) ?_
      refine lv_aload_n hx hb dX7_reachRim_125 rfl (lv_at hl 0 rfl) ?_
      refine va_get (D := D) (ci := 7) (v := .ref (a0 3)) (C := RX7) (T := TX7) (N := 13) hx hb hts hiX7 hown hK hP 0 rfl rfl 3 (by decide) (hts _ flX7_24) (fun _ h9 => h9) rfl dX7_reachRim_126 ?_
      refine lv_iload_n hx hb dX7_reachRim_129 rfl (lv_at hl 2 rfl) ?_
      refine va_iald (f := r0 3) hx hb hK hP 4 0 rfl rfl (ck_in hf) dX7_reachRim_130 ?_
      have hf := ck_2 hf
      refine va_put (D := D) (ci := 7) (v := .int (r0 3 x2.toNatClampNeg)) (ty := .int) (C := RX7) (T := TX7) (N := 13) hx hb hts hiX7 tyX7 tyX7_ok nmX7 hown hK hP hD hS 0 rfl rfl 12 (by decide) (hts _ flX7_45) (fun _ h9 => h9) rfl (tyX7_ok 12 (by decide)) rfl rfl (Nat.le_of_ble_eq_true rfl) dX7_reachRim_131 (fun H locs hP hD hS => ?_)
      obtain ⟨hP, hD⟩ := st7_12 hP hD
      refine lv_iconst (v := 1) hx hb dX7_reachRim_134 (by decide) ?_
      obtain rfl := Option.some.inj hf
      exact k_zret (r := 1) hx hb hr hlocks rfl hK hP hD hS dX7_reachRim_135
def f_X7_reachRim_11 (u0 : Nat → Nat)  : Nat → (Nat → Int32) → (Nat → Nat → Int32) → Int32 → Int32 → Int32 → Option (Int32 × (Nat → Int32) × (Nat → Nat → Int32))
  | 0, _, _, _, _, _ => none
  | n + 1, i0, r0, x1, x2, x3 => if 1000000 ≤ x3 then (some (0, i0, r0)) else (if x2 < 0 then (some (0, i0, r0)) else (if x1 ≤ x2 then (f_X7_reachRim_102 u0 (f_X7_reachRim_11 u0 n) i0 r0 x1 x2 x3) else (ck (inb x2 13) (if (i0 6) ≤ (r0 2 x2.toNatClampNeg) then (f_X7_reachRim_102 u0 (f_X7_reachRim_11 u0 n) i0 r0 x1 x2 x3) else (ck (inb x2 13) (ck (inb (r0 2 x2.toNatClampNeg) 18) (ck (inb x2 40) (ck (inb x2 13) (ck (inb x2 13) (f_X7_reachRim_66 u0 (f_X7_reachRim_11 u0 n) i0 (va_up (va_up r0 1 (upd (r0 1) x2.toNatClampNeg (r0 0 (r0 2 x2.toNatClampNeg).toNatClampNeg))) 2 (upd (r0 2) x2.toNatClampNeg ((r0 2 x2.toNatClampNeg) + 1))) x1 x2 x3))))))))))
set_option maxRecDepth 100000 in
set_option maxHeartbeats 4000000 in
theorem w_X7_reachRim_11 {p : Program} {l : Launch} {e : Env} {s : State} {m : MethodId} {args : Array Value} {below : List Frame} {meth : Method} {c : Code} {A : Nat → Prop} {D : va_G} {cs zs : Nat → Nat} {h0 : Nat} {a0 : Nat → Nat} {u0 : Nat → Nat} {q : Int32 × (Nat → Int32) × (Nat → Nat → Int32)} (C : Cx p s m args meth c A D cs zs cX7_reachRim 4 (some .boolean) RX7)  : ∀ (n : Nat), ∀ (i0 : Nat → Int32) (r0 : Nat → Nat → Int32) (x1 : Int32) (x2 : Int32) (x3 : Int32) (H : Heap) (locs : List Loc) (ls : Array Slot), f_X7_reachRim_11 u0 n i0 r0 x1 x2 x3 = some q → va_P D vwCl (W7 cs h0 a0 i0 r0 u0) H → va_D A (W7 cs h0 a0 i0 r0 u0) → va_S A s.heap H locs → lv_has ls 4 [(0, .ref h0), (1, .int x1), (2, .int x2), (3, .int x3)] → W p l e rmX7_reachRim s m args below meth c H locs 0 0 (MQ below (Qi D cs A q.1 (W7 cs h0 a0 q.2.1 q.2.2 u0)) args s 0 0 A) (F0 m 11 ls []) := by
  obtain ⟨hx, hb, hr, hml, hown, hts, hK, hA, hlocks, hZ⟩ := id C
  intro n
  induction n with
  | zero =>
    intro i0 r0 x1 x2 x3 H locs ls hf
    rw [f_X7_reachRim_11] at hf
    cases hf
  | succ n ih =>
    intro i0 r0 x1 x2 x3 H locs ls hf hP hD hS hl
    rw [f_X7_reachRim_11] at hf
    refine lv_iload_n hx hb dX7_reachRim_11 rfl (lv_at hl 3 rfl) ?_
    refine lv_ldc (v := 1000000) hx hb hown (hts _ kcX7_131) dX7_reachRim_12 ?_
    refine lv_icmp_ge (tgt := 145) hx hb dX7_reachRim_14 (by decide) (fun hc => ?_) (fun hc => ?_)
    · have hf := ite_t hf hc
      refine lv_iconst (v := 0) hx hb dX7_reachRim_145 (by decide) ?_
      obtain rfl := Option.some.inj hf
      exact k_zret (r := 0) hx hb hr hlocks rfl hK hP hD hS dX7_reachRim_146
    · have hf := ite_f hf hc
      refine lv_iload_n hx hb dX7_reachRim_17 rfl (lv_at hl 2 rfl) ?_
      refine lv_if_lt (tgt := 145) hx hb dX7_reachRim_18 (by decide) (fun hc => ?_) (fun hc => ?_)
      · have hf := ite_t hf hc
        refine lv_iconst (v := 0) hx hb dX7_reachRim_145 (by decide) ?_
        obtain rfl := Option.some.inj hf
        exact k_zret (r := 0) hx hb hr hlocks rfl hK hP hD hS dX7_reachRim_146
      · have hf := ite_f hf hc
        refine lv_iload_n hx hb dX7_reachRim_21 rfl (lv_at hl 2 rfl) ?_
        refine lv_iload_n hx hb dX7_reachRim_22 rfl (lv_at hl 1 rfl) ?_
        refine lv_icmp_ge (tgt := 102) hx hb dX7_reachRim_23 (by decide) (fun hc => ?_) (fun hc => ?_)
        · have hf := ite_t hf hc
          exact w_X7_reachRim_102 C _ (ih) _ _ _ _ _ _ _ _ hf hP hD hS (lv_sub hl [0, 1, 2, 3] rfl)
        · have hf := ite_f hf hc
          refine lv_aload_n hx hb dX7_reachRim_26 rfl (lv_at hl 0 rfl) ?_
          refine va_get (D := D) (ci := 7) (v := .ref (a0 2)) (C := RX7) (T := TX7) (N := 13) hx hb hts hiX7 hown hK hP 0 rfl rfl 2 (by decide) (hts _ flX7_21) (fun _ h9 => h9) rfl dX7_reachRim_27 ?_
          refine lv_iload_n hx hb dX7_reachRim_30 rfl (lv_at hl 2 rfl) ?_
          refine va_iald (f := r0 2) hx hb hK hP 3 0 rfl rfl (ck_in hf) dX7_reachRim_31 ?_
          have hf := ck_2 hf
          refine lv_aload_n hx hb dX7_reachRim_32 rfl (lv_at hl 0 rfl) ?_
          refine va_get (D := D) (ci := 7) (v := .int (i0 6)) (C := RX7) (T := TX7) (N := 13) hx hb hts hiX7 hown hK hP 0 rfl rfl 6 (by decide) (hts _ flX7_102) (fun _ h9 => h9) rfl dX7_reachRim_33 ?_
          refine lv_icmp_ge (tgt := 102) hx hb dX7_reachRim_36 (by decide) (fun hc => ?_) (fun hc => ?_)
          · have hf := ite_t hf hc
            exact w_X7_reachRim_102 C _ (ih) _ _ _ _ _ _ _ _ hf hP hD hS (lv_sub hl [0, 1, 2, 3] rfl)
          · have hf := ite_f hf hc
            refine lv_aload_n hx hb dX7_reachRim_39 rfl (lv_at hl 0 rfl) ?_
            refine va_get (D := D) (ci := 7) (v := .ref (a0 1)) (C := RX7) (T := TX7) (N := 13) hx hb hts hiX7 hown hK hP 0 rfl rfl 1 (by decide) (hts _ flX7_18) (fun _ h9 => h9) rfl dX7_reachRim_40 ?_
            refine lv_iload_n hx hb dX7_reachRim_43 rfl (lv_at hl 2 rfl) ?_
            refine lv_aload_n hx hb dX7_reachRim_44 rfl (lv_at hl 0 rfl) ?_
            refine va_get (D := D) (ci := 7) (v := .ref (a0 0)) (C := RX7) (T := TX7) (N := 13) hx hb hts hiX7 hown hK hP 0 rfl rfl 0 (by decide) (hts _ flX7_15) (fun _ h9 => h9) rfl dX7_reachRim_45 ?_
            refine lv_aload_n hx hb dX7_reachRim_48 rfl (lv_at hl 0 rfl) ?_
            refine va_get (D := D) (ci := 7) (v := .ref (a0 2)) (C := RX7) (T := TX7) (N := 13) hx hb hts hiX7 hown hK hP 0 rfl rfl 2 (by decide) (hts _ flX7_21) (fun _ h9 => h9) rfl dX7_reachRim_49 ?_
            refine lv_iload_n hx hb dX7_reachRim_52 rfl (lv_at hl 2 rfl) ?_
            refine va_iald (f := r0 2) hx hb hK hP 3 0 rfl rfl (ck_in hf) dX7_reachRim_53 ?_
            have hf := ck_2 hf
            refine va_iald (f := r0 0) hx hb hK hP 1 0 rfl rfl (ck_in hf) dX7_reachRim_54 ?_
            have hf := ck_2 hf
            refine va_iast (f := r0 1) hx hb hK hP hD hS 2 0 rfl rfl (ck_in hf) dX7_reachRim_55 (fun H locs hP hD hS => ?_)
            have hf := ck_2 hf
            obtain ⟨hP, hD⟩ := st7_1 hP hD
            refine lv_aload_n hx hb dX7_reachRim_56 rfl (lv_at hl 0 rfl) ?_
            refine va_get (D := D) (ci := 7) (v := .ref (a0 2)) (C := RX7) (T := TX7) (N := 13) hx hb hts hiX7 hown hK hP 0 rfl rfl 2 (by decide) (hts _ flX7_21) (fun _ h9 => h9) rfl dX7_reachRim_57 ?_
            refine lv_iload_n hx hb dX7_reachRim_60 rfl (lv_at hl 2 rfl) ?_
            refine lv_dup2_11 hx hb dX7_reachRim_61 rfl rfl ?_
            refine va_iald (f := r0 2) hx hb hK hP 3 0 rfl rfl (ck_in hf) dX7_reachRim_62 ?_
            have hf := ck_2 hf
            refine lv_iconst (v := 1) hx hb dX7_reachRim_63 (by decide) ?_
            refine lv_iadd hx hb dX7_reachRim_64 ?_
            refine va_iast (f := r0 2) hx hb hK hP hD hS 3 0 rfl rfl (ck_in hf) dX7_reachRim_65 (fun H locs hP hD hS => ?_)
            have hf := ck_2 hf
            obtain ⟨hP, hD⟩ := st7_2 hP hD
            exact w_X7_reachRim_66 C _ (ih) _ _ _ _ _ _ _ _ hf hP hD hS (lv_sub hl [0, 1, 2, 3] rfl)
def f_X7_reachRim  (i0 : Nat → Int32) (r0 : Nat → Nat → Int32) (u0 : Nat → Nat) (x1 : Int32) : Option (Int32 × (Nat → Int32) × (Nat → Nat → Int32)) := ck (inb 0 13) (f_X7_reachRim_11 u0 2000000 i0 (va_up r0 2 (upd (r0 2) (0 : Int32).toNatClampNeg 0)) x1 0 0)
set_option maxRecDepth 100000 in
set_option maxHeartbeats 4000000 in
theorem c_X7_reachRim {l : Launch} {D : va_G} {cs zs : Nat → Nat} {h0 : Nat} {a0 : Nat → Nat} {i0 : Nat → Int32} {r0 : Nat → Nat → Int32} {u0 : Nat → Nat} {x1 : Int32} {q : Int32 × (Nat → Int32) × (Nat → Nat → Int32)} (hf : f_X7_reachRim i0 r0 u0 x1 = some q) : Mi l yX7_reachRim wlX7_reachRim rmX7_reachRim D cs zs [.ref h0, .int x1] (W7 cs h0 a0 i0 r0 u0) q.1 (W7 cs h0 a0 q.2.1 q.2.2 u0) := by
  refine Mi.of RX7 (by decide) rfl (Nat.le_of_ble_eq_true rfl) (fun p e s m below meth c A C hP hD hS ls hl => ?_)
  generalize ([.ref h0, .int x1] : List Value).toArray = args at C ⊢
  obtain ⟨hx, hb, hr, hml, hown, hts, hK, hA, hlocks, hZ⟩ := id C
  have hl : lv_has ls 4 [(0, .ref h0), (1, .int x1)] := hl
  rw [f_X7_reachRim] at hf
  refine lv_iconst (v := 0) hx hb dX7_reachRim_0 (by decide) ?_
  refine lv_istore_n (lv' := [(2, .int 0), (0, .ref h0), (1, .int x1)]) hx hb dX7_reachRim_1 rfl hl (by decide) rfl (fun ls hl => ?_)
  refine lv_aload_n hx hb dX7_reachRim_2 rfl (lv_at hl 1 rfl) ?_
  refine va_get (D := D) (ci := 7) (v := .ref (a0 2)) (C := RX7) (T := TX7) (N := 13) hx hb hts hiX7 hown hK hP 0 rfl rfl 2 (by decide) (hts _ flX7_21) (fun _ h9 => h9) rfl dX7_reachRim_3 ?_
  refine lv_iconst (v := 0) hx hb dX7_reachRim_6 (by decide) ?_
  refine lv_iconst (v := 0) hx hb dX7_reachRim_7 (by decide) ?_
  refine va_iast (f := r0 2) hx hb hK hP hD hS 3 0 rfl rfl (ck_in hf) dX7_reachRim_8 (fun H locs hP hD hS => ?_)
  have hf := ck_2 hf
  obtain ⟨hP, hD⟩ := st7_2 hP hD
  refine lv_iconst (v := 0) hx hb dX7_reachRim_9 (by decide) ?_
  refine lv_istore_n (lv' := [(3, .int 0), (2, .int 0), (0, .ref h0), (1, .int x1)]) hx hb dX7_reachRim_10 rfl hl (by decide) rfl (fun ls hl => ?_)
  exact w_X7_reachRim_11 C  2000000 _ _ _ _ _ _ _ _ hf hP hD hS (lv_sub hl [2, 3, 1, 0] rfl)
/-! MarbleFloor$Shortest.stepsToRim()I -/
abbrev wlX7_stepsToRim : List Cond := Cond.code yX7_stepsToRim cX7_stepsToRim 2 (some .int) :: tbG
abbrev rmX7_stepsToRim : Room := { frames := 3, cells := 0, slots := 0, locals := 68 }
theorem qnX7_stepsToRim : yX7_stepsToRim.cls = RX7 ∧ yX7_stepsToRim.cls ≠ "java/lang/invoke/MethodHandle" ∧ yX7_stepsToRim.cls ≠ "java/lang/invoke/VarHandle" ∧ (parseMethodDescriptor yX7_stepsToRim.desc).map (fun d => d.parameters.length) = some 0 := by decide +kernel
def f_X7_stepsToRim_12 (u0 : Nat → Nat)  : Nat → (Nat → Int32) → (Nat → Nat → Int32) → Int32 → Option (Int32 × (Nat → Int32) × (Nat → Nat → Int32))
  | 0, _, _, _ => none
  | n + 1, i0, r0, x1 => if 12 < x1 then (some ((-1), i0, r0)) else (bd (f_X7_reachRim i0 r0 u0 x1) (fun q2 => if q2.1 = 0 then (f_X7_stepsToRim_12 u0 n q2.2.1 q2.2.2 (x1 + 1)) else (some (x1, q2.2.1, q2.2.2))))
set_option maxRecDepth 100000 in
set_option maxHeartbeats 4000000 in
theorem w_X7_stepsToRim_12 {p : Program} {l : Launch} {e : Env} {s : State} {m : MethodId} {args : Array Value} {below : List Frame} {meth : Method} {c : Code} {A : Nat → Prop} {D : va_G} {cs zs : Nat → Nat} {h0 : Nat} {a0 : Nat → Nat} {u0 : Nat → Nat} {q : Int32 × (Nat → Int32) × (Nat → Nat → Int32)} (C : Cx p s m args meth c A D cs zs cX7_stepsToRim 2 (some .int) RX7)  : ∀ (n : Nat), ∀ (i0 : Nat → Int32) (r0 : Nat → Nat → Int32) (x1 : Int32) (H : Heap) (locs : List Loc) (ls : Array Slot), f_X7_stepsToRim_12 u0 n i0 r0 x1 = some q → va_P D vwCl (W7 cs h0 a0 i0 r0 u0) H → va_D A (W7 cs h0 a0 i0 r0 u0) → va_S A s.heap H locs → lv_has ls 2 [(0, .ref h0), (1, .int x1)] → W p l e rmX7_stepsToRim s m args below meth c H locs 0 0 (MQ below (Qi D cs A q.1 (W7 cs h0 a0 q.2.1 q.2.2 u0)) args s 0 0 A) (F0 m 12 ls []) := by
  obtain ⟨hx, hb, hr, hml, hown, hts, hK, hA, hlocks, hZ⟩ := id C
  intro n
  induction n with
  | zero =>
    intro i0 r0 x1 H locs ls hf
    rw [f_X7_stepsToRim_12] at hf
    cases hf
  | succ n ih =>
    intro i0 r0 x1 H locs ls hf hP hD hS hl
    rw [f_X7_stepsToRim_12] at hf
    refine lv_iload_n hx hb dX7_stepsToRim_12 rfl (lv_at hl 1 rfl) ?_
    refine lv_bipush (v := 12) hx hb dX7_stepsToRim_13 (by decide) ?_
    refine lv_icmp_gt (tgt := 34) hx hb dX7_stepsToRim_15 (by decide) (fun hc => ?_) (fun hc => ?_)
    · have hf := ite_t hf hc
      refine lv_iconst (v := (-1)) hx hb dX7_stepsToRim_34 (by decide) ?_
      obtain rfl := Option.some.inj hf
      exact k_iret hx hb hr hlocks hK hP hD hS dX7_stepsToRim_35
    · have hf := ite_f hf hc
      refine lv_aload_n hx hb dX7_stepsToRim_18 rfl (lv_at hl 0 rfl) ?_
      refine lv_iload_n hx hb dX7_stepsToRim_19 rfl (lv_at hl 1 rfl) ?_
      obtain ⟨q2, hq2, hf⟩ := bd_s hf
      refine k_sVi (ws2 := W7 cs h0 a0 q2.2.1 q2.2.2 u0) (As := [.int x1]) (rest := []) hx hb hml hown hts hK hA hZ hl.1 hP hD hS (c_X7_reachRim (h0 := h0) (a0 := a0) hq2) (gVt mlX7_127 imX7_reachRim seX7_reachRim inX7 coX7_reachRim) rfl qnX7_reachRim rfl rfl ⟨Nat.le_of_ble_eq_true rfl, Nat.le_of_ble_eq_true rfl⟩ 0 7 rfl rfl rfl rfl rfl (Nat.le_of_ble_eq_true rfl) ⟨Nat.zero_le _, Nat.zero_le _⟩ dX7_stepsToRim_20 (fun H locs hP hD hS => ?_)
      refine lv_if_eq (tgt := 28) hx hb dX7_stepsToRim_23 (by decide) (fun hc => ?_) (fun hc => ?_)
      · have hf := ite_t hf hc
        refine lv_iinc (v := x1 + 1) (lv' := [(1, .int (x1 + 1)), (0, .ref h0)]) hx hb dX7_stepsToRim_28 hl (k := 1) rfl rfl (by decide) rfl (fun ls hl => ?_)
        refine lv_goto (tgt := 12) hx hb dX7_stepsToRim_31 (by decide) ?_
        exact ih _ _ _ _ _ _ hf hP hD hS (lv_sub hl [1, 0] rfl)
      · have hf := ite_f hf hc
        refine lv_iload_n hx hb dX7_stepsToRim_26 rfl (lv_at hl 1 rfl) ?_
        obtain rfl := Option.some.inj hf
        exact k_iret hx hb hr hlocks hK hP hD hS dX7_stepsToRim_27
def f_X7_stepsToRim  (i0 : Nat → Int32) (r0 : Nat → Nat → Int32) (u0 : Nat → Nat)  : Option (Int32 × (Nat → Int32) × (Nat → Nat → Int32)) := ck (inb 0 13) (f_X7_stepsToRim_12 u0 2000000 i0 (va_up r0 3 (upd (r0 3) (0 : Int32).toNatClampNeg (i0 12))) 1)
set_option maxRecDepth 100000 in
set_option maxHeartbeats 4000000 in
theorem c_X7_stepsToRim {l : Launch} {D : va_G} {cs zs : Nat → Nat} {h0 : Nat} {a0 : Nat → Nat} {i0 : Nat → Int32} {r0 : Nat → Nat → Int32} {u0 : Nat → Nat}  {q : Int32 × (Nat → Int32) × (Nat → Nat → Int32)} (hf : f_X7_stepsToRim i0 r0 u0 = some q) : Mi l yX7_stepsToRim wlX7_stepsToRim rmX7_stepsToRim D cs zs [.ref h0] (W7 cs h0 a0 i0 r0 u0) q.1 (W7 cs h0 a0 q.2.1 q.2.2 u0) := by
  refine Mi.of RX7 (by decide) rfl (Nat.le_of_ble_eq_true rfl) (fun p e s m below meth c A C hP hD hS ls hl => ?_)
  generalize ([.ref h0] : List Value).toArray = args at C ⊢
  obtain ⟨hx, hb, hr, hml, hown, hts, hK, hA, hlocks, hZ⟩ := id C
  have hl : lv_has ls 2 [(0, .ref h0)] := hl
  rw [f_X7_stepsToRim] at hf
  refine lv_aload_n hx hb dX7_stepsToRim_0 rfl (lv_at hl 0 rfl) ?_
  refine va_get (D := D) (ci := 7) (v := .ref (a0 3)) (C := RX7) (T := TX7) (N := 13) hx hb hts hiX7 hown hK hP 0 rfl rfl 3 (by decide) (hts _ flX7_24) (fun _ h9 => h9) rfl dX7_stepsToRim_1 ?_
  refine lv_iconst (v := 0) hx hb dX7_stepsToRim_4 (by decide) ?_
  refine lv_aload_n hx hb dX7_stepsToRim_5 rfl (lv_at hl 0 rfl) ?_
  refine va_get (D := D) (ci := 7) (v := .int (i0 12)) (C := RX7) (T := TX7) (N := 13) hx hb hts hiX7 hown hK hP 0 rfl rfl 12 (by decide) (hts _ flX7_45) (fun _ h9 => h9) rfl dX7_stepsToRim_6 ?_
  refine va_iast (f := r0 3) hx hb hK hP hD hS 4 0 rfl rfl (ck_in hf) dX7_stepsToRim_9 (fun H locs hP hD hS => ?_)
  have hf := ck_2 hf
  obtain ⟨hP, hD⟩ := st7_3 hP hD
  refine lv_iconst (v := 1) hx hb dX7_stepsToRim_10 (by decide) ?_
  refine lv_istore_n (lv' := [(1, .int 1), (0, .ref h0)]) hx hb dX7_stepsToRim_11 rfl hl (by decide) rfl (fun ls hl => ?_)
  exact w_X7_stepsToRim_12 C  2000000 _ _ _ _ _ _ hf hP hD hS (lv_sub hl [1, 0] rfl)
