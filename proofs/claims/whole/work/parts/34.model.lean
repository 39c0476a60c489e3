/-! MarbleFloorModel.beatOnce()I -/
abbrev wlX13_beatOnce : List Cond := Cond.code yX13_beatOnce cX13_beatOnce 8 (some .int) :: tbG
abbrev rmX13_beatOnce : Room := { frames := 2, cells := 0, slots := 0, locals := 47 }
theorem qnX13_beatOnce : yX13_beatOnce.cls = RX13 ∧ yX13_beatOnce.cls ≠ "java/lang/invoke/MethodHandle" ∧ yX13_beatOnce.cls ≠ "java/lang/invoke/VarHandle" ∧ (parseMethodDescriptor yX13_beatOnce.desc).map (fun d => d.parameters.length) = some 0 := by decide +kernel
def f_X13_beatOnce_196 (i0 : Nat → Int32) (l0 : Nat → Nat → Int64) (K25 : (Nat → Nat → Int32) → Int32 → Int32 → Option (Int32 × (Nat → Nat → Int32))) (K35 : (Nat → Nat → Int32) → Int32 → Int32 → Int32 → Option (Int32 × (Nat → Nat → Int32))) (r0 : Nat → Nat → Int32) (x1 : Int32) (x2 : Int32) (x3 : Int32) : Option (Int32 × (Nat → Nat → Int32)) := K35 r0 x1 x2 (x3 + 1)
set_option maxRecDepth 100000 in
set_option maxHeartbeats 4000000 in
theorem w_X13_beatOnce_196 {p : Program} {l : Launch} {e : Env} {s : State} {m : MethodId} {args : Array Value} {below : List Frame} {meth : Method} {c : Code} {A : Nat → Prop} {D : va_G} {cs zs : Nat → Nat} {h0 : Nat} {a0 : Nat → Nat} {i0 : Nat → Int32} {l0 : Nat → Nat → Int64} {q : Int32 × (Nat → Nat → Int32)} (C : Cx p s m args meth c A D cs zs cX13_beatOnce 8 (some .int) RX13) (K25 : (Nat → Nat → Int32) → Int32 → Int32 → Option (Int32 × (Nat → Nat → Int32))) (hK25 : ∀ (r0 : Nat → Nat → Int32) (x1 : Int32) (x2 : Int32) (H : Heap) (locs : List Loc) (ls : Array Slot), K25 r0 x1 x2 = some q → va_P D vwCl (W13 cs h0 a0 i0 r0 l0) H → va_D A (W13 cs h0 a0 i0 r0 l0) → va_S A s.heap H locs → lv_has ls 8 [(0, .ref h0), (1, .int x1), (2, .int x2)] → W p l e rmX13_beatOnce s m args below meth c H locs 0 0 (MQ below (Qi D cs A q.1 (W13 cs h0 a0 i0 q.2 l0)) args s 0 0 A) (F0 m 25 ls [])) (K35 : (Nat → Nat → Int32) → Int32 → Int32 → Int32 → Option (Int32 × (Nat → Nat → Int32))) (hK35 : ∀ (r0 : Nat → Nat → Int32) (x1 : Int32) (x2 : Int32) (x3 : Int32) (H : Heap) (locs : List Loc) (ls : Array Slot), K35 r0 x1 x2 x3 = some q → va_P D vwCl (W13 cs h0 a0 i0 r0 l0) H → va_D A (W13 cs h0 a0 i0 r0 l0) → va_S A s.heap H locs → lv_has ls 8 [(0, .ref h0), (1, .int x1), (2, .int x2), (3, .int x3)] → W p l e rmX13_beatOnce s m args below meth c H locs 0 0 (MQ below (Qi D cs A q.1 (W13 cs h0 a0 i0 q.2 l0)) args s 0 0 A) (F0 m 35 ls [])) : ∀ (r0 : Nat → Nat → Int32) (x1 : Int32) (x2 : Int32) (x3 : Int32) (H : Heap) (locs : List Loc) (ls : Array Slot), f_X13_beatOnce_196 i0 l0 K25 K35 r0 x1 x2 x3 = some q → va_P D vwCl (W13 cs h0 a0 i0 r0 l0) H → va_D A (W13 cs h0 a0 i0 r0 l0) → va_S A s.heap H locs → lv_has ls 8 [(0, .ref h0), (1, .int x1), (2, .int x2), (3, .int x3)] → W p l e rmX13_beatOnce s m args below meth c H locs 0 0 (MQ below (Qi D cs A q.1 (W13 cs h0 a0 i0 q.2 l0)) args s 0 0 A) (F0 m 196 ls []) := by
  obtain ⟨hx, hb, hr, hml, hown, hts, hK, hA, hlocks, hZ⟩ := id C
  intro r0 x1 x2 x3 H locs ls hf hP hD hS hl
  rw [f_X13_beatOnce_196] at hf
  refine lv_iinc (v := x3 + 1) (lv' := [(3, .int (x3 + 1)), (0, .ref h0), (1, .int x1), (2, .int x2)]) hx hb dX13_beatOnce_196 hl (k := 3) rfl rfl (by decide) rfl (fun ls hl => ?_)
  refine lv_goto (tgt := 35) hx hb dX13_beatOnce_199 (by decide) ?_
  exact hK35 _ _ _ _ _ _ _ hf hP hD hS (lv_sub hl [1, 2, 3, 0] rfl)
def f_X13_beatOnce_190 (i0 : Nat → Int32) (l0 : Nat → Nat → Int64) (K25 : (Nat → Nat → Int32) → Int32 → Int32 → Option (Int32 × (Nat → Nat → Int32))) (K35 : (Nat → Nat → Int32) → Int32 → Int32 → Int32 → Option (Int32 × (Nat → Nat → Int32))) (K101 : (Nat → Nat → Int32) → Int32 → Int32 → Int32 → Int32 → Int32 → Option (Int32 × (Nat → Nat → Int32))) (r0 : Nat → Nat → Int32) (x1 : Int32) (x2 : Int32) (x3 : Int32) (x4 : Int32) (x5 : Int32) : Option (Int32 × (Nat → Nat → Int32)) := K101 r0 x1 x2 x3 x4 (x5 + 1)
set_option maxRecDepth 100000 in
set_option maxHeartbeats 4000000 in
theorem w_X13_beatOnce_190 {p : Program} {l : Launch} {e : Env} {s : State} {m : MethodId} {args : Array Value} {below : List Frame} {meth : Method} {c : Code} {A : Nat → Prop} {D : va_G} {cs zs : Nat → Nat} {h0 : Nat} {a0 : Nat → Nat} {i0 : Nat → Int32} {l0 : Nat → Nat → Int64} {q : Int32 × (Nat → Nat → Int32)} (C : Cx p s m args meth c A D cs zs cX13_beatOnce 8 (some .int) RX13) (K25 : (Nat → Nat → Int32) → Int32 → Int32 → Option (Int32 × (Nat → Nat → Int32))) (hK25 : ∀ (r0 : Nat → Nat → Int32) (x1 : Int32) (x2 : Int32) (H : Heap) (locs : List Loc) (ls : Array Slot), K25 r0 x1 x2 = some q → va_P D vwCl (W13 cs h0 a0 i0 r0 l0) H → va_D A (W13 cs h0 a0 i0 r0 l0) → va_S A s.heap H locs → lv_has ls 8 [(0, .ref h0), (1, .int x1), (2, .int x2)] → W p l e rmX13_beatOnce s m args below meth c H locs 0 0 (MQ below (Qi D cs A q.1 (W13 cs h0 a0 i0 q.2 l0)) args s 0 0 A) (F0 m 25 ls [])) (K35 : (Nat → Nat → Int32) → Int32 → Int32 → Int32 → Option (Int32 × (Nat → Nat → Int32))) (hK35 : ∀ (r0 : Nat → Nat → Int32) (x1 : Int32) (x2 : Int32) (x3 : Int32) (H : Heap) (locs : List Loc) (ls : Array Slot), K35 r0 x1 x2 x3 = some q → va_P D vwCl (W13 cs h0 a0 i0 r0 l0) H → va_D A (W13 cs h0 a0 i0 r0 l0) → va_S A s.heap H locs → lv_has ls 8 [(0, .ref h0), (1, .int x1), (2, .int x2), (3, .int x3)] → W p l e rmX13_beatOnce s m args below meth c H locs 0 0 (MQ below (Qi D cs A q.1 (W13 cs h0 a0 i0 q.2 l0)) args s 0 0 A) (F0 m 35 ls [])) (K101 : (Nat → Nat → Int32) → Int32 → Int32 → Int32 → Int32 → Int32 → Option (Int32 × (Nat → Nat → Int32))) (hK101 : ∀ (r0 : Nat → Nat → Int32) (x1 : Int32) (x2 : Int32) (x3 : Int32) (x4 : Int32) (x5 : Int32) (H : Heap) (locs : List Loc) (ls : Array Slot), K101 r0 x1 x2 x3 x4 x5 = some q → va_P D vwCl (W13 cs h0 a0 i0 r0 l0) H → va_D A (W13 cs h0 a0 i0 r0 l0) → va_S A s.heap H locs → lv_has ls 8 [(0, .ref h0), (1, .int x1), (2, .int x2), (3, .int x3), (4, .int x4), (5, .int x5)] → W p l e rmX13_beatOnce s m args below meth c H locs 0 0 (MQ below (Qi D cs A q.1 (W13 cs h0 a0 i0 q.2 l0)) args s 0 0 A) (F0 m 101 ls [])) : ∀ (r0 : Nat → Nat → Int32) (x1 : Int32) (x2 : Int32) (x3 : Int32) (x4 : Int32) (x5 : Int32) (H : Heap) (locs : List Loc) (ls : Array Slot), f_X13_beatOnce_190 i0 l0 K25 K35 K101 r0 x1 x2 x3 x4 x5 = some q → va_P D vwCl (W13 cs h0 a0 i0 r0 l0) H → va_D A (W13 cs h0 a0 i0 r0 l0) → va_S A s.heap H locs → lv_has ls 8 [(0, .ref h0), (1, .int x1), (2, .int x2), (3, .int x3), (4, .int x4), (5, .int x5)] → W p l e rmX13_beatOnce s m args below meth c H locs 0 0 (MQ below (Qi D cs A q.1 (W13 cs h0 a0 i0 q.2 l0)) args s 0 0 A) (F0 m 190 ls []) := by
  obtain ⟨hx, hb, hr, hml, hown, hts, hK, hA, hlocks, hZ⟩ := id C
  intro r0 x1 x2 x3 x4 x5 H locs ls hf hP hD hS hl
  rw [f_X13_beatOnce_190] at hf
  refine lv_iinc (v := x5 + 1) (lv' := [(5, .int (x5 + 1)), (0, .ref h0), (1, .int x1), (2, .int x2), (3, .int x3), (4, .int x4)]) hx hb dX13_beatOnce_190 hl (k := 5) rfl rfl (by decide) rfl (fun ls hl => ?_)
  refine lv_goto (tgt := 101) hx hb dX13_beatOnce_193 (by decide) ?_
  exact hK101 _ _ _ _ _ _ _ _ _ hf hP hD hS (lv_sub hl [1, 2, 3, 4, 5, 0] rfl)
def f_X13_beatOnce_101 (i0 : Nat → Int32) (l0 : Nat → Nat → Int64) (K25 : (Nat → Nat → Int32) → Int32 → Int32 → Option (Int32 × (Nat → Nat → Int32))) (K35 : (Nat → Nat → Int32) → Int32 → Int32 → Int32 → Option (Int32 × (Nat → Nat → Int32))) : Nat → (Nat → Nat → Int32) → Int32 → Int32 → Int32 → Int32 → Int32 → Option (Int32 × (Nat → Nat → Int32))
  | 0, _, _, _, _, _, _ => none
  | n + 1, r0, x1, x2, x3, x4, x5 => if 4 ≤ x5 then (f_X13_beatOnce_196 i0 l0 K25 K35 r0 x1 x2 x3) else (if ((x4 >>> (x5 &&& 31)) &&& 1) = 0 then (f_X13_beatOnce_190 i0 l0 K25 K35 (f_X13_beatOnce_101 i0 l0 K25 K35 n) r0 x1 x2 x3 x4 x5) else (bd (f_X13_right x5) (fun q11 => bd (f_X13_up x5) (fun q12 => bd (f_X13_isCell i0 r0 l0 (x3 + q11) (x2 + q12)) (fun q13 => if q13 = 0 then (bd (f_X13_at x3 x2) (fun q14 => ck (inb q14 100) (ck (inb q14 100) (f_X13_beatOnce_190 i0 l0 K25 K35 (f_X13_beatOnce_101 i0 l0 K25 K35 n) (va_up r0 70 (upd (r0 70) q14.toNatClampNeg ((r0 70 q14.toNatClampNeg) ||| ((1 : Int32) <<< ((x5 ^^^ 2) &&& 31))))) x1 x2 x3 x4 x5)))) else (bd (f_X13_at (x3 + q11) (x2 + q12)) (fun q15 => ck (inb q15 100) (ck (inb q15 100) (f_X13_beatOnce_190 i0 l0 K25 K35 (f_X13_beatOnce_101 i0 l0 K25 K35 n) (va_up r0 70 (upd (r0 70) q15.toNatClampNeg ((r0 70 q15.toNatClampNeg) ||| ((1 : Int32) <<< (x5 &&& 31))))) x1 x2 x3 x4 x5)))))))))
set_option maxRecDepth 100000 in
set_option maxHeartbeats 4000000 in
theorem w_X13_beatOnce_101 {p : Program} {l : Launch} {e : Env} {s : State} {m : MethodId} {args : Array Value} {below : List Frame} {meth : Method} {c : Code} {A : Nat → Prop} {D : va_G} {cs zs : Nat → Nat} {h0 : Nat} {a0 : Nat → Nat} {i0 : Nat → Int32} {l0 : Nat → Nat → Int64} {q : Int32 × (Nat → Nat → Int32)} (C : Cx p s m args meth c A D cs zs cX13_beatOnce 8 (some .int) RX13) (K25 : (Nat → Nat → Int32) → Int32 → Int32 → Option (Int32 × (Nat → Nat → Int32))) (hK25 : ∀ (r0 : Nat → Nat → Int32) (x1 : Int32) (x2 : Int32) (H : Heap) (locs : List Loc) (ls : Array Slot), K25 r0 x1 x2 = some q → va_P D vwCl (W13 cs h0 a0 i0 r0 l0) H → va_D A (W13 cs h0 a0 i0 r0 l0) → va_S A s.heap H locs → lv_has ls 8 [(0, .ref h0), (1, .int x1), (2, .int x2)] → W p l e rmX13_beatOnce s m args below meth c H locs 0 0 (MQ below (Qi D cs A q.1 (W13 cs h0 a0 i0 q.2 l0)) args s 0 0 A) (F0 m 25 ls [])) (K35 : (Nat → Nat → Int32) → Int32 → Int32 → Int32 → Option (Int32 × (Nat → Nat → Int32))) (hK35 : ∀ (r0 : Nat → Nat → Int32) (x1 : Int32) (x2 : Int32) (x3 : Int32) (H : Heap) (locs : List Loc) (ls : Array Slot), K35 r0 x1 x2 x3 = some q → va_P D vwCl (W13 cs h0 a0 i0 r0 l0) H → va_D A (W13 cs h0 a0 i0 r0 l0) → va_S A s.heap H locs → lv_has ls 8 [(0, .ref h0), (1, .int x1), (2, .int x2), (3, .int x3)] → W p l e rmX13_beatOnce s m args below meth c H locs 0 0 (MQ below (Qi D cs A q.1 (W13 cs h0 a0 i0 q.2 l0)) args s 0 0 A) (F0 m 35 ls [])) : ∀ (n : Nat), ∀ (r0 : Nat → Nat → Int32) (x1 : Int32) (x2 : Int32) (x3 : Int32) (x4 : Int32) (x5 : Int32) (H : Heap) (locs : List Loc) (ls : Array Slot), f_X13_beatOnce_101 i0 l0 K25 K35 n r0 x1 x2 x3 x4 x5 = some q → va_P D vwCl (W13 cs h0 a0 i0 r0 l0) H → va_D A (W13 cs h0 a0 i0 r0 l0) → va_S A s.heap H locs → lv_has ls 8 [(0, .ref h0), (1, .int x1), (2, .int x2), (3, .int x3), (4, .int x4), (5, .int x5)] → W p l e rmX13_beatOnce s m args below meth c H locs 0 0 (MQ below (Qi D cs A q.1 (W13 cs h0 a0 i0 q.2 l0)) args s 0 0 A) (F0 m 101 ls []) := by
  obtain ⟨hx, hb, hr, hml, hown, hts, hK, hA, hlocks, hZ⟩ := id C
  intro n
  induction n with
  | zero =>
    intro r0 x1 x2 x3 x4 x5 H locs ls hf
    rw [f_X13_beatOnce_101] at hf
    cases hf
  | succ n ih =>
    intro r0 x1 x2 x3 x4 x5 H locs ls hf hP hD hS hl
    rw [f_X13_beatOnce_101] at hf
    refine lv_iload hx hb dX13_beatOnce_101 (lv_at hl 5 rfl) ?_
    refine lv_iconst (v := 4) hx hb dX13_beatOnce_103 (by decide) ?_
    refine lv_icmp_ge (tgt := 196) hx hb dX13_beatOnce_104 (by decide) (fun hc => ?_) (fun hc => ?_)
    · have hf := ite_t hf hc
      exact w_X13_beatOnce_196 C _ (hK25) _ (hK35) _ _ _ _ _ _ _ hf hP hD hS (lv_sub hl [0, 1, 2, 3] rfl)
    · have hf := ite_f hf hc
      refine lv_iload hx hb dX13_beatOnce_107 (lv_at hl 4 rfl) ?_
      refine lv_iload hx hb dX13_beatOnce_109 (lv_at hl 5 rfl) ?_
      refine lv_ishr hx hb dX13_beatOnce_111 ?_
      refine lv_iconst (v := 1) hx hb dX13_beatOnce_112 (by decide) ?_
      refine lv_iand hx hb dX13_beatOnce_113 ?_
      refine lv_if_ne (tgt := 120) hx hb dX13_beatOnce_114 (by decide) (fun hc => ?_) (fun hc => ?_)
      · have hf := ite_f hf hc
        refine lv_iload_n hx hb dX13_beatOnce_120 rfl (lv_at hl 3 rfl) ?_
        refine lv_iload hx hb dX13_beatOnce_121 (lv_at hl 5 rfl) ?_
        obtain ⟨q11, hq11, hf⟩ := bd_s hf
        refine k_eSi (As := [.int x5]) (rest := [.int x3]) hx hb hml hown hts hK hA hZ hl.1 hP hD hS (c_X13_right  hq11) (gSt mlX13_591 stX13_right inX13 coX13_right) rfl qnX13_right rfl rfl ⟨Nat.le_of_ble_eq_true rfl, Nat.le_of_ble_eq_true rfl⟩ rfl rfl (Nat.le_of_ble_eq_true rfl) ⟨Nat.zero_le _, Nat.zero_le _⟩ dX13_beatOnce_123 (fun H locs hP hD hS => ?_)
        refine lv_iadd hx hb dX13_beatOnce_126 ?_
        refine lv_istore (lv' := [(6, .int (x3 + q11)), (0, .ref h0), (1, .int x1), (2, .int x2), (3, .int x3), (4, .int x4), (5, .int x5)]) hx hb dX13_beatOnce_127 hl (by decide) rfl (fun ls hl => ?_)
        refine lv_iload_n hx hb dX13_beatOnce_129 rfl (lv_at hl 3 rfl) ?_
        refine lv_iload hx hb dX13_beatOnce_130 (lv_at hl 6 rfl) ?_
        obtain ⟨q12, hq12, hf⟩ := bd_s hf
        refine k_eSi (As := [.int x5]) (rest := [.int x2]) hx hb hml hown hts hK hA hZ hl.1 hP hD hS (c_X13_up  hq12) (gSt mlX13_594 stX13_up inX13 coX13_up) rfl qnX13_up rfl rfl ⟨Nat.le_of_ble_eq_true rfl, Nat.le_of_ble_eq_true rfl⟩ rfl rfl (Nat.le_of_ble_eq_true rfl) ⟨Nat.zero_le _, Nat.zero_le _⟩ dX13_beatOnce_132 (fun H locs hP hD hS => ?_)
        refine lv_iadd hx hb dX13_beatOnce_135 ?_
        refine lv_istore (lv' := [(7, .int (x2 + q12)), (6, .int (x3 + q11)), (0, .ref h0), (1, .int x1), (2, .int x2), (3, .int x3), (4, .int x4), (5, .int x5)]) hx hb dX13_beatOnce_136 hl (by decide) rfl (fun ls hl => ?_)
        refine lv_aload_n hx hb dX13_beatOnce_138 rfl (lv_at hl 2 rfl) ?_
        refine lv_iload hx hb dX13_beatOnce_139 (lv_at hl 1 rfl) ?_
        refine lv_iload hx hb dX13_beatOnce_141 (lv_at hl 0 rfl) ?_
        obtain ⟨q13, hq13, hf⟩ := bd_s hf
        refine k_sVi (ws2 := W13 cs h0 a0 i0 r0 l0) (As := [.int (x3 + q11), .int (x2 + q12)]) (rest := []) hx hb hml hown hts hK hA hZ hl.1 hP hD hS (c_X13_isCell (h0 := h0) (a0 := a0) hq13) (gVt mlX13_581 imX13_isCell seX13_isCell inX13 coX13_isCell) rfl qnX13_isCell rfl rfl ⟨Nat.le_of_ble_eq_true rfl, Nat.le_of_ble_eq_true rfl⟩ 0 13 rfl rfl rfl rfl rfl (Nat.le_of_ble_eq_true rfl) ⟨Nat.zero_le _, Nat.zero_le _⟩ dX13_beatOnce_143 (fun H locs hP hD hS => ?_)
        refine lv_if_eq (tgt := 171) hx hb dX13_beatOnce_146 (by decide) (fun hc => ?_) (fun hc => ?_)
        · have hf := ite_t hf hc
          refine lv_aload_n hx hb dX13_beatOnce_171 rfl (lv_at hl 2 rfl) ?_
          refine va_get (D := D) (ci := 13) (v := .ref (a0 70)) (C := RX13) (T := TX13) (N := 87) hx hb hts hiX13 hown hK hP 0 rfl rfl 70 (by decide) (hts _ flX13_243) (fun _ h9 => h9) rfl dX13_beatOnce_172 ?_
          refine lv_iload_n hx hb dX13_beatOnce_175 rfl (lv_at hl 5 rfl) ?_
          refine lv_iload_n hx hb dX13_beatOnce_176 rfl (lv_at hl 4 rfl) ?_
          obtain ⟨q14, hq14, hf⟩ := bd_s hf
          refine k_eSi (As := [.int x3, .int x2]) (rest := [.ref (a0 70)]) hx hb hml hown hts hK hA hZ hl.1 hP hD hS (c_X13_at  hq14) (gSt mlX13_586 stX13_at inX13 coX13_at) rfl qnX13_at rfl rfl ⟨Nat.le_of_ble_eq_true rfl, Nat.le_of_ble_eq_true rfl⟩ rfl rfl (Nat.le_of_ble_eq_true rfl) ⟨Nat.zero_le _, Nat.zero_le _⟩ dX13_beatOnce_177 (fun H locs hP hD hS => ?_)
          refine lv_dup2_11 hx hb dX13_beatOnce_180 rfl rfl ?_
          refine va_iald (f := r0 70) hx hb hK hP 40 0 rfl rfl (ck_in hf) dX13_beatOnce_181 ?_
          have hf := ck_2 hf
          refine lv_iconst (v := 1) hx hb dX13_beatOnce_182 (by decide) ?_
          refine lv_iload hx hb dX13_beatOnce_183 (lv_at hl 7 rfl) ?_
          refine lv_iconst (v := 2) hx hb dX13_beatOnce_185 (by decide) ?_
          refine lv_ixor hx hb dX13_beatOnce_186 ?_
          refine lv_ishl hx hb dX13_beatOnce_187 ?_
          refine lv_ior hx hb dX13_beatOnce_188 ?_
          refine va_iast (f := r0 70) hx hb hK hP hD hS 40 0 rfl rfl (ck_in hf) dX13_beatOnce_189 (fun H locs hP hD hS => ?_)
          have hf := ck_2 hf
          obtain ⟨hP, hD⟩ := st13_70 hP hD
          exact w_X13_beatOnce_190 C _ (hK25) _ (hK35) _ (ih) _ _ _ _ _ _ _ _ _ hf hP hD hS (lv_sub hl [2, 3, 4, 5, 6, 7] rfl)
        · have hf := ite_f hf hc
          refine lv_aload_n hx hb dX13_beatOnce_149 rfl (lv_at hl 2 rfl) ?_
          refine va_get (D := D) (ci := 13) (v := .ref (a0 70)) (C := RX13) (T := TX13) (N := 87) hx hb hts hiX13 hown hK hP 0 rfl rfl 70 (by decide) (hts _ flX13_243) (fun _ h9 => h9) rfl dX13_beatOnce_150 ?_
          refine lv_iload hx hb dX13_beatOnce_153 (lv_at hl 1 rfl) ?_
          refine lv_iload hx hb dX13_beatOnce_155 (lv_at hl 0 rfl) ?_
          obtain ⟨q15, hq15, hf⟩ := bd_s hf
          refine k_eSi (As := [.int (x3 + q11), .int (x2 + q12)]) (rest := [.ref (a0 70)]) hx hb hml hown hts hK hA hZ hl.1 hP hD hS (c_X13_at  hq15) (gSt mlX13_586 stX13_at inX13 coX13_at) rfl qnX13_at rfl rfl ⟨Nat.le_of_ble_eq_true rfl, Nat.le_of_ble_eq_true rfl⟩ rfl rfl (Nat.le_of_ble_eq_true rfl) ⟨Nat.zero_le _, Nat.zero_le _⟩ dX13_beatOnce_157 (fun H locs hP hD hS => ?_)
          refine lv_dup2_11 hx hb dX13_beatOnce_160 rfl rfl ?_
          refine va_iald (f := r0 70) hx hb hK hP 40 0 rfl rfl (ck_in hf) dX13_beatOnce_161 ?_
          have hf := ck_2 hf
          refine lv_iconst (v := 1) hx hb dX13_beatOnce_162 (by decide) ?_
          refine lv_iload hx hb dX13_beatOnce_163 (lv_at hl 7 rfl) ?_
          refine lv_ishl hx hb dX13_beatOnce_165 ?_
          refine lv_ior hx hb dX13_beatOnce_166 ?_
          refine va_iast (f := r0 70) hx hb hK hP hD hS 40 0 rfl rfl (ck_in hf) dX13_beatOnce_167 (fun H locs hP hD hS => ?_)
          have hf := ck_2 hf
          obtain ⟨hP, hD⟩ := st13_70 hP hD
          refine lv_goto (tgt := 190) hx hb dX13_beatOnce_168 (by decide) ?_
          exact w_X13_beatOnce_190 C _ (hK25) _ (hK35) _ (ih) _ _ _ _ _ _ _ _ _ hf hP hD hS (lv_sub hl [2, 3, 4, 5, 6, 7] rfl)
      · have hf := ite_t hf hc
        refine lv_goto (tgt := 190) hx hb dX13_beatOnce_117 (by decide) ?_
        exact w_X13_beatOnce_190 C _ (hK25) _ (hK35) _ (ih) _ _ _ _ _ _ _ _ _ hf hP hD hS (lv_sub hl [0, 1, 2, 3, 4, 5] rfl)
def f_X13_beatOnce_35 (i0 : Nat → Int32) (l0 : Nat → Nat → Int64) (K25 : (Nat → Nat → Int32) → Int32 → Int32 → Option (Int32 × (Nat → Nat → Int32))) : Nat → (Nat → Nat → Int32) → Int32 → Int32 → Int32 → Option (Int32 × (Nat → Nat → Int32))
  | 0, _, _, _, _ => none
  | n + 1, r0, x1, x2, x3 => if (i0 64) ≤ x3 then (K25 r0 x1 (x2 + 1)) else (bd (f_X13_at x3 x2) (fun q16 => ck (inb q16 100) (bd (f_X13_at x3 x2) (fun q17 => ck (inb q17 100) (if (r0 68 q17.toNatClampNeg) = 3 then (bd (f_X13_bits (r0 69 q16.toNatClampNeg)) (fun q20 => f_X13_beatOnce_196 i0 l0 K25 (f_X13_beatOnce_35 i0 l0 K25 n) r0 (x1 + q20) x2 x3)) else (bd (f_X13_at x3 x2) (fun q18 => ck (inb q18 100) (bd (f_X13_turn i0 r0 l0 (r0 68 q18.toNatClampNeg) (r0 69 q16.toNatClampNeg)) (fun q19 => f_X13_beatOnce_101 i0 l0 K25 (f_X13_beatOnce_35 i0 l0 K25 n) 2000000 r0 x1 x2 x3 q19 0)))))))))
set_option maxRecDepth 100000 in
set_option maxHeartbeats 4000000 in
theorem w_X13_beatOnce_35 {p : Program} {l : Launch} {e : Env} {s : State} {m : MethodId} {args : Array Value} {below : List Frame} {meth : Method} {c : Code} {A : Nat → Prop} {D : va_G} {cs zs : Nat → Nat} {h0 : Nat} {a0 : Nat → Nat} {i0 : Nat → Int32} {l0 : Nat → Nat → Int64} {q : Int32 × (Nat → Nat → Int32)} (C : Cx p s m args meth c A D cs zs cX13_beatOnce 8 (some .int) RX13) (K25 : (Nat → Nat → Int32) → Int32 → Int32 → Option (Int32 × (Nat → Nat → Int32))) (hK25 : ∀ (r0 : Nat → Nat → Int32) (x1 : Int32) (x2 : Int32) (H : Heap) (locs : List Loc) (ls : Array Slot), K25 r0 x1 x2 = some q → va_P D vwCl (W13 cs h0 a0 i0 r0 l0) H → va_D A (W13 cs h0 a0 i0 r0 l0) → va_S A s.heap H locs → lv_has ls 8 [(0, .ref h0), (1, .int x1), (2, .int x2)] → W p l e rmX13_beatOnce s m args below meth c H locs 0 0 (MQ below (Qi D cs A q.1 (W13 cs h0 a0 i0 q.2 l0)) args s 0 0 A) (F0 m 25 ls [])) : ∀ (n : Nat), ∀ (r0 : Nat → Nat → Int32) (x1 : Int32) (x2 : Int32) (x3 : Int32) (H : Heap) (locs : List Loc) (ls : Array Slot), f_X13_beatOnce_35 i0 l0 K25 n r0 x1 x2 x3 = some q → va_P D vwCl (W13 cs h0 a0 i0 r0 l0) H → va_D A (W13 cs h0 a0 i0 r0 l0) → va_S A s.heap H locs → lv_has ls 8 [(0, .ref h0), (1, .int x1), (2, .int x2), (3, .int x3)] → W p l e rmX13_beatOnce s m args below meth c H locs 0 0 (MQ below (Qi D cs A q.1 (W13 cs h0 a0 i0 q.2 l0)) args s 0 0 A) (F0 m 35 ls []) := by
  obtain ⟨hx, hb, hr, hml, hown, hts, hK, hA, hlocks, hZ⟩ := id C
  intro n
  induction n with
  | zero =>
    intro r0 x1 x2 x3 H locs ls hf
    rw [f_X13_beatOnce_35] at hf
    cases hf
  | succ n ih =>
    intro r0 x1 x2 x3 H locs ls hf hP hD hS hl
    rw [f_X13_beatOnce_35] at hf
    refine lv_iload_n hx hb dX13_beatOnce_35 rfl (lv_at hl 3 rfl) ?_
    refine lv_aload_n hx hb dX13_beatOnce_36 rfl (lv_at hl 0 rfl) ?_
    refine va_get (D := D) (ci := 13) (v := .int (i0 64)) (C := RX13) (T := TX13) (N := 87) hx hb hts hiX13 hown hK hP 0 rfl rfl 64 (by decide) (hts _ flX13_279) (fun _ h9 => h9) rfl dX13_beatOnce_37 ?_
    refine lv_icmp_ge (tgt := 202) hx hb dX13_beatOnce_40 (by decide) (fun hc => ?_) (fun hc => ?_)
    · have hf := ite_t hf hc
      refine lv_iinc (v := x2 + 1) (lv' := [(2, .int (x2 + 1)), (0, .ref h0), (1, .int x1), (3, .int x3)]) hx hb dX13_beatOnce_202 hl (k := 2) rfl rfl (by decide) rfl (fun ls hl => ?_)
      refine lv_goto (tgt := 25) hx hb dX13_beatOnce_205 (by decide) ?_
      exact hK25 _ _ _ _ _ _ hf hP hD hS (lv_sub hl [1, 2, 0] rfl)
    · have hf := ite_f hf hc
      refine lv_aload_n hx hb dX13_beatOnce_43 rfl (lv_at hl 0 rfl) ?_
      refine va_get (D := D) (ci := 13) (v := .ref (a0 69)) (C := RX13) (T := TX13) (N := 87) hx hb hts hiX13 hown hK hP 0 rfl rfl 69 (by decide) (hts _ flX13_240) (fun _ h9 => h9) rfl dX13_beatOnce_44 ?_
      refine lv_iload_n hx hb dX13_beatOnce_47 rfl (lv_at hl 3 rfl) ?_
      refine lv_iload_n hx hb dX13_beatOnce_48 rfl (lv_at hl 2 rfl) ?_
      obtain ⟨q16, hq16, hf⟩ := bd_s hf
      refine k_eSi (As := [.int x3, .int x2]) (rest := [.ref (a0 69)]) hx hb hml hown hts hK hA hZ hl.1 hP hD hS (c_X13_at  hq16) (gSt mlX13_586 stX13_at inX13 coX13_at) rfl qnX13_at rfl rfl ⟨Nat.le_of_ble_eq_true rfl, Nat.le_of_ble_eq_true rfl⟩ rfl rfl (Nat.le_of_ble_eq_true rfl) ⟨Nat.zero_le _, Nat.zero_le _⟩ dX13_beatOnce_49 (fun H locs hP hD hS => ?_)
      refine va_iald (f := r0 69) hx hb hK hP 39 0 rfl rfl (ck_in hf) dX13_beatOnce_52 ?_
      have hf := ck_2 hf
      refine lv_istore (lv' := [(4, .int (r0 69 q16.toNatClampNeg)), (0, .ref h0), (1, .int x1), (2, .int x2), (3, .int x3)]) hx hb dX13_beatOnce_53 hl (by decide) rfl (fun ls hl => ?_)
      refine lv_aload_n hx hb dX13_beatOnce_55 rfl (lv_at hl 1 rfl) ?_
      refine va_get (D := D) (ci := 13) (v := .ref (a0 68)) (C := RX13) (T := TX13) (N := 87) hx hb hts hiX13 hown hK hP 0 rfl rfl 68 (by decide) (hts _ flX13_237) (fun _ h9 => h9) rfl dX13_beatOnce_56 ?_
      refine lv_iload_n hx hb dX13_beatOnce_59 rfl (lv_at hl 4 rfl) ?_
      refine lv_iload_n hx hb dX13_beatOnce_60 rfl (lv_at hl 3 rfl) ?_
      obtain ⟨q17, hq17, hf⟩ := bd_s hf
      refine k_eSi (As := [.int x3, .int x2]) (rest := [.ref (a0 68)]) hx hb hml hown hts hK hA hZ hl.1 hP hD hS (c_X13_at  hq17) (gSt mlX13_586 stX13_at inX13 coX13_at) rfl qnX13_at rfl rfl ⟨Nat.le_of_ble_eq_true rfl, Nat.le_of_ble_eq_true rfl⟩ rfl rfl (Nat.le_of_ble_eq_true rfl) ⟨Nat.zero_le _, Nat.zero_le _⟩ dX13_beatOnce_61 (fun H locs hP hD hS => ?_)
      refine va_iald (f := r0 68) hx hb hK hP 38 0 rfl rfl (ck_in hf) dX13_beatOnce_64 ?_
      have hf := ck_2 hf
      refine lv_iconst (v := 3) hx hb dX13_beatOnce_65 (by decide) ?_
      refine lv_icmp_ne (tgt := 80) hx hb dX13_beatOnce_66 (by decide) (fun hc => ?_) (fun hc => ?_)
      · have hf := ite_f hf hc
        refine lv_aload_n hx hb dX13_beatOnce_80 rfl (lv_at hl 1 rfl) ?_
        refine lv_aload_n hx hb dX13_beatOnce_81 rfl (lv_at hl 1 rfl) ?_
        refine va_get (D := D) (ci := 13) (v := .ref (a0 68)) (C := RX13) (T := TX13) (N := 87) hx hb hts hiX13 hown hK hP 0 rfl rfl 68 (by decide) (hts _ flX13_237) (fun _ h9 => h9) rfl dX13_beatOnce_82 ?_
        refine lv_iload_n hx hb dX13_beatOnce_85 rfl (lv_at hl 4 rfl) ?_
        refine lv_iload_n hx hb dX13_beatOnce_86 rfl (lv_at hl 3 rfl) ?_
        obtain ⟨q18, hq18, hf⟩ := bd_s hf
        refine k_eSi (As := [.int x3, .int x2]) (rest := [.ref (a0 68), .ref h0]) hx hb hml hown hts hK hA hZ hl.1 hP hD hS (c_X13_at  hq18) (gSt mlX13_586 stX13_at inX13 coX13_at) rfl qnX13_at rfl rfl ⟨Nat.le_of_ble_eq_true rfl, Nat.le_of_ble_eq_true rfl⟩ rfl rfl (Nat.le_of_ble_eq_true rfl) ⟨Nat.zero_le _, Nat.zero_le _⟩ dX13_beatOnce_87 (fun H locs hP hD hS => ?_)
        refine va_iald (f := r0 68) hx hb hK hP 38 0 rfl rfl (ck_in hf) dX13_beatOnce_90 ?_
        have hf := ck_2 hf
        refine lv_iload hx hb dX13_beatOnce_91 (lv_at hl 0 rfl) ?_
        obtain ⟨q19, hq19, hf⟩ := bd_s hf
        refine k_sVi (ws2 := W13 cs h0 a0 i0 r0 l0) (As := [.int (r0 68 q18.toNatClampNeg), .int (r0 69 q16.toNatClampNeg)]) (rest := []) hx hb hml hown hts hK hA hZ hl.1 hP hD hS (c_X13_turn (h0 := h0) (a0 := a0) hq19) (gVt mlX13_589 imX13_turn seX13_turn inX13 coX13_turn) rfl qnX13_turn rfl rfl ⟨Nat.le_of_ble_eq_true rfl, Nat.le_of_ble_eq_true rfl⟩ 0 13 rfl rfl rfl rfl rfl (Nat.le_of_ble_eq_true rfl) ⟨Nat.zero_le _, Nat.zero_le _⟩ dX13_beatOnce_93 (fun H locs hP hD hS => ?_)
        refine lv_istore (lv' := [(4, .int q19), (0, .ref h0), (1, .int x1), (2, .int x2), (3, .int x3)]) hx hb dX13_beatOnce_96 hl (by decide) rfl (fun ls hl => ?_)
        refine lv_iconst (v := 0) hx hb dX13_beatOnce_98 (by decide) ?_
        refine lv_istore (lv' := [(5, .int 0), (4, .int q19), (0, .ref h0), (1, .int x1), (2, .int x2), (3, .int x3)]) hx hb dX13_beatOnce_99 hl (by decide) rfl (fun ls hl => ?_)
        exact w_X13_beatOnce_101 C _ (hK25) _ (ih) 2000000 _ _ _ _ _ _ _ _ _ hf hP hD hS (lv_sub hl [2, 3, 4, 5, 1, 0] rfl)
      · have hf := ite_t hf hc
        refine lv_iload_n hx hb dX13_beatOnce_69 rfl (lv_at hl 2 rfl) ?_
        refine lv_iload hx hb dX13_beatOnce_70 (lv_at hl 0 rfl) ?_
        obtain ⟨q20, hq20, hf⟩ := bd_s hf
        refine k_eSi (As := [.int (r0 69 q16.toNatClampNeg)]) (rest := [.int x1]) hx hb hml hown hts hK hA hZ hl.1 hP hD hS (c_X13_bits  hq20) (gSt mlX13_333 stX13_bits inX13 coX13_bits) rfl qnX13_bits rfl rfl ⟨Nat.le_of_ble_eq_true rfl, Nat.le_of_ble_eq_true rfl⟩ rfl rfl (Nat.le_of_ble_eq_true rfl) ⟨Nat.zero_le _, Nat.zero_le _⟩ dX13_beatOnce_72 (fun H locs hP hD hS => ?_)
        refine lv_iadd hx hb dX13_beatOnce_75 ?_
        refine lv_istore_n (lv' := [(1, .int (x1 + q20)), (4, .int (r0 69 q16.toNatClampNeg)), (0, .ref h0), (2, .int x2), (3, .int x3)]) hx hb dX13_beatOnce_76 rfl hl (by decide) rfl (fun ls hl => ?_)
        refine lv_goto (tgt := 196) hx hb dX13_beatOnce_77 (by decide) ?_
        exact w_X13_beatOnce_196 C _ (hK25) _ (ih) _ _ _ _ _ _ _ hf hP hD hS (lv_sub hl [2, 0, 3, 4] rfl)
def f_X13_beatOnce_210 (i0 : Nat → Int32) (l0 : Nat → Nat → Int64)  : Nat → (Nat → Nat → Int32) → Int32 → Int32 → Option (Int32 × (Nat → Nat → Int32))
  | 0, _, _, _ => none
  | n + 1, r0, x1, x2 => if 100 ≤ x2 then (some (x1, r0)) else (ck (inb x2 100) (ck (inb x2 100) (f_X13_beatOnce_210 i0 l0 n (va_up r0 69 (upd (r0 69) x2.toNatClampNeg (r0 70 x2.toNatClampNeg))) x1 (x2 + 1))))
set_option maxRecDepth 100000 in
set_option maxHeartbeats 4000000 in
theorem w_X13_beatOnce_210 {p : Program} {l : Launch} {e : Env} {s : State} {m : MethodId} {args : Array Value} {below : List Frame} {meth : Method} {c : Code} {A : Nat → Prop} {D : va_G} {cs zs : Nat → Nat} {h0 : Nat} {a0 : Nat → Nat} {i0 : Nat → Int32} {l0 : Nat → Nat → Int64} {q : Int32 × (Nat → Nat → Int32)} (C : Cx p s m args meth c A D cs zs cX13_beatOnce 8 (some .int) RX13)  : ∀ (n : Nat), ∀ (r0 : Nat → Nat → Int32) (x1 : Int32) (x2 : Int32) (H : Heap) (locs : List Loc) (ls : Array Slot), f_X13_beatOnce_210 i0 l0 n r0 x1 x2 = some q → va_P D vwCl (W13 cs h0 a0 i0 r0 l0) H → va_D A (W13 cs h0 a0 i0 r0 l0) → va_S A s.heap H locs → lv_has ls 8 [(0, .ref h0), (1, .int x1), (2, .int x2)] → W p l e rmX13_beatOnce s m args below meth c H locs 0 0 (MQ below (Qi D cs A q.1 (W13 cs h0 a0 i0 q.2 l0)) args s 0 0 A) (F0 m 210 ls []) := by
  obtain ⟨hx, hb, hr, hml, hown, hts, hK, hA, hlocks, hZ⟩ := id C
  intro n
  induction n with
  | zero =>
    intro r0 x1 x2 H locs ls hf
    rw [f_X13_beatOnce_210] at hf
    cases hf
  | succ n ih =>
    intro r0 x1 x2 H locs ls hf hP hD hS hl
    rw [f_X13_beatOnce_210] at hf
    refine lv_iload_n hx hb dX13_beatOnce_210 rfl (lv_at hl 2 rfl) ?_
    refine lv_bipush (v := 100) hx hb dX13_beatOnce_211 (by decide) ?_
    refine lv_icmp_ge (tgt := 234) hx hb dX13_beatOnce_213 (by decide) (fun hc => ?_) (fun hc => ?_)
    · have hf := ite_t hf hc
      refine lv_iload_n hx hb dX13_beatOnce_234 rfl (lv_at hl 1 rfl) ?_
      obtain rfl := Option.some.inj hf
      exact k_iret hx hb hr hlocks hK hP hD hS dX13_beatOnce_235
    · have hf := ite_f hf hc
      refine lv_aload_n hx hb dX13_beatOnce_216 rfl (lv_at hl 0 rfl) ?_
      refine va_get (D := D) (ci := 13) (v := .ref (a0 69)) (C := RX13) (T := TX13) (N := 87) hx hb hts hiX13 hown hK hP 0 rfl rfl 69 (by decide) (hts _ flX13_240) (fun _ h9 => h9) rfl dX13_beatOnce_217 ?_
      refine lv_iload_n hx hb dX13_beatOnce_220 rfl (lv_at hl 2 rfl) ?_
      refine lv_aload_n hx hb dX13_beatOnce_221 rfl (lv_at hl 0 rfl) ?_
      refine va_get (D := D) (ci := 13) (v := .ref (a0 70)) (C := RX13) (T := TX13) (N := 87) hx hb hts hiX13 hown hK hP 0 rfl rfl 70 (by decide) (hts _ flX13_243) (fun _ h9 => h9) rfl dX13_beatOnce_222 ?_
      refine lv_iload_n hx hb dX13_beatOnce_225 rfl (lv_at hl 2 rfl) ?_
      refine va_iald (f := r0 70) hx hb hK hP 40 0 rfl rfl (ck_in hf) dX13_beatOnce_226 ?_
      have hf := ck_2 hf
      refine va_iast (f := r0 69) hx hb hK hP hD hS 39 0 rfl rfl (ck_in hf) dX13_beatOnce_227 (fun H locs hP hD hS => ?_)
      have hf := ck_2 hf
      obtain ⟨hP, hD⟩ := st13_69 hP hD
      refine lv_iinc (v := x2 + 1) (lv' := [(2, .int (x2 + 1)), (0, .ref h0), (1, .int x1)]) hx hb dX13_beatOnce_228 hl (k := 2) rfl rfl (by decide) rfl (fun ls hl => ?_)
      refine lv_goto (tgt := 210) hx hb dX13_beatOnce_231 (by decide) ?_
      exact ih _ _ _ _ _ _ hf hP hD hS (lv_sub hl [1, 2, 0] rfl)
def f_X13_beatOnce_25 (i0 : Nat → Int32) (l0 : Nat → Nat → Int64)  : Nat → (Nat → Nat → Int32) → Int32 → Int32 → Option (Int32 × (Nat → Nat → Int32))
  | 0, _, _, _ => none
  | n + 1, r0, x1, x2 => if (i0 65) ≤ x2 then (f_X13_beatOnce_210 i0 l0 2000000 r0 x1 0) else (f_X13_beatOnce_35 i0 l0 (f_X13_beatOnce_25 i0 l0 n) 2000000 r0 x1 x2 0)
set_option maxRecDepth 100000 in
set_option maxHeartbeats 4000000 in
theorem w_X13_beatOnce_25 {p : Program} {l : Launch} {e : Env} {s : State} {m : MethodId} {args : Array Value} {below : List Frame} {meth : Method} {c : Code} {A : Nat → Prop} {D : va_G} {cs zs : Nat → Nat} {h0 : Nat} {a0 : Nat → Nat} {i0 : Nat → Int32} {l0 : Nat → Nat → Int64} {q : Int32 × (Nat → Nat → Int32)} (C : Cx p s m args meth c A D cs zs cX13_beatOnce 8 (some .int) RX13)  : ∀ (n : Nat), ∀ (r0 : Nat → Nat → Int32) (x1 : Int32) (x2 : Int32) (H : Heap) (locs : List Loc) (ls : Array Slot), f_X13_beatOnce_25 i0 l0 n r0 x1 x2 = some q → va_P D vwCl (W13 cs h0 a0 i0 r0 l0) H → va_D A (W13 cs h0 a0 i0 r0 l0) → va_S A s.heap H locs → lv_has ls 8 [(0, .ref h0), (1, .int x1), (2, .int x2)] → W p l e rmX13_beatOnce s m args below meth c H locs 0 0 (MQ below (Qi D cs A q.1 (W13 cs h0 a0 i0 q.2 l0)) args s 0 0 A) (F0 m 25 ls []) := by
  obtain ⟨hx, hb, hr, hml, hown, hts, hK, hA, hlocks, hZ⟩ := id C
  intro n
  induction n with
  | zero =>
    intro r0 x1 x2 H locs ls hf
    rw [f_X13_beatOnce_25] at hf
    cases hf
  | succ n ih =>
    intro r0 x1 x2 H locs ls hf hP hD hS hl
    rw [f_X13_beatOnce_25] at hf
    refine lv_iload_n hx hb dX13_beatOnce_25 rfl (lv_at hl 2 rfl) ?_
    refine lv_aload_n hx hb dX13_beatOnce_26 rfl (lv_at hl 0 rfl) ?_
    refine va_get (D := D) (ci := 13) (v := .int (i0 65)) (C := RX13) (T := TX13) (N := 87) hx hb hts hiX13 hown hK hP 0 rfl rfl 65 (by decide) (hts _ flX13_282) (fun _ h9 => h9) rfl dX13_beatOnce_27 ?_
    refine lv_icmp_ge (tgt := 208) hx hb dX13_beatOnce_30 (by decide) (fun hc => ?_) (fun hc => ?_)
    · have hf := ite_t hf hc
      refine lv_iconst (v := 0) hx hb dX13_beatOnce_208 (by decide) ?_
      refine lv_istore_n (lv' := [(2, .int 0), (0, .ref h0), (1, .int x1)]) hx hb dX13_beatOnce_209 rfl hl (by decide) rfl (fun ls hl => ?_)
      exact w_X13_beatOnce_210 C  2000000 _ _ _ _ _ _ hf hP hD hS (lv_sub hl [1, 2, 0] rfl)
    · have hf := ite_f hf hc
      refine lv_iconst (v := 0) hx hb dX13_beatOnce_33 (by decide) ?_
      refine lv_istore_n (lv' := [(3, .int 0), (0, .ref h0), (1, .int x1), (2, .int x2)]) hx hb dX13_beatOnce_34 rfl hl (by decide) rfl (fun ls hl => ?_)
      exact w_X13_beatOnce_35 C _ (ih) 2000000 _ _ _ _ _ _ _ hf hP hD hS (lv_sub hl [1, 2, 3, 0] rfl)
def f_X13_beatOnce_4 (i0 : Nat → Int32) (l0 : Nat → Nat → Int64)  : Nat → (Nat → Nat → Int32) → Int32 → Int32 → Option (Int32 × (Nat → Nat → Int32))
  | 0, _, _, _ => none
  | n + 1, r0, x1, x2 => if 100 ≤ x2 then (f_X13_beatOnce_25 i0 l0 2000000 r0 x1 0) else (ck (inb x2 100) (f_X13_beatOnce_4 i0 l0 n (va_up r0 70 (upd (r0 70) x2.toNatClampNeg 0)) x1 (x2 + 1)))
set_option maxRecDepth 100000 in
set_option maxHeartbeats 4000000 in
theorem w_X13_beatOnce_4 {p : Program} {l : Launch} {e : Env} {s : State} {m : MethodId} {args : Array Value} {below : List Frame} {meth : Method} {c : Code} {A : Nat → Prop} {D : va_G} {cs zs : Nat → Nat} {h0 : Nat} {a0 : Nat → Nat} {i0 : Nat → Int32} {l0 : Nat → Nat → Int64} {q : Int32 × (Nat → Nat → Int32)} (C : Cx p s m args meth c A D cs zs cX13_beatOnce 8 (some .int) RX13)  : ∀ (n : Nat), ∀ (r0 : Nat → Nat → Int32) (x1 : Int32) (x2 : Int32) (H : Heap) (locs : List Loc) (ls : Array Slot), f_X13_beatOnce_4 i0 l0 n r0 x1 x2 = some q → va_P D vwCl (W13 cs h0 a0 i0 r0 l0) H → va_D A (W13 cs h0 a0 i0 r0 l0) → va_S A s.heap H locs → lv_has ls 8 [(0, .ref h0), (1, .int x1), (2, .int x2)] → W p l e rmX13_beatOnce s m args below meth c H locs 0 0 (MQ below (Qi D cs A q.1 (W13 cs h0 a0 i0 q.2 l0)) args s 0 0 A) (F0 m 4 ls []) := by
  obtain ⟨hx, hb, hr, hml, hown, hts, hK, hA, hlocks, hZ⟩ := id C
  intro n
  induction n with
  | zero =>
    intro r0 x1 x2 H locs ls hf
    rw [f_X13_beatOnce_4] at hf
    cases hf
  | succ n ih =>
    intro r0 x1 x2 H locs ls hf hP hD hS hl
    rw [f_X13_beatOnce_4] at hf
    refine lv_iload_n hx hb dX13_beatOnce_4 rfl (lv_at hl 2 rfl) ?_
    refine lv_bipush (v := 100) hx hb dX13_beatOnce_5 (by decide) ?_
    refine lv_icmp_ge (tgt := 23) hx hb dX13_beatOnce_7 (by decide) (fun hc => ?_) (fun hc => ?_)
    · have hf := ite_t hf hc
      refine lv_iconst (v := 0) hx hb dX13_beatOnce_23 (by decide) ?_
      refine lv_istore_n (lv' := [(2, .int 0), (0, .ref h0), (1, .int x1)]) hx hb dX13_beatOnce_24 rfl hl (by decide) rfl (fun ls hl => ?_)
      exact w_X13_beatOnce_25 C  2000000 _ _ _ _ _ _ hf hP hD hS (lv_sub hl [1, 2, 0] rfl)
    · have hf := ite_f hf hc
      refine lv_aload_n hx hb dX13_beatOnce_10 rfl (lv_at hl 0 rfl) ?_
      refine va_get (D := D) (ci := 13) (v := .ref (a0 70)) (C := RX13) (T := TX13) (N := 87) hx hb hts hiX13 hown hK hP 0 rfl rfl 70 (by decide) (hts _ flX13_243) (fun _ h9 => h9) rfl dX13_beatOnce_11 ?_
      refine lv_iload_n hx hb dX13_beatOnce_14 rfl (lv_at hl 2 rfl) ?_
      refine lv_iconst (v := 0) hx hb dX13_beatOnce_15 (by decide) ?_
      refine va_iast (f := r0 70) hx hb hK hP hD hS 40 0 rfl rfl (ck_in hf) dX13_beatOnce_16 (fun H locs hP hD hS => ?_)
      have hf := ck_2 hf
      obtain ⟨hP, hD⟩ := st13_70 hP hD
      refine lv_iinc (v := x2 + 1) (lv' := [(2, .int (x2 + 1)), (0, .ref h0), (1, .int x1)]) hx hb dX13_beatOnce_17 hl (k := 2) rfl rfl (by decide) rfl (fun ls hl => ?_)
      refine lv_goto (tgt := 4) hx hb dX13_beatOnce_20 (by decide) ?_
      exact ih _ _ _ _ _ _ hf hP hD hS (lv_sub hl [1, 2, 0] rfl)
def f_X13_beatOnce  (i0 : Nat → Int32) (r0 : Nat → Nat → Int32) (l0 : Nat → Nat → Int64)  : Option (Int32 × (Nat → Nat → Int32)) := f_X13_beatOnce_4 i0 l0 2000000 r0 0 0
set_option maxRecDepth 100000 in
set_option maxHeartbeats 4000000 in
theorem c_X13_beatOnce {l : Launch} {D : va_G} {cs zs : Nat → Nat} {h0 : Nat} {a0 : Nat → Nat} {i0 : Nat → Int32} {r0 : Nat → Nat → Int32} {l0 : Nat → Nat → Int64}  {q : Int32 × (Nat → Nat → Int32)} (hf : f_X13_beatOnce i0 r0 l0 = some q) : Mi l yX13_beatOnce wlX13_beatOnce rmX13_beatOnce D cs zs [.ref h0] (W13 cs h0 a0 i0 r0 l0) q.1 (W13 cs h0 a0 i0 q.2 l0) := by
  refine Mi.of RX13 (by decide) rfl (Nat.le_of_ble_eq_true rfl) (fun p e s m below meth c A C hP hD hS ls hl => ?_)
  generalize ([.ref h0] : List Value).toArray = args at C ⊢
  obtain ⟨hx, hb, hr, hml, hown, hts, hK, hA, hlocks, hZ⟩ := id C
  have hl : lv_has ls 8 [(0, .ref h0)] := hl
  rw [f_X13_beatOnce] at hf
  refine lv_iconst (v := 0) hx hb dX13_beatOnce_0 (by decide) ?_
  refine lv_istore_n (lv' := [(1, .int 0), (0, .ref h0)]) hx hb dX13_beatOnce_1 rfl hl (by decide) rfl (fun ls hl => ?_)
  refine lv_iconst (v := 0) hx hb dX13_beatOnce_2 (by decide) ?_
  refine lv_istore_n (lv' := [(2, .int 0), (1, .int 0), (0, .ref h0)]) hx hb dX13_beatOnce_3 rfl hl (by decide) rfl (fun ls hl => ?_)
  exact w_X13_beatOnce_4 C  2000000 _ _ _ _ _ _ hf hP hD hS (lv_sub hl [2, 1, 0] rfl)
/-! MarbleFloorModel.backOnce()V -/
abbrev wlX13_backOnce : List Cond := Cond.code yX13_backOnce cX13_backOnce 6 none :: tbG
abbrev rmX13_backOnce : Room := { frames := 2, cells := 0, slots := 0, locals := 47 }
theorem qnX13_backOnce : yX13_backOnce.cls = RX13 ∧ yX13_backOnce.cls ≠ "java/lang/invoke/MethodHandle" ∧ yX13_backOnce.cls ≠ "java/lang/invoke/VarHandle" ∧ (parseMethodDescriptor yX13_backOnce.desc).map (fun d => d.parameters.length) = some 0 := by decide +kernel
def f_X13_backOnce_134 (i0 : Nat → Int32) (l0 : Nat → Nat → Int64) (K23 : (Nat → Nat → Int32) → Int32 → Option ((Nat → Nat → Int32))) (K33 : (Nat → Nat → Int32) → Int32 → Int32 → Option ((Nat → Nat → Int32))) (K43 : (Nat → Nat → Int32) → Int32 → Int32 → Int32 → Option ((Nat → Nat → Int32))) (r0 : Nat → Nat → Int32) (x1 : Int32) (x2 : Int32) (x3 : Int32) : Option ((Nat → Nat → Int32)) := K43 r0 x1 x2 (x3 + 1)
set_option maxRecDepth 100000 in
set_option maxHeartbeats 4000000 in
theorem w_X13_backOnce_134 {p : Program} {l : Launch} {e : Env} {s : State} {m : MethodId} {args : Array Value} {below : List Frame} {meth : Method} {c : Code} {A : Nat → Prop} {D : va_G} {cs zs : Nat → Nat} {h0 : Nat} {a0 : Nat → Nat} {i0 : Nat → Int32} {l0 : Nat → Nat → Int64} {q : (Nat → Nat → Int32)} (C : Cx p s m args meth c A D cs zs cX13_backOnce 6 none RX13) (K23 : (Nat → Nat → Int32) → Int32 → Option ((Nat → Nat → Int32))) (hK23 : ∀ (r0 : Nat → Nat → Int32) (x1 : Int32) (H : Heap) (locs : List Loc) (ls : Array Slot), K23 r0 x1 = some q → va_P D vwCl (W13 cs h0 a0 i0 r0 l0) H → va_D A (W13 cs h0 a0 i0 r0 l0) → va_S A s.heap H locs → lv_has ls 6 [(0, .ref h0), (1, .int x1)] → W p l e rmX13_backOnce s m args below meth c H locs 0 0 (MQ below (Qv D cs A (W13 cs h0 a0 i0 q l0)) args s 0 0 A) (F0 m 23 ls [])) (K33 : (Nat → Nat → Int32) → Int32 → Int32 → Option ((Nat → Nat → Int32))) (hK33 : ∀ (r0 : Nat → Nat → Int32) (x1 : Int32) (x2 : Int32) (H : Heap) (locs : List Loc) (ls : Array Slot), K33 r0 x1 x2 = some q → va_P D vwCl (W13 cs h0 a0 i0 r0 l0) H → va_D A (W13 cs h0 a0 i0 r0 l0) → va_S A s.heap H locs → lv_has ls 6 [(0, .ref h0), (1, .int x1), (2, .int x2)] → W p l e rmX13_backOnce s m args below meth c H locs 0 0 (MQ below (Qv D cs A (W13 cs h0 a0 i0 q l0)) args s 0 0 A) (F0 m 33 ls [])) (K43 : (Nat → Nat → Int32) → Int32 → Int32 → Int32 → Option ((Nat → Nat → Int32))) (hK43 : ∀ (r0 : Nat → Nat → Int32) (x1 : Int32) (x2 : Int32) (x3 : Int32) (H : Heap) (locs : List Loc) (ls : Array Slot), K43 r0 x1 x2 x3 = some q → va_P D vwCl (W13 cs h0 a0 i0 r0 l0) H → va_D A (W13 cs h0 a0 i0 r0 l0) → va_S A s.heap H locs → lv_has ls 6 [(0, .ref h0), (1, .int x1), (2, .int x2), (3, .int x3)] → W p l e rmX13_backOnce s m args below meth c H locs 0 0 (MQ below (Qv D cs A (W13 cs h0 a0 i0 q l0)) args s 0 0 A) (F0 m 43 ls [])) : ∀ (r0 : Nat → Nat → Int32) (x1 : Int32) (x2 : Int32) (x3 : Int32) (H : Heap) (locs : List Loc) (ls : Array Slot), f_X13_backOnce_134 i0 l0 K23 K33 K43 r0 x1 x2 x3 = some q → va_P D vwCl (W13 cs h0 a0 i0 r0 l0) H → va_D A (W13 cs h0 a0 i0 r0 l0) → va_S A s.heap H locs → lv_has ls 6 [(0, .ref h0), (1, .int x1), (2, .int x2), (3, .int x3)] → W p l e rmX13_backOnce s m args below meth c H locs 0 0 (MQ below (Qv D cs A (W13 cs h0 a0 i0 q l0)) args s 0 0 A) (F0 m 134 ls []) := by
  obtain ⟨hx, hb, hr, hml, hown, hts, hK, hA, hlocks, hZ⟩ := id C
  intro r0 x1 x2 x3 H locs ls hf hP hD hS hl
  rw [f_X13_backOnce_134] at hf
  refine lv_iinc (v := x3 + 1) (lv' := [(3, .int (x3 + 1)), (0, .ref h0), (1, .int x1), (2, .int x2)]) hx hb dX13_backOnce_134 hl (k := 3) rfl rfl (by decide) rfl (fun ls hl => ?_)
  refine lv_goto (tgt := 43) hx hb dX13_backOnce_137 (by decide) ?_
  exact hK43 _ _ _ _ _ _ _ hf hP hD hS (lv_sub hl [1, 2, 3, 0] rfl)
def f_X13_backOnce_43 (i0 : Nat → Int32) (l0 : Nat → Nat → Int64) (K23 : (Nat → Nat → Int32) → Int32 → Option ((Nat → Nat → Int32))) (K33 : (Nat → Nat → Int32) → Int32 → Int32 → Option ((Nat → Nat → Int32))) : Nat → (Nat → Nat → Int32) → Int32 → Int32 → Int32 → Option ((Nat → Nat → Int32))
  | 0, _, _, _, _ => none
  | n + 1, r0, x1, x2, x3 => if 4 ≤ x3 then (K33 r0 x1 (x2 + 1)) else (bd (f_X13_at x2 x1) (fun q13 => ck (inb q13 100) (if (((r0 69 q13.toNatClampNeg) >>> (x3 &&& 31)) &&& 1) = 0 then (f_X13_backOnce_134 i0 l0 K23 K33 (f_X13_backOnce_43 i0 l0 K23 K33 n) r0 x1 x2 x3) else (bd (f_X13_right x3) (fun q14 => bd (f_X13_up x3) (fun q15 => bd (f_X13_isCell i0 r0 l0 (x2 - q14) (x1 - q15)) (fun q16 => if q16 = 0 then (bd (f_X13_at x2 x1) (fun q17 => ck (inb q17 100) (ck (inb q17 100) (f_X13_backOnce_134 i0 l0 K23 K33 (f_X13_backOnce_43 i0 l0 K23 K33 n) (va_up r0 70 (upd (r0 70) q17.toNatClampNeg ((r0 70 q17.toNatClampNeg) ||| ((1 : Int32) <<< ((x3 ^^^ 2) &&& 31))))) x1 x2 x3)))) else (bd (f_X13_at (x2 - q14) (x1 - q15)) (fun q18 => ck (inb q18 100) (ck (inb q18 100) (f_X13_backOnce_134 i0 l0 K23 K33 (f_X13_backOnce_43 i0 l0 K23 K33 n) (va_up r0 70 (upd (r0 70) q18.toNatClampNeg ((r0 70 q18.toNatClampNeg) ||| ((1 : Int32) <<< (x3 &&& 31))))) x1 x2 x3)))))))))))
set_option maxRecDepth 100000 in
set_option maxHeartbeats 4000000 in
theorem w_X13_backOnce_43 {p : Program} {l : Launch} {e : Env} {s : State} {m : MethodId} {args : Array Value} {below : List Frame} {meth : Method} {c : Code} {A : Nat → Prop} {D : va_G} {cs zs : Nat → Nat} {h0 : Nat} {a0 : Nat → Nat} {i0 : Nat → Int32} {l0 : Nat → Nat → Int64} {q : (Nat → Nat → Int32)} (C : Cx p s m args meth c A D cs zs cX13_backOnce 6 none RX13) (K23 : (Nat → Nat → Int32) → Int32 → Option ((Nat → Nat → Int32))) (hK23 : ∀ (r0 : Nat → Nat → Int32) (x1 : Int32) (H : Heap) (locs : List Loc) (ls : Array Slot), K23 r0 x1 = some q → va_P D vwCl (W13 cs h0 a0 i0 r0 l0) H → va_D A (W13 cs h0 a0 i0 r0 l0) → va_S A s.heap H locs → lv_has ls 6 [(0, .ref h0), (1, .int x1)] → W p l e rmX13_backOnce s m args below meth c H locs 0 0 (MQ below (Qv D cs A (W13 cs h0 a0 i0 q l0)) args s 0 0 A) (F0 m 23 ls [])) (K33 : (Nat → Nat → Int32) → Int32 → Int32 → Option ((Nat → Nat → Int32))) (hK33 : ∀ (r0 : Nat → Nat → Int32) (x1 : Int32) (x2 : Int32) (H : Heap) (locs : List Loc) (ls : Array Slot), K33 r0 x1 x2 = some q → va_P D vwCl (W13 cs h0 a0 i0 r0 l0) H → va_D A (W13 cs h0 a0 i0 r0 l0) → va_S A s.heap H locs → lv_has ls 6 [(0, .ref h0), (1, .int x1), (2, .int x2)] → W p l e rmX13_backOnce s m args below meth c H locs 0 0 (MQ below (Qv D cs A (W13 cs h0 a0 i0 q l0)) args s 0 0 A) (F0 m 33 ls [])) : ∀ (n : Nat), ∀ (r0 : Nat → Nat → Int32) (x1 : Int32) (x2 : Int32) (x3 : Int32) (H : Heap) (locs : List Loc) (ls : Array Slot), f_X13_backOnce_43 i0 l0 K23 K33 n r0 x1 x2 x3 = some q → va_P D vwCl (W13 cs h0 a0 i0 r0 l0) H → va_D A (W13 cs h0 a0 i0 r0 l0) → va_S A s.heap H locs → lv_has ls 6 [(0, .ref h0), (1, .int x1), (2, .int x2), (3, .int x3)] → W p l e rmX13_backOnce s m args below meth c H locs 0 0 (MQ below (Qv D cs A (W13 cs h0 a0 i0 q l0)) args s 0 0 A) (F0 m 43 ls []) := by
  obtain ⟨hx, hb, hr, hml, hown, hts, hK, hA, hlocks, hZ⟩ := id C
  intro n
  induction n with
  | zero =>
    intro r0 x1 x2 x3 H locs ls hf
    rw [f_X13_backOnce_43] at hf
    cases hf
  | succ n ih =>
    intro r0 x1 x2 x3 H locs ls hf hP hD hS hl
    rw [f_X13_backOnce_43] at hf
    refine lv_iload_n hx hb dX13_backOnce_43 rfl (lv_at hl 3 rfl) ?_
    refine lv_iconst (v := 4) hx hb dX13_backOnce_44 (by decide) ?_
    refine lv_icmp_ge (tgt := 140) hx hb dX13_backOnce_45 (by decide) (fun hc => ?_) (fun hc => ?_)
    · have hf := ite_t hf hc
      refine lv_iinc (v := x2 + 1) (lv' := [(2, .int (x2 + 1)), (0, .ref h0), (1, .int x1), (3, .int x3)]) hx hb dX13_backOnce_140 hl (k := 2) rfl rfl (by decide) rfl (fun ls hl => ?_)
      refine lv_goto (tgt := 33) hx hb dX13_backOnce_143 (by decide) ?_
      exact hK33 _ _ _ _ _ _ hf hP hD hS (lv_sub hl [1, 2, 0] rfl)
    · have hf := ite_f hf hc
      refine lv_aload_n hx hb dX13_backOnce_48 rfl (lv_at hl 0 rfl) ?_
      refine va_get (D := D) (ci := 13) (v := .ref (a0 69)) (C := RX13) (T := TX13) (N := 87) hx hb hts hiX13 hown hK hP 0 rfl rfl 69 (by decide) (hts _ flX13_240) (fun _ h9 => h9) rfl dX13_backOnce_49 ?_
      refine lv_iload_n hx hb dX13_backOnce_52 rfl (lv_at hl 2 rfl) ?_
      refine lv_iload_n hx hb dX13_backOnce_53 rfl (lv_at hl 1 rfl) ?_
      obtain ⟨q13, hq13, hf⟩ := bd_s hf
      refine k_eSi (As := [.int x2, .int x1]) (rest := [.ref (a0 69)]) hx hb hml hown hts hK hA hZ hl.1 hP hD hS (c_X13_at  hq13) (gSt mlX13_586 stX13_at inX13 coX13_at) rfl qnX13_at rfl rfl ⟨Nat.le_of_ble_eq_true rfl, Nat.le_of_ble_eq_true rfl⟩ rfl rfl (Nat.le_of_ble_eq_true rfl) ⟨Nat.zero_le _, Nat.zero_le _⟩ dX13_backOnce_54 (fun H locs hP hD hS => ?_)
      refine va_iald (f := r0 69) hx hb hK hP 39 0 rfl rfl (ck_in hf) dX13_backOnce_57 ?_
      have hf := ck_2 hf
      refine lv_iload_n hx hb dX13_backOnce_58 rfl (lv_at hl 3 rfl) ?_
      refine lv_ishr hx hb dX13_backOnce_59 ?_
      refine lv_iconst (v := 1) hx hb dX13_backOnce_60 (by decide) ?_
      refine lv_iand hx hb dX13_backOnce_61 ?_
      refine lv_if_ne (tgt := 68) hx hb dX13_backOnce_62 (by decide) (fun hc => ?_) (fun hc => ?_)
      · have hf := ite_f hf hc
        refine lv_iload_n hx hb dX13_backOnce_68 rfl (lv_at hl 2 rfl) ?_
        refine lv_iload_n hx hb dX13_backOnce_69 rfl (lv_at hl 3 rfl) ?_
        obtain ⟨q14, hq14, hf⟩ := bd_s hf
        refine k_eSi (As := [.int x3]) (rest := [.int x2]) hx hb hml hown hts hK hA hZ hl.1 hP hD hS (c_X13_right  hq14) (gSt mlX13_591 stX13_right inX13 coX13_right) rfl qnX13_right rfl rfl ⟨Nat.le_of_ble_eq_true rfl, Nat.le_of_ble_eq_true rfl⟩ rfl rfl (Nat.le_of_ble_eq_true rfl) ⟨Nat.zero_le _, Nat.zero_le _⟩ dX13_backOnce_70 (fun H locs hP hD hS => ?_)
        refine lv_isub hx hb dX13_backOnce_73 ?_
        refine lv_istore (lv' := [(4, .int (x2 - q14)), (0, .ref h0), (1, .int x1), (2, .int x2), (3, .int x3)]) hx hb dX13_backOnce_74 hl (by decide) rfl (fun ls hl => ?_)
        refine lv_iload_n hx hb dX13_backOnce_76 rfl (lv_at hl 2 rfl) ?_
        refine lv_iload_n hx hb dX13_backOnce_77 rfl (lv_at hl 4 rfl) ?_
        obtain ⟨q15, hq15, hf⟩ := bd_s hf
        refine k_eSi (As := [.int x3]) (rest := [.int x1]) hx hb hml hown hts hK hA hZ hl.1 hP hD hS (c_X13_up  hq15) (gSt mlX13_594 stX13_up inX13 coX13_up) rfl qnX13_up rfl rfl ⟨Nat.le_of_ble_eq_true rfl, Nat.le_of_ble_eq_true rfl⟩ rfl rfl (Nat.le_of_ble_eq_true rfl) ⟨Nat.zero_le _, Nat.zero_le _⟩ dX13_backOnce_78 (fun H locs hP hD hS => ?_)
        refine lv_isub hx hb dX13_backOnce_81 ?_
        refine lv_istore (lv' := [(5, .int (x1 - q15)), (4, .int (x2 - q14)), (0, .ref h0), (1, .int x1), (2, .int x2), (3, .int x3)]) hx hb dX13_backOnce_82 hl (by decide) rfl (fun ls hl => ?_)
        refine lv_aload_n hx hb dX13_backOnce_84 rfl (lv_at hl 2 rfl) ?_
        refine lv_iload hx hb dX13_backOnce_85 (lv_at hl 1 rfl) ?_
        refine lv_iload hx hb dX13_backOnce_87 (lv_at hl 0 rfl) ?_
        obtain ⟨q16, hq16, hf⟩ := bd_s hf
        refine k_sVi (ws2 := W13 cs h0 a0 i0 r0 l0) (As := [.int (x2 - q14), .int (x1 - q15)]) (rest := []) hx hb hml hown hts hK hA hZ hl.1 hP hD hS (c_X13_isCell (h0 := h0) (a0 := a0) hq16) (gVt mlX13_581 imX13_isCell seX13_isCell inX13 coX13_isCell) rfl qnX13_isCell rfl rfl ⟨Nat.le_of_ble_eq_true rfl, Nat.le_of_ble_eq_true rfl⟩ 0 13 rfl rfl rfl rfl rfl (Nat.le_of_ble_eq_true rfl) ⟨Nat.zero_le _, Nat.zero_le _⟩ dX13_backOnce_89 (fun H locs hP hD hS => ?_)
        refine lv_if_eq (tgt := 116) hx hb dX13_backOnce_92 (by decide) (fun hc => ?_) (fun hc => ?_)
        · have hf := ite_t hf hc
          refine lv_aload_n hx hb dX13_backOnce_116 rfl (lv_at hl 2 rfl) ?_
          refine va_get (D := D) (ci := 13) (v := .ref (a0 70)) (C := RX13) (T := TX13) (N := 87) hx hb hts hiX13 hown hK hP 0 rfl rfl 70 (by decide) (hts _ flX13_243) (fun _ h9 => h9) rfl dX13_backOnce_117 ?_
          refine lv_iload_n hx hb dX13_backOnce_120 rfl (lv_at hl 4 rfl) ?_
          refine lv_iload_n hx hb dX13_backOnce_121 rfl (lv_at hl 3 rfl) ?_
          obtain ⟨q17, hq17, hf⟩ := bd_s hf
          refine k_eSi (As := [.int x2, .int x1]) (rest := [.ref (a0 70)]) hx hb hml hown hts hK hA hZ hl.1 hP hD hS (c_X13_at  hq17) (gSt mlX13_586 stX13_at inX13 coX13_at) rfl qnX13_at rfl rfl ⟨Nat.le_of_ble_eq_true rfl, Nat.le_of_ble_eq_true rfl⟩ rfl rfl (Nat.le_of_ble_eq_true rfl) ⟨Nat.zero_le _, Nat.zero_le _⟩ dX13_backOnce_122 (fun H locs hP hD hS => ?_)
          refine lv_dup2_11 hx hb dX13_backOnce_125 rfl rfl ?_
          refine va_iald (f := r0 70) hx hb hK hP 40 0 rfl rfl (ck_in hf) dX13_backOnce_126 ?_
          have hf := ck_2 hf
          refine lv_iconst (v := 1) hx hb dX13_backOnce_127 (by decide) ?_
          refine lv_iload_n hx hb dX13_backOnce_128 rfl (lv_at hl 5 rfl) ?_
          refine lv_iconst (v := 2) hx hb dX13_backOnce_129 (by decide) ?_
          refine lv_ixor hx hb dX13_backOnce_130 ?_
          refine lv_ishl hx hb dX13_backOnce_131 ?_
          refine lv_ior hx hb dX13_backOnce_132 ?_
          refine va_iast (f := r0 70) hx hb hK hP hD hS 40 0 rfl rfl (ck_in hf) dX13_backOnce_133 (fun H locs hP hD hS => ?_)
          have hf := ck_2 hf
          obtain ⟨hP, hD⟩ := st13_70 hP hD
          exact w_X13_backOnce_134 C _ (hK23) _ (hK33) _ (ih) _ _ _ _ _ _ _ hf hP hD hS (lv_sub hl [2, 3, 4, 5] rfl)
        · have hf := ite_f hf hc
          refine lv_aload_n hx hb dX13_backOnce_95 rfl (lv_at hl 2 rfl) ?_
          refine va_get (D := D) (ci := 13) (v := .ref (a0 70)) (C := RX13) (T := TX13) (N := 87) hx hb hts hiX13 hown hK hP 0 rfl rfl 70 (by decide) (hts _ flX13_243) (fun _ h9 => h9) rfl dX13_backOnce_96 ?_
          refine lv_iload hx hb dX13_backOnce_99 (lv_at hl 1 rfl) ?_
          refine lv_iload hx hb dX13_backOnce_101 (lv_at hl 0 rfl) ?_
          obtain ⟨q18, hq18, hf⟩ := bd_s hf
          refine k_eSi (As := [.int (x2 - q14), .int (x1 - q15)]) (rest := [.ref (a0 70)]) hx hb hml hown hts hK hA hZ hl.1 hP hD hS (c_X13_at  hq18) (gSt mlX13_586 stX13_at inX13 coX13_at) rfl qnX13_at rfl rfl ⟨Nat.le_of_ble_eq_true rfl, Nat.le_of_ble_eq_true rfl⟩ rfl rfl (Nat.le_of_ble_eq_true rfl) ⟨Nat.zero_le _, Nat.zero_le _⟩ dX13_backOnce_103 (fun H locs hP hD hS => ?_)
          refine lv_dup2_11 hx hb dX13_backOnce_106 rfl rfl ?_
          refine va_iald (f := r0 70) hx hb hK hP 40 0 rfl rfl (ck_in hf) dX13_backOnce_107 ?_
          have hf := ck_2 hf
          refine lv_iconst (v := 1) hx hb dX13_backOnce_108 (by decide) ?_
          refine lv_iload_n hx hb dX13_backOnce_109 rfl (lv_at hl 5 rfl) ?_
          refine lv_ishl hx hb dX13_backOnce_110 ?_
          refine lv_ior hx hb dX13_backOnce_111 ?_
          refine va_iast (f := r0 70) hx hb hK hP hD hS 40 0 rfl rfl (ck_in hf) dX13_backOnce_112 (fun H locs hP hD hS => ?_)
          have hf := ck_2 hf
          obtain ⟨hP, hD⟩ := st13_70 hP hD
          refine lv_goto (tgt := 134) hx hb dX13_backOnce_113 (by decide) ?_
          exact w_X13_backOnce_134 C _ (hK23) _ (hK33) _ (ih) _ _ _ _ _ _ _ hf hP hD hS (lv_sub hl [2, 3, 4, 5] rfl)
      · have hf := ite_t hf hc
        refine lv_goto (tgt := 134) hx hb dX13_backOnce_65 (by decide) ?_
        exact w_X13_backOnce_134 C _ (hK23) _ (hK33) _ (ih) _ _ _ _ _ _ _ hf hP hD hS (lv_sub hl [0, 1, 2, 3] rfl)
def f_X13_backOnce_33 (i0 : Nat → Int32) (l0 : Nat → Nat → Int64) (K23 : (Nat → Nat → Int32) → Int32 → Option ((Nat → Nat → Int32))) : Nat → (Nat → Nat → Int32) → Int32 → Int32 → Option ((Nat → Nat → Int32))
  | 0, _, _, _ => none
  | n + 1, r0, x1, x2 => if (i0 64) ≤ x2 then (K23 r0 (x1 + 1)) else (f_X13_backOnce_43 i0 l0 K23 (f_X13_backOnce_33 i0 l0 K23 n) 2000000 r0 x1 x2 0)
set_option maxRecDepth 100000 in
set_option maxHeartbeats 4000000 in
theorem w_X13_backOnce_33 {p : Program} {l : Launch} {e : Env} {s : State} {m : MethodId} {args : Array Value} {below : List Frame} {meth : Method} {c : Code} {A : Nat → Prop} {D : va_G} {cs zs : Nat → Nat} {h0 : Nat} {a0 : Nat → Nat} {i0 : Nat → Int32} {l0 : Nat → Nat → Int64} {q : (Nat → Nat → Int32)} (C : Cx p s m args meth c A D cs zs cX13_backOnce 6 none RX13) (K23 : (Nat → Nat → Int32) → Int32 → Option ((Nat → Nat → Int32))) (hK23 : ∀ (r0 : Nat → Nat → Int32) (x1 : Int32) (H : Heap) (locs : List Loc) (ls : Array Slot), K23 r0 x1 = some q → va_P D vwCl (W13 cs h0 a0 i0 r0 l0) H → va_D A (W13 cs h0 a0 i0 r0 l0) → va_S A s.heap H locs → lv_has ls 6 [(0, .ref h0), (1, .int x1)] → W p l e rmX13_backOnce s m args below meth c H locs 0 0 (MQ below (Qv D cs A (W13 cs h0 a0 i0 q l0)) args s 0 0 A) (F0 m 23 ls [])) : ∀ (n : Nat), ∀ (r0 : Nat → Nat → Int32) (x1 : Int32) (x2 : Int32) (H : Heap) (locs : List Loc) (ls : Array Slot), f_X13_backOnce_33 i0 l0 K23 n r0 x1 x2 = some q → va_P D vwCl (W13 cs h0 a0 i0 r0 l0) H → va_D A (W13 cs h0 a0 i0 r0 l0) → va_S A s.heap H locs → lv_has ls 6 [(0, .ref h0), (1, .int x1), (2, .int x2)] → W p l e rmX13_backOnce s m args below meth c H locs 0 0 (MQ below (Qv D cs A (W13 cs h0 a0 i0 q l0)) args s 0 0 A) (F0 m 33 ls []) := by
  obtain ⟨hx, hb, hr, hml, hown, hts, hK, hA, hlocks, hZ⟩ := id C
  intro n
  induction n with
  | zero =>
    intro r0 x1 x2 H locs ls hf
    rw [f_X13_backOnce_33] at hf
    cases hf
  | succ n ih =>
    intro r0 x1 x2 H locs ls hf hP hD hS hl
    rw [f_X13_backOnce_33] at hf
    refine lv_iload_n hx hb dX13_backOnce_33 rfl (lv_at hl 2 rfl) ?_
    refine lv_aload_n hx hb dX13_backOnce_34 rfl (lv_at hl 0 rfl) ?_
    refine va_get (D := D) (ci := 13) (v := .int (i0 64)) (C := RX13) (T := TX13) (N := 87) hx hb hts hiX13 hown hK hP 0 rfl rfl 64 (by decide) (hts _ flX13_279) (fun _ h9 => h9) rfl dX13_backOnce_35 ?_
    refine lv_icmp_ge (tgt := 146) hx hb dX13_backOnce_38 (by decide) (fun hc => ?_) (fun hc => ?_)
    · have hf := ite_t hf hc
      refine lv_iinc (v := x1 + 1) (lv' := [(1, .int (x1 + 1)), (0, .ref h0), (2, .int x2)]) hx hb dX13_backOnce_146 hl (k := 1) rfl rfl (by decide) rfl (fun ls hl => ?_)
      refine lv_goto (tgt := 23) hx hb dX13_backOnce_149 (by decide) ?_
      exact hK23 _ _ _ _ _ hf hP hD hS (lv_sub hl [1, 0] rfl)
    · have hf := ite_f hf hc
      refine lv_iconst (v := 0) hx hb dX13_backOnce_41 (by decide) ?_
      refine lv_istore_n (lv' := [(3, .int 0), (0, .ref h0), (1, .int x1), (2, .int x2)]) hx hb dX13_backOnce_42 rfl hl (by decide) rfl (fun ls hl => ?_)
      exact w_X13_backOnce_43 C _ (hK23) _ (ih) 2000000 _ _ _ _ _ _ _ hf hP hD hS (lv_sub hl [1, 2, 3, 0] rfl)
def f_X13_backOnce_232 (i0 : Nat → Int32) (l0 : Nat → Nat → Int64) (K154 : (Nat → Nat → Int32) → Int32 → Option ((Nat → Nat → Int32))) (K164 : (Nat → Nat → Int32) → Int32 → Int32 → Option ((Nat → Nat → Int32))) (r0 : Nat → Nat → Int32) (x1 : Int32) (x2 : Int32) (y0 : Int32) (y1 : Int32) : Option ((Nat → Nat → Int32)) := ck (inb y1 100) (K164 (va_up r0 69 (upd (r0 69) y1.toNatClampNeg y0)) x1 (x2 + 1))
set_option maxRecDepth 100000 in
set_option maxHeartbeats 4000000 in
theorem w_X13_backOnce_232 {p : Program} {l : Launch} {e : Env} {s : State} {m : MethodId} {args : Array Value} {below : List Frame} {meth : Method} {c : Code} {A : Nat → Prop} {D : va_G} {cs zs : Nat → Nat} {h0 : Nat} {a0 : Nat → Nat} {i0 : Nat → Int32} {l0 : Nat → Nat → Int64} {q : (Nat → Nat → Int32)} (C : Cx p s m args meth c A D cs zs cX13_backOnce 6 none RX13) (K154 : (Nat → Nat → Int32) → Int32 → Option ((Nat → Nat → Int32))) (hK154 : ∀ (r0 : Nat → Nat → Int32) (x1 : Int32) (H : Heap) (locs : List Loc) (ls : Array Slot), K154 r0 x1 = some q → va_P D vwCl (W13 cs h0 a0 i0 r0 l0) H → va_D A (W13 cs h0 a0 i0 r0 l0) → va_S A s.heap H locs → lv_has ls 6 [(0, .ref h0), (1, .int x1)] → W p l e rmX13_backOnce s m args below meth c H locs 0 0 (MQ below (Qv D cs A (W13 cs h0 a0 i0 q l0)) args s 0 0 A) (F0 m 154 ls [])) (K164 : (Nat → Nat → Int32) → Int32 → Int32 → Option ((Nat → Nat → Int32))) (hK164 : ∀ (r0 : Nat → Nat → Int32) (x1 : Int32) (x2 : Int32) (H : Heap) (locs : List Loc) (ls : Array Slot), K164 r0 x1 x2 = some q → va_P D vwCl (W13 cs h0 a0 i0 r0 l0) H → va_D A (W13 cs h0 a0 i0 r0 l0) → va_S A s.heap H locs → lv_has ls 6 [(0, .ref h0), (1, .int x1), (2, .int x2)] → W p l e rmX13_backOnce s m args below meth c H locs 0 0 (MQ below (Qv D cs A (W13 cs h0 a0 i0 q l0)) args s 0 0 A) (F0 m 164 ls [])) : ∀ (r0 : Nat → Nat → Int32) (x1 : Int32) (x2 : Int32) (y0 : Int32) (y1 : Int32) (H : Heap) (locs : List Loc) (ls : Array Slot), f_X13_backOnce_232 i0 l0 K154 K164 r0 x1 x2 y0 y1 = some q → va_P D vwCl (W13 cs h0 a0 i0 r0 l0) H → va_D A (W13 cs h0 a0 i0 r0 l0) → va_S A s.heap H locs → lv_has ls 6 [(0, .ref h0), (1, .int x1), (2, .int x2)] → W p l e rmX13_backOnce s m args below meth c H locs 0 0 (MQ below (Qv D cs A (W13 cs h0 a0 i0 q l0)) args s 0 0 A) (F0 m 232 ls [.int y0, .int y1, .ref (a0 69)]) := by
  obtain ⟨hx, hb, hr, hml, hown, hts, hK, hA, hlocks, hZ⟩ := id C
  intro r0 x1 x2 y0 y1 H locs ls hf hP hD hS hl
  rw [f_X13_backOnce_232] at hf
  refine va_iast (f := r0 69) hx hb hK hP hD hS 39 0 rfl rfl (ck_in hf) dX13_backOnce_232 (fun H locs hP hD hS => ?_)
  have hf := ck_2 hf
  obtain ⟨hP, hD⟩ := st13_69 hP hD
  refine lv_iinc (v := x2 + 1) (lv' := [(2, .int (x2 + 1)), (0, .ref h0), (1, .int x1)]) hx hb dX13_backOnce_233 hl (k := 2) rfl rfl (by decide) rfl (fun ls hl => ?_)
  refine lv_goto (tgt := 164) hx hb dX13_backOnce_236 (by decide) ?_
  exact hK164 _ _ _ _ _ _ hf hP hD hS (lv_sub hl [1, 2, 0] rfl)
def f_X13_backOnce_164 (i0 : Nat → Int32) (l0 : Nat → Nat → Int64) (K154 : (Nat → Nat → Int32) → Int32 → Option ((Nat → Nat → Int32))) : Nat → (Nat → Nat → Int32) → Int32 → Int32 → Option ((Nat → Nat → Int32))
  | 0, _, _, _ => none
  | n + 1, r0, x1, x2 => if (i0 64) ≤ x2 then (K154 r0 (x1 + 1)) else (bd (f_X13_at x2 x1) (fun q19 => bd (f_X13_at x2 x1) (fun q20 => ck (inb q20 100) (if (r0 68 q20.toNatClampNeg) = 3 then (bd (f_X13_at x2 x1) (fun q24 => ck (inb q24 100) (f_X13_backOnce_232 i0 l0 K154 (f_X13_backOnce_164 i0 l0 K154 n) r0 x1 x2 (r0 70 q24.toNatClampNeg) q19))) else (bd (f_X13_at x2 x1) (fun q21 => ck (inb q21 100) (bd (f_X13_at x2 x1) (fun q22 => ck (inb q22 100) (bd (f_X13_turn i0 r0 l0 (r0 68 q21.toNatClampNeg) (r0 70 q22.toNatClampNeg)) (fun q23 => f_X13_backOnce_232 i0 l0 K154 (f_X13_backOnce_164 i0 l0 K154 n) r0 x1 x2 q23 q19))))))))))
set_option maxRecDepth 100000 in
set_option maxHeartbeats 4000000 in
theorem w_X13_backOnce_164 {p : Program} {l : Launch} {e : Env} {s : State} {m : MethodId} {args : Array Value} {below : List Frame} {meth : Method} {c : Code} {A : Nat → Prop} {D : va_G} {cs zs : Nat → Nat} {h0 : Nat} {a0 : Nat → Nat} {i0 : Nat → Int32} {l0 : Nat → Nat → Int64} {q : (Nat → Nat → Int32)} (C : Cx p s m args meth c A D cs zs cX13_backOnce 6 none RX13) (K154 : (Nat → Nat → Int32) → Int32 → Option ((Nat → Nat → Int32))) (hK154 : ∀ (r0 : Nat → Nat → Int32) (x1 : Int32) (H : Heap) (locs : List Loc) (ls : Array Slot), K154 r0 x1 = some q → va_P D vwCl (W13 cs h0 a0 i0 r0 l0) H → va_D A (W13 cs h0 a0 i0 r0 l0) → va_S A s.heap H locs → lv_has ls 6 [(0, .ref h0), (1, .int x1)] → W p l e rmX13_backOnce s m args below meth c H locs 0 0 (MQ below (Qv D cs A (W13 cs h0 a0 i0 q l0)) args s 0 0 A) (F0 m 154 ls [])) : ∀ (n : Nat), ∀ (r0 : Nat → Nat → Int32) (x1 : Int32) (x2 : Int32) (H : Heap) (locs : List Loc) (ls : Array Slot), f_X13_backOnce_164 i0 l0 K154 n r0 x1 x2 = some q → va_P D vwCl (W13 cs h0 a0 i0 r0 l0) H → va_D A (W13 cs h0 a0 i0 r0 l0) → va_S A s.heap H locs → lv_has ls 6 [(0, .ref h0), (1, .int x1), (2, .int x2)] → W p l e rmX13_backOnce s m args below meth c H locs 0 0 (MQ below (Qv D cs A (W13 cs h0 a0 i0 q l0)) args s 0 0 A) (F0 m 164 ls []) := by
  obtain ⟨hx, hb, hr, hml, hown, hts, hK, hA, hlocks, hZ⟩ := id C
  intro n
  induction n with
  | zero =>
    intro r0 x1 x2 H locs ls hf
    rw [f_X13_backOnce_164] at hf
    cases hf
  | succ n ih =>
    intro r0 x1 x2 H locs ls hf hP hD hS hl
    rw [f_X13_backOnce_164] at hf
    refine lv_iload_n hx hb dX13_backOnce_164 rfl (lv_at hl 2 rfl) ?_
    refine lv_aload_n hx hb dX13_backOnce_165 rfl (lv_at hl 0 rfl) ?_
    refine va_get (D := D) (ci := 13) (v := .int (i0 64)) (C := RX13) (T := TX13) (N := 87) hx hb hts hiX13 hown hK hP 0 rfl rfl 64 (by decide) (hts _ flX13_279) (fun _ h9 => h9) rfl dX13_backOnce_166 ?_
    refine lv_icmp_ge (tgt := 239) hx hb dX13_backOnce_169 (by decide) (fun hc => ?_) (fun hc => ?_)
    · have hf := ite_t hf hc
      refine lv_iinc (v := x1 + 1) (lv' := [(1, .int (x1 + 1)), (0, .ref h0), (2, .int x2)]) hx hb dX13_backOnce_239 hl (k := 1) rfl rfl (by decide) rfl (fun ls hl => ?_)
      refine lv_goto (tgt := 154) hx hb dX13_backOnce_242 (by decide) ?_
      exact hK154 _ _ _ _ _ hf hP hD hS (lv_sub hl [1, 0] rfl)
    · have hf := ite_f hf hc
      refine lv_aload_n hx hb dX13_backOnce_172 rfl (lv_at hl 0 rfl) ?_
      refine va_get (D := D) (ci := 13) (v := .ref (a0 69)) (C := RX13) (T := TX13) (N := 87) hx hb hts hiX13 hown hK hP 0 rfl rfl 69 (by decide) (hts _ flX13_240) (fun _ h9 => h9) rfl dX13_backOnce_173 ?_
      refine lv_iload_n hx hb dX13_backOnce_176 rfl (lv_at hl 2 rfl) ?_
      refine lv_iload_n hx hb dX13_backOnce_177 rfl (lv_at hl 1 rfl) ?_
      obtain ⟨q19, hq19, hf⟩ := bd_s hf
      refine k_eSi (As := [.int x2, .int x1]) (rest := [.ref (a0 69)]) hx hb hml hown hts hK hA hZ hl.1 hP hD hS (c_X13_at  hq19) (gSt mlX13_586 stX13_at inX13 coX13_at) rfl qnX13_at rfl rfl ⟨Nat.le_of_ble_eq_true rfl, Nat.le_of_ble_eq_true rfl⟩ rfl rfl (Nat.le_of_ble_eq_true rfl) ⟨Nat.zero_le _, Nat.zero_le _⟩ dX13_backOnce_178 (fun H locs hP hD hS => ?_)
      refine lv_aload_n hx hb dX13_backOnce_181 rfl (lv_at hl 0 rfl) ?_
      refine va_get (D := D) (ci := 13) (v := .ref (a0 68)) (C := RX13) (T := TX13) (N := 87) hx hb hts hiX13 hown hK hP 0 rfl rfl 68 (by decide) (hts _ flX13_237) (fun _ h9 => h9) rfl dX13_backOnce_182 ?_
      refine lv_iload_n hx hb dX13_backOnce_185 rfl (lv_at hl 2 rfl) ?_
      refine lv_iload_n hx hb dX13_backOnce_186 rfl (lv_at hl 1 rfl) ?_
      obtain ⟨q20, hq20, hf⟩ := bd_s hf
      refine k_eSi (As := [.int x2, .int x1]) (rest := [.ref (a0 68), .int q19, .ref (a0 69)]) hx hb hml hown hts hK hA hZ hl.1 hP hD hS (c_X13_at  hq20) (gSt mlX13_586 stX13_at inX13 coX13_at) rfl qnX13_at rfl rfl ⟨Nat.le_of_ble_eq_true rfl, Nat.le_of_ble_eq_true rfl⟩ rfl rfl (Nat.le_of_ble_eq_true rfl) ⟨Nat.zero_le _, Nat.zero_le _⟩ dX13_backOnce_187 (fun H locs hP hD hS => ?_)
      refine va_iald (f := r0 68) hx hb hK hP 38 0 rfl rfl (ck_in hf) dX13_backOnce_190 ?_
      have hf := ck_2 hf
      refine lv_iconst (v := 3) hx hb dX13_backOnce_191 (by decide) ?_
      refine lv_icmp_ne (tgt := 208) hx hb dX13_backOnce_192 (by decide) (fun hc => ?_) (fun hc => ?_)
      · have hf := ite_f hf hc
        refine lv_aload_n hx hb dX13_backOnce_208 rfl (lv_at hl 0 rfl) ?_
        refine lv_aload_n hx hb dX13_backOnce_209 rfl (lv_at hl 0 rfl) ?_
        refine va_get (D := D) (ci := 13) (v := .ref (a0 68)) (C := RX13) (T := TX13) (N := 87) hx hb hts hiX13 hown hK hP 0 rfl rfl 68 (by decide) (hts _ flX13_237) (fun _ h9 => h9) rfl dX13_backOnce_210 ?_
        refine lv_iload_n hx hb dX13_backOnce_213 rfl (lv_at hl 2 rfl) ?_
        refine lv_iload_n hx hb dX13_backOnce_214 rfl (lv_at hl 1 rfl) ?_
        obtain ⟨q21, hq21, hf⟩ := bd_s hf
        refine k_eSi (As := [.int x2, .int x1]) (rest := [.ref (a0 68), .ref h0, .int q19, .ref (a0 69)]) hx hb hml hown hts hK hA hZ hl.1 hP hD hS (c_X13_at  hq21) (gSt mlX13_586 stX13_at inX13 coX13_at) rfl qnX13_at rfl rfl ⟨Nat.le_of_ble_eq_true rfl, Nat.le_of_ble_eq_true rfl⟩ rfl rfl (Nat.le_of_ble_eq_true rfl) ⟨Nat.zero_le _, Nat.zero_le _⟩ dX13_backOnce_215 (fun H locs hP hD hS => ?_)
        refine va_iald (f := r0 68) hx hb hK hP 38 0 rfl rfl (ck_in hf) dX13_backOnce_218 ?_
        have hf := ck_2 hf
        refine lv_aload_n hx hb dX13_backOnce_219 rfl (lv_at hl 0 rfl) ?_
        refine va_get (D := D) (ci := 13) (v := .ref (a0 70)) (C := RX13) (T := TX13) (N := 87) hx hb hts hiX13 hown hK hP 0 rfl rfl 70 (by decide) (hts _ flX13_243) (fun _ h9 => h9) rfl dX13_backOnce_220 ?_
        refine lv_iload_n hx hb dX13_backOnce_223 rfl (lv_at hl 2 rfl) ?_
        refine lv_iload_n hx hb dX13_backOnce_224 rfl (lv_at hl 1 rfl) ?_
        obtain ⟨q22, hq22, hf⟩ := bd_s hf
        refine k_eSi (As := [.int x2, .int x1]) (rest := [.ref (a0 70), .int (r0 68 q21.toNatClampNeg), .ref h0, .int q19, .ref (a0 69)]) hx hb hml hown hts hK hA hZ hl.1 hP hD hS (c_X13_at  hq22) (gSt mlX13_586 stX13_at inX13 coX13_at) rfl qnX13_at rfl rfl ⟨Nat.le_of_ble_eq_true rfl, Nat.le_of_ble_eq_true rfl⟩ rfl rfl (Nat.le_of_ble_eq_true rfl) ⟨Nat.zero_le _, Nat.zero_le _⟩ dX13_backOnce_225 (fun H locs hP hD hS => ?_)
        refine va_iald (f := r0 70) hx hb hK hP 40 0 rfl rfl (ck_in hf) dX13_backOnce_228 ?_
        have hf := ck_2 hf
        obtain ⟨q23, hq23, hf⟩ := bd_s hf
        refine k_sVi (ws2 := W13 cs h0 a0 i0 r0 l0) (As := [.int (r0 68 q21.toNatClampNeg), .int (r0 70 q22.toNatClampNeg)]) (rest := [.int q19, .ref (a0 69)]) hx hb hml hown hts hK hA hZ hl.1 hP hD hS (c_X13_turn (h0 := h0) (a0 := a0) hq23) (gVt mlX13_589 imX13_turn seX13_turn inX13 coX13_turn) rfl qnX13_turn rfl rfl ⟨Nat.le_of_ble_eq_true rfl, Nat.le_of_ble_eq_true rfl⟩ 0 13 rfl rfl rfl rfl rfl (Nat.le_of_ble_eq_true rfl) ⟨Nat.zero_le _, Nat.zero_le _⟩ dX13_backOnce_229 (fun H locs hP hD hS => ?_)
        exact w_X13_backOnce_232 C _ (hK154) _ (ih) _ _ _ _ _ _ _ _ hf hP hD hS (lv_sub hl [0, 1, 2] rfl)
      · have hf := ite_t hf hc
        refine lv_aload_n hx hb dX13_backOnce_195 rfl (lv_at hl 0 rfl) ?_
        refine va_get (D := D) (ci := 13) (v := .ref (a0 70)) (C := RX13) (T := TX13) (N := 87) hx hb hts hiX13 hown hK hP 0 rfl rfl 70 (by decide) (hts _ flX13_243) (fun _ h9 => h9) rfl dX13_backOnce_196 ?_
        refine lv_iload_n hx hb dX13_backOnce_199 rfl (lv_at hl 2 rfl) ?_
        refine lv_iload_n hx hb dX13_backOnce_200 rfl (lv_at hl 1 rfl) ?_
        obtain ⟨q24, hq24, hf⟩ := bd_s hf
        refine k_eSi (As := [.int x2, .int x1]) (rest := [.ref (a0 70), .int q19, .ref (a0 69)]) hx hb hml hown hts hK hA hZ hl.1 hP hD hS (c_X13_at  hq24) (gSt mlX13_586 stX13_at inX13 coX13_at) rfl qnX13_at rfl rfl ⟨Nat.le_of_ble_eq_true rfl, Nat.le_of_ble_eq_true rfl⟩ rfl rfl (Nat.le_of_ble_eq_true rfl) ⟨Nat.zero_le _, Nat.zero_le _⟩ dX13_backOnce_201 (fun H locs hP hD hS => ?_)
        refine va_iald (f := r0 70) hx hb hK hP 40 0 rfl rfl (ck_in hf) dX13_backOnce_204 ?_
        have hf := ck_2 hf
        refine lv_goto (tgt := 232) hx hb dX13_backOnce_205 (by decide) ?_
        exact w_X13_backOnce_232 C _ (hK154) _ (ih) _ _ _ _ _ _ _ _ hf hP hD hS (lv_sub hl [0, 1, 2] rfl)
def f_X13_backOnce_154 (i0 : Nat → Int32) (l0 : Nat → Nat → Int64)  : Nat → (Nat → Nat → Int32) → Int32 → Option ((Nat → Nat → Int32))
  | 0, _, _ => none
  | n + 1, r0, x1 => if (i0 65) ≤ x1 then (some (r0)) else (f_X13_backOnce_164 i0 l0 (f_X13_backOnce_154 i0 l0 n) 2000000 r0 x1 0)
set_option maxRecDepth 100000 in
set_option maxHeartbeats 4000000 in
theorem w_X13_backOnce_154 {p : Program} {l : Launch} {e : Env} {s : State} {m : MethodId} {args : Array Value} {below : List Frame} {meth : Method} {c : Code} {A : Nat → Prop} {D : va_G} {cs zs : Nat → Nat} {h0 : Nat} {a0 : Nat → Nat} {i0 : Nat → Int32} {l0 : Nat → Nat → Int64} {q : (Nat → Nat → Int32)} (C : Cx p s m args meth c A D cs zs cX13_backOnce 6 none RX13)  : ∀ (n : Nat), ∀ (r0 : Nat → Nat → Int32) (x1 : Int32) (H : Heap) (locs : List Loc) (ls : Array Slot), f_X13_backOnce_154 i0 l0 n r0 x1 = some q → va_P D vwCl (W13 cs h0 a0 i0 r0 l0) H → va_D A (W13 cs h0 a0 i0 r0 l0) → va_S A s.heap H locs → lv_has ls 6 [(0, .ref h0), (1, .int x1)] → W p l e rmX13_backOnce s m args below meth c H locs 0 0 (MQ below (Qv D cs A (W13 cs h0 a0 i0 q l0)) args s 0 0 A) (F0 m 154 ls []) := by
  obtain ⟨hx, hb, hr, hml, hown, hts, hK, hA, hlocks, hZ⟩ := id C
  intro n
  induction n with
  | zero =>
    intro r0 x1 H locs ls hf
    rw [f_X13_backOnce_154] at hf
    cases hf
  | succ n ih =>
    intro r0 x1 H locs ls hf hP hD hS hl
    rw [f_X13_backOnce_154] at hf
    refine lv_iload_n hx hb dX13_backOnce_154 rfl (lv_at hl 1 rfl) ?_
    refine lv_aload_n hx hb dX13_backOnce_155 rfl (lv_at hl 0 rfl) ?_
    refine va_get (D := D) (ci := 13) (v := .int (i0 65)) (C := RX13) (T := TX13) (N := 87) hx hb hts hiX13 hown hK hP 0 rfl rfl 65 (by decide) (hts _ flX13_282) (fun _ h9 => h9) rfl dX13_backOnce_156 ?_
    refine lv_icmp_ge (tgt := 245) hx hb dX13_backOnce_159 (by decide) (fun hc => ?_) (fun hc => ?_)
    · have hf := ite_t hf hc
      obtain rfl := Option.some.inj hf
      exact k_vret hx hb hr hlocks hK hP hD hS dX13_backOnce_245
    · have hf := ite_f hf hc
      refine lv_iconst (v := 0) hx hb dX13_backOnce_162 (by decide) ?_
      refine lv_istore_n (lv' := [(2, .int 0), (0, .ref h0), (1, .int x1)]) hx hb dX13_backOnce_163 rfl hl (by decide) rfl (fun ls hl => ?_)
      exact w_X13_backOnce_164 C _ (ih) 2000000 _ _ _ _ _ _ hf hP hD hS (lv_sub hl [1, 2, 0] rfl)
def f_X13_backOnce_23 (i0 : Nat → Int32) (l0 : Nat → Nat → Int64)  : Nat → (Nat → Nat → Int32) → Int32 → Option ((Nat → Nat → Int32))
  | 0, _, _ => none
  | n + 1, r0, x1 => if (i0 65) ≤ x1 then (f_X13_backOnce_154 i0 l0 2000000 r0 0) else (f_X13_backOnce_33 i0 l0 (f_X13_backOnce_23 i0 l0 n) 2000000 r0 x1 0)
set_option maxRecDepth 100000 in
set_option maxHeartbeats 4000000 in
theorem w_X13_backOnce_23 {p : Program} {l : Launch} {e : Env} {s : State} {m : MethodId} {args : Array Value} {below : List Frame} {meth : Method} {c : Code} {A : Nat → Prop} {D : va_G} {cs zs : Nat → Nat} {h0 : Nat} {a0 : Nat → Nat} {i0 : Nat → Int32} {l0 : Nat → Nat → Int64} {q : (Nat → Nat → Int32)} (C : Cx p s m args meth c A D cs zs cX13_backOnce 6 none RX13)  : ∀ (n : Nat), ∀ (r0 : Nat → Nat → Int32) (x1 : Int32) (H : Heap) (locs : List Loc) (ls : Array Slot), f_X13_backOnce_23 i0 l0 n r0 x1 = some q → va_P D vwCl (W13 cs h0 a0 i0 r0 l0) H → va_D A (W13 cs h0 a0 i0 r0 l0) → va_S A s.heap H locs → lv_has ls 6 [(0, .ref h0), (1, .int x1)] → W p l e rmX13_backOnce s m args below meth c H locs 0 0 (MQ below (Qv D cs A (W13 cs h0 a0 i0 q l0)) args s 0 0 A) (F0 m 23 ls []) := by
  obtain ⟨hx, hb, hr, hml, hown, hts, hK, hA, hlocks, hZ⟩ := id C
  intro n
  induction n with
  | zero =>
    intro r0 x1 H locs ls hf
    rw [f_X13_backOnce_23] at hf
    cases hf
  | succ n ih =>
    intro r0 x1 H locs ls hf hP hD hS hl
    rw [f_X13_backOnce_23] at hf
    refine lv_iload_n hx hb dX13_backOnce_23 rfl (lv_at hl 1 rfl) ?_
    refine lv_aload_n hx hb dX13_backOnce_24 rfl (lv_at hl 0 rfl) ?_
    refine va_get (D := D) (ci := 13) (v := .int (i0 65)) (C := RX13) (T := TX13) (N := 87) hx hb hts hiX13 hown hK hP 0 rfl rfl 65 (by decide) (hts _ flX13_282) (fun _ h9 => h9) rfl dX13_backOnce_25 ?_
    refine lv_icmp_ge (tgt := 152) hx hb dX13_backOnce_28 (by decide) (fun hc => ?_) (fun hc => ?_)
    · have hf := ite_t hf hc
      refine lv_iconst (v := 0) hx hb dX13_backOnce_152 (by decide) ?_
      refine lv_istore_n (lv' := [(1, .int 0), (0, .ref h0)]) hx hb dX13_backOnce_153 rfl hl (by decide) rfl (fun ls hl => ?_)
      exact w_X13_backOnce_154 C  2000000 _ _ _ _ _ hf hP hD hS (lv_sub hl [1, 0] rfl)
    · have hf := ite_f hf hc
      refine lv_iconst (v := 0) hx hb dX13_backOnce_31 (by decide) ?_
      refine lv_istore_n (lv' := [(2, .int 0), (0, .ref h0), (1, .int x1)]) hx hb dX13_backOnce_32 rfl hl (by decide) rfl (fun ls hl => ?_)
      exact w_X13_backOnce_33 C _ (ih) 2000000 _ _ _ _ _ _ hf hP hD hS (lv_sub hl [1, 2, 0] rfl)
def f_X13_backOnce_2 (i0 : Nat → Int32) (l0 : Nat → Nat → Int64)  : Nat → (Nat → Nat → Int32) → Int32 → Option ((Nat → Nat → Int32))
  | 0, _, _ => none
  | n + 1, r0, x1 => if 100 ≤ x1 then (f_X13_backOnce_23 i0 l0 2000000 r0 0) else (ck (inb x1 100) (f_X13_backOnce_2 i0 l0 n (va_up r0 70 (upd (r0 70) x1.toNatClampNeg 0)) (x1 + 1)))
set_option maxRecDepth 100000 in
set_option maxHeartbeats 4000000 in
theorem w_X13_backOnce_2 {p : Program} {l : Launch} {e : Env} {s : State} {m : MethodId} {args : Array Value} {below : List Frame} {meth : Method} {c : Code} {A : Nat → Prop} {D : va_G} {cs zs : Nat → Nat} {h0 : Nat} {a0 : Nat → Nat} {i0 : Nat → Int32} {l0 : Nat → Nat → Int64} {q : (Nat → Nat → Int32)} (C : Cx p s m args meth c A D cs zs cX13_backOnce 6 none RX13)  : ∀ (n : Nat), ∀ (r0 : Nat → Nat → Int32) (x1 : Int32) (H : Heap) (locs : List Loc) (ls : Array Slot), f_X13_backOnce_2 i0 l0 n r0 x1 = some q → va_P D vwCl (W13 cs h0 a0 i0 r0 l0) H → va_D A (W13 cs h0 a0 i0 r0 l0) → va_S A s.heap H locs → lv_has ls 6 [(0, .ref h0), (1, .int x1)] → W p l e rmX13_backOnce s m args below meth c H locs 0 0 (MQ below (Qv D cs A (W13 cs h0 a0 i0 q l0)) args s 0 0 A) (F0 m 2 ls []) := by
  obtain ⟨hx, hb, hr, hml, hown, hts, hK, hA, hlocks, hZ⟩ := id C
  intro n
  induction n with
  | zero =>
    intro r0 x1 H locs ls hf
    rw [f_X13_backOnce_2] at hf
    cases hf
  | succ n ih =>
    intro r0 x1 H locs ls hf hP hD hS hl
    rw [f_X13_backOnce_2] at hf
    refine lv_iload_n hx hb dX13_backOnce_2 rfl (lv_at hl 1 rfl) ?_
    refine lv_bipush (v := 100) hx hb dX13_backOnce_3 (by decide) ?_
    refine lv_icmp_ge (tgt := 21) hx hb dX13_backOnce_5 (by decide) (fun hc => ?_) (fun hc => ?_)
    · have hf := ite_t hf hc
      refine lv_iconst (v := 0) hx hb dX13_backOnce_21 (by decide) ?_
      refine lv_istore_n (lv' := [(1, .int 0), (0, .ref h0)]) hx hb dX13_backOnce_22 rfl hl (by decide) rfl (fun ls hl => ?_)
      exact w_X13_backOnce_23 C  2000000 _ _ _ _ _ hf hP hD hS (lv_sub hl [1, 0] rfl)
    · have hf := ite_f hf hc
      refine lv_aload_n hx hb dX13_backOnce_8 rfl (lv_at hl 0 rfl) ?_
      refine va_get (D := D) (ci := 13) (v := .ref (a0 70)) (C := RX13) (T := TX13) (N := 87) hx hb hts hiX13 hown hK hP 0 rfl rfl 70 (by decide) (hts _ flX13_243) (fun _ h9 => h9) rfl dX13_backOnce_9 ?_
      refine lv_iload_n hx hb dX13_backOnce_12 rfl (lv_at hl 1 rfl) ?_
      refine lv_iconst (v := 0) hx hb dX13_backOnce_13 (by decide) ?_
      refine va_iast (f := r0 70) hx hb hK hP hD hS 40 0 rfl rfl (ck_in hf) dX13_backOnce_14 (fun H locs hP hD hS => ?_)
      have hf := ck_2 hf
      obtain ⟨hP, hD⟩ := st13_70 hP hD
      refine lv_iinc (v := x1 + 1) (lv' := [(1, .int (x1 + 1)), (0, .ref h0)]) hx hb dX13_backOnce_15 hl (k := 1) rfl rfl (by decide) rfl (fun ls hl => ?_)
      refine lv_goto (tgt := 2) hx hb dX13_backOnce_18 (by decide) ?_
      exact ih _ _ _ _ _ hf hP hD hS (lv_sub hl [1, 0] rfl)
def f_X13_backOnce  (i0 : Nat → Int32) (r0 : Nat → Nat → Int32) (l0 : Nat → Nat → Int64)  : Option ((Nat → Nat → Int32)) := f_X13_backOnce_2 i0 l0 2000000 r0 0
set_option maxRecDepth 100000 in
set_option maxHeartbeats 4000000 in
theorem c_X13_backOnce {l : Launch} {D : va_G} {cs zs : Nat → Nat} {h0 : Nat} {a0 : Nat → Nat} {i0 : Nat → Int32} {r0 : Nat → Nat → Int32} {l0 : Nat → Nat → Int64}  {q : (Nat → Nat → Int32)} (hf : f_X13_backOnce i0 r0 l0 = some q) : Mv l yX13_backOnce wlX13_backOnce rmX13_backOnce D cs zs [.ref h0] (W13 cs h0 a0 i0 r0 l0) (W13 cs h0 a0 i0 q l0) := by
  refine Mv.of RX13 (by decide) rfl (Nat.le_of_ble_eq_true rfl) (fun p e s m below meth c A C hP hD hS ls hl => ?_)
  generalize ([.ref h0] : List Value).toArray = args at C ⊢
  obtain ⟨hx, hb, hr, hml, hown, hts, hK, hA, hlocks, hZ⟩ := id C
  have hl : lv_has ls 6 [(0, .ref h0)] := hl
  rw [f_X13_backOnce] at hf
  refine lv_iconst (v := 0) hx hb dX13_backOnce_0 (by decide) ?_
  refine lv_istore_n (lv' := [(1, .int 0), (0, .ref h0)]) hx hb dX13_backOnce_1 rfl hl (by decide) rfl (fun ls hl => ?_)
  exact w_X13_backOnce_2 C  2000000 _ _ _ _ _ hf hP hD hS (lv_sub hl [1, 0] rfl)
/-! MarbleFloorModel.beat(I)I -/
abbrev wlX13_beat : List Cond := Cond.code yX13_beat cX13_beat 4 (some .int) :: tbG
abbrev rmX13_beat : Room := { frames := 3, cells := 0, slots := 0, locals := 74 }
theorem qnX13_beat : yX13_beat.cls = RX13 ∧ yX13_beat.cls ≠ "java/lang/invoke/MethodHandle" ∧ yX13_beat.cls ≠ "java/lang/invoke/VarHandle" ∧ (parseMethodDescriptor yX13_beat.desc).map (fun d => d.parameters.length) = some 1 := by decide +kernel
def f_X13_beat_58 (l0 : Nat → Nat → Int64) (K17 : (Nat → Int32) → (Nat → Nat → Int32) → Int32 → Int32 → Option (Int32 × (Nat → Int32) × (Nat → Nat → Int32))) (i0 : Nat → Int32) (r0 : Nat → Nat → Int32) (x1 : Int32) (x2 : Int32) (y0 : Int32) : Option (Int32 × (Nat → Int32) × (Nat → Nat → Int32)) := K17 (upd i0 67 y0) r0 x1 (x2 + 1)
set_option maxRecDepth 100000 in
set_option maxHeartbeats 4000000 in
theorem w_X13_beat_58 {p : Program} {l : Launch} {e : Env} {s : State} {m : MethodId} {args : Array Value} {below : List Frame} {meth : Method} {c : Code} {A : Nat → Prop} {D : va_G} {cs zs : Nat → Nat} {h0 : Nat} {a0 : Nat → Nat} {l0 : Nat → Nat → Int64} {q : Int32 × (Nat → Int32) × (Nat → Nat → Int32)} (C : Cx p s m args meth c A D cs zs cX13_beat 4 (some .int) RX13) (K17 : (Nat → Int32) → (Nat → Nat → Int32) → Int32 → Int32 → Option (Int32 × (Nat → Int32) × (Nat → Nat → Int32))) (hK17 : ∀ (i0 : Nat → Int32) (r0 : Nat → Nat → Int32) (x1 : Int32) (x2 : Int32) (H : Heap) (locs : List Loc) (ls : Array Slot), K17 i0 r0 x1 x2 = some q → va_P D vwCl (W13 cs h0 a0 i0 r0 l0) H → va_D A (W13 cs h0 a0 i0 r0 l0) → va_S A s.heap H locs → lv_has ls 4 [(0, .ref h0), (1, .int x1), (2, .int x2)] → W p l e rmX13_beat s m args below meth c H locs 0 0 (MQ below (Qi D cs A q.1 (W13 cs h0 a0 q.2.1 q.2.2 l0)) args s 0 0 A) (F0 m 17 ls [])) : ∀ (i0 : Nat → Int32) (r0 : Nat → Nat → Int32) (x1 : Int32) (x2 : Int32) (y0 : Int32) (H : Heap) (locs : List Loc) (ls : Array Slot), f_X13_beat_58 l0 K17 i0 r0 x1 x2 y0 = some q → va_P D vwCl (W13 cs h0 a0 i0 r0 l0) H → va_D A (W13 cs h0 a0 i0 r0 l0) → va_S A s.heap H locs → lv_has ls 4 [(0, .ref h0), (1, .int x1), (2, .int x2)] → W p l e rmX13_beat s m args below meth c H locs 0 0 (MQ below (Qi D cs A q.1 (W13 cs h0 a0 q.2.1 q.2.2 l0)) args s 0 0 A) (F0 m 58 ls [.int y0, .ref h0]) := by
  obtain ⟨hx, hb, hr, hml, hown, hts, hK, hA, hlocks, hZ⟩ := id C
  intro i0 r0 x1 x2 y0 H locs ls hf hP hD hS hl
  rw [f_X13_beat_58] at hf
  refine va_put (D := D) (ci := 13) (v := .int y0) (ty := .int) (C := RX13) (T := TX13) (N := 87) hx hb hts hiX13 tyX13 tyX13_ok nmX13 hown hK hP hD hS 0 rfl rfl 67 (by decide) (hts _ flX13_578) (fun _ h9 => h9) rfl (tyX13_ok 67 (by decide)) rfl rfl (Nat.le_of_ble_eq_true rfl) dX13_beat_58 (fun H locs hP hD hS => ?_)
  obtain ⟨hP, hD⟩ := st13_67 hP hD
  refine lv_iinc (v := x2 + 1) (lv' := [(2, .int (x2 + 1)), (0, .ref h0), (1, .int x1)]) hx hb dX13_beat_61 hl (k := 2) rfl rfl (by decide) rfl (fun ls hl => ?_)
  refine lv_goto (tgt := 17) hx hb dX13_beat_64 (by decide) ?_
  exact hK17 _ _ _ _ _ _ _ hf hP hD hS (lv_sub hl [1, 2, 0] rfl)
def f_X13_beat_17 (l0 : Nat → Nat → Int64)  : Nat → (Nat → Int32) → (Nat → Nat → Int32) → Int32 → Int32 → Option (Int32 × (Nat → Int32) × (Nat → Nat → Int32))
  | 0, _, _, _, _ => none
  | n + 1, i0, r0, x1, x2 => if x1 ≤ x2 then (bd (f_X13_ballsNow i0 r0 l0) (fun q4 => some (q4, i0, r0))) else (bd (f_X13_beatOnce i0 r0 l0) (fun q5 => if q5.1 ≤ 0 then (f_X13_beat_58 l0 (f_X13_beat_17 l0 n) (upd i0 66 ((i0 66) + q5.1)) q5.2 x1 x2 (if ((i0 67) + 1) < 1000000 then ((i0 67) + 1) else 1000000)) else (f_X13_beat_58 l0 (f_X13_beat_17 l0 n) (upd i0 66 ((i0 66) + q5.1)) q5.2 x1 x2 0)))
set_option maxRecDepth 100000 in
set_option maxHeartbeats 4000000 in
theorem w_X13_beat_17 {p : Program} {l : Launch} {e : Env} {s : State} {m : MethodId} {args : Array Value} {below : List Frame} {meth : Method} {c : Code} {A : Nat → Prop} {D : va_G} {cs zs : Nat → Nat} {h0 : Nat} {a0 : Nat → Nat} {l0 : Nat → Nat → Int64} {q : Int32 × (Nat → Int32) × (Nat → Nat → Int32)} (C : Cx p s m args meth c A D cs zs cX13_beat 4 (some .int) RX13)  : ∀ (n : Nat), ∀ (i0 : Nat → Int32) (r0 : Nat → Nat → Int32) (x1 : Int32) (x2 : Int32) (H : Heap) (locs : List Loc) (ls : Array Slot), f_X13_beat_17 l0 n i0 r0 x1 x2 = some q → va_P D vwCl (W13 cs h0 a0 i0 r0 l0) H → va_D A (W13 cs h0 a0 i0 r0 l0) → va_S A s.heap H locs → lv_has ls 4 [(0, .ref h0), (1, .int x1), (2, .int x2)] → W p l e rmX13_beat s m args below meth c H locs 0 0 (MQ below (Qi D cs A q.1 (W13 cs h0 a0 q.2.1 q.2.2 l0)) args s 0 0 A) (F0 m 17 ls []) := by
  obtain ⟨hx, hb, hr, hml, hown, hts, hK, hA, hlocks, hZ⟩ := id C
  intro n
  induction n with
  | zero =>
    intro i0 r0 x1 x2 H locs ls hf
    rw [f_X13_beat_17] at hf
    cases hf
  | succ n ih =>
    intro i0 r0 x1 x2 H locs ls hf hP hD hS hl
    rw [f_X13_beat_17] at hf
    refine lv_iload_n hx hb dX13_beat_17 rfl (lv_at hl 2 rfl) ?_
    refine lv_iload_n hx hb dX13_beat_18 rfl (lv_at hl 1 rfl) ?_
    refine lv_icmp_ge (tgt := 67) hx hb dX13_beat_19 (by decide) (fun hc => ?_) (fun hc => ?_)
    · have hf := ite_t hf hc
      refine lv_aload_n hx hb dX13_beat_67 rfl (lv_at hl 0 rfl) ?_
      obtain ⟨q4, hq4, hf⟩ := bd_s hf
      refine k_sVi (ws2 := W13 cs h0 a0 i0 r0 l0) (As := []) (rest := []) hx hb hml hown hts hK hA hZ hl.1 hP hD hS (c_X13_ballsNow (h0 := h0) (a0 := a0) hq4) (gVt mlX13_603 imX13_ballsNow seX13_ballsNow inX13 coX13_ballsNow) rfl qnX13_ballsNow rfl rfl ⟨Nat.le_of_ble_eq_true rfl, Nat.le_of_ble_eq_true rfl⟩ 0 13 rfl rfl rfl rfl rfl (Nat.le_of_ble_eq_true rfl) ⟨Nat.zero_le _, Nat.zero_le _⟩ dX13_beat_68 (fun H locs hP hD hS => ?_)
      obtain rfl := Option.some.inj hf
      exact k_iret hx hb hr hlocks hK hP hD hS dX13_beat_71
    · have hf := ite_f hf hc
      refine lv_aload_n hx hb dX13_beat_22 rfl (lv_at hl 0 rfl) ?_
      obtain ⟨q5, hq5, hf⟩ := bd_s hf
      refine k_sVi (ws2 := W13 cs h0 a0 i0 q5.2 l0) (As := []) (rest := []) hx hb hml hown hts hK hA hZ hl.1 hP hD hS (c_X13_beatOnce (h0 := h0) (a0 := a0) hq5) (gVt mlX13_599 imX13_beatOnce seX13_beatOnce inX13 coX13_beatOnce) rfl qnX13_beatOnce rfl rfl ⟨Nat.le_of_ble_eq_true rfl, Nat.le_of_ble_eq_true rfl⟩ 0 13 rfl rfl rfl rfl rfl (Nat.le_of_ble_eq_true rfl) ⟨Nat.zero_le _, Nat.zero_le _⟩ dX13_beat_23 (fun H locs hP hD hS => ?_)
      refine lv_istore_n (lv' := [(3, .int q5.1), (0, .ref h0), (1, .int x1), (2, .int x2)]) hx hb dX13_beat_26 rfl hl (by decide) rfl (fun ls hl => ?_)
      refine lv_aload_n hx hb dX13_beat_27 rfl (lv_at hl 1 rfl) ?_
      refine lv_dup hx hb dX13_beat_28 rfl ?_
      refine va_get (D := D) (ci := 13) (v := .int (i0 66)) (C := RX13) (T := TX13) (N := 87) hx hb hts hiX13 hown hK hP 0 rfl rfl 66 (by decide) (hts _ flX13_575) (fun _ h9 => h9) rfl dX13_beat_29 ?_
      refine lv_iload_n hx hb dX13_beat_32 rfl (lv_at hl 0 rfl) ?_
      refine lv_iadd hx hb dX13_beat_33 ?_
      refine va_put (D := D) (ci := 13) (v := .int ((i0 66) + q5.1)) (ty := .int) (C := RX13) (T := TX13) (N := 87) hx hb hts hiX13 tyX13 tyX13_ok nmX13 hown hK hP hD hS 0 rfl rfl 66 (by decide) (hts _ flX13_575) (fun _ h9 => h9) rfl (tyX13_ok 66 (by decide)) rfl rfl (Nat.le_of_ble_eq_true rfl) dX13_beat_34 (fun H locs hP hD hS => ?_)
      obtain ⟨hP, hD⟩ := st13_66 hP hD
      refine lv_aload_n hx hb dX13_beat_37 rfl (lv_at hl 1 rfl) ?_
      refine lv_iload_n hx hb dX13_beat_38 rfl (lv_at hl 0 rfl) ?_
      refine lv_if_le (tgt := 46) hx hb dX13_beat_39 (by decide) (fun hc => ?_) (fun hc => ?_)
      · have hf := ite_t hf hc
        refine lv_ldcw (v := 1000000) hx hb hown (hts _ kcX13_602) dX13_beat_46 ?_
        refine lv_aload_n hx hb dX13_beat_49 rfl (lv_at hl 1 rfl) ?_
        refine va_get (D := D) (ci := 13) (v := .int (i0 67)) (C := RX13) (T := TX13) (N := 87) hx hb hts hiX13 hown hK hP 0 rfl rfl 67 (by decide) (hts _ flX13_578) (fun _ h9 => h9) rfl dX13_beat_50 ?_
        refine lv_iconst (v := 1) hx hb dX13_beat_53 (by decide) ?_
        refine lv_iadd hx hb dX13_beat_54 ?_
        refine va_mmin hx hb (hml.trans hl.1.symm) hown (hts _ mlX13_487) (hts _ stJ9_min_7cf53) (hts _ ini_Math) (hts _ coJ9_min_7cf53) (Nat.le_of_ble_eq_true rfl) (Nat.le_of_ble_eq_true rfl) (Nat.zero_le _) (Nat.zero_le _) dX13_beat_55 ?_
        exact w_X13_beat_58 C _ (ih) _ _ _ _ _ _ _ _ hf hP hD hS (lv_sub hl [1, 2, 3] rfl)
      · have hf := ite_f hf hc
        refine lv_iconst (v := 0) hx hb dX13_beat_42 (by decide) ?_
        refine lv_goto (tgt := 58) hx hb dX13_beat_43 (by decide) ?_
        exact w_X13_beat_58 C _ (ih) _ _ _ _ _ _ _ _ hf hP hD hS (lv_sub hl [1, 2, 3] rfl)
def f_X13_beat  (i0 : Nat → Int32) (r0 : Nat → Nat → Int32) (l0 : Nat → Nat → Int64) (x1 : Int32) : Option (Int32 × (Nat → Int32) × (Nat → Nat → Int32)) := bd (f_X13_in x1.toInt64 1 500) (fun q6 => if q6 = 0 then (some ((-2), i0, r0)) else (f_X13_beat_17 l0 2000000 i0 r0 x1 0))
set_option maxRecDepth 100000 in
set_option maxHeartbeats 4000000 in
theorem c_X13_beat {l : Launch} {D : va_G} {cs zs : Nat → Nat} {h0 : Nat} {a0 : Nat → Nat} {i0 : Nat → Int32} {r0 : Nat → Nat → Int32} {l0 : Nat → Nat → Int64} {x1 : Int32} {q : Int32 × (Nat → Int32) × (Nat → Nat → Int32)} (hf : f_X13_beat i0 r0 l0 x1 = some q) : Mi l yX13_beat wlX13_beat rmX13_beat D cs zs [.ref h0, .int x1] (W13 cs h0 a0 i0 r0 l0) q.1 (W13 cs h0 a0 q.2.1 q.2.2 l0) := by
  refine Mi.of RX13 (by decide) rfl (Nat.le_of_ble_eq_true rfl) (fun p e s m below meth c A C hP hD hS ls hl => ?_)
  generalize ([.ref h0, .int x1] : List Value).toArray = args at C ⊢
  obtain ⟨hx, hb, hr, hml, hown, hts, hK, hA, hlocks, hZ⟩ := id C
  have hl : lv_has ls 4 [(0, .ref h0), (1, .int x1)] := hl
  rw [f_X13_beat] at hf
  refine lv_iload_n hx hb dX13_beat_0 rfl (lv_at hl 1 rfl) ?_
  refine lv_i2l hx hb dX13_beat_1 rfl ?_
  refine lv_lconst (v := 1) hx hb dX13_beat_2 (by decide) ?_
  refine lv_ldc2 (v := 500) hx hb hown (hts _ kcX13_597) dX13_beat_3 ?_
  obtain ⟨q6, hq6, hf⟩ := bd_s hf
  refine k_eSi (As := [.long x1.toInt64, .long 1, .long 500]) (rest := []) hx hb hml hown hts hK hA hZ hl.1 hP hD hS (c_X13_in  hq6) (gSt mlX13_64 stX13_in inX13 coX13_in) rfl qnX13_in rfl rfl ⟨Nat.le_of_ble_eq_true rfl, Nat.le_of_ble_eq_true rfl⟩ rfl rfl (Nat.le_of_ble_eq_true rfl) ⟨Nat.zero_le _, Nat.zero_le _⟩ dX13_beat_6 (fun H locs hP hD hS => ?_)
  refine lv_if_ne (tgt := 15) hx hb dX13_beat_9 (by decide) (fun hc => ?_) (fun hc => ?_)
  · have hf := ite_f hf hc
    refine lv_iconst (v := 0) hx hb dX13_beat_15 (by decide) ?_
    refine lv_istore_n (lv' := [(2, .int 0), (0, .ref h0), (1, .int x1)]) hx hb dX13_beat_16 rfl hl (by decide) rfl (fun ls hl => ?_)
    exact w_X13_beat_17 C  2000000 _ _ _ _ _ _ _ hf hP hD hS (lv_sub hl [1, 2, 0] rfl)
  · have hf := ite_t hf hc
    refine lv_bipush (v := (-2)) hx hb dX13_beat_12 (by decide) ?_
    obtain rfl := Option.some.inj hf
    exact k_iret hx hb hr hlocks hK hP hD hS dX13_beat_14
/-! MarbleFloorModel.back(I)I -/
abbrev wlX13_back : List Cond := Cond.code yX13_back cX13_back 3 (some .int) :: tbG
abbrev rmX13_back : Room := { frames := 3, cells := 0, slots := 0, locals := 72 }
theorem qnX13_back : yX13_back.cls = RX13 ∧ yX13_back.cls ≠ "java/lang/invoke/MethodHandle" ∧ yX13_back.cls ≠ "java/lang/invoke/VarHandle" ∧ (parseMethodDescriptor yX13_back.desc).map (fun d => d.parameters.length) = some 1 := by decide +kernel
def f_X13_back_28 (l0 : Nat → Nat → Int64)  : Nat → (Nat → Int32) → (Nat → Nat → Int32) → Int32 → Int32 → Option (Int32 × (Nat → Int32) × (Nat → Nat → Int32))
  | 0, _, _, _, _ => none
  | n + 1, i0, r0, x1, x2 => if x1 ≤ x2 then (bd (f_X13_ballsNow (upd i0 67 ((i0 67) - x1)) r0 l0) (fun q4 => some (q4, (upd i0 67 ((i0 67) - x1)), r0))) else (bd (f_X13_backOnce i0 r0 l0) (fun q5 => f_X13_back_28 l0 n i0 q5 x1 (x2 + 1)))
set_option maxRecDepth 100000 in
set_option maxHeartbeats 4000000 in
theorem w_X13_back_28 {p : Program} {l : Launch} {e : Env} {s : State} {m : MethodId} {args : Array Value} {below : List Frame} {meth : Method} {c : Code} {A : Nat → Prop} {D : va_G} {cs zs : Nat → Nat} {h0 : Nat} {a0 : Nat → Nat} {l0 : Nat → Nat → Int64} {q : Int32 × (Nat → Int32) × (Nat → Nat → Int32)} (C : Cx p s m args meth c A D cs zs cX13_back 3 (some .int) RX13)  : ∀ (n : Nat), ∀ (i0 : Nat → Int32) (r0 : Nat → Nat → Int32) (x1 : Int32) (x2 : Int32) (H : Heap) (locs : List Loc) (ls : Array Slot), f_X13_back_28 l0 n i0 r0 x1 x2 = some q → va_P D vwCl (W13 cs h0 a0 i0 r0 l0) H → va_D A (W13 cs h0 a0 i0 r0 l0) → va_S A s.heap H locs → lv_has ls 3 [(0, .ref h0), (1, .int x1), (2, .int x2)] → W p l e rmX13_back s m args below meth c H locs 0 0 (MQ below (Qi D cs A q.1 (W13 cs h0 a0 q.2.1 q.2.2 l0)) args s 0 0 A) (F0 m 28 ls []) := by
  obtain ⟨hx, hb, hr, hml, hown, hts, hK, hA, hlocks, hZ⟩ := id C
  intro n
  induction n with
  | zero =>
    intro i0 r0 x1 x2 H locs ls hf
    rw [f_X13_back_28] at hf
    cases hf
  | succ n ih =>
    intro i0 r0 x1 x2 H locs ls hf hP hD hS hl
    rw [f_X13_back_28] at hf
    refine lv_iload_n hx hb dX13_back_28 rfl (lv_at hl 2 rfl) ?_
    refine lv_iload_n hx hb dX13_back_29 rfl (lv_at hl 1 rfl) ?_
    refine lv_icmp_ge (tgt := 43) hx hb dX13_back_30 (by decide) (fun hc => ?_) (fun hc => ?_)
    · have hf := ite_t hf hc
      refine lv_aload_n hx hb dX13_back_43 rfl (lv_at hl 0 rfl) ?_
      refine lv_dup hx hb dX13_back_44 rfl ?_
      refine va_get (D := D) (ci := 13) (v := .int (i0 67)) (C := RX13) (T := TX13) (N := 87) hx hb hts hiX13 hown hK hP 0 rfl rfl 67 (by decide) (hts _ flX13_578) (fun _ h9 => h9) rfl dX13_back_45 ?_
      refine lv_iload_n hx hb dX13_back_48 rfl (lv_at hl 1 rfl) ?_
      refine lv_isub hx hb dX13_back_49 ?_
      refine va_put (D := D) (ci := 13) (v := .int ((i0 67) - x1)) (ty := .int) (C := RX13) (T := TX13) (N := 87) hx hb hts hiX13 tyX13 tyX13_ok nmX13 hown hK hP hD hS 0 rfl rfl 67 (by decide) (hts _ flX13_578) (fun _ h9 => h9) rfl (tyX13_ok 67 (by decide)) rfl rfl (Nat.le_of_ble_eq_true rfl) dX13_back_50 (fun H locs hP hD hS => ?_)
      obtain ⟨hP, hD⟩ := st13_67 hP hD
      refine lv_aload_n hx hb dX13_back_53 rfl (lv_at hl 0 rfl) ?_
      obtain ⟨q4, hq4, hf⟩ := bd_s hf
      refine k_sVi (ws2 := W13 cs h0 a0 (upd i0 67 ((i0 67) - x1)) r0 l0) (As := []) (rest := []) hx hb hml hown hts hK hA hZ hl.1 hP hD hS (c_X13_ballsNow (h0 := h0) (a0 := a0) hq4) (gVt mlX13_603 imX13_ballsNow seX13_ballsNow inX13 coX13_ballsNow) rfl qnX13_ballsNow rfl rfl ⟨Nat.le_of_ble_eq_true rfl, Nat.le_of_ble_eq_true rfl⟩ 0 13 rfl rfl rfl rfl rfl (Nat.le_of_ble_eq_true rfl) ⟨Nat.zero_le _, Nat.zero_le _⟩ dX13_back_54 (fun H locs hP hD hS => ?_)
      obtain rfl := Option.some.inj hf
      exact k_iret hx hb hr hlocks hK hP hD hS dX13_back_57
    · have hf := ite_f hf hc
      refine lv_aload_n hx hb dX13_back_33 rfl (lv_at hl 0 rfl) ?_
      obtain ⟨q5, hq5, hf⟩ := bd_s hf
      refine k_sVv (ws2 := W13 cs h0 a0 i0 q5 l0) (As := []) (rest := []) hx hb hml hown hts hK hA hZ hl.1 hP hD hS (c_X13_backOnce (h0 := h0) (a0 := a0) hq5) (gVt mlX13_606 imX13_backOnce seX13_backOnce inX13 coX13_backOnce) rfl qnX13_backOnce rfl rfl ⟨Nat.le_of_ble_eq_true rfl, Nat.le_of_ble_eq_true rfl⟩ 0 13 rfl rfl rfl rfl rfl (Nat.le_of_ble_eq_true rfl) ⟨Nat.zero_le _, Nat.zero_le _⟩ dX13_back_34 (fun H locs hP hD hS => ?_)
      refine lv_iinc (v := x2 + 1) (lv' := [(2, .int (x2 + 1)), (0, .ref h0), (1, .int x1)]) hx hb dX13_back_37 hl (k := 2) rfl rfl (by decide) rfl (fun ls hl => ?_)
      refine lv_goto (tgt := 28) hx hb dX13_back_40 (by decide) ?_
      exact ih _ _ _ _ _ _ _ hf hP hD hS (lv_sub hl [1, 2, 0] rfl)
def f_X13_back  (i0 : Nat → Int32) (r0 : Nat → Nat → Int32) (l0 : Nat → Nat → Int64) (x1 : Int32) : Option (Int32 × (Nat → Int32) × (Nat → Nat → Int32)) := bd (f_X13_in x1.toInt64 1 500) (fun q6 => if q6 = 0 then (some ((-2), i0, r0)) else (if x1 ≤ (i0 67) then (f_X13_back_28 l0 2000000 i0 r0 x1 0) else (some ((-4), i0, r0))))
set_option maxRecDepth 100000 in
set_option maxHeartbeats 4000000 in
theorem c_X13_back {l : Launch} {D : va_G} {cs zs : Nat → Nat} {h0 : Nat} {a0 : Nat → Nat} {i0 : Nat → Int32} {r0 : Nat → Nat → Int32} {l0 : Nat → Nat → Int64} {x1 : Int32} {q : Int32 × (Nat → Int32) × (Nat → Nat → Int32)} (hf : f_X13_back i0 r0 l0 x1 = some q) : Mi l yX13_back wlX13_back rmX13_back D cs zs [.ref h0, .int x1] (W13 cs h0 a0 i0 r0 l0) q.1 (W13 cs h0 a0 q.2.1 q.2.2 l0) := by
  refine Mi.of RX13 (by decide) rfl (Nat.le_of_ble_eq_true rfl) (fun p e s m below meth c A C hP hD hS ls hl => ?_)
  generalize ([.ref h0, .int x1] : List Value).toArray = args at C ⊢
  obtain ⟨hx, hb, hr, hml, hown, hts, hK, hA, hlocks, hZ⟩ := id C
  have hl : lv_has ls 3 [(0, .ref h0), (1, .int x1)] := hl
  rw [f_X13_back] at hf
  refine lv_iload_n hx hb dX13_back_0 rfl (lv_at hl 1 rfl) ?_
  refine lv_i2l hx hb dX13_back_1 rfl ?_
  refine lv_lconst (v := 1) hx hb dX13_back_2 (by decide) ?_
  refine lv_ldc2 (v := 500) hx hb hown (hts _ kcX13_597) dX13_back_3 ?_
  obtain ⟨q6, hq6, hf⟩ := bd_s hf
  refine k_eSi (As := [.long x1.toInt64, .long 1, .long 500]) (rest := []) hx hb hml hown hts hK hA hZ hl.1 hP hD hS (c_X13_in  hq6) (gSt mlX13_64 stX13_in inX13 coX13_in) rfl qnX13_in rfl rfl ⟨Nat.le_of_ble_eq_true rfl, Nat.le_of_ble_eq_true rfl⟩ rfl rfl (Nat.le_of_ble_eq_true rfl) ⟨Nat.zero_le _, Nat.zero_le _⟩ dX13_back_6 (fun H locs hP hD hS => ?_)
  refine lv_if_ne (tgt := 15) hx hb dX13_back_9 (by decide) (fun hc => ?_) (fun hc => ?_)
  · have hf := ite_f hf hc
    refine lv_iload_n hx hb dX13_back_15 rfl (lv_at hl 1 rfl) ?_
    refine lv_aload_n hx hb dX13_back_16 rfl (lv_at hl 0 rfl) ?_
    refine va_get (D := D) (ci := 13) (v := .int (i0 67)) (C := RX13) (T := TX13) (N := 87) hx hb hts hiX13 hown hK hP 0 rfl rfl 67 (by decide) (hts _ flX13_578) (fun _ h9 => h9) rfl dX13_back_17 ?_
    refine lv_icmp_le (tgt := 26) hx hb dX13_back_20 (by decide) (fun hc => ?_) (fun hc => ?_)
    · have hf := ite_t hf hc
      refine lv_iconst (v := 0) hx hb dX13_back_26 (by decide) ?_
      refine lv_istore_n (lv' := [(2, .int 0), (0, .ref h0), (1, .int x1)]) hx hb dX13_back_27 rfl hl (by decide) rfl (fun ls hl => ?_)
      exact w_X13_back_28 C  2000000 _ _ _ _ _ _ _ hf hP hD hS (lv_sub hl [1, 2, 0] rfl)
    · have hf := ite_f hf hc
      refine lv_bipush (v := (-4)) hx hb dX13_back_23 (by decide) ?_
      obtain rfl := Option.some.inj hf
      exact k_iret hx hb hr hlocks hK hP hD hS dX13_back_25
  · have hf := ite_t hf hc
    refine lv_bipush (v := (-2)) hx hb dX13_back_12 (by decide) ?_
    obtain rfl := Option.some.inj hf
    exact k_iret hx hb hr hlocks hK hP hD hS dX13_back_14
/-! MarbleFloorModel.round()I -/
abbrev wlX13_round : List Cond := Cond.code yX13_round cX13_round 6 (some .int) :: tbG
abbrev rmX13_round : Room := { frames := 3, cells := 0, slots := 0, locals := 74 }
theorem qnX13_round : yX13_round.cls = RX13 ∧ yX13_round.cls ≠ "java/lang/invoke/MethodHandle" ∧ yX13_round.cls ≠ "java/lang/invoke/VarHandle" ∧ (parseMethodDescriptor yX13_round.desc).map (fun d => d.parameters.length) = some 0 := by decide +kernel
def f_X13_round_96 (i0 : Nat → Int32) (l0 : Nat → Nat → Int64) (K32 : (Nat → Nat → Int32) → Int32 → Int32 → Int32 → Option (Int32 × (Nat → Nat → Int32))) (K62 : (Nat → Nat → Int32) → Int32 → Int32 → Int32 → Int32 → Int32 → Option (Int32 × (Nat → Nat → Int32))) (r0 : Nat → Nat → Int32) (x1 : Int32) (x2 : Int32) (x3 : Int32) (x5 : Int32) (y0 : Int32) : Option (Int32 × (Nat → Nat → Int32)) := K62 r0 x1 x2 x3 y0 (x5 + 1)
set_option maxRecDepth 100000 in
set_option maxHeartbeats 4000000 in
theorem w_X13_round_96 {p : Program} {l : Launch} {e : Env} {s : State} {m : MethodId} {args : Array Value} {below : List Frame} {meth : Method} {c : Code} {A : Nat → Prop} {D : va_G} {cs zs : Nat → Nat} {h0 : Nat} {a0 : Nat → Nat} {i0 : Nat → Int32} {l0 : Nat → Nat → Int64} {q : Int32 × (Nat → Nat → Int32)} (C : Cx p s m args meth c A D cs zs cX13_round 6 (some .int) RX13) (K32 : (Nat → Nat → Int32) → Int32 → Int32 → Int32 → Option (Int32 × (Nat → Nat → Int32))) (hK32 : ∀ (r0 : Nat → Nat → Int32) (x1 : Int32) (x2 : Int32) (x3 : Int32) (H : Heap) (locs : List Loc) (ls : Array Slot), K32 r0 x1 x2 x3 = some q → va_P D vwCl (W13 cs h0 a0 i0 r0 l0) H → va_D A (W13 cs h0 a0 i0 r0 l0) → va_S A s.heap H locs → lv_has ls 6 [(0, .ref h0), (1, .int x1), (2, .int x2), (3, .int x3)] → W p l e rmX13_round s m args below meth c H locs 0 0 (MQ below (Qi D cs A q.1 (W13 cs h0 a0 i0 q.2 l0)) args s 0 0 A) (F0 m 32 ls [])) (K62 : (Nat → Nat → Int32) → Int32 → Int32 → Int32 → Int32 → Int32 → Option (Int32 × (Nat → Nat → Int32))) (hK62 : ∀ (r0 : Nat → Nat → Int32) (x1 : Int32) (x2 : Int32) (x3 : Int32) (x4 : Int32) (x5 : Int32) (H : Heap) (locs : List Loc) (ls : Array Slot), K62 r0 x1 x2 x3 x4 x5 = some q → va_P D vwCl (W13 cs h0 a0 i0 r0 l0) H → va_D A (W13 cs h0 a0 i0 r0 l0) → va_S A s.heap H locs → lv_has ls 6 [(0, .ref h0), (1, .int x1), (2, .int x2), (3, .int x3), (4, .int x4), (5, .int x5)] → W p l e rmX13_round s m args below meth c H locs 0 0 (MQ below (Qi D cs A q.1 (W13 cs h0 a0 i0 q.2 l0)) args s 0 0 A) (F0 m 62 ls [])) : ∀ (r0 : Nat → Nat → Int32) (x1 : Int32) (x2 : Int32) (x3 : Int32) (x5 : Int32) (y0 : Int32) (H : Heap) (locs : List Loc) (ls : Array Slot), f_X13_round_96 i0 l0 K32 K62 r0 x1 x2 x3 x5 y0 = some q → va_P D vwCl (W13 cs h0 a0 i0 r0 l0) H → va_D A (W13 cs h0 a0 i0 r0 l0) → va_S A s.heap H locs → lv_has ls 6 [(0, .ref h0), (1, .int x1), (2, .int x2), (3, .int x3), (5, .int x5)] → W p l e rmX13_round s m args below meth c H locs 0 0 (MQ below (Qi D cs A q.1 (W13 cs h0 a0 i0 q.2 l0)) args s 0 0 A) (F0 m 96 ls [.int y0]) := by
  obtain ⟨hx, hb, hr, hml, hown, hts, hK, hA, hlocks, hZ⟩ := id C
  intro r0 x1 x2 x3 x5 y0 H locs ls hf hP hD hS hl
  rw [f_X13_round_96] at hf
  refine lv_istore (lv' := [(4, .int y0), (0, .ref h0), (1, .int x1), (2, .int x2), (3, .int x3), (5, .int x5)]) hx hb dX13_round_96 hl (by decide) rfl (fun ls hl => ?_)
  refine lv_iinc (v := x5 + 1) (lv' := [(5, .int (x5 + 1)), (4, .int y0), (0, .ref h0), (1, .int x1), (2, .int x2), (3, .int x3)]) hx hb dX13_round_98 hl (k := 5) rfl rfl (by decide) rfl (fun ls hl => ?_)
  refine lv_goto (tgt := 62) hx hb dX13_round_101 (by decide) ?_
  exact hK62 _ _ _ _ _ _ _ _ _ hf hP hD hS (lv_sub hl [2, 3, 4, 5, 1, 0] rfl)
def f_X13_round_116 (i0 : Nat → Int32) (l0 : Nat → Nat → Int64) (K32 : (Nat → Nat → Int32) → Int32 → Int32 → Int32 → Option (Int32 × (Nat → Nat → Int32))) (r0 : Nat → Nat → Int32) (x1 : Int32) (x2 : Int32) (x3 : Int32) : Option (Int32 × (Nat → Nat → Int32)) := K32 r0 x1 x2 (x3 + 1)
set_option maxRecDepth 100000 in
set_option maxHeartbeats 4000000 in
theorem w_X13_round_116 {p : Program} {l : Launch} {e : Env} {s : State} {m : MethodId} {args : Array Value} {below : List Frame} {meth : Method} {c : Code} {A : Nat → Prop} {D : va_G} {cs zs : Nat → Nat} {h0 : Nat} {a0 : Nat → Nat} {i0 : Nat → Int32} {l0 : Nat → Nat → Int64} {q : Int32 × (Nat → Nat → Int32)} (C : Cx p s m args meth c A D cs zs cX13_round 6 (some .int) RX13) (K32 : (Nat → Nat → Int32) → Int32 → Int32 → Int32 → Option (Int32 × (Nat → Nat → Int32))) (hK32 : ∀ (r0 : Nat → Nat → Int32) (x1 : Int32) (x2 : Int32) (x3 : Int32) (H : Heap) (locs : List Loc) (ls : Array Slot), K32 r0 x1 x2 x3 = some q → va_P D vwCl (W13 cs h0 a0 i0 r0 l0) H → va_D A (W13 cs h0 a0 i0 r0 l0) → va_S A s.heap H locs → lv_has ls 6 [(0, .ref h0), (1, .int x1), (2, .int x2), (3, .int x3)] → W p l e rmX13_round s m args below meth c H locs 0 0 (MQ below (Qi D cs A q.1 (W13 cs h0 a0 i0 q.2 l0)) args s 0 0 A) (F0 m 32 ls [])) : ∀ (r0 : Nat → Nat → Int32) (x1 : Int32) (x2 : Int32) (x3 : Int32) (H : Heap) (locs : List Loc) (ls : Array Slot), f_X13_round_116 i0 l0 K32 r0 x1 x2 x3 = some q → va_P D vwCl (W13 cs h0 a0 i0 r0 l0) H → va_D A (W13 cs h0 a0 i0 r0 l0) → va_S A s.heap H locs → lv_has ls 6 [(0, .ref h0), (1, .int x1), (2, .int x2), (3, .int x3)] → W p l e rmX13_round s m args below meth c H locs 0 0 (MQ below (Qi D cs A q.1 (W13 cs h0 a0 i0 q.2 l0)) args s 0 0 A) (F0 m 116 ls []) := by
  obtain ⟨hx, hb, hr, hml, hown, hts, hK, hA, hlocks, hZ⟩ := id C
  intro r0 x1 x2 x3 H locs ls hf hP hD hS hl
  rw [f_X13_round_116] at hf
  refine lv_iinc (v := x3 + 1) (lv' := [(3, .int (x3 + 1)), (0, .ref h0), (1, .int x1), (2, .int x2)]) hx hb dX13_round_116 hl (k := 3) rfl rfl (by decide) rfl (fun ls hl => ?_)
  refine lv_goto (tgt := 32) hx hb dX13_round_119 (by decide) ?_
  exact hK32 _ _ _ _ _ _ _ hf hP hD hS (lv_sub hl [1, 2, 3, 0] rfl)
def f_X13_round_104 (i0 : Nat → Int32) (l0 : Nat → Nat → Int64) (K32 : (Nat → Nat → Int32) → Int32 → Int32 → Int32 → Option (Int32 × (Nat → Nat → Int32))) (r0 : Nat → Nat → Int32) (x1 : Int32) (x2 : Int32) (x3 : Int32) (x4 : Int32) : Option (Int32 × (Nat → Nat → Int32)) := if x4 = 0 then (f_X13_round_116 i0 l0 K32 r0 x1 x2 x3) else (f_X13_round_116 i0 l0 K32 r0 x3 0 x3)
set_option maxRecDepth 100000 in
set_option maxHeartbeats 4000000 in
theorem w_X13_round_104 {p : Program} {l : Launch} {e : Env} {s : State} {m : MethodId} {args : Array Value} {below : List Frame} {meth : Method} {c : Code} {A : Nat → Prop} {D : va_G} {cs zs : Nat → Nat} {h0 : Nat} {a0 : Nat → Nat} {i0 : Nat → Int32} {l0 : Nat → Nat → Int64} {q : Int32 × (Nat → Nat → Int32)} (C : Cx p s m args meth c A D cs zs cX13_round 6 (some .int) RX13) (K32 : (Nat → Nat → Int32) → Int32 → Int32 → Int32 → Option (Int32 × (Nat → Nat → Int32))) (hK32 : ∀ (r0 : Nat → Nat → Int32) (x1 : Int32) (x2 : Int32) (x3 : Int32) (H : Heap) (locs : List Loc) (ls : Array Slot), K32 r0 x1 x2 x3 = some q → va_P D vwCl (W13 cs h0 a0 i0 r0 l0) H → va_D A (W13 cs h0 a0 i0 r0 l0) → va_S A s.heap H locs → lv_has ls 6 [(0, .ref h0), (1, .int x1), (2, .int x2), (3, .int x3)] → W p l e rmX13_round s m args below meth c H locs 0 0 (MQ below (Qi D cs A q.1 (W13 cs h0 a0 i0 q.2 l0)) args s 0 0 A) (F0 m 32 ls [])) : ∀ (r0 : Nat → Nat → Int32) (x1 : Int32) (x2 : Int32) (x3 : Int32) (x4 : Int32) (H : Heap) (locs : List Loc) (ls : Array Slot), f_X13_round_104 i0 l0 K32 r0 x1 x2 x3 x4 = some q → va_P D vwCl (W13 cs h0 a0 i0 r0 l0) H → va_D A (W13 cs h0 a0 i0 r0 l0) → va_S A s.heap H locs → lv_has ls 6 [(0, .ref h0), (1, .int x1), (2, .int x2), (3, .int x3), (4, .int x4)] → W p l e rmX13_round s m args below meth c H locs 0 0 (MQ below (Qi D cs A q.1 (W13 cs h0 a0 i0 q.2 l0)) args s 0 0 A) (F0 m 104 ls []) := by
  obtain ⟨hx, hb, hr, hml, hown, hts, hK, hA, hlocks, hZ⟩ := id C
  intro r0 x1 x2 x3 x4 H locs ls hf hP hD hS hl
  rw [f_X13_round_104] at hf
  refine lv_iload hx hb dX13_round_104 (lv_at hl 4 rfl) ?_
  refine lv_if_ne (tgt := 112) hx hb dX13_round_106 (by decide) (fun hc => ?_) (fun hc => ?_)
  · have hf := ite_f hf hc
    refine lv_iload_n hx hb dX13_round_112 rfl (lv_at hl 3 rfl) ?_
    refine lv_istore_n (lv' := [(1, .int x3), (0, .ref h0), (2, .int x2), (3, .int x3), (4, .int x4)]) hx hb dX13_round_113 rfl hl (by decide) rfl (fun ls hl => ?_)
    refine lv_iconst (v := 0) hx hb dX13_round_114 (by decide) ?_
    refine lv_istore_n (lv' := [(2, .int 0), (1, .int x3), (0, .ref h0), (3, .int x3), (4, .int x4)]) hx hb dX13_round_115 rfl hl (by decide) rfl (fun ls hl => ?_)
    exact w_X13_round_116 C _ (hK32) _ _ _ _ _ _ _ hf hP hD hS (lv_sub hl [2, 1, 0, 3] rfl)
  · have hf := ite_t hf hc
    refine lv_goto (tgt := 116) hx hb dX13_round_109 (by decide) ?_
    exact w_X13_round_116 C _ (hK32) _ _ _ _ _ _ _ hf hP hD hS (lv_sub hl [0, 1, 2, 3] rfl)
def f_X13_round_62 (i0 : Nat → Int32) (l0 : Nat → Nat → Int64) (K32 : (Nat → Nat → Int32) → Int32 → Int32 → Int32 → Option (Int32 × (Nat → Nat → Int32))) : Nat → (Nat → Nat → Int32) → Int32 → Int32 → Int32 → Int32 → Int32 → Option (Int32 × (Nat → Nat → Int32))
  | 0, _, _, _, _, _, _ => none
  | n + 1, r0, x1, x2, x3, x4, x5 => if 100 ≤ x5 then (f_X13_round_104 i0 l0 K32 r0 x1 x2 x3 x4) else (if x4 = 0 then (f_X13_round_104 i0 l0 K32 r0 x1 x2 x3 x4) else (ck (inb x5 100) (ck (inb x5 100) (if (r0 69 x5.toNatClampNeg) = (r0 71 x5.toNatClampNeg) then (f_X13_round_96 i0 l0 K32 (f_X13_round_62 i0 l0 K32 n) r0 x1 x2 x3 x5 1) else (f_X13_round_96 i0 l0 K32 (f_X13_round_62 i0 l0 K32 n) r0 x1 x2 x3 x5 0)))))
set_option maxRecDepth 100000 in
set_option maxHeartbeats 4000000 in
theorem w_X13_round_62 {p : Program} {l : Launch} {e : Env} {s : State} {m : MethodId} {args : Array Value} {below : List Frame} {meth : Method} {c : Code} {A : Nat → Prop} {D : va_G} {cs zs : Nat → Nat} {h0 : Nat} {a0 : Nat → Nat} {i0 : Nat → Int32} {l0 : Nat → Nat → Int64} {q : Int32 × (Nat → Nat → Int32)} (C : Cx p s m args meth c A D cs zs cX13_round 6 (some .int) RX13) (K32 : (Nat → Nat → Int32) → Int32 → Int32 → Int32 → Option (Int32 × (Nat → Nat → Int32))) (hK32 : ∀ (r0 : Nat → Nat → Int32) (x1 : Int32) (x2 : Int32) (x3 : Int32) (H : Heap) (locs : List Loc) (ls : Array Slot), K32 r0 x1 x2 x3 = some q → va_P D vwCl (W13 cs h0 a0 i0 r0 l0) H → va_D A (W13 cs h0 a0 i0 r0 l0) → va_S A s.heap H locs → lv_has ls 6 [(0, .ref h0), (1, .int x1), (2, .int x2), (3, .int x3)] → W p l e rmX13_round s m args below meth c H locs 0 0 (MQ below (Qi D cs A q.1 (W13 cs h0 a0 i0 q.2 l0)) args s 0 0 A) (F0 m 32 ls [])) : ∀ (n : Nat), ∀ (r0 : Nat → Nat → Int32) (x1 : Int32) (x2 : Int32) (x3 : Int32) (x4 : Int32) (x5 : Int32) (H : Heap) (locs : List Loc) (ls : Array Slot), f_X13_round_62 i0 l0 K32 n r0 x1 x2 x3 x4 x5 = some q → va_P D vwCl (W13 cs h0 a0 i0 r0 l0) H → va_D A (W13 cs h0 a0 i0 r0 l0) → va_S A s.heap H locs → lv_has ls 6 [(0, .ref h0), (1, .int x1), (2, .int x2), (3, .int x3), (4, .int x4), (5, .int x5)] → W p l e rmX13_round s m args below meth c H locs 0 0 (MQ below (Qi D cs A q.1 (W13 cs h0 a0 i0 q.2 l0)) args s 0 0 A) (F0 m 62 ls []) := by
  obtain ⟨hx, hb, hr, hml, hown, hts, hK, hA, hlocks, hZ⟩ := id C
  intro n
  induction n with
  | zero =>
    intro r0 x1 x2 x3 x4 x5 H locs ls hf
    rw [f_X13_round_62] at hf
    cases hf
  | succ n ih =>
    intro r0 x1 x2 x3 x4 x5 H locs ls hf hP hD hS hl
    rw [f_X13_round_62] at hf
    refine lv_iload hx hb dX13_round_62 (lv_at hl 5 rfl) ?_
    refine lv_bipush (v := 100) hx hb dX13_round_64 (by decide) ?_
    refine lv_icmp_ge (tgt := 104) hx hb dX13_round_66 (by decide) (fun hc => ?_) (fun hc => ?_)
    · have hf := ite_t hf hc
      exact w_X13_round_104 C _ (hK32) _ _ _ _ _ _ _ _ hf hP hD hS (lv_sub hl [0, 1, 2, 3, 4] rfl)
    · have hf := ite_f hf hc
      refine lv_iload hx hb dX13_round_69 (lv_at hl 4 rfl) ?_
      refine lv_if_eq (tgt := 104) hx hb dX13_round_71 (by decide) (fun hc => ?_) (fun hc => ?_)
      · have hf := ite_t hf hc
        exact w_X13_round_104 C _ (hK32) _ _ _ _ _ _ _ _ hf hP hD hS (lv_sub hl [0, 1, 2, 3, 4] rfl)
      · have hf := ite_f hf hc
        refine lv_aload_n hx hb dX13_round_74 rfl (lv_at hl 0 rfl) ?_
        refine va_get (D := D) (ci := 13) (v := .ref (a0 69)) (C := RX13) (T := TX13) (N := 87) hx hb hts hiX13 hown hK hP 0 rfl rfl 69 (by decide) (hts _ flX13_240) (fun _ h9 => h9) rfl dX13_round_75 ?_
        refine lv_iload hx hb dX13_round_78 (lv_at hl 5 rfl) ?_
        refine va_iald (f := r0 69) hx hb hK hP 39 0 rfl rfl (ck_in hf) dX13_round_80 ?_
        have hf := ck_2 hf
        refine lv_aload_n hx hb dX13_round_81 rfl (lv_at hl 0 rfl) ?_
        refine va_get (D := D) (ci := 13) (v := .ref (a0 71)) (C := RX13) (T := TX13) (N := 87) hx hb hts hiX13 hown hK hP 0 rfl rfl 71 (by decide) (hts _ flX13_246) (fun _ h9 => h9) rfl dX13_round_82 ?_
        refine lv_iload hx hb dX13_round_85 (lv_at hl 5 rfl) ?_
        refine va_iald (f := r0 71) hx hb hK hP 41 0 rfl rfl (ck_in hf) dX13_round_87 ?_
        have hf := ck_2 hf
        refine lv_icmp_ne (tgt := 95) hx hb dX13_round_88 (by decide) (fun hc => ?_) (fun hc => ?_)
        · have hf := ite_f hf hc
          refine lv_iconst (v := 0) hx hb dX13_round_95 (by decide) ?_
          exact w_X13_round_96 C _ (hK32) _ (ih) _ _ _ _ _ _ _ _ _ hf hP hD hS (lv_sub hl [0, 1, 2, 3, 5] rfl)
        · have hf := ite_t hf hc
          refine lv_iconst (v := 1) hx hb dX13_round_91 (by decide) ?_
          refine lv_goto (tgt := 96) hx hb dX13_round_92 (by decide) ?_
          exact w_X13_round_96 C _ (hK32) _ (ih) _ _ _ _ _ _ _ _ _ hf hP hD hS (lv_sub hl [0, 1, 2, 3, 5] rfl)
def f_X13_round_55 (i0 : Nat → Int32) (l0 : Nat → Nat → Int64) (K32 : (Nat → Nat → Int32) → Int32 → Int32 → Int32 → Option (Int32 × (Nat → Nat → Int32))) (r0 : Nat → Nat → Int32) (x1 : Int32) (x3 : Int32) (y0 : Int32) : Option (Int32 × (Nat → Nat → Int32)) := f_X13_round_62 i0 l0 K32 2000000 r0 x1 y0 x3 y0 0
set_option maxRecDepth 100000 in
set_option maxHeartbeats 4000000 in
theorem w_X13_round_55 {p : Program} {l : Launch} {e : Env} {s : State} {m : MethodId} {args : Array Value} {below : List Frame} {meth : Method} {c : Code} {A : Nat → Prop} {D : va_G} {cs zs : Nat → Nat} {h0 : Nat} {a0 : Nat → Nat} {i0 : Nat → Int32} {l0 : Nat → Nat → Int64} {q : Int32 × (Nat → Nat → Int32)} (C : Cx p s m args meth c A D cs zs cX13_round 6 (some .int) RX13) (K32 : (Nat → Nat → Int32) → Int32 → Int32 → Int32 → Option (Int32 × (Nat → Nat → Int32))) (hK32 : ∀ (r0 : Nat → Nat → Int32) (x1 : Int32) (x2 : Int32) (x3 : Int32) (H : Heap) (locs : List Loc) (ls : Array Slot), K32 r0 x1 x2 x3 = some q → va_P D vwCl (W13 cs h0 a0 i0 r0 l0) H → va_D A (W13 cs h0 a0 i0 r0 l0) → va_S A s.heap H locs → lv_has ls 6 [(0, .ref h0), (1, .int x1), (2, .int x2), (3, .int x3)] → W p l e rmX13_round s m args below meth c H locs 0 0 (MQ below (Qi D cs A q.1 (W13 cs h0 a0 i0 q.2 l0)) args s 0 0 A) (F0 m 32 ls [])) : ∀ (r0 : Nat → Nat → Int32) (x1 : Int32) (x3 : Int32) (y0 : Int32) (H : Heap) (locs : List Loc) (ls : Array Slot), f_X13_round_55 i0 l0 K32 r0 x1 x3 y0 = some q → va_P D vwCl (W13 cs h0 a0 i0 r0 l0) H → va_D A (W13 cs h0 a0 i0 r0 l0) → va_S A s.heap H locs → lv_has ls 6 [(0, .ref h0), (1, .int x1), (3, .int x3)] → W p l e rmX13_round s m args below meth c H locs 0 0 (MQ below (Qi D cs A q.1 (W13 cs h0 a0 i0 q.2 l0)) args s 0 0 A) (F0 m 55 ls [.int y0]) := by
  obtain ⟨hx, hb, hr, hml, hown, hts, hK, hA, hlocks, hZ⟩ := id C
  intro r0 x1 x3 y0 H locs ls hf hP hD hS hl
  rw [f_X13_round_55] at hf
  refine lv_istore_n (lv' := [(2, .int y0), (0, .ref h0), (1, .int x1), (3, .int x3)]) hx hb dX13_round_55 rfl hl (by decide) rfl (fun ls hl => ?_)
  refine lv_iload_n hx hb dX13_round_56 rfl (lv_at hl 0 rfl) ?_
  refine lv_istore (lv' := [(4, .int y0), (2, .int y0), (0, .ref h0), (1, .int x1), (3, .int x3)]) hx hb dX13_round_57 hl (by decide) rfl (fun ls hl => ?_)
  refine lv_iconst (v := 0) hx hb dX13_round_59 (by decide) ?_
  refine lv_istore (lv' := [(5, .int 0), (4, .int y0), (2, .int y0), (0, .ref h0), (1, .int x1), (3, .int x3)]) hx hb dX13_round_60 hl (by decide) rfl (fun ls hl => ?_)
  exact w_X13_round_62 C _ (hK32) 2000000 _ _ _ _ _ _ _ _ _ hf hP hD hS (lv_sub hl [3, 4, 2, 5, 1, 0] rfl)
def f_X13_round_124 (i0 : Nat → Int32) (l0 : Nat → Nat → Int64)  : Nat → (Nat → Nat → Int32) → Int32 → Int32 → Option (Int32 × (Nat → Nat → Int32))
  | 0, _, _, _ => none
  | n + 1, r0, x1, x3 => if 100 ≤ x3 then (some (x1, r0)) else (ck (inb x3 100) (ck (inb x3 100) (f_X13_round_124 i0 l0 n (va_up r0 69 (upd (r0 69) x3.toNatClampNeg (r0 71 x3.toNatClampNeg))) x1 (x3 + 1))))
set_option maxRecDepth 100000 in
set_option maxHeartbeats 4000000 in
theorem w_X13_round_124 {p : Program} {l : Launch} {e : Env} {s : State} {m : MethodId} {args : Array Value} {below : List Frame} {meth : Method} {c : Code} {A : Nat → Prop} {D : va_G} {cs zs : Nat → Nat} {h0 : Nat} {a0 : Nat → Nat} {i0 : Nat → Int32} {l0 : Nat → Nat → Int64} {q : Int32 × (Nat → Nat → Int32)} (C : Cx p s m args meth c A D cs zs cX13_round 6 (some .int) RX13)  : ∀ (n : Nat), ∀ (r0 : Nat → Nat → Int32) (x1 : Int32) (x3 : Int32) (H : Heap) (locs : List Loc) (ls : Array Slot), f_X13_round_124 i0 l0 n r0 x1 x3 = some q → va_P D vwCl (W13 cs h0 a0 i0 r0 l0) H → va_D A (W13 cs h0 a0 i0 r0 l0) → va_S A s.heap H locs → lv_has ls 6 [(0, .ref h0), (1, .int x1), (3, .int x3)] → W p l e rmX13_round s m args below meth c H locs 0 0 (MQ below (Qi D cs A q.1 (W13 cs h0 a0 i0 q.2 l0)) args s 0 0 A) (F0 m 124 ls []) := by
  obtain ⟨hx, hb, hr, hml, hown, hts, hK, hA, hlocks, hZ⟩ := id C
  intro n
  induction n with
  | zero =>
    intro r0 x1 x3 H locs ls hf
    rw [f_X13_round_124] at hf
    cases hf
  | succ n ih =>
    intro r0 x1 x3 H locs ls hf hP hD hS hl
    rw [f_X13_round_124] at hf
    refine lv_iload_n hx hb dX13_round_124 rfl (lv_at hl 2 rfl) ?_
    refine lv_bipush (v := 100) hx hb dX13_round_125 (by decide) ?_
    refine lv_icmp_ge (tgt := 148) hx hb dX13_round_127 (by decide) (fun hc => ?_) (fun hc => ?_)
    · have hf := ite_t hf hc
      refine lv_iload_n hx hb dX13_round_148 rfl (lv_at hl 1 rfl) ?_
      obtain rfl := Option.some.inj hf
      exact k_iret hx hb hr hlocks hK hP hD hS dX13_round_149
    · have hf := ite_f hf hc
      refine lv_aload_n hx hb dX13_round_130 rfl (lv_at hl 0 rfl) ?_
      refine va_get (D := D) (ci := 13) (v := .ref (a0 69)) (C := RX13) (T := TX13) (N := 87) hx hb hts hiX13 hown hK hP 0 rfl rfl 69 (by decide) (hts _ flX13_240) (fun _ h9 => h9) rfl dX13_round_131 ?_
      refine lv_iload_n hx hb dX13_round_134 rfl (lv_at hl 2 rfl) ?_
      refine lv_aload_n hx hb dX13_round_135 rfl (lv_at hl 0 rfl) ?_
      refine va_get (D := D) (ci := 13) (v := .ref (a0 71)) (C := RX13) (T := TX13) (N := 87) hx hb hts hiX13 hown hK hP 0 rfl rfl 71 (by decide) (hts _ flX13_246) (fun _ h9 => h9) rfl dX13_round_136 ?_
      refine lv_iload_n hx hb dX13_round_139 rfl (lv_at hl 2 rfl) ?_
      refine va_iald (f := r0 71) hx hb hK hP 41 0 rfl rfl (ck_in hf) dX13_round_140 ?_
      have hf := ck_2 hf
      refine va_iast (f := r0 69) hx hb hK hP hD hS 39 0 rfl rfl (ck_in hf) dX13_round_141 (fun H locs hP hD hS => ?_)
      have hf := ck_2 hf
      obtain ⟨hP, hD⟩ := st13_69 hP hD
      refine lv_iinc (v := x3 + 1) (lv' := [(3, .int (x3 + 1)), (0, .ref h0), (1, .int x1)]) hx hb dX13_round_142 hl (k := 2) rfl rfl (by decide) rfl (fun ls hl => ?_)
      refine lv_goto (tgt := 124) hx hb dX13_round_145 (by decide) ?_
      exact ih _ _ _ _ _ _ hf hP hD hS (lv_sub hl [1, 2, 0] rfl)
def f_X13_round_122 (i0 : Nat → Int32) (l0 : Nat → Nat → Int64)  (r0 : Nat → Nat → Int32) (x1 : Int32) : Option (Int32 × (Nat → Nat → Int32)) := f_X13_round_124 i0 l0 2000000 r0 x1 0
set_option maxRecDepth 100000 in
set_option maxHeartbeats 4000000 in
theorem w_X13_round_122 {p : Program} {l : Launch} {e : Env} {s : State} {m : MethodId} {args : Array Value} {below : List Frame} {meth : Method} {c : Code} {A : Nat → Prop} {D : va_G} {cs zs : Nat → Nat} {h0 : Nat} {a0 : Nat → Nat} {i0 : Nat → Int32} {l0 : Nat → Nat → Int64} {q : Int32 × (Nat → Nat → Int32)} (C : Cx p s m args meth c A D cs zs cX13_round 6 (some .int) RX13)  : ∀ (r0 : Nat → Nat → Int32) (x1 : Int32) (H : Heap) (locs : List Loc) (ls : Array Slot), f_X13_round_122 i0 l0 r0 x1 = some q → va_P D vwCl (W13 cs h0 a0 i0 r0 l0) H → va_D A (W13 cs h0 a0 i0 r0 l0) → va_S A s.heap H locs → lv_has ls 6 [(0, .ref h0), (1, .int x1)] → W p l e rmX13_round s m args below meth c H locs 0 0 (MQ below (Qi D cs A q.1 (W13 cs h0 a0 i0 q.2 l0)) args s 0 0 A) (F0 m 122 ls []) := by
  obtain ⟨hx, hb, hr, hml, hown, hts, hK, hA, hlocks, hZ⟩ := id C
  intro r0 x1 H locs ls hf hP hD hS hl
  rw [f_X13_round_122] at hf
  refine lv_iconst (v := 0) hx hb dX13_round_122 (by decide) ?_
  refine lv_istore_n (lv' := [(3, .int 0), (0, .ref h0), (1, .int x1)]) hx hb dX13_round_123 rfl hl (by decide) rfl (fun ls hl => ?_)
  exact w_X13_round_124 C  2000000 _ _ _ _ _ _ hf hP hD hS (lv_sub hl [1, 2, 0] rfl)
def f_X13_round_32 (i0 : Nat → Int32) (l0 : Nat → Nat → Int64)  : Nat → (Nat → Nat → Int32) → Int32 → Int32 → Int32 → Option (Int32 × (Nat → Nat → Int32))
  | 0, _, _, _, _ => none
  | n + 1, r0, x1, x2, x3 => if 2000 < x3 then (f_X13_round_122 i0 l0 r0 x1) else (if x2 = 0 then (f_X13_round_122 i0 l0 r0 x1) else (bd (f_X13_beatOnce i0 r0 l0) (fun q2 => if q2.1 = 0 then (f_X13_round_55 i0 l0 (f_X13_round_32 i0 l0 n) q2.2 x1 x3 1) else (f_X13_round_55 i0 l0 (f_X13_round_32 i0 l0 n) q2.2 x1 x3 0))))
set_option maxRecDepth 100000 in
set_option maxHeartbeats 4000000 in
theorem w_X13_round_32 {p : Program} {l : Launch} {e : Env} {s : State} {m : MethodId} {args : Array Value} {below : List Frame} {meth : Method} {c : Code} {A : Nat → Prop} {D : va_G} {cs zs : Nat → Nat} {h0 : Nat} {a0 : Nat → Nat} {i0 : Nat → Int32} {l0 : Nat → Nat → Int64} {q : Int32 × (Nat → Nat → Int32)} (C : Cx p s m args meth c A D cs zs cX13_round 6 (some .int) RX13)  : ∀ (n : Nat), ∀ (r0 : Nat → Nat → Int32) (x1 : Int32) (x2 : Int32) (x3 : Int32) (H : Heap) (locs : List Loc) (ls : Array Slot), f_X13_round_32 i0 l0 n r0 x1 x2 x3 = some q → va_P D vwCl (W13 cs h0 a0 i0 r0 l0) H → va_D A (W13 cs h0 a0 i0 r0 l0) → va_S A s.heap H locs → lv_has ls 6 [(0, .ref h0), (1, .int x1), (2, .int x2), (3, .int x3)] → W p l e rmX13_round s m args below meth c H locs 0 0 (MQ below (Qi D cs A q.1 (W13 cs h0 a0 i0 q.2 l0)) args s 0 0 A) (F0 m 32 ls []) := by
  obtain ⟨hx, hb, hr, hml, hown, hts, hK, hA, hlocks, hZ⟩ := id C
  intro n
  induction n with
  | zero =>
    intro r0 x1 x2 x3 H locs ls hf
    rw [f_X13_round_32] at hf
    cases hf
  | succ n ih =>
    intro r0 x1 x2 x3 H locs ls hf hP hD hS hl
    rw [f_X13_round_32] at hf
    refine lv_iload_n hx hb dX13_round_32 rfl (lv_at hl 3 rfl) ?_
    refine lv_sipush (v := 2000) hx hb dX13_round_33 (by decide) ?_
    refine lv_icmp_gt (tgt := 122) hx hb dX13_round_36 (by decide) (fun hc => ?_) (fun hc => ?_)
    · have hf := ite_t hf hc
      exact w_X13_round_122 C  _ _ _ _ _ hf hP hD hS (lv_sub hl [0, 1] rfl)
    · have hf := ite_f hf hc
      refine lv_iload_n hx hb dX13_round_39 rfl (lv_at hl 2 rfl) ?_
      refine lv_if_eq (tgt := 122) hx hb dX13_round_40 (by decide) (fun hc => ?_) (fun hc => ?_)
      · have hf := ite_t hf hc
        exact w_X13_round_122 C  _ _ _ _ _ hf hP hD hS (lv_sub hl [0, 1] rfl)
      · have hf := ite_f hf hc
        refine lv_aload_n hx hb dX13_round_43 rfl (lv_at hl 0 rfl) ?_
        obtain ⟨q2, hq2, hf⟩ := bd_s hf
        refine k_sVi (ws2 := W13 cs h0 a0 i0 q2.2 l0) (As := []) (rest := []) hx hb hml hown hts hK hA hZ hl.1 hP hD hS (c_X13_beatOnce (h0 := h0) (a0 := a0) hq2) (gVt mlX13_599 imX13_beatOnce seX13_beatOnce inX13 coX13_beatOnce) rfl qnX13_beatOnce rfl rfl ⟨Nat.le_of_ble_eq_true rfl, Nat.le_of_ble_eq_true rfl⟩ 0 13 rfl rfl rfl rfl rfl (Nat.le_of_ble_eq_true rfl) ⟨Nat.zero_le _, Nat.zero_le _⟩ dX13_round_44 (fun H locs hP hD hS => ?_)
        refine lv_if_ne (tgt := 54) hx hb dX13_round_47 (by decide) (fun hc => ?_) (fun hc => ?_)
        · have hf := ite_f hf hc
          refine lv_iconst (v := 0) hx hb dX13_round_54 (by decide) ?_
          exact w_X13_round_55 C _ (ih) _ _ _ _ _ _ _ hf hP hD hS (lv_sub hl [0, 1, 3] rfl)
        · have hf := ite_t hf hc
          refine lv_iconst (v := 1) hx hb dX13_round_50 (by decide) ?_
          refine lv_goto (tgt := 55) hx hb dX13_round_51 (by decide) ?_
          exact w_X13_round_55 C _ (ih) _ _ _ _ _ _ _ hf hP hD hS (lv_sub hl [0, 1, 3] rfl)
def f_X13_round_2 (i0 : Nat → Int32) (l0 : Nat → Nat → Int64)  : Nat → (Nat → Nat → Int32) → Int32 → Option (Int32 × (Nat → Nat → Int32))
  | 0, _, _ => none
  | n + 1, r0, x1 => if 100 ≤ x1 then (f_X13_round_32 i0 l0 2000000 r0 (-1) 1 1) else (ck (inb x1 100) (ck (inb x1 100) (f_X13_round_2 i0 l0 n (va_up r0 71 (upd (r0 71) x1.toNatClampNeg (r0 69 x1.toNatClampNeg))) (x1 + 1))))
set_option maxRecDepth 100000 in
set_option maxHeartbeats 4000000 in
theorem w_X13_round_2 {p : Program} {l : Launch} {e : Env} {s : State} {m : MethodId} {args : Array Value} {below : List Frame} {meth : Method} {c : Code} {A : Nat → Prop} {D : va_G} {cs zs : Nat → Nat} {h0 : Nat} {a0 : Nat → Nat} {i0 : Nat → Int32} {l0 : Nat → Nat → Int64} {q : Int32 × (Nat → Nat → Int32)} (C : Cx p s m args meth c A D cs zs cX13_round 6 (some .int) RX13)  : ∀ (n : Nat), ∀ (r0 : Nat → Nat → Int32) (x1 : Int32) (H : Heap) (locs : List Loc) (ls : Array Slot), f_X13_round_2 i0 l0 n r0 x1 = some q → va_P D vwCl (W13 cs h0 a0 i0 r0 l0) H → va_D A (W13 cs h0 a0 i0 r0 l0) → va_S A s.heap H locs → lv_has ls 6 [(0, .ref h0), (1, .int x1)] → W p l e rmX13_round s m args below meth c H locs 0 0 (MQ below (Qi D cs A q.1 (W13 cs h0 a0 i0 q.2 l0)) args s 0 0 A) (F0 m 2 ls []) := by
  obtain ⟨hx, hb, hr, hml, hown, hts, hK, hA, hlocks, hZ⟩ := id C
  intro n
  induction n with
  | zero =>
    intro r0 x1 H locs ls hf
    rw [f_X13_round_2] at hf
    cases hf
  | succ n ih =>
    intro r0 x1 H locs ls hf hP hD hS hl
    rw [f_X13_round_2] at hf
    refine lv_iload_n hx hb dX13_round_2 rfl (lv_at hl 1 rfl) ?_
    refine lv_bipush (v := 100) hx hb dX13_round_3 (by decide) ?_
    refine lv_icmp_ge (tgt := 26) hx hb dX13_round_5 (by decide) (fun hc => ?_) (fun hc => ?_)
    · have hf := ite_t hf hc
      refine lv_iconst (v := (-1)) hx hb dX13_round_26 (by decide) ?_
      refine lv_istore_n (lv' := [(1, .int (-1)), (0, .ref h0)]) hx hb dX13_round_27 rfl hl (by decide) rfl (fun ls hl => ?_)
      refine lv_iconst (v := 1) hx hb dX13_round_28 (by decide) ?_
      refine lv_istore_n (lv' := [(2, .int 1), (1, .int (-1)), (0, .ref h0)]) hx hb dX13_round_29 rfl hl (by decide) rfl (fun ls hl => ?_)
      refine lv_iconst (v := 1) hx hb dX13_round_30 (by decide) ?_
      refine lv_istore_n (lv' := [(3, .int 1), (2, .int 1), (1, .int (-1)), (0, .ref h0)]) hx hb dX13_round_31 rfl hl (by decide) rfl (fun ls hl => ?_)
      exact w_X13_round_32 C  2000000 _ _ _ _ _ _ _ hf hP hD hS (lv_sub hl [3, 2, 1, 0] rfl)
    · have hf := ite_f hf hc
      refine lv_aload_n hx hb dX13_round_8 rfl (lv_at hl 0 rfl) ?_
      refine va_get (D := D) (ci := 13) (v := .ref (a0 71)) (C := RX13) (T := TX13) (N := 87) hx hb hts hiX13 hown hK hP 0 rfl rfl 71 (by decide) (hts _ flX13_246) (fun _ h9 => h9) rfl dX13_round_9 ?_
      refine lv_iload_n hx hb dX13_round_12 rfl (lv_at hl 1 rfl) ?_
      refine lv_aload_n hx hb dX13_round_13 rfl (lv_at hl 0 rfl) ?_
      refine va_get (D := D) (ci := 13) (v := .ref (a0 69)) (C := RX13) (T := TX13) (N := 87) hx hb hts hiX13 hown hK hP 0 rfl rfl 69 (by decide) (hts _ flX13_240) (fun _ h9 => h9) rfl dX13_round_14 ?_
      refine lv_iload_n hx hb dX13_round_17 rfl (lv_at hl 1 rfl) ?_
      refine va_iald (f := r0 69) hx hb hK hP 39 0 rfl rfl (ck_in hf) dX13_round_18 ?_
      have hf := ck_2 hf
      refine va_iast (f := r0 71) hx hb hK hP hD hS 41 0 rfl rfl (ck_in hf) dX13_round_19 (fun H locs hP hD hS => ?_)
      have hf := ck_2 hf
      obtain ⟨hP, hD⟩ := st13_71 hP hD
      refine lv_iinc (v := x1 + 1) (lv' := [(1, .int (x1 + 1)), (0, .ref h0)]) hx hb dX13_round_20 hl (k := 1) rfl rfl (by decide) rfl (fun ls hl => ?_)
      refine lv_goto (tgt := 2) hx hb dX13_round_23 (by decide) ?_
      exact ih _ _ _ _ _ hf hP hD hS (lv_sub hl [1, 0] rfl)
def f_X13_round  (i0 : Nat → Int32) (r0 : Nat → Nat → Int32) (l0 : Nat → Nat → Int64)  : Option (Int32 × (Nat → Nat → Int32)) := f_X13_round_2 i0 l0 2000000 r0 0
set_option maxRecDepth 100000 in
set_option maxHeartbeats 4000000 in
theorem c_X13_round {l : Launch} {D : va_G} {cs zs : Nat → Nat} {h0 : Nat} {a0 : Nat → Nat} {i0 : Nat → Int32} {r0 : Nat → Nat → Int32} {l0 : Nat → Nat → Int64}  {q : Int32 × (Nat → Nat → Int32)} (hf : f_X13_round i0 r0 l0 = some q) : Mi l yX13_round wlX13_round rmX13_round D cs zs [.ref h0] (W13 cs h0 a0 i0 r0 l0) q.1 (W13 cs h0 a0 i0 q.2 l0) := by
  refine Mi.of RX13 (by decide) rfl (Nat.le_of_ble_eq_true rfl) (fun p e s m below meth c A C hP hD hS ls hl => ?_)
  generalize ([.ref h0] : List Value).toArray = args at C ⊢
  obtain ⟨hx, hb, hr, hml, hown, hts, hK, hA, hlocks, hZ⟩ := id C
  have hl : lv_has ls 6 [(0, .ref h0)] := hl
  rw [f_X13_round] at hf
  refine lv_iconst (v := 0) hx hb dX13_round_0 (by decide) ?_
  refine lv_istore_n (lv' := [(1, .int 0), (0, .ref h0)]) hx hb dX13_round_1 rfl hl (by decide) rfl (fun ls hl => ?_)
  exact w_X13_round_2 C  2000000 _ _ _ _ _ hf hP hD hS (lv_sub hl [1, 0] rfl)
/-! MarbleFloorModel.moveTo(III)I -/
abbrev wlX13_moveTo : List Cond := Cond.code yX13_moveTo cX13_moveTo 4 (some .int) :: tbG
abbrev rmX13_moveTo : Room := { frames := 1, cells := 0, slots := 0, locals := 22 }
theorem qnX13_moveTo : yX13_moveTo.cls ≠ "java/lang/invoke/MethodHandle" ∧ yX13_moveTo.cls ≠ "java/lang/invoke/VarHandle" ∧ (parseMethodDescriptor yX13_moveTo.desc).map (fun d => d.parameters.length) = some 3 := by decide +kernel
def f_X13_moveTo_17   (x0 : Int32) (x1 : Int32) (x2 : Int32) : Option (Int32) := bd (f_X13_bits (x0 ^^^ ((1 : Int32) <<< ((x1 - 1) &&& 31)))) (fun q2 => if q2 ≤ x2 then (some (x0 ^^^ ((1 : Int32) <<< ((x1 - 1) &&& 31)))) else (some ((-1))))
set_option maxRecDepth 100000 in
set_option maxHeartbeats 4000000 in
theorem w_X13_moveTo_17 {p : Program} {l : Launch} {e : Env} {s : State} {m : MethodId} {args : Array Value} {below : List Frame} {meth : Method} {c : Code} {A : Nat → Prop} {D : va_G} {cs zs : Nat → Nat}   {q : Int32} (C : Cx p s m args meth c A D cs zs cX13_moveTo 4 (some .int) RX13)  : ∀ (x0 : Int32) (x1 : Int32) (x2 : Int32) (H : Heap) (locs : List Loc) (ls : Array Slot), f_X13_moveTo_17 x0 x1 x2 = some q → va_P D vwCl (([] : va_W)) H → va_D A (([] : va_W)) → va_S A s.heap H locs → lv_has ls 4 [(0, .int x0), (1, .int x1), (2, .int x2)] → W p l e rmX13_moveTo s m args below meth c H locs 0 0 (MQ below (Qi D cs A q (([] : va_W))) args s 0 0 A) (F0 m 17 ls []) := by
  obtain ⟨hx, hb, hr, hml, hown, hts, hK, hA, hlocks, hZ⟩ := id C
  intro x0 x1 x2 H locs ls hf hP hD hS hl
  rw [f_X13_moveTo_17] at hf
  refine lv_iload_n hx hb dX13_moveTo_17 rfl (lv_at hl 0 rfl) ?_
  refine lv_iconst (v := 1) hx hb dX13_moveTo_18 (by decide) ?_
  refine lv_iload_n hx hb dX13_moveTo_19 rfl (lv_at hl 1 rfl) ?_
  refine lv_iconst (v := 1) hx hb dX13_moveTo_20 (by decide) ?_
  refine lv_isub hx hb dX13_moveTo_21 ?_
  refine lv_ishl hx hb dX13_moveTo_22 ?_
  refine lv_ixor hx hb dX13_moveTo_23 ?_
  refine lv_istore_n (lv' := [(3, .int (x0 ^^^ ((1 : Int32) <<< ((x1 - 1) &&& 31)))), (0, .int x0), (1, .int x1), (2, .int x2)]) hx hb dX13_moveTo_24 rfl hl (by decide) rfl (fun ls hl => ?_)
  refine lv_iload_n hx hb dX13_moveTo_25 rfl (lv_at hl 0 rfl) ?_
  obtain ⟨q2, hq2, hf⟩ := bd_s hf
  refine k_eSi (As := [.int (x0 ^^^ ((1 : Int32) <<< ((x1 - 1) &&& 31)))]) (rest := []) hx hb hml hown hts hK hA hZ hl.1 hP hD hS (c_X13_bits  hq2) (gSt mlX13_333 stX13_bits inX13 coX13_bits) rfl qnX13_bits rfl rfl ⟨Nat.le_of_ble_eq_true rfl, Nat.le_of_ble_eq_true rfl⟩ rfl rfl (Nat.le_of_ble_eq_true rfl) ⟨Nat.zero_le _, Nat.zero_le _⟩ dX13_moveTo_26 (fun H locs hP hD hS => ?_)
  refine lv_iload_n hx hb dX13_moveTo_29 rfl (lv_at hl 3 rfl) ?_
  refine lv_icmp_le (tgt := 37) hx hb dX13_moveTo_30 (by decide) (fun hc => ?_) (fun hc => ?_)
  · have hf := ite_t hf hc
    refine lv_iload_n hx hb dX13_moveTo_37 rfl (lv_at hl 0 rfl) ?_
    obtain rfl := Option.some.inj hf
    exact k_iret hx hb hr hlocks hK hP hD hS dX13_moveTo_38
  · have hf := ite_f hf hc
    refine lv_iconst (v := (-1)) hx hb dX13_moveTo_33 (by decide) ?_
    refine lv_goto (tgt := 38) hx hb dX13_moveTo_34 (by decide) ?_
    obtain rfl := Option.some.inj hf
    exact k_iret hx hb hr hlocks hK hP hD hS dX13_moveTo_38
def f_X13_moveTo   (x0 : Int32) (x1 : Int32) (x2 : Int32) : Option (Int32) := if x1 ≤ 1 then (f_X13_moveTo_17 x0 x1 x2) else (if ((x0 >>> ((x1 - 2) &&& 31)) &&& 1) = 0 then (some ((-1))) else (f_X13_moveTo_17 x0 x1 x2))
set_option maxRecDepth 100000 in
set_option maxHeartbeats 4000000 in
theorem c_X13_moveTo {l : Launch} {D : va_G} {cs zs : Nat → Nat}   {x0 : Int32} {x1 : Int32} {x2 : Int32} {q : Int32} (hf : f_X13_moveTo x0 x1 x2 = some q) : Mi l yX13_moveTo wlX13_moveTo rmX13_moveTo D cs zs [.int x0, .int x1, .int x2] (([] : va_W)) q (([] : va_W)) := by
  refine Mi.of RX13 (by decide) rfl (Nat.le_of_ble_eq_true rfl) (fun p e s m below meth c A C hP hD hS ls hl => ?_)
  generalize ([.int x0, .int x1, .int x2] : List Value).toArray = args at C ⊢
  obtain ⟨hx, hb, hr, hml, hown, hts, hK, hA, hlocks, hZ⟩ := id C
  have hl : lv_has ls 4 [(0, .int x0), (1, .int x1), (2, .int x2)] := hl
  rw [f_X13_moveTo] at hf
  refine lv_iload_n hx hb dX13_moveTo_0 rfl (lv_at hl 1 rfl) ?_
  refine lv_iconst (v := 1) hx hb dX13_moveTo_1 (by decide) ?_
  refine lv_icmp_le (tgt := 17) hx hb dX13_moveTo_2 (by decide) (fun hc => ?_) (fun hc => ?_)
  · have hf := ite_t hf hc
    exact w_X13_moveTo_17 C  _ _ _ _ _ _ hf hP hD hS (lv_sub hl [0, 1, 2] rfl)
  · have hf := ite_f hf hc
    refine lv_iload_n hx hb dX13_moveTo_5 rfl (lv_at hl 0 rfl) ?_
    refine lv_iload_n hx hb dX13_moveTo_6 rfl (lv_at hl 1 rfl) ?_
    refine lv_iconst (v := 2) hx hb dX13_moveTo_7 (by decide) ?_
    refine lv_isub hx hb dX13_moveTo_8 ?_
    refine lv_ishr hx hb dX13_moveTo_9 ?_
    refine lv_iconst (v := 1) hx hb dX13_moveTo_10 (by decide) ?_
    refine lv_iand hx hb dX13_moveTo_11 ?_
    refine lv_if_ne (tgt := 17) hx hb dX13_moveTo_12 (by decide) (fun hc => ?_) (fun hc => ?_)
    · have hf := ite_f hf hc
      exact w_X13_moveTo_17 C  _ _ _ _ _ _ hf hP hD hS (lv_sub hl [0, 1, 2] rfl)
    · have hf := ite_t hf hc
      refine lv_iconst (v := (-1)) hx hb dX13_moveTo_15 (by decide) ?_
      obtain rfl := Option.some.inj hf
      exact k_iret hx hb hr hlocks hK hP hD hS dX13_moveTo_16
/-! MarbleFloorModel.isNext(III)Z -/
abbrev wlX13_isNext : List Cond := Cond.code yX13_isNext cX13_isNext 5 (some .boolean) :: tbG
abbrev rmX13_isNext : Room := { frames := 2, cells := 0, slots := 0, locals := 45 }
theorem qnX13_isNext : yX13_isNext.cls = RX13 ∧ yX13_isNext.cls ≠ "java/lang/invoke/MethodHandle" ∧ yX13_isNext.cls ≠ "java/lang/invoke/VarHandle" ∧ (parseMethodDescriptor yX13_isNext.desc).map (fun d => d.parameters.length) = some 3 := by decide +kernel
def f_X13_isNext  (i0 : Nat → Int32) (r0 : Nat → Nat → Int32) (l0 : Nat → Nat → Int64) (x1 : Int32) (x2 : Int32) (x3 : Int32) : Option (Int32) := bd (f_X13_moveTo x1 x2 x3) (fun q2 => if q2 = (-1) then (some (0)) else (ck (inb q2 4096) (ck (inb x1 4096) (if (r0 72 q2.toNatClampNeg) = ((r0 72 x1.toNatClampNeg) - 1) then (some (1)) else (some (0))))))
set_option maxRecDepth 100000 in
set_option maxHeartbeats 4000000 in
theorem c_X13_isNext {l : Launch} {D : va_G} {cs zs : Nat → Nat} {h0 : Nat} {a0 : Nat → Nat} {i0 : Nat → Int32} {r0 : Nat → Nat → Int32} {l0 : Nat → Nat → Int64} {x1 : Int32} {x2 : Int32} {x3 : Int32} {q : Int32} (hf : f_X13_isNext i0 r0 l0 x1 x2 x3 = some q) : Mi l yX13_isNext wlX13_isNext rmX13_isNext D cs zs [.ref h0, .int x1, .int x2, .int x3] (W13 cs h0 a0 i0 r0 l0) q (W13 cs h0 a0 i0 r0 l0) := by
  refine Mi.of RX13 (by decide) rfl (Nat.le_of_ble_eq_true rfl) (fun p e s m below meth c A C hP hD hS ls hl => ?_)
  generalize ([.ref h0, .int x1, .int x2, .int x3] : List Value).toArray = args at C ⊢
  obtain ⟨hx, hb, hr, hml, hown, hts, hK, hA, hlocks, hZ⟩ := id C
  have hl : lv_has ls 5 [(0, .ref h0), (1, .int x1), (2, .int x2), (3, .int x3)] := hl
  rw [f_X13_isNext] at hf
  refine lv_iload_n hx hb dX13_isNext_0 rfl (lv_at hl 1 rfl) ?_
  refine lv_iload_n hx hb dX13_isNext_1 rfl (lv_at hl 2 rfl) ?_
  refine lv_iload_n hx hb dX13_isNext_2 rfl (lv_at hl 3 rfl) ?_
  obtain ⟨q2, hq2, hf⟩ := bd_s hf
  refine k_eSi (As := [.int x1, .int x2, .int x3]) (rest := []) hx hb hml hown hts hK hA hZ hl.1 hP hD hS (c_X13_moveTo  hq2) (gSt mlX13_611 stX13_moveTo inX13 coX13_moveTo) rfl qnX13_moveTo rfl rfl ⟨Nat.le_of_ble_eq_true rfl, Nat.le_of_ble_eq_true rfl⟩ rfl rfl (Nat.le_of_ble_eq_true rfl) ⟨Nat.zero_le _, Nat.zero_le _⟩ dX13_isNext_3 (fun H locs hP hD hS => ?_)
  refine lv_istore (lv' := [(4, .int q2), (0, .ref h0), (1, .int x1), (2, .int x2), (3, .int x3)]) hx hb dX13_isNext_6 hl (by decide) rfl (fun ls hl => ?_)
  refine lv_iload hx hb dX13_isNext_8 (lv_at hl 0 rfl) ?_
  refine lv_iconst (v := (-1)) hx hb dX13_isNext_10 (by decide) ?_
  refine lv_icmp_eq (tgt := 36) hx hb dX13_isNext_11 (by decide) (fun hc => ?_) (fun hc => ?_)
  · have hf := ite_t hf hc
    refine lv_iconst (v := 0) hx hb dX13_isNext_36 (by decide) ?_
    obtain rfl := Option.some.inj hf
    exact k_zret (r := 0) hx hb hr hlocks rfl hK hP hD hS dX13_isNext_37
  · have hf := ite_f hf hc
    refine lv_aload_n hx hb dX13_isNext_14 rfl (lv_at hl 1 rfl) ?_
    refine va_get (D := D) (ci := 13) (v := .ref (a0 72)) (C := RX13) (T := TX13) (N := 87) hx hb hts hiX13 hown hK hP 0 rfl rfl 72 (by decide) (hts _ flX13_249) (fun _ h9 => h9) rfl dX13_isNext_15 ?_
    refine lv_iload hx hb dX13_isNext_18 (lv_at hl 0 rfl) ?_
    refine va_iald (f := r0 72) hx hb hK hP 42 0 rfl rfl (ck_in hf) dX13_isNext_20 ?_
    have hf := ck_2 hf
    refine lv_aload_n hx hb dX13_isNext_21 rfl (lv_at hl 1 rfl) ?_
    refine va_get (D := D) (ci := 13) (v := .ref (a0 72)) (C := RX13) (T := TX13) (N := 87) hx hb hts hiX13 hown hK hP 0 rfl rfl 72 (by decide) (hts _ flX13_249) (fun _ h9 => h9) rfl dX13_isNext_22 ?_
    refine lv_iload_n hx hb dX13_isNext_25 rfl (lv_at hl 2 rfl) ?_
    refine va_iald (f := r0 72) hx hb hK hP 42 0 rfl rfl (ck_in hf) dX13_isNext_26 ?_
    have hf := ck_2 hf
    refine lv_iconst (v := 1) hx hb dX13_isNext_27 (by decide) ?_
    refine lv_isub hx hb dX13_isNext_28 ?_
    refine lv_icmp_ne (tgt := 36) hx hb dX13_isNext_29 (by decide) (fun hc => ?_) (fun hc => ?_)
    · have hf := ite_f hf hc
      refine lv_iconst (v := 0) hx hb dX13_isNext_36 (by decide) ?_
      obtain rfl := Option.some.inj hf
      exact k_zret (r := 0) hx hb hr hlocks rfl hK hP hD hS dX13_isNext_37
    · have hf := ite_t hf hc
      refine lv_iconst (v := 1) hx hb dX13_isNext_32 (by decide) ?_
      refine lv_goto (tgt := 37) hx hb dX13_isNext_33 (by decide) ?_
      obtain rfl := Option.some.inj hf
      exact k_zret (r := 1) hx hb hr hlocks rfl hK hP hD hS dX13_isNext_37
/-! MarbleFloorModel.trail(II)I -/
abbrev wlX13_trail : List Cond := Cond.code yX13_trail cX13_trail 8 (some .int) :: tbG
abbrev rmX13_trail : Room := { frames := 3, cells := 0, slots := 0, locals := 69 }
theorem qnX13_trail : yX13_trail.cls = RX13 ∧ yX13_trail.cls ≠ "java/lang/invoke/MethodHandle" ∧ yX13_trail.cls ≠ "java/lang/invoke/VarHandle" ∧ (parseMethodDescriptor yX13_trail.desc).map (fun d => d.parameters.length) = some 2 := by decide +kernel
def f_X13_trail_159 (l0 : Nat → Nat → Int64) (K75 : (Nat → Int32) → (Nat → Nat → Int32) → Int32 → Int32 → Int32 → Int32 → Option (Int32 × (Nat → Int32) × (Nat → Nat → Int32))) (K85 : (Nat → Int32) → (Nat → Nat → Int32) → Int32 → Int32 → Int32 → Int32 → Int32 → Option (Int32 × (Nat → Int32) × (Nat → Nat → Int32))) (i0 : Nat → Int32) (r0 : Nat → Nat → Int32) (x1 : Int32) (x2 : Int32) (x4 : Int32) (x5 : Int32) (x6 : Int32) : Option (Int32 × (Nat → Int32) × (Nat → Nat → Int32)) := K85 i0 r0 x1 x2 x4 x5 (x6 + 1)
set_option maxRecDepth 100000 in
set_option maxHeartbeats 4000000 in
theorem w_X13_trail_159 {p : Program} {l : Launch} {e : Env} {s : State} {m : MethodId} {args : Array Value} {below : List Frame} {meth : Method} {c : Code} {A : Nat → Prop} {D : va_G} {cs zs : Nat → Nat} {h0 : Nat} {a0 : Nat → Nat} {l0 : Nat → Nat → Int64} {q : Int32 × (Nat → Int32) × (Nat → Nat → Int32)} (C : Cx p s m args meth c A D cs zs cX13_trail 8 (some .int) RX13) (K75 : (Nat → Int32) → (Nat → Nat → Int32) → Int32 → Int32 → Int32 → Int32 → Option (Int32 × (Nat → Int32) × (Nat → Nat → Int32))) (hK75 : ∀ (i0 : Nat → Int32) (r0 : Nat → Nat → Int32) (x1 : Int32) (x2 : Int32) (x4 : Int32) (x5 : Int32) (H : Heap) (locs : List Loc) (ls : Array Slot), K75 i0 r0 x1 x2 x4 x5 = some q → va_P D vwCl (W13 cs h0 a0 i0 r0 l0) H → va_D A (W13 cs h0 a0 i0 r0 l0) → va_S A s.heap H locs → lv_has ls 8 [(0, .ref h0), (1, .int x1), (2, .int x2), (4, .int x4), (5, .int x5)] → W p l e rmX13_trail s m args below meth c H locs 0 0 (MQ below (Qi D cs A q.1 (W13 cs h0 a0 q.2.1 q.2.2 l0)) args s 0 0 A) (F0 m 75 ls [])) (K85 : (Nat → Int32) → (Nat → Nat → Int32) → Int32 → Int32 → Int32 → Int32 → Int32 → Option (Int32 × (Nat → Int32) × (Nat → Nat → Int32))) (hK85 : ∀ (i0 : Nat → Int32) (r0 : Nat → Nat → Int32) (x1 : Int32) (x2 : Int32) (x4 : Int32) (x5 : Int32) (x6 : Int32) (H : Heap) (locs : List Loc) (ls : Array Slot), K85 i0 r0 x1 x2 x4 x5 x6 = some q → va_P D vwCl (W13 cs h0 a0 i0 r0 l0) H → va_D A (W13 cs h0 a0 i0 r0 l0) → va_S A s.heap H locs → lv_has ls 8 [(0, .ref h0), (1, .int x1), (2, .int x2), (4, .int x4), (5, .int x5), (6, .int x6)] → W p l e rmX13_trail s m args below meth c H locs 0 0 (MQ below (Qi D cs A q.1 (W13 cs h0 a0 q.2.1 q.2.2 l0)) args s 0 0 A) (F0 m 85 ls [])) : ∀ (i0 : Nat → Int32) (r0 : Nat → Nat → Int32) (x1 : Int32) (x2 : Int32) (x4 : Int32) (x5 : Int32) (x6 : Int32) (H : Heap) (locs : List Loc) (ls : Array Slot), f_X13_trail_159 l0 K75 K85 i0 r0 x1 x2 x4 x5 x6 = some q → va_P D vwCl (W13 cs h0 a0 i0 r0 l0) H → va_D A (W13 cs h0 a0 i0 r0 l0) → va_S A s.heap H locs → lv_has ls 8 [(0, .ref h0), (1, .int x1), (2, .int x2), (4, .int x4), (5, .int x5), (6, .int x6)] → W p l e rmX13_trail s m args below meth c H locs 0 0 (MQ below (Qi D cs A q.1 (W13 cs h0 a0 q.2.1 q.2.2 l0)) args s 0 0 A) (F0 m 159 ls []) := by
  obtain ⟨hx, hb, hr, hml, hown, hts, hK, hA, hlocks, hZ⟩ := id C
  intro i0 r0 x1 x2 x4 x5 x6 H locs ls hf hP hD hS hl
  rw [f_X13_trail_159] at hf
  refine lv_iinc (v := x6 + 1) (lv' := [(6, .int (x6 + 1)), (0, .ref h0), (1, .int x1), (2, .int x2), (4, .int x4), (5, .int x5)]) hx hb dX13_trail_159 hl (k := 5) rfl rfl (by decide) rfl (fun ls hl => ?_)
  refine lv_goto (tgt := 85) hx hb dX13_trail_162 (by decide) ?_
  exact hK85 _ _ _ _ _ _ _ _ _ _ hf hP hD hS (lv_sub hl [1, 2, 3, 4, 5, 0] rfl)
def f_X13_trail_156 (l0 : Nat → Nat → Int64) (K75 : (Nat → Int32) → (Nat → Nat → Int32) → Int32 → Int32 → Int32 → Int32 → Option (Int32 × (Nat → Int32) × (Nat → Nat → Int32))) (K85 : (Nat → Int32) → (Nat → Nat → Int32) → Int32 → Int32 → Int32 → Int32 → Int32 → Option (Int32 × (Nat → Int32) × (Nat → Nat → Int32))) (i0 : Nat → Int32) (r0 : Nat → Nat → Int32) (x1 : Int32) (x2 : Int32) (x4 : Int32) (x5 : Int32) (x6 : Int32) : Option (Int32 × (Nat → Int32) × (Nat → Nat → Int32)) := f_X13_trail_159 l0 K75 K85 i0 r0 x1 x2 (x4 + 1) x5 x6
set_option maxRecDepth 100000 in
set_option maxHeartbeats 4000000 in
theorem w_X13_trail_156 {p : Program} {l : Launch} {e : Env} {s : State} {m : MethodId} {args : Array Value} {below : List Frame} {meth : Method} {c : Code} {A : Nat → Prop} {D : va_G} {cs zs : Nat → Nat} {h0 : Nat} {a0 : Nat → Nat} {l0 : Nat → Nat → Int64} {q : Int32 × (Nat → Int32) × (Nat → Nat → Int32)} (C : Cx p s m args meth c A D cs zs cX13_trail 8 (some .int) RX13) (K75 : (Nat → Int32) → (Nat → Nat → Int32) → Int32 → Int32 → Int32 → Int32 → Option (Int32 × (Nat → Int32) × (Nat → Nat → Int32))) (hK75 : ∀ (i0 : Nat → Int32) (r0 : Nat → Nat → Int32) (x1 : Int32) (x2 : Int32) (x4 : Int32) (x5 : Int32) (H : Heap) (locs : List Loc) (ls : Array Slot), K75 i0 r0 x1 x2 x4 x5 = some q → va_P D vwCl (W13 cs h0 a0 i0 r0 l0) H → va_D A (W13 cs h0 a0 i0 r0 l0) → va_S A s.heap H locs → lv_has ls 8 [(0, .ref h0), (1, .int x1), (2, .int x2), (4, .int x4), (5, .int x5)] → W p l e rmX13_trail s m args below meth c H locs 0 0 (MQ below (Qi D cs A q.1 (W13 cs h0 a0 q.2.1 q.2.2 l0)) args s 0 0 A) (F0 m 75 ls [])) (K85 : (Nat → Int32) → (Nat → Nat → Int32) → Int32 → Int32 → Int32 → Int32 → Int32 → Option (Int32 × (Nat → Int32) × (Nat → Nat → Int32))) (hK85 : ∀ (i0 : Nat → Int32) (r0 : Nat → Nat → Int32) (x1 : Int32) (x2 : Int32) (x4 : Int32) (x5 : Int32) (x6 : Int32) (H : Heap) (locs : List Loc) (ls : Array Slot), K85 i0 r0 x1 x2 x4 x5 x6 = some q → va_P D vwCl (W13 cs h0 a0 i0 r0 l0) H → va_D A (W13 cs h0 a0 i0 r0 l0) → va_S A s.heap H locs → lv_has ls 8 [(0, .ref h0), (1, .int x1), (2, .int x2), (4, .int x4), (5, .int x5), (6, .int x6)] → W p l e rmX13_trail s m args below meth c H locs 0 0 (MQ below (Qi D cs A q.1 (W13 cs h0 a0 q.2.1 q.2.2 l0)) args s 0 0 A) (F0 m 85 ls [])) : ∀ (i0 : Nat → Int32) (r0 : Nat → Nat → Int32) (x1 : Int32) (x2 : Int32) (x4 : Int32) (x5 : Int32) (x6 : Int32) (H : Heap) (locs : List Loc) (ls : Array Slot), f_X13_trail_156 l0 K75 K85 i0 r0 x1 x2 x4 x5 x6 = some q → va_P D vwCl (W13 cs h0 a0 i0 r0 l0) H → va_D A (W13 cs h0 a0 i0 r0 l0) → va_S A s.heap H locs → lv_has ls 8 [(0, .ref h0), (1, .int x1), (2, .int x2), (4, .int x4), (5, .int x5), (6, .int x6)] → W p l e rmX13_trail s m args below meth c H locs 0 0 (MQ below (Qi D cs A q.1 (W13 cs h0 a0 q.2.1 q.2.2 l0)) args s 0 0 A) (F0 m 156 ls []) := by
  obtain ⟨hx, hb, hr, hml, hown, hts, hK, hA, hlocks, hZ⟩ := id C
  intro i0 r0 x1 x2 x4 x5 x6 H locs ls hf hP hD hS hl
  rw [f_X13_trail_156] at hf
  refine lv_iinc (v := x4 + 1) (lv' := [(4, .int (x4 + 1)), (0, .ref h0), (1, .int x1), (2, .int x2), (5, .int x5), (6, .int x6)]) hx hb dX13_trail_156 hl (k := 3) rfl rfl (by decide) rfl (fun ls hl => ?_)
  exact w_X13_trail_159 C _ (hK75) _ (hK85) _ _ _ _ _ _ _ _ _ _ hf hP hD hS (lv_sub hl [1, 2, 3, 0, 4, 5] rfl)
def f_X13_trail_85 (l0 : Nat → Nat → Int64) (K75 : (Nat → Int32) → (Nat → Nat → Int32) → Int32 → Int32 → Int32 → Int32 → Option (Int32 × (Nat → Int32) × (Nat → Nat → Int32))) : Nat → (Nat → Int32) → (Nat → Nat → Int32) → Int32 → Int32 → Int32 → Int32 → Int32 → Option (Int32 × (Nat → Int32) × (Nat → Nat → Int32))
  | 0, _, _, _, _, _, _, _ => none
  | n + 1, i0, r0, x1, x2, x4, x5, x6 => if x1 < x6 then (K75 i0 r0 x1 x2 x4 (x5 + 1)) else (ck (inb x5 4096) (bd (f_X13_moveTo (r0 73 x5.toNatClampNeg) x6 x2) (fun q6 => if q6 = (-1) then (f_X13_trail_159 l0 K75 (f_X13_trail_85 l0 K75 n) i0 r0 x1 x2 x4 x5 x6) else (ck (inb q6 4096) (if (r0 72 q6.toNatClampNeg) = (-1) then (ck (inb x5 4096) (ck (inb (r0 73 x5.toNatClampNeg) 4096) (ck (inb q6 4096) (ck (inb x4 4096) (f_X13_trail_156 l0 K75 (f_X13_trail_85 l0 K75 n) i0 (va_up (va_up r0 72 (upd (r0 72) q6.toNatClampNeg ((r0 72 (r0 73 x5.toNatClampNeg).toNatClampNeg) + 1))) 73 (upd (r0 73) x4.toNatClampNeg q6)) x1 x2 x4 x5 x6))))) else (f_X13_trail_159 l0 K75 (f_X13_trail_85 l0 K75 n) i0 r0 x1 x2 x4 x5 x6))))))
set_option maxRecDepth 100000 in
set_option maxHeartbeats 4000000 in
theorem w_X13_trail_85 {p : Program} {l : Launch} {e : Env} {s : State} {m : MethodId} {args : Array Value} {below : List Frame} {meth : Method} {c : Code} {A : Nat → Prop} {D : va_G} {cs zs : Nat → Nat} {h0 : Nat} {a0 : Nat → Nat} {l0 : Nat → Nat → Int64} {q : Int32 × (Nat → Int32) × (Nat → Nat → Int32)} (C : Cx p s m args meth c A D cs zs cX13_trail 8 (some .int) RX13) (K75 : (Nat → Int32) → (Nat → Nat → Int32) → Int32 → Int32 → Int32 → Int32 → Option (Int32 × (Nat → Int32) × (Nat → Nat → Int32))) (hK75 : ∀ (i0 : Nat → Int32) (r0 : Nat → Nat → Int32) (x1 : Int32) (x2 : Int32) (x4 : Int32) (x5 : Int32) (H : Heap) (locs : List Loc) (ls : Array Slot), K75 i0 r0 x1 x2 x4 x5 = some q → va_P D vwCl (W13 cs h0 a0 i0 r0 l0) H → va_D A (W13 cs h0 a0 i0 r0 l0) → va_S A s.heap H locs → lv_has ls 8 [(0, .ref h0), (1, .int x1), (2, .int x2), (4, .int x4), (5, .int x5)] → W p l e rmX13_trail s m args below meth c H locs 0 0 (MQ below (Qi D cs A q.1 (W13 cs h0 a0 q.2.1 q.2.2 l0)) args s 0 0 A) (F0 m 75 ls [])) : ∀ (n : Nat), ∀ (i0 : Nat → Int32) (r0 : Nat → Nat → Int32) (x1 : Int32) (x2 : Int32) (x4 : Int32) (x5 : Int32) (x6 : Int32) (H : Heap) (locs : List Loc) (ls : Array Slot), f_X13_trail_85 l0 K75 n i0 r0 x1 x2 x4 x5 x6 = some q → va_P D vwCl (W13 cs h0 a0 i0 r0 l0) H → va_D A (W13 cs h0 a0 i0 r0 l0) → va_S A s.heap H locs → lv_has ls 8 [(0, .ref h0), (1, .int x1), (2, .int x2), (4, .int x4), (5, .int x5), (6, .int x6)] → W p l e rmX13_trail s m args below meth c H locs 0 0 (MQ below (Qi D cs A q.1 (W13 cs h0 a0 q.2.1 q.2.2 l0)) args s 0 0 A) (F0 m 85 ls []) := by
  obtain ⟨hx, hb, hr, hml, hown, hts, hK, hA, hlocks, hZ⟩ := id C
  intro n
  induction n with
  | zero =>
    intro i0 r0 x1 x2 x4 x5 x6 H locs ls hf
    rw [f_X13_trail_85] at hf
    cases hf
  | succ n ih =>
    intro i0 r0 x1 x2 x4 x5 x6 H locs ls hf hP hD hS hl
    rw [f_X13_trail_85] at hf
    refine lv_iload hx hb dX13_trail_85 (lv_at hl 5 rfl) ?_
    refine lv_iload_n hx hb dX13_trail_87 rfl (lv_at hl 1 rfl) ?_
    refine lv_icmp_gt (tgt := 165) hx hb dX13_trail_88 (by decide) (fun hc => ?_) (fun hc => ?_)
    · have hf := ite_t hf hc
      refine lv_iinc (v := x5 + 1) (lv' := [(5, .int (x5 + 1)), (0, .ref h0), (1, .int x1), (2, .int x2), (4, .int x4), (6, .int x6)]) hx hb dX13_trail_165 hl (k := 4) rfl rfl (by decide) rfl (fun ls hl => ?_)
      refine lv_goto (tgt := 75) hx hb dX13_trail_168 (by decide) ?_
      exact hK75 _ _ _ _ _ _ _ _ _ hf hP hD hS (lv_sub hl [1, 2, 3, 4, 0] rfl)
    · have hf := ite_f hf hc
      refine lv_aload_n hx hb dX13_trail_91 rfl (lv_at hl 0 rfl) ?_
      refine va_get (D := D) (ci := 13) (v := .ref (a0 73)) (C := RX13) (T := TX13) (N := 87) hx hb hts hiX13 hown hK hP 0 rfl rfl 73 (by decide) (hts _ flX13_252) (fun _ h9 => h9) rfl dX13_trail_92 ?_
      refine lv_iload hx hb dX13_trail_95 (lv_at hl 4 rfl) ?_
      refine va_iald (f := r0 73) hx hb hK hP 43 0 rfl rfl (ck_in hf) dX13_trail_97 ?_
      have hf := ck_2 hf
      refine lv_iload hx hb dX13_trail_98 (lv_at hl 5 rfl) ?_
      refine lv_iload_n hx hb dX13_trail_100 rfl (lv_at hl 2 rfl) ?_
      obtain ⟨q6, hq6, hf⟩ := bd_s hf
      refine k_eSi (As := [.int (r0 73 x5.toNatClampNeg), .int x6, .int x2]) (rest := []) hx hb hml hown hts hK hA hZ hl.1 hP hD hS (c_X13_moveTo  hq6) (gSt mlX13_611 stX13_moveTo inX13 coX13_moveTo) rfl qnX13_moveTo rfl rfl ⟨Nat.le_of_ble_eq_true rfl, Nat.le_of_ble_eq_true rfl⟩ rfl rfl (Nat.le_of_ble_eq_true rfl) ⟨Nat.zero_le _, Nat.zero_le _⟩ dX13_trail_101 (fun H locs hP hD hS => ?_)
      refine lv_istore (lv' := [(7, .int q6), (0, .ref h0), (1, .int x1), (2, .int x2), (4, .int x4), (5, .int x5), (6, .int x6)]) hx hb dX13_trail_104 hl (by decide) rfl (fun ls hl => ?_)
      refine lv_iload hx hb dX13_trail_106 (lv_at hl 0 rfl) ?_
      refine lv_iconst (v := (-1)) hx hb dX13_trail_108 (by decide) ?_
      refine lv_icmp_eq (tgt := 159) hx hb dX13_trail_109 (by decide) (fun hc => ?_) (fun hc => ?_)
      · have hf := ite_t hf hc
        exact w_X13_trail_159 C _ (hK75) _ (ih) _ _ _ _ _ _ _ _ _ _ hf hP hD hS (lv_sub hl [1, 2, 3, 4, 5, 6] rfl)
      · have hf := ite_f hf hc
        refine lv_aload_n hx hb dX13_trail_112 rfl (lv_at hl 1 rfl) ?_
        refine va_get (D := D) (ci := 13) (v := .ref (a0 72)) (C := RX13) (T := TX13) (N := 87) hx hb hts hiX13 hown hK hP 0 rfl rfl 72 (by decide) (hts _ flX13_249) (fun _ h9 => h9) rfl dX13_trail_113 ?_
        refine lv_iload hx hb dX13_trail_116 (lv_at hl 0 rfl) ?_
        refine va_iald (f := r0 72) hx hb hK hP 42 0 rfl rfl (ck_in hf) dX13_trail_118 ?_
        have hf := ck_2 hf
        refine lv_iconst (v := (-1)) hx hb dX13_trail_119 (by decide) ?_
        refine lv_icmp_eq (tgt := 126) hx hb dX13_trail_120 (by decide) (fun hc => ?_) (fun hc => ?_)
        · have hf := ite_t hf hc
          refine lv_aload_n hx hb dX13_trail_126 rfl (lv_at hl 1 rfl) ?_
          refine va_get (D := D) (ci := 13) (v := .ref (a0 72)) (C := RX13) (T := TX13) (N := 87) hx hb hts hiX13 hown hK hP 0 rfl rfl 72 (by decide) (hts _ flX13_249) (fun _ h9 => h9) rfl dX13_trail_127 ?_
          refine lv_iload hx hb dX13_trail_130 (lv_at hl 0 rfl) ?_
          refine lv_aload_n hx hb dX13_trail_132 rfl (lv_at hl 1 rfl) ?_
          refine va_get (D := D) (ci := 13) (v := .ref (a0 72)) (C := RX13) (T := TX13) (N := 87) hx hb hts hiX13 hown hK hP 0 rfl rfl 72 (by decide) (hts _ flX13_249) (fun _ h9 => h9) rfl dX13_trail_133 ?_
          refine lv_aload_n hx hb dX13_trail_136 rfl (lv_at hl 1 rfl) ?_
          refine va_get (D := D) (ci := 13) (v := .ref (a0 73)) (C := RX13) (T := TX13) (N := 87) hx hb hts hiX13 hown hK hP 0 rfl rfl 73 (by decide) (hts _ flX13_252) (fun _ h9 => h9) rfl dX13_trail_137 ?_
          refine lv_iload hx hb dX13_trail_140 (lv_at hl 5 rfl) ?_
          refine va_iald (f := r0 73) hx hb hK hP 43 0 rfl rfl (ck_in hf) dX13_trail_142 ?_
          have hf := ck_2 hf
          refine va_iald (f := r0 72) hx hb hK hP 42 0 rfl rfl (ck_in hf) dX13_trail_143 ?_
          have hf := ck_2 hf
          refine lv_iconst (v := 1) hx hb dX13_trail_144 (by decide) ?_
          refine lv_iadd hx hb dX13_trail_145 ?_
          refine va_iast (f := r0 72) hx hb hK hP hD hS 42 0 rfl rfl (ck_in hf) dX13_trail_146 (fun H locs hP hD hS => ?_)
          have hf := ck_2 hf
          obtain ⟨hP, hD⟩ := st13_72 hP hD
          refine lv_aload_n hx hb dX13_trail_147 rfl (lv_at hl 1 rfl) ?_
          refine va_get (D := D) (ci := 13) (v := .ref (a0 73)) (C := RX13) (T := TX13) (N := 87) hx hb hts hiX13 hown hK hP 0 rfl rfl 73 (by decide) (hts _ flX13_252) (fun _ h9 => h9) rfl dX13_trail_148 ?_
          refine lv_iload hx hb dX13_trail_151 (lv_at hl 4 rfl) ?_
          refine lv_iload hx hb dX13_trail_153 (lv_at hl 0 rfl) ?_
          refine va_iast (f := r0 73) hx hb hK hP hD hS 43 0 rfl rfl (ck_in hf) dX13_trail_155 (fun H locs hP hD hS => ?_)
          have hf := ck_2 hf
          obtain ⟨hP, hD⟩ := st13_73 hP hD
          exact w_X13_trail_156 C _ (hK75) _ (ih) _ _ _ _ _ _ _ _ _ _ hf hP hD hS (lv_sub hl [1, 2, 3, 4, 5, 6] rfl)
        · have hf := ite_f hf hc
          refine lv_goto (tgt := 159) hx hb dX13_trail_123 (by decide) ?_
          exact w_X13_trail_159 C _ (hK75) _ (ih) _ _ _ _ _ _ _ _ _ _ hf hP hD hS (lv_sub hl [1, 2, 3, 4, 5, 6] rfl)
def f_X13_trail_211 (l0 : Nat → Nat → Int64) (K199 : (Nat → Int32) → (Nat → Nat → Int32) → Int32 → Int32 → Int32 → Option (Int32 × (Nat → Int32) × (Nat → Nat → Int32))) : Nat → (Nat → Int32) → (Nat → Nat → Int32) → Int32 → Int32 → Int32 → Int32 → Option (Int32 × (Nat → Int32) × (Nat → Nat → Int32))
  | 0, _, _, _, _, _, _ => none
  | n + 1, i0, r0, x2, x5, x6, x7 => bd (f_X13_isNext i0 r0 l0 x5 x7 x2) (fun q7 => if q7 = 0 then (f_X13_trail_211 l0 K199 n i0 r0 x2 x5 x6 (x7 + 1)) else (ck (inb x6 4096) (bd (f_X13_moveTo x5 x7 x2) (fun q8 => K199 i0 (va_up r0 74 (upd (r0 74) x6.toNatClampNeg x7)) x2 q8 (x6 + 1)))))
set_option maxRecDepth 100000 in
set_option maxHeartbeats 4000000 in
theorem w_X13_trail_211 {p : Program} {l : Launch} {e : Env} {s : State} {m : MethodId} {args : Array Value} {below : List Frame} {meth : Method} {c : Code} {A : Nat → Prop} {D : va_G} {cs zs : Nat → Nat} {h0 : Nat} {a0 : Nat → Nat} {l0 : Nat → Nat → Int64} {q : Int32 × (Nat → Int32) × (Nat → Nat → Int32)} (C : Cx p s m args meth c A D cs zs cX13_trail 8 (some .int) RX13) (K199 : (Nat → Int32) → (Nat → Nat → Int32) → Int32 → Int32 → Int32 → Option (Int32 × (Nat → Int32) × (Nat → Nat → Int32))) (hK199 : ∀ (i0 : Nat → Int32) (r0 : Nat → Nat → Int32) (x2 : Int32) (x5 : Int32) (x6 : Int32) (H : Heap) (locs : List Loc) (ls : Array Slot), K199 i0 r0 x2 x5 x6 = some q → va_P D vwCl (W13 cs h0 a0 i0 r0 l0) H → va_D A (W13 cs h0 a0 i0 r0 l0) → va_S A s.heap H locs → lv_has ls 8 [(0, .ref h0), (2, .int x2), (5, .int x5), (6, .int x6)] → W p l e rmX13_trail s m args below meth c H locs 0 0 (MQ below (Qi D cs A q.1 (W13 cs h0 a0 q.2.1 q.2.2 l0)) args s 0 0 A) (F0 m 199 ls [])) : ∀ (n : Nat), ∀ (i0 : Nat → Int32) (r0 : Nat → Nat → Int32) (x2 : Int32) (x5 : Int32) (x6 : Int32) (x7 : Int32) (H : Heap) (locs : List Loc) (ls : Array Slot), f_X13_trail_211 l0 K199 n i0 r0 x2 x5 x6 x7 = some q → va_P D vwCl (W13 cs h0 a0 i0 r0 l0) H → va_D A (W13 cs h0 a0 i0 r0 l0) → va_S A s.heap H locs → lv_has ls 8 [(0, .ref h0), (2, .int x2), (5, .int x5), (6, .int x6), (7, .int x7)] → W p l e rmX13_trail s m args below meth c H locs 0 0 (MQ below (Qi D cs A q.1 (W13 cs h0 a0 q.2.1 q.2.2 l0)) args s 0 0 A) (F0 m 211 ls []) := by
  obtain ⟨hx, hb, hr, hml, hown, hts, hK, hA, hlocks, hZ⟩ := id C
  intro n
  induction n with
  | zero =>
    intro i0 r0 x2 x5 x6 x7 H locs ls hf
    rw [f_X13_trail_211] at hf
    cases hf
  | succ n ih =>
    intro i0 r0 x2 x5 x6 x7 H locs ls hf hP hD hS hl
    rw [f_X13_trail_211] at hf
    refine lv_aload_n hx hb dX13_trail_211 rfl (lv_at hl 0 rfl) ?_
    refine lv_iload hx hb dX13_trail_212 (lv_at hl 2 rfl) ?_
    refine lv_iload hx hb dX13_trail_214 (lv_at hl 4 rfl) ?_
    refine lv_iload_n hx hb dX13_trail_216 rfl (lv_at hl 1 rfl) ?_
    obtain ⟨q7, hq7, hf⟩ := bd_s hf
    refine k_sVi (ws2 := W13 cs h0 a0 i0 r0 l0) (As := [.int x5, .int x7, .int x2]) (rest := []) hx hb hml hown hts hK hA hZ hl.1 hP hD hS (c_X13_isNext (h0 := h0) (a0 := a0) hq7) (gVt mlX13_617 imX13_isNext seX13_isNext inX13 coX13_isNext) rfl qnX13_isNext rfl rfl ⟨Nat.le_of_ble_eq_true rfl, Nat.le_of_ble_eq_true rfl⟩ 0 13 rfl rfl rfl rfl rfl (Nat.le_of_ble_eq_true rfl) ⟨Nat.zero_le _, Nat.zero_le _⟩ dX13_trail_217 (fun H locs hP hD hS => ?_)
    refine lv_if_ne (tgt := 229) hx hb dX13_trail_220 (by decide) (fun hc => ?_) (fun hc => ?_)
    · have hf := ite_f hf hc
      refine lv_aload_n hx hb dX13_trail_229 rfl (lv_at hl 0 rfl) ?_
      refine va_get (D := D) (ci := 13) (v := .ref (a0 74)) (C := RX13) (T := TX13) (N := 87) hx hb hts hiX13 hown hK hP 0 rfl rfl 74 (by decide) (hts _ flX13_255) (fun _ h9 => h9) rfl dX13_trail_230 ?_
      refine lv_iload hx hb dX13_trail_233 (lv_at hl 3 rfl) ?_
      refine lv_iload hx hb dX13_trail_235 (lv_at hl 4 rfl) ?_
      refine va_iast (f := r0 74) hx hb hK hP hD hS 44 0 rfl rfl (ck_in hf) dX13_trail_237 (fun H locs hP hD hS => ?_)
      have hf := ck_2 hf
      obtain ⟨hP, hD⟩ := st13_74 hP hD
      refine lv_iload hx hb dX13_trail_238 (lv_at hl 2 rfl) ?_
      refine lv_iload hx hb dX13_trail_240 (lv_at hl 4 rfl) ?_
      refine lv_iload_n hx hb dX13_trail_242 rfl (lv_at hl 1 rfl) ?_
      obtain ⟨q8, hq8, hf⟩ := bd_s hf
      refine k_eSi (As := [.int x5, .int x7, .int x2]) (rest := []) hx hb hml hown hts hK hA hZ hl.1 hP hD hS (c_X13_moveTo  hq8) (gSt mlX13_611 stX13_moveTo inX13 coX13_moveTo) rfl qnX13_moveTo rfl rfl ⟨Nat.le_of_ble_eq_true rfl, Nat.le_of_ble_eq_true rfl⟩ rfl rfl (Nat.le_of_ble_eq_true rfl) ⟨Nat.zero_le _, Nat.zero_le _⟩ dX13_trail_243 (fun H locs hP hD hS => ?_)
      refine lv_istore (lv' := [(5, .int q8), (0, .ref h0), (2, .int x2), (6, .int x6), (7, .int x7)]) hx hb dX13_trail_246 hl (by decide) rfl (fun ls hl => ?_)
      refine lv_iinc (v := x6 + 1) (lv' := [(6, .int (x6 + 1)), (5, .int q8), (0, .ref h0), (2, .int x2), (7, .int x7)]) hx hb dX13_trail_248 hl (k := 3) rfl rfl (by decide) rfl (fun ls hl => ?_)
      refine lv_goto (tgt := 199) hx hb dX13_trail_251 (by decide) ?_
      exact hK199 _ _ _ _ _ _ _ _ hf hP hD hS (lv_sub hl [2, 3, 1, 0] rfl)
    · have hf := ite_t hf hc
      refine lv_iinc (v := x7 + 1) (lv' := [(7, .int (x7 + 1)), (0, .ref h0), (2, .int x2), (5, .int x5), (6, .int x6)]) hx hb dX13_trail_223 hl (k := 4) rfl rfl (by decide) rfl (fun ls hl => ?_)
      refine lv_goto (tgt := 211) hx hb dX13_trail_226 (by decide) ?_
      exact ih _ _ _ _ _ _ _ _ _ hf hP hD hS (lv_sub hl [1, 2, 3, 4, 0] rfl)
def f_X13_trail_199 (l0 : Nat → Nat → Int64)  : Nat → (Nat → Int32) → (Nat → Nat → Int32) → Int32 → Int32 → Int32 → Option (Int32 × (Nat → Int32) × (Nat → Nat → Int32))
  | 0, _, _, _, _, _ => none
  | n + 1, i0, r0, x2, x5, x6 => if (i0 75) ≤ x6 then (some (i0 75, i0, r0)) else (f_X13_trail_211 l0 (f_X13_trail_199 l0 n) 2000000 i0 r0 x2 x5 x6 1)
set_option maxRecDepth 100000 in
set_option maxHeartbeats 4000000 in
theorem w_X13_trail_199 {p : Program} {l : Launch} {e : Env} {s : State} {m : MethodId} {args : Array Value} {below : List Frame} {meth : Method} {c : Code} {A : Nat → Prop} {D : va_G} {cs zs : Nat → Nat} {h0 : Nat} {a0 : Nat → Nat} {l0 : Nat → Nat → Int64} {q : Int32 × (Nat → Int32) × (Nat → Nat → Int32)} (C : Cx p s m args meth c A D cs zs cX13_trail 8 (some .int) RX13)  : ∀ (n : Nat), ∀ (i0 : Nat → Int32) (r0 : Nat → Nat → Int32) (x2 : Int32) (x5 : Int32) (x6 : Int32) (H : Heap) (locs : List Loc) (ls : Array Slot), f_X13_trail_199 l0 n i0 r0 x2 x5 x6 = some q → va_P D vwCl (W13 cs h0 a0 i0 r0 l0) H → va_D A (W13 cs h0 a0 i0 r0 l0) → va_S A s.heap H locs → lv_has ls 8 [(0, .ref h0), (2, .int x2), (5, .int x5), (6, .int x6)] → W p l e rmX13_trail s m args below meth c H locs 0 0 (MQ below (Qi D cs A q.1 (W13 cs h0 a0 q.2.1 q.2.2 l0)) args s 0 0 A) (F0 m 199 ls []) := by
  obtain ⟨hx, hb, hr, hml, hown, hts, hK, hA, hlocks, hZ⟩ := id C
  intro n
  induction n with
  | zero =>
    intro i0 r0 x2 x5 x6 H locs ls hf
    rw [f_X13_trail_199] at hf
    cases hf
  | succ n ih =>
    intro i0 r0 x2 x5 x6 H locs ls hf hP hD hS hl
    rw [f_X13_trail_199] at hf
    refine lv_iload hx hb dX13_trail_199 (lv_at hl 3 rfl) ?_
    refine lv_aload_n hx hb dX13_trail_201 rfl (lv_at hl 0 rfl) ?_
    refine va_get (D := D) (ci := 13) (v := .int (i0 75)) (C := RX13) (T := TX13) (N := 87) hx hb hts hiX13 hown hK hP 0 rfl rfl 75 (by decide) (hts _ flX13_614) (fun _ h9 => h9) rfl dX13_trail_202 ?_
    refine lv_icmp_ge (tgt := 254) hx hb dX13_trail_205 (by decide) (fun hc => ?_) (fun hc => ?_)
    · have hf := ite_t hf hc
      refine lv_aload_n hx hb dX13_trail_254 rfl (lv_at hl 0 rfl) ?_
      refine va_get (D := D) (ci := 13) (v := .int (i0 75)) (C := RX13) (T := TX13) (N := 87) hx hb hts hiX13 hown hK hP 0 rfl rfl 75 (by decide) (hts _ flX13_614) (fun _ h9 => h9) rfl dX13_trail_255 ?_
      obtain rfl := Option.some.inj hf
      exact k_iret hx hb hr hlocks hK hP hD hS dX13_trail_258
    · have hf := ite_f hf hc
      refine lv_iconst (v := 1) hx hb dX13_trail_208 (by decide) ?_
      refine lv_istore (lv' := [(7, .int 1), (0, .ref h0), (2, .int x2), (5, .int x5), (6, .int x6)]) hx hb dX13_trail_209 hl (by decide) rfl (fun ls hl => ?_)
      exact w_X13_trail_211 C _ (ih) 2000000 _ _ _ _ _ _ _ _ _ hf hP hD hS (lv_sub hl [1, 2, 3, 4, 0] rfl)
def f_X13_trail_75 (l0 : Nat → Nat → Int64)  : Nat → (Nat → Int32) → (Nat → Nat → Int32) → Int32 → Int32 → Int32 → Int32 → Option (Int32 × (Nat → Int32) × (Nat → Nat → Int32))
  | 0, _, _, _, _, _, _ => none
  | n + 1, i0, r0, x1, x2, x4, x5 => if x4 ≤ x5 then (ck (inb 0 4096) (if (r0 72 (0 : Int32).toNatClampNeg) = (-1) then (some ((-1), i0, r0)) else (ck (inb 0 4096) (f_X13_trail_199 l0 2000000 (upd i0 75 (r0 72 (0 : Int32).toNatClampNeg)) r0 x2 0 0)))) else (f_X13_trail_85 l0 (f_X13_trail_75 l0 n) 2000000 i0 r0 x1 x2 x4 x5 1)
set_option maxRecDepth 100000 in
set_option maxHeartbeats 4000000 in
theorem w_X13_trail_75 {p : Program} {l : Launch} {e : Env} {s : State} {m : MethodId} {args : Array Value} {below : List Frame} {meth : Method} {c : Code} {A : Nat → Prop} {D : va_G} {cs zs : Nat → Nat} {h0 : Nat} {a0 : Nat → Nat} {l0 : Nat → Nat → Int64} {q : Int32 × (Nat → Int32) × (Nat → Nat → Int32)} (C : Cx p s m args meth c A D cs zs cX13_trail 8 (some .int) RX13)  : ∀ (n : Nat), ∀ (i0 : Nat → Int32) (r0 : Nat → Nat → Int32) (x1 : Int32) (x2 : Int32) (x4 : Int32) (x5 : Int32) (H : Heap) (locs : List Loc) (ls : Array Slot), f_X13_trail_75 l0 n i0 r0 x1 x2 x4 x5 = some q → va_P D vwCl (W13 cs h0 a0 i0 r0 l0) H → va_D A (W13 cs h0 a0 i0 r0 l0) → va_S A s.heap H locs → lv_has ls 8 [(0, .ref h0), (1, .int x1), (2, .int x2), (4, .int x4), (5, .int x5)] → W p l e rmX13_trail s m args below meth c H locs 0 0 (MQ below (Qi D cs A q.1 (W13 cs h0 a0 q.2.1 q.2.2 l0)) args s 0 0 A) (F0 m 75 ls []) := by
  obtain ⟨hx, hb, hr, hml, hown, hts, hK, hA, hlocks, hZ⟩ := id C
  intro n
  induction n with
  | zero =>
    intro i0 r0 x1 x2 x4 x5 H locs ls hf
    rw [f_X13_trail_75] at hf
    cases hf
  | succ n ih =>
    intro i0 r0 x1 x2 x4 x5 H locs ls hf hP hD hS hl
    rw [f_X13_trail_75] at hf
    refine lv_iload hx hb dX13_trail_75 (lv_at hl 4 rfl) ?_
    refine lv_iload hx hb dX13_trail_77 (lv_at hl 3 rfl) ?_
    refine lv_icmp_ge (tgt := 171) hx hb dX13_trail_79 (by decide) (fun hc => ?_) (fun hc => ?_)
    · have hf := ite_t hf hc
      refine lv_aload_n hx hb dX13_trail_171 rfl (lv_at hl 0 rfl) ?_
      refine va_get (D := D) (ci := 13) (v := .ref (a0 72)) (C := RX13) (T := TX13) (N := 87) hx hb hts hiX13 hown hK hP 0 rfl rfl 72 (by decide) (hts _ flX13_249) (fun _ h9 => h9) rfl dX13_trail_172 ?_
      refine lv_iconst (v := 0) hx hb dX13_trail_175 (by decide) ?_
      refine va_iald (f := r0 72) hx hb hK hP 42 0 rfl rfl (ck_in hf) dX13_trail_176 ?_
      have hf := ck_2 hf
      refine lv_iconst (v := (-1)) hx hb dX13_trail_177 (by decide) ?_
      refine lv_icmp_ne (tgt := 183) hx hb dX13_trail_178 (by decide) (fun hc => ?_) (fun hc => ?_)
      · have hf := ite_f hf hc
        refine lv_aload_n hx hb dX13_trail_183 rfl (lv_at hl 0 rfl) ?_
        refine lv_aload_n hx hb dX13_trail_184 rfl (lv_at hl 0 rfl) ?_
        refine va_get (D := D) (ci := 13) (v := .ref (a0 72)) (C := RX13) (T := TX13) (N := 87) hx hb hts hiX13 hown hK hP 0 rfl rfl 72 (by decide) (hts _ flX13_249) (fun _ h9 => h9) rfl dX13_trail_185 ?_
        refine lv_iconst (v := 0) hx hb dX13_trail_188 (by decide) ?_
        refine va_iald (f := r0 72) hx hb hK hP 42 0 rfl rfl (ck_in hf) dX13_trail_189 ?_
        have hf := ck_2 hf
        refine va_put (D := D) (ci := 13) (v := .int (r0 72 (0 : Int32).toNatClampNeg)) (ty := .int) (C := RX13) (T := TX13) (N := 87) hx hb hts hiX13 tyX13 tyX13_ok nmX13 hown hK hP hD hS 0 rfl rfl 75 (by decide) (hts _ flX13_614) (fun _ h9 => h9) rfl (tyX13_ok 75 (by decide)) rfl rfl (Nat.le_of_ble_eq_true rfl) dX13_trail_190 (fun H locs hP hD hS => ?_)
        obtain ⟨hP, hD⟩ := st13_75 hP hD
        refine lv_iconst (v := 0) hx hb dX13_trail_193 (by decide) ?_
        refine lv_istore (lv' := [(5, .int 0), (0, .ref h0), (1, .int x1), (2, .int x2), (4, .int x4)]) hx hb dX13_trail_194 hl (by decide) rfl (fun ls hl => ?_)
        refine lv_iconst (v := 0) hx hb dX13_trail_196 (by decide) ?_
        refine lv_istore (lv' := [(6, .int 0), (5, .int 0), (0, .ref h0), (1, .int x1), (2, .int x2), (4, .int x4)]) hx hb dX13_trail_197 hl (by decide) rfl (fun ls hl => ?_)
        exact w_X13_trail_199 C  2000000 _ _ _ _ _ _ _ _ hf hP hD hS (lv_sub hl [2, 4, 1, 0] rfl)
      · have hf := ite_t hf hc
        refine lv_iconst (v := (-1)) hx hb dX13_trail_181 (by decide) ?_
        obtain rfl := Option.some.inj hf
        exact k_iret hx hb hr hlocks hK hP hD hS dX13_trail_182
    · have hf := ite_f hf hc
      refine lv_iconst (v := 1) hx hb dX13_trail_82 (by decide) ?_
      refine lv_istore (lv' := [(6, .int 1), (0, .ref h0), (1, .int x1), (2, .int x2), (4, .int x4), (5, .int x5)]) hx hb dX13_trail_83 hl (by decide) rfl (fun ls hl => ?_)
      exact w_X13_trail_85 C _ (ih) 2000000 _ _ _ _ _ _ _ _ _ _ hf hP hD hS (lv_sub hl [1, 2, 3, 4, 5, 0] rfl)
def f_X13_trail_69 (l0 : Nat → Nat → Int64)  (i0 : Nat → Int32) (r0 : Nat → Nat → Int32) (x1 : Int32) (x2 : Int32) : Option (Int32 × (Nat → Int32) × (Nat → Nat → Int32)) := f_X13_trail_75 l0 2000000 i0 r0 x1 x2 1 0
set_option maxRecDepth 100000 in
set_option maxHeartbeats 4000000 in
theorem w_X13_trail_69 {p : Program} {l : Launch} {e : Env} {s : State} {m : MethodId} {args : Array Value} {below : List Frame} {meth : Method} {c : Code} {A : Nat → Prop} {D : va_G} {cs zs : Nat → Nat} {h0 : Nat} {a0 : Nat → Nat} {l0 : Nat → Nat → Int64} {q : Int32 × (Nat → Int32) × (Nat → Nat → Int32)} (C : Cx p s m args meth c A D cs zs cX13_trail 8 (some .int) RX13)  : ∀ (i0 : Nat → Int32) (r0 : Nat → Nat → Int32) (x1 : Int32) (x2 : Int32) (H : Heap) (locs : List Loc) (ls : Array Slot), f_X13_trail_69 l0 i0 r0 x1 x2 = some q → va_P D vwCl (W13 cs h0 a0 i0 r0 l0) H → va_D A (W13 cs h0 a0 i0 r0 l0) → va_S A s.heap H locs → lv_has ls 8 [(0, .ref h0), (1, .int x1), (2, .int x2)] → W p l e rmX13_trail s m args below meth c H locs 0 0 (MQ below (Qi D cs A q.1 (W13 cs h0 a0 q.2.1 q.2.2 l0)) args s 0 0 A) (F0 m 69 ls []) := by
  obtain ⟨hx, hb, hr, hml, hown, hts, hK, hA, hlocks, hZ⟩ := id C
  intro i0 r0 x1 x2 H locs ls hf hP hD hS hl
  rw [f_X13_trail_69] at hf
  refine lv_iconst (v := 1) hx hb dX13_trail_69 (by decide) ?_
  refine lv_istore (lv' := [(4, .int 1), (0, .ref h0), (1, .int x1), (2, .int x2)]) hx hb dX13_trail_70 hl (by decide) rfl (fun ls hl => ?_)
  refine lv_iconst (v := 0) hx hb dX13_trail_72 (by decide) ?_
  refine lv_istore (lv' := [(5, .int 0), (4, .int 1), (0, .ref h0), (1, .int x1), (2, .int x2)]) hx hb dX13_trail_73 hl (by decide) rfl (fun ls hl => ?_)
  exact w_X13_trail_75 C  2000000 _ _ _ _ _ _ _ _ _ hf hP hD hS (lv_sub hl [2, 3, 4, 1, 0] rfl)
def f_X13_trail_29 (l0 : Nat → Nat → Int64)  : Nat → (Nat → Int32) → (Nat → Nat → Int32) → Int32 → Int32 → Int32 → Option (Int32 × (Nat → Int32) × (Nat → Nat → Int32))
  | 0, _, _, _, _, _ => none
  | n + 1, i0, r0, x1, x2, x3 => if ((1 : Int32) <<< (x1 &&& 31)) ≤ x3 then (ck (inb ((1 : Int32) <<< ((x1 - 1) &&& 31)) 4096) (ck (inb 0 4096) (f_X13_trail_69 l0 i0 (va_up (va_up r0 72 (upd (r0 72) ((1 : Int32) <<< ((x1 - 1) &&& 31)).toNatClampNeg 0)) 73 (upd (r0 73) (0 : Int32).toNatClampNeg ((1 : Int32) <<< ((x1 - 1) &&& 31)))) x1 x2))) else (ck (inb x3 4096) (f_X13_trail_29 l0 n i0 (va_up r0 72 (upd (r0 72) x3.toNatClampNeg (-1))) x1 x2 (x3 + 1)))
set_option maxRecDepth 100000 in
set_option maxHeartbeats 4000000 in
theorem w_X13_trail_29 {p : Program} {l : Launch} {e : Env} {s : State} {m : MethodId} {args : Array Value} {below : List Frame} {meth : Method} {c : Code} {A : Nat → Prop} {D : va_G} {cs zs : Nat → Nat} {h0 : Nat} {a0 : Nat → Nat} {l0 : Nat → Nat → Int64} {q : Int32 × (Nat → Int32) × (Nat → Nat → Int32)} (C : Cx p s m args meth c A D cs zs cX13_trail 8 (some .int) RX13)  : ∀ (n : Nat), ∀ (i0 : Nat → Int32) (r0 : Nat → Nat → Int32) (x1 : Int32) (x2 : Int32) (x3 : Int32) (H : Heap) (locs : List Loc) (ls : Array Slot), f_X13_trail_29 l0 n i0 r0 x1 x2 x3 = some q → va_P D vwCl (W13 cs h0 a0 i0 r0 l0) H → va_D A (W13 cs h0 a0 i0 r0 l0) → va_S A s.heap H locs → lv_has ls 8 [(0, .ref h0), (1, .int x1), (2, .int x2), (3, .int x3)] → W p l e rmX13_trail s m args below meth c H locs 0 0 (MQ below (Qi D cs A q.1 (W13 cs h0 a0 q.2.1 q.2.2 l0)) args s 0 0 A) (F0 m 29 ls []) := by
  obtain ⟨hx, hb, hr, hml, hown, hts, hK, hA, hlocks, hZ⟩ := id C
  intro n
  induction n with
  | zero =>
    intro i0 r0 x1 x2 x3 H locs ls hf
    rw [f_X13_trail_29] at hf
    cases hf
  | succ n ih =>
    intro i0 r0 x1 x2 x3 H locs ls hf hP hD hS hl
    rw [f_X13_trail_29] at hf
    refine lv_iload_n hx hb dX13_trail_29 rfl (lv_at hl 3 rfl) ?_
    refine lv_iconst (v := 1) hx hb dX13_trail_30 (by decide) ?_
    refine lv_iload_n hx hb dX13_trail_31 rfl (lv_at hl 1 rfl) ?_
    refine lv_ishl hx hb dX13_trail_32 ?_
    refine lv_icmp_ge (tgt := 49) hx hb dX13_trail_33 (by decide) (fun hc => ?_) (fun hc => ?_)
    · have hf := ite_t hf hc
      refine lv_iconst (v := 1) hx hb dX13_trail_49 (by decide) ?_
      refine lv_iload_n hx hb dX13_trail_50 rfl (lv_at hl 1 rfl) ?_
      refine lv_iconst (v := 1) hx hb dX13_trail_51 (by decide) ?_
      refine lv_isub hx hb dX13_trail_52 ?_
      refine lv_ishl hx hb dX13_trail_53 ?_
      refine lv_istore_n (lv' := [(3, .int ((1 : Int32) <<< ((x1 - 1) &&& 31))), (0, .ref h0), (1, .int x1), (2, .int x2)]) hx hb dX13_trail_54 rfl hl (by decide) rfl (fun ls hl => ?_)
      refine lv_aload_n hx hb dX13_trail_55 rfl (lv_at hl 1 rfl) ?_
      refine va_get (D := D) (ci := 13) (v := .ref (a0 72)) (C := RX13) (T := TX13) (N := 87) hx hb hts hiX13 hown hK hP 0 rfl rfl 72 (by decide) (hts _ flX13_249) (fun _ h9 => h9) rfl dX13_trail_56 ?_
      refine lv_iload_n hx hb dX13_trail_59 rfl (lv_at hl 0 rfl) ?_
      refine lv_iconst (v := 0) hx hb dX13_trail_60 (by decide) ?_
      refine va_iast (f := r0 72) hx hb hK hP hD hS 42 0 rfl rfl (ck_in hf) dX13_trail_61 (fun H locs hP hD hS => ?_)
      have hf := ck_2 hf
      obtain ⟨hP, hD⟩ := st13_72 hP hD
      refine lv_aload_n hx hb dX13_trail_62 rfl (lv_at hl 1 rfl) ?_
      refine va_get (D := D) (ci := 13) (v := .ref (a0 73)) (C := RX13) (T := TX13) (N := 87) hx hb hts hiX13 hown hK hP 0 rfl rfl 73 (by decide) (hts _ flX13_252) (fun _ h9 => h9) rfl dX13_trail_63 ?_
      refine lv_iconst (v := 0) hx hb dX13_trail_66 (by decide) ?_
      refine lv_iload_n hx hb dX13_trail_67 rfl (lv_at hl 0 rfl) ?_
      refine va_iast (f := r0 73) hx hb hK hP hD hS 43 0 rfl rfl (ck_in hf) dX13_trail_68 (fun H locs hP hD hS => ?_)
      have hf := ck_2 hf
      obtain ⟨hP, hD⟩ := st13_73 hP hD
      exact w_X13_trail_69 C  _ _ _ _ _ _ _ hf hP hD hS (lv_sub hl [1, 2, 3] rfl)
    · have hf := ite_f hf hc
      refine lv_aload_n hx hb dX13_trail_36 rfl (lv_at hl 0 rfl) ?_
      refine va_get (D := D) (ci := 13) (v := .ref (a0 72)) (C := RX13) (T := TX13) (N := 87) hx hb hts hiX13 hown hK hP 0 rfl rfl 72 (by decide) (hts _ flX13_249) (fun _ h9 => h9) rfl dX13_trail_37 ?_
      refine lv_iload_n hx hb dX13_trail_40 rfl (lv_at hl 3 rfl) ?_
      refine lv_iconst (v := (-1)) hx hb dX13_trail_41 (by decide) ?_
      refine va_iast (f := r0 72) hx hb hK hP hD hS 42 0 rfl rfl (ck_in hf) dX13_trail_42 (fun H locs hP hD hS => ?_)
      have hf := ck_2 hf
      obtain ⟨hP, hD⟩ := st13_72 hP hD
      refine lv_iinc (v := x3 + 1) (lv' := [(3, .int (x3 + 1)), (0, .ref h0), (1, .int x1), (2, .int x2)]) hx hb dX13_trail_43 hl (k := 3) rfl rfl (by decide) rfl (fun ls hl => ?_)
      refine lv_goto (tgt := 29) hx hb dX13_trail_46 (by decide) ?_
      exact ih _ _ _ _ _ _ _ _ hf hP hD hS (lv_sub hl [1, 2, 3, 0] rfl)
def f_X13_trail  (i0 : Nat → Int32) (r0 : Nat → Nat → Int32) (l0 : Nat → Nat → Int64) (x1 : Int32) (x2 : Int32) : Option (Int32 × (Nat → Int32) × (Nat → Nat → Int32)) := bd (f_X13_in x1.toInt64 1 12) (fun q9 => if q9 = 0 then (some ((-2), i0, r0)) else (bd (f_X13_in x2.toInt64 1 12) (fun q10 => if q10 = 0 then (some ((-2), i0, r0)) else (f_X13_trail_29 l0 2000000 i0 r0 x1 x2 0))))
set_option maxRecDepth 100000 in
set_option maxHeartbeats 4000000 in
theorem c_X13_trail {l : Launch} {D : va_G} {cs zs : Nat → Nat} {h0 : Nat} {a0 : Nat → Nat} {i0 : Nat → Int32} {r0 : Nat → Nat → Int32} {l0 : Nat → Nat → Int64} {x1 : Int32} {x2 : Int32} {q : Int32 × (Nat → Int32) × (Nat → Nat → Int32)} (hf : f_X13_trail i0 r0 l0 x1 x2 = some q) : Mi l yX13_trail wlX13_trail rmX13_trail D cs zs [.ref h0, .int x1, .int x2] (W13 cs h0 a0 i0 r0 l0) q.1 (W13 cs h0 a0 q.2.1 q.2.2 l0) := by
  refine Mi.of RX13 (by decide) rfl (Nat.le_of_ble_eq_true rfl) (fun p e s m below meth c A C hP hD hS ls hl => ?_)
  generalize ([.ref h0, .int x1, .int x2] : List Value).toArray = args at C ⊢
  obtain ⟨hx, hb, hr, hml, hown, hts, hK, hA, hlocks, hZ⟩ := id C
  have hl : lv_has ls 8 [(0, .ref h0), (1, .int x1), (2, .int x2)] := hl
  rw [f_X13_trail] at hf
  refine lv_iload_n hx hb dX13_trail_0 rfl (lv_at hl 1 rfl) ?_
  refine lv_i2l hx hb dX13_trail_1 rfl ?_
  refine lv_lconst (v := 1) hx hb dX13_trail_2 (by decide) ?_
  refine lv_ldc2 (v := 12) hx hb hown (hts _ kcX13_609) dX13_trail_3 ?_
  obtain ⟨q9, hq9, hf⟩ := bd_s hf
  refine k_eSi (As := [.long x1.toInt64, .long 1, .long 12]) (rest := []) hx hb hml hown hts hK hA hZ hl.1 hP hD hS (c_X13_in  hq9) (gSt mlX13_64 stX13_in inX13 coX13_in) rfl qnX13_in rfl rfl ⟨Nat.le_of_ble_eq_true rfl, Nat.le_of_ble_eq_true rfl⟩ rfl rfl (Nat.le_of_ble_eq_true rfl) ⟨Nat.zero_le _, Nat.zero_le _⟩ dX13_trail_6 (fun H locs hP hD hS => ?_)
  refine lv_if_eq (tgt := 24) hx hb dX13_trail_9 (by decide) (fun hc => ?_) (fun hc => ?_)
  · have hf := ite_t hf hc
    refine lv_bipush (v := (-2)) hx hb dX13_trail_24 (by decide) ?_
    obtain rfl := Option.some.inj hf
    exact k_iret hx hb hr hlocks hK hP hD hS dX13_trail_26
  · have hf := ite_f hf hc
    refine lv_iload_n hx hb dX13_trail_12 rfl (lv_at hl 2 rfl) ?_
    refine lv_i2l hx hb dX13_trail_13 rfl ?_
    refine lv_lconst (v := 1) hx hb dX13_trail_14 (by decide) ?_
    refine lv_ldc2 (v := 12) hx hb hown (hts _ kcX13_609) dX13_trail_15 ?_
    obtain ⟨q10, hq10, hf⟩ := bd_s hf
    refine k_eSi (As := [.long x2.toInt64, .long 1, .long 12]) (rest := []) hx hb hml hown hts hK hA hZ hl.1 hP hD hS (c_X13_in  hq10) (gSt mlX13_64 stX13_in inX13 coX13_in) rfl qnX13_in rfl rfl ⟨Nat.le_of_ble_eq_true rfl, Nat.le_of_ble_eq_true rfl⟩ rfl rfl (Nat.le_of_ble_eq_true rfl) ⟨Nat.zero_le _, Nat.zero_le _⟩ dX13_trail_18 (fun H locs hP hD hS => ?_)
    refine lv_if_ne (tgt := 27) hx hb dX13_trail_21 (by decide) (fun hc => ?_) (fun hc => ?_)
    · have hf := ite_f hf hc
      refine lv_iconst (v := 0) hx hb dX13_trail_27 (by decide) ?_
      refine lv_istore_n (lv' := [(3, .int 0), (0, .ref h0), (1, .int x1), (2, .int x2)]) hx hb dX13_trail_28 rfl hl (by decide) rfl (fun ls hl => ?_)
      exact w_X13_trail_29 C  2000000 _ _ _ _ _ _ _ _ hf hP hD hS (lv_sub hl [1, 2, 3, 0] rfl)
    · have hf := ite_t hf hc
      refine lv_bipush (v := (-2)) hx hb dX13_trail_24 (by decide) ?_
      obtain rfl := Option.some.inj hf
      exact k_iret hx hb hr hlocks hK hP hD hS dX13_trail_26
/-! MarbleFloorModel.move(I)I -/
abbrev wlX13_move : List Cond := Cond.code yX13_move cX13_move 2 (some .int) :: tbG
abbrev rmX13_move : Room := { frames := 1, cells := 0, slots := 0, locals := 25 }
theorem qnX13_move : yX13_move.cls = RX13 ∧ yX13_move.cls ≠ "java/lang/invoke/MethodHandle" ∧ yX13_move.cls ≠ "java/lang/invoke/VarHandle" ∧ (parseMethodDescriptor yX13_move.desc).map (fun d => d.parameters.length) = some 1 := by decide +kernel
def f_X13_move  (i0 : Nat → Int32) (r0 : Nat → Nat → Int32) (l0 : Nat → Nat → Int64) (x1 : Int32) : Option (Int32) := bd (f_X13_in x1.toInt64 0 (((i0 75).toInt64) - 1)) (fun q2 => if q2 = 0 then (some ((-1))) else (ck (inb x1 4096) (some (r0 74 x1.toNatClampNeg))))
set_option maxRecDepth 100000 in
set_option maxHeartbeats 4000000 in
theorem c_X13_move {l : Launch} {D : va_G} {cs zs : Nat → Nat} {h0 : Nat} {a0 : Nat → Nat} {i0 : Nat → Int32} {r0 : Nat → Nat → Int32} {l0 : Nat → Nat → Int64} {x1 : Int32} {q : Int32} (hf : f_X13_move i0 r0 l0 x1 = some q) : Mi l yX13_move wlX13_move rmX13_move D cs zs [.ref h0, .int x1] (W13 cs h0 a0 i0 r0 l0) q (W13 cs h0 a0 i0 r0 l0) := by
  refine Mi.of RX13 (by decide) rfl (Nat.le_of_ble_eq_true rfl) (fun p e s m below meth c A C hP hD hS ls hl => ?_)
  generalize ([.ref h0, .int x1] : List Value).toArray = args at C ⊢
  obtain ⟨hx, hb, hr, hml, hown, hts, hK, hA, hlocks, hZ⟩ := id C
  have hl : lv_has ls 2 [(0, .ref h0), (1, .int x1)] := hl
  rw [f_X13_move] at hf
  refine lv_iload_n hx hb dX13_move_0 rfl (lv_at hl 1 rfl) ?_
  refine lv_i2l hx hb dX13_move_1 rfl ?_
  refine lv_lconst (v := 0) hx hb dX13_move_2 (by decide) ?_
  refine lv_aload_n hx hb dX13_move_3 rfl (lv_at hl 0 rfl) ?_
  refine va_get (D := D) (ci := 13) (v := .int (i0 75)) (C := RX13) (T := TX13) (N := 87) hx hb hts hiX13 hown hK hP 0 rfl rfl 75 (by decide) (hts _ flX13_614) (fun _ h9 => h9) rfl dX13_move_4 ?_
  refine lv_i2l hx hb dX13_move_7 rfl ?_
  refine lv_lconst (v := 1) hx hb dX13_move_8 (by decide) ?_
  refine lv_lsub hx hb dX13_move_9 ?_
  obtain ⟨q2, hq2, hf⟩ := bd_s hf
  refine k_eSi (As := [.long x1.toInt64, .long 0, .long (((i0 75).toInt64) - 1)]) (rest := []) hx hb hml hown hts hK hA hZ hl.1 hP hD hS (c_X13_in  hq2) (gSt mlX13_64 stX13_in inX13 coX13_in) rfl qnX13_in rfl rfl ⟨Nat.le_of_ble_eq_true rfl, Nat.le_of_ble_eq_true rfl⟩ rfl rfl (Nat.le_of_ble_eq_true rfl) ⟨Nat.zero_le _, Nat.zero_le _⟩ dX13_move_10 (fun H locs hP hD hS => ?_)
  refine lv_if_eq (tgt := 25) hx hb dX13_move_13 (by decide) (fun hc => ?_) (fun hc => ?_)
  · have hf := ite_t hf hc
    refine lv_iconst (v := (-1)) hx hb dX13_move_25 (by decide) ?_
    obtain rfl := Option.some.inj hf
    exact k_iret hx hb hr hlocks hK hP hD hS dX13_move_26
  · have hf := ite_f hf hc
    refine lv_aload_n hx hb dX13_move_16 rfl (lv_at hl 0 rfl) ?_
    refine va_get (D := D) (ci := 13) (v := .ref (a0 74)) (C := RX13) (T := TX13) (N := 87) hx hb hts hiX13 hown hK hP 0 rfl rfl 74 (by decide) (hts _ flX13_255) (fun _ h9 => h9) rfl dX13_move_17 ?_
    refine lv_iload_n hx hb dX13_move_20 rfl (lv_at hl 1 rfl) ?_
    refine va_iald (f := r0 74) hx hb hK hP 44 0 rfl rfl (ck_in hf) dX13_move_21 ?_
    have hf := ck_2 hf
    refine lv_goto (tgt := 26) hx hb dX13_move_22 (by decide) ?_
    obtain rfl := Option.some.inj hf
    exact k_iret hx hb hr hlocks hK hP hD hS dX13_move_26
/-! MarbleFloorModel.watch(I)I -/
abbrev wlX13_watch : List Cond := Cond.code yX13_watch cX13_watch 2 (some .int) :: tbG
abbrev rmX13_watch : Room := { frames := 2, cells := 0, slots := 0, locals := 45 }
theorem qnX13_watch : yX13_watch.cls = RX13 ∧ yX13_watch.cls ≠ "java/lang/invoke/MethodHandle" ∧ yX13_watch.cls ≠ "java/lang/invoke/VarHandle" ∧ (parseMethodDescriptor yX13_watch.desc).map (fun d => d.parameters.length) = some 1 := by decide +kernel
def f_X13_watch_37 (l0 : Nat → Nat → Int64)  (i0 : Nat → Int32) (r0 : Nat → Nat → Int32) : Option (Int32 × (Nat → Int32) × (Nat → Nat → Int32)) := ck (inb 7 8) (some (r0 11 (7 : Int32).toNatClampNeg, i0, r0))
set_option maxRecDepth 100000 in
set_option maxHeartbeats 4000000 in
theorem w_X13_watch_37 {p : Program} {l : Launch} {e : Env} {s : State} {m : MethodId} {args : Array Value} {below : List Frame} {meth : Method} {c : Code} {A : Nat → Prop} {D : va_G} {cs zs : Nat → Nat} {h0 : Nat} {a0 : Nat → Nat} {l0 : Nat → Nat → Int64} {q : Int32 × (Nat → Int32) × (Nat → Nat → Int32)} (C : Cx p s m args meth c A D cs zs cX13_watch 2 (some .int) RX13)  : ∀ (i0 : Nat → Int32) (r0 : Nat → Nat → Int32) (H : Heap) (locs : List Loc) (ls : Array Slot), f_X13_watch_37 l0 i0 r0 = some q → va_P D vwCl (W13 cs h0 a0 i0 r0 l0) H → va_D A (W13 cs h0 a0 i0 r0 l0) → va_S A s.heap H locs → lv_has ls 2 [(0, .ref h0)] → W p l e rmX13_watch s m args below meth c H locs 0 0 (MQ below (Qi D cs A q.1 (W13 cs h0 a0 q.2.1 q.2.2 l0)) args s 0 0 A) (F0 m 37 ls []) := by
  obtain ⟨hx, hb, hr, hml, hown, hts, hK, hA, hlocks, hZ⟩ := id C
  intro i0 r0 H locs ls hf hP hD hS hl
  rw [f_X13_watch_37] at hf
  refine lv_aload_n hx hb dX13_watch_37 rfl (lv_at hl 0 rfl) ?_
  refine va_get (D := D) (ci := 13) (v := .ref (a0 11)) (C := RX13) (T := TX13) (N := 87) hx hb hts hiX13 hown hK hP 0 rfl rfl 11 (by decide) (hts _ flX13_86) (fun _ h9 => h9) rfl dX13_watch_38 ?_
  refine lv_bipush (v := 7) hx hb dX13_watch_41 (by decide) ?_
  refine va_iald (f := r0 11) hx hb hK hP 3 0 rfl rfl (ck_in hf) dX13_watch_43 ?_
  have hf := ck_2 hf
  obtain rfl := Option.some.inj hf
  exact k_iret hx hb hr hlocks hK hP hD hS dX13_watch_44
def f_X13_watch  (i0 : Nat → Int32) (r0 : Nat → Nat → Int32) (l0 : Nat → Nat → Int64) (x1 : Int32) : Option (Int32 × (Nat → Int32) × (Nat → Nat → Int32)) := bd (f_X13_isFloor x1) (fun q3 => if q3 = 0 then (some ((-2), i0, r0)) else (bd (f_X13_copyFloor i0 r0 l0 x1 7) (fun q4 => f_X13_watch_37 l0 (upd (upd (upd (upd i0 76 1) 77 0) 78 0) 79 0) q4)))
set_option maxRecDepth 100000 in
set_option maxHeartbeats 4000000 in
theorem c_X13_watch {l : Launch} {D : va_G} {cs zs : Nat → Nat} {h0 : Nat} {a0 : Nat → Nat} {i0 : Nat → Int32} {r0 : Nat → Nat → Int32} {l0 : Nat → Nat → Int64} {x1 : Int32} {q : Int32 × (Nat → Int32) × (Nat → Nat → Int32)} (hf : f_X13_watch i0 r0 l0 x1 = some q) : Mi l yX13_watch wlX13_watch rmX13_watch D cs zs [.ref h0, .int x1] (W13 cs h0 a0 i0 r0 l0) q.1 (W13 cs h0 a0 q.2.1 q.2.2 l0) := by
  refine Mi.of RX13 (by decide) rfl (Nat.le_of_ble_eq_true rfl) (fun p e s m below meth c A C hP hD hS ls hl => ?_)
  generalize ([.ref h0, .int x1] : List Value).toArray = args at C ⊢
  obtain ⟨hx, hb, hr, hml, hown, hts, hK, hA, hlocks, hZ⟩ := id C
  have hl : lv_has ls 2 [(0, .ref h0), (1, .int x1)] := hl
  rw [f_X13_watch] at hf
  refine lv_iload_n hx hb dX13_watch_0 rfl (lv_at hl 1 rfl) ?_
  obtain ⟨q3, hq3, hf⟩ := bd_s hf
  refine k_eSi (As := [.int x1]) (rest := []) hx hb hml hown hts hK hA hZ hl.1 hP hD hS (c_X13_isFloor  hq3) (gSt mlX13_290 stX13_isFloor inX13 coX13_isFloor) rfl qnX13_isFloor rfl rfl ⟨Nat.le_of_ble_eq_true rfl, Nat.le_of_ble_eq_true rfl⟩ rfl rfl (Nat.le_of_ble_eq_true rfl) ⟨Nat.zero_le _, Nat.zero_le _⟩ dX13_watch_1 (fun H locs hP hD hS => ?_)
  refine lv_if_ne (tgt := 10) hx hb dX13_watch_4 (by decide) (fun hc => ?_) (fun hc => ?_)
  · have hf := ite_f hf hc
    refine lv_aload_n hx hb dX13_watch_10 rfl (lv_at hl 0 rfl) ?_
    refine lv_iload_n hx hb dX13_watch_11 rfl (lv_at hl 1 rfl) ?_
    refine lv_bipush (v := 7) hx hb dX13_watch_12 (by decide) ?_
    obtain ⟨q4, hq4, hf⟩ := bd_s hf
    refine k_sVv (ws2 := W13 cs h0 a0 i0 q4 l0) (As := [.int x1, .int 7]) (rest := []) hx hb hml hown hts hK hA hZ hl.1 hP hD hS (c_X13_copyFloor (h0 := h0) (a0 := a0) hq4) (gVt mlX13_299 imX13_copyFloor seX13_copyFloor inX13 coX13_copyFloor) rfl qnX13_copyFloor rfl rfl ⟨Nat.le_of_ble_eq_true rfl, Nat.le_of_ble_eq_true rfl⟩ 0 13 rfl rfl rfl rfl rfl (Nat.le_of_ble_eq_true rfl) ⟨Nat.zero_le _, Nat.zero_le _⟩ dX13_watch_14 (fun H locs hP hD hS => ?_)
    refine lv_aload_n hx hb dX13_watch_17 rfl (lv_at hl 0 rfl) ?_
    refine lv_iconst (v := 1) hx hb dX13_watch_18 (by decide) ?_
    refine va_put (D := D) (ci := 13) (v := .int 1) (ty := .boolean) (C := RX13) (T := TX13) (N := 87) hx hb hts hiX13 tyX13 tyX13_ok nmX13 hown hK hP hD hS 0 rfl rfl 76 (by decide) (hts _ flX13_620) (fun _ h9 => h9) rfl (tyX13_ok 76 (by decide)) rfl rfl (Nat.le_of_ble_eq_true rfl) dX13_watch_19 (fun H locs hP hD hS => ?_)
    obtain ⟨hP, hD⟩ := st13_76 hP hD
    refine lv_aload_n hx hb dX13_watch_22 rfl (lv_at hl 0 rfl) ?_
    refine lv_iconst (v := 0) hx hb dX13_watch_23 (by decide) ?_
    refine va_put (D := D) (ci := 13) (v := .int 0) (ty := .int) (C := RX13) (T := TX13) (N := 87) hx hb hts hiX13 tyX13 tyX13_ok nmX13 hown hK hP hD hS 0 rfl rfl 77 (by decide) (hts _ flX13_624) (fun _ h9 => h9) rfl (tyX13_ok 77 (by decide)) rfl rfl (Nat.le_of_ble_eq_true rfl) dX13_watch_24 (fun H locs hP hD hS => ?_)
    obtain ⟨hP, hD⟩ := st13_77 hP hD
    refine lv_aload_n hx hb dX13_watch_27 rfl (lv_at hl 0 rfl) ?_
    refine lv_iconst (v := 0) hx hb dX13_watch_28 (by decide) ?_
    refine va_put (D := D) (ci := 13) (v := .int 0) (ty := .int) (C := RX13) (T := TX13) (N := 87) hx hb hts hiX13 tyX13 tyX13_ok nmX13 hown hK hP hD hS 0 rfl rfl 78 (by decide) (hts _ flX13_627) (fun _ h9 => h9) rfl (tyX13_ok 78 (by decide)) rfl rfl (Nat.le_of_ble_eq_true rfl) dX13_watch_29 (fun H locs hP hD hS => ?_)
    obtain ⟨hP, hD⟩ := st13_78 hP hD
    refine lv_aload_n hx hb dX13_watch_32 rfl (lv_at hl 0 rfl) ?_
    refine lv_iconst (v := 0) hx hb dX13_watch_33 (by decide) ?_
    refine va_put (D := D) (ci := 13) (v := .int 0) (ty := .int) (C := RX13) (T := TX13) (N := 87) hx hb hts hiX13 tyX13 tyX13_ok nmX13 hown hK hP hD hS 0 rfl rfl 79 (by decide) (hts _ flX13_630) (fun _ h9 => h9) rfl (tyX13_ok 79 (by decide)) rfl rfl (Nat.le_of_ble_eq_true rfl) dX13_watch_34 (fun H locs hP hD hS => ?_)
    obtain ⟨hP, hD⟩ := st13_79 hP hD
    exact w_X13_watch_37 C  _ _ _ _ _ hf hP hD hS (lv_sub hl [0] rfl)
  · have hf := ite_t hf hc
    refine lv_bipush (v := (-2)) hx hb dX13_watch_7 (by decide) ?_
    obtain rfl := Option.some.inj hf
    exact k_iret hx hb hr hlocks hK hP hD hS dX13_watch_9
/-! MarbleFloorModel.see(III)I -/
abbrev wlX13_see : List Cond := Cond.code yX13_see cX13_see 4 (some .int) :: tbG
abbrev rmX13_see : Room := { frames := 2, cells := 0, slots := 0, locals := 47 }
theorem qnX13_see : yX13_see.cls = RX13 ∧ yX13_see.cls ≠ "java/lang/invoke/MethodHandle" ∧ yX13_see.cls ≠ "java/lang/invoke/VarHandle" ∧ (parseMethodDescriptor yX13_see.desc).map (fun d => d.parameters.length) = some 3 := by decide +kernel
def f_X13_see_127 (l0 : Nat → Nat → Int64)  (i0 : Nat → Int32) (r0 : Nat → Nat → Int32) (x1 : Int32) : Option (Int32 × (Nat → Int32) × (Nat → Nat → Int32)) := ck (inb (i0 77) 20) (some (((i0 77) + 1) - 1, (upd i0 77 ((i0 77) + 1)), (va_up r0 82 (upd (r0 82) (i0 77).toNatClampNeg x1))))
set_option maxRecDepth 100000 in
set_option maxHeartbeats 4000000 in
theorem w_X13_see_127 {p : Program} {l : Launch} {e : Env} {s : State} {m : MethodId} {args : Array Value} {below : List Frame} {meth : Method} {c : Code} {A : Nat → Prop} {D : va_G} {cs zs : Nat → Nat} {h0 : Nat} {a0 : Nat → Nat} {l0 : Nat → Nat → Int64} {q : Int32 × (Nat → Int32) × (Nat → Nat → Int32)} (C : Cx p s m args meth c A D cs zs cX13_see 4 (some .int) RX13)  : ∀ (i0 : Nat → Int32) (r0 : Nat → Nat → Int32) (x1 : Int32) (H : Heap) (locs : List Loc) (ls : Array Slot), f_X13_see_127 l0 i0 r0 x1 = some q → va_P D vwCl (W13 cs h0 a0 i0 r0 l0) H → va_D A (W13 cs h0 a0 i0 r0 l0) → va_S A s.heap H locs → lv_has ls 4 [(0, .ref h0), (1, .int x1)] → W p l e rmX13_see s m args below meth c H locs 0 0 (MQ below (Qi D cs A q.1 (W13 cs h0 a0 q.2.1 q.2.2 l0)) args s 0 0 A) (F0 m 127 ls []) := by
  obtain ⟨hx, hb, hr, hml, hown, hts, hK, hA, hlocks, hZ⟩ := id C
  intro i0 r0 x1 H locs ls hf hP hD hS hl
  rw [f_X13_see_127] at hf
  refine lv_aload_n hx hb dX13_see_127 rfl (lv_at hl 0 rfl) ?_
  refine va_get (D := D) (ci := 13) (v := .ref (a0 82)) (C := RX13) (T := TX13) (N := 87) hx hb hts hiX13 hown hK hP 0 rfl rfl 82 (by decide) (hts _ flX13_264) (fun _ h9 => h9) rfl dX13_see_128 ?_
  refine lv_aload_n hx hb dX13_see_131 rfl (lv_at hl 0 rfl) ?_
  refine va_get (D := D) (ci := 13) (v := .int (i0 77)) (C := RX13) (T := TX13) (N := 87) hx hb hts hiX13 hown hK hP 0 rfl rfl 77 (by decide) (hts _ flX13_624) (fun _ h9 => h9) rfl dX13_see_132 ?_
  refine lv_iload_n hx hb dX13_see_135 rfl (lv_at hl 1 rfl) ?_
  refine va_iast (f := r0 82) hx hb hK hP hD hS 47 0 rfl rfl (ck_in hf) dX13_see_136 (fun H locs hP hD hS => ?_)
  have hf := ck_2 hf
  obtain ⟨hP, hD⟩ := st13_82 hP hD
  refine lv_aload_n hx hb dX13_see_137 rfl (lv_at hl 0 rfl) ?_
  refine lv_dup hx hb dX13_see_138 rfl ?_
  refine va_get (D := D) (ci := 13) (v := .int (i0 77)) (C := RX13) (T := TX13) (N := 87) hx hb hts hiX13 hown hK hP 0 rfl rfl 77 (by decide) (hts _ flX13_624) (fun _ h9 => h9) rfl dX13_see_139 ?_
  refine lv_iconst (v := 1) hx hb dX13_see_142 (by decide) ?_
  refine lv_iadd hx hb dX13_see_143 ?_
  refine va_put (D := D) (ci := 13) (v := .int ((i0 77) + 1)) (ty := .int) (C := RX13) (T := TX13) (N := 87) hx hb hts hiX13 tyX13 tyX13_ok nmX13 hown hK hP hD hS 0 rfl rfl 77 (by decide) (hts _ flX13_624) (fun _ h9 => h9) rfl (tyX13_ok 77 (by decide)) rfl rfl (Nat.le_of_ble_eq_true rfl) dX13_see_144 (fun H locs hP hD hS => ?_)
  obtain ⟨hP, hD⟩ := st13_77 hP hD
  refine lv_aload_n hx hb dX13_see_147 rfl (lv_at hl 0 rfl) ?_
  refine va_get (D := D) (ci := 13) (v := .int ((i0 77) + 1)) (C := RX13) (T := TX13) (N := 87) hx hb hts hiX13 hown hK hP 0 rfl rfl 77 (by decide) (hts _ flX13_624) (fun _ h9 => h9) rfl dX13_see_148 ?_
  refine lv_iconst (v := 1) hx hb dX13_see_151 (by decide) ?_
  refine lv_isub hx hb dX13_see_152 ?_
  obtain rfl := Option.some.inj hf
  exact k_iret hx hb hr hlocks hK hP hD hS dX13_see_153
def f_X13_see  (i0 : Nat → Int32) (r0 : Nat → Nat → Int32) (l0 : Nat → Nat → Int64) (x1 : Int32) (x2 : Int32) (x3 : Int32) : Option (Int32 × (Nat → Int32) × (Nat → Nat → Int32)) := if (i0 76) = 0 then (bd (f_X13_in x1.toInt64 0 999) (fun q10 => if q10 = 0 then (some ((-2), i0, r0)) else (bd (f_X13_in x2.toInt64 0 255) (fun q11 => if q11 = 0 then (some ((-2), i0, r0)) else (bd (f_X13_in x3.toInt64 0 255) (fun q12 => if q12 = 0 then (some ((-2), i0, r0)) else (some ((-4), i0, r0)))))))) else (bd (f_X13_in x1.toInt64 ((i0 79).toInt64) 999) (fun q7 => if q7 = 0 then (some ((-2), i0, r0)) else (bd (f_X13_isRow i0 r0 l0 7 x2) (fun q8 => if q8 = 0 then (some ((-2), i0, r0)) else (bd (f_X13_isRow i0 r0 l0 7 x3) (fun q9 => if q9 = 0 then (some ((-2), i0, r0)) else (if (i0 77) = 20 then (some ((-3), i0, r0)) else (ck (inb (i0 77) 20) (ck (inb (i0 77) 20) (f_X13_see_127 l0 (upd i0 79 x1) (va_up (va_up r0 80 (upd (r0 80) (i0 77).toNatClampNeg x2)) 81 (upd (r0 81) (i0 77).toNatClampNeg x3)) x1))))))))))
set_option maxRecDepth 100000 in
set_option maxHeartbeats 4000000 in
theorem c_X13_see {l : Launch} {D : va_G} {cs zs : Nat → Nat} {h0 : Nat} {a0 : Nat → Nat} {i0 : Nat → Int32} {r0 : Nat → Nat → Int32} {l0 : Nat → Nat → Int64} {x1 : Int32} {x2 : Int32} {x3 : Int32} {q : Int32 × (Nat → Int32) × (Nat → Nat → Int32)} (hf : f_X13_see i0 r0 l0 x1 x2 x3 = some q) : Mi l yX13_see wlX13_see rmX13_see D cs zs [.ref h0, .int x1, .int x2, .int x3] (W13 cs h0 a0 i0 r0 l0) q.1 (W13 cs h0 a0 q.2.1 q.2.2 l0) := by
  refine Mi.of RX13 (by decide) rfl (Nat.le_of_ble_eq_true rfl) (fun p e s m below meth c A C hP hD hS ls hl => ?_)
  generalize ([.ref h0, .int x1, .int x2, .int x3] : List Value).toArray = args at C ⊢
  obtain ⟨hx, hb, hr, hml, hown, hts, hK, hA, hlocks, hZ⟩ := id C
  have hl : lv_has ls 4 [(0, .ref h0), (1, .int x1), (2, .int x2), (3, .int x3)] := hl
  rw [f_X13_see] at hf
  refine lv_aload_n hx hb dX13_see_0 rfl (lv_at hl 0 rfl) ?_
  refine va_get (D := D) (ci := 13) (v := .int (i0 76)) (C := RX13) (T := TX13) (N := 87) hx hb hts hiX13 hown hK hP 0 rfl rfl 76 (by decide) (hts _ flX13_620) (fun _ h9 => h9) rfl dX13_see_1 ?_
  refine lv_if_ne (tgt := 51) hx hb dX13_see_4 (by decide) (fun hc => ?_) (fun hc => ?_)
  · have hf := ite_f hf hc
    refine lv_iload_n hx hb dX13_see_51 rfl (lv_at hl 1 rfl) ?_
    refine lv_i2l hx hb dX13_see_52 rfl ?_
    refine lv_aload_n hx hb dX13_see_53 rfl (lv_at hl 0 rfl) ?_
    refine va_get (D := D) (ci := 13) (v := .int (i0 79)) (C := RX13) (T := TX13) (N := 87) hx hb hts hiX13 hown hK hP 0 rfl rfl 79 (by decide) (hts _ flX13_630) (fun _ h9 => h9) rfl dX13_see_54 ?_
    refine lv_i2l hx hb dX13_see_57 rfl ?_
    refine lv_ldc2 (v := 999) hx hb hown (hts _ kcX13_633) dX13_see_58 ?_
    obtain ⟨q7, hq7, hf⟩ := bd_s hf
    refine k_eSi (As := [.long x1.toInt64, .long ((i0 79).toInt64), .long 999]) (rest := []) hx hb hml hown hts hK hA hZ hl.1 hP hD hS (c_X13_in  hq7) (gSt mlX13_64 stX13_in inX13 coX13_in) rfl qnX13_in rfl rfl ⟨Nat.le_of_ble_eq_true rfl, Nat.le_of_ble_eq_true rfl⟩ rfl rfl (Nat.le_of_ble_eq_true rfl) ⟨Nat.zero_le _, Nat.zero_le _⟩ dX13_see_61 (fun H locs hP hD hS => ?_)
    refine lv_if_eq (tgt := 87) hx hb dX13_see_64 (by decide) (fun hc => ?_) (fun hc => ?_)
    · have hf := ite_t hf hc
      refine lv_bipush (v := (-2)) hx hb dX13_see_87 (by decide) ?_
      obtain rfl := Option.some.inj hf
      exact k_iret hx hb hr hlocks hK hP hD hS dX13_see_89
    · have hf := ite_f hf hc
      refine lv_aload_n hx hb dX13_see_67 rfl (lv_at hl 0 rfl) ?_
      refine lv_bipush (v := 7) hx hb dX13_see_68 (by decide) ?_
      refine lv_iload_n hx hb dX13_see_70 rfl (lv_at hl 2 rfl) ?_
      obtain ⟨q8, hq8, hf⟩ := bd_s hf
      refine k_sVi (ws2 := W13 cs h0 a0 i0 r0 l0) (As := [.int 7, .int x2]) (rest := []) hx hb hml hown hts hK hA hZ hl.1 hP hD hS (c_X13_isRow (h0 := h0) (a0 := a0) hq8) (gVt mlX13_310 imX13_isRow seX13_isRow inX13 coX13_isRow) rfl qnX13_isRow rfl rfl ⟨Nat.le_of_ble_eq_true rfl, Nat.le_of_ble_eq_true rfl⟩ 0 13 rfl rfl rfl rfl rfl (Nat.le_of_ble_eq_true rfl) ⟨Nat.zero_le _, Nat.zero_le _⟩ dX13_see_71 (fun H locs hP hD hS => ?_)
      refine lv_if_eq (tgt := 87) hx hb dX13_see_74 (by decide) (fun hc => ?_) (fun hc => ?_)
      · have hf := ite_t hf hc
        refine lv_bipush (v := (-2)) hx hb dX13_see_87 (by decide) ?_
        obtain rfl := Option.some.inj hf
        exact k_iret hx hb hr hlocks hK hP hD hS dX13_see_89
      · have hf := ite_f hf hc
        refine lv_aload_n hx hb dX13_see_77 rfl (lv_at hl 0 rfl) ?_
        refine lv_bipush (v := 7) hx hb dX13_see_78 (by decide) ?_
        refine lv_iload_n hx hb dX13_see_80 rfl (lv_at hl 3 rfl) ?_
        obtain ⟨q9, hq9, hf⟩ := bd_s hf
        refine k_sVi (ws2 := W13 cs h0 a0 i0 r0 l0) (As := [.int 7, .int x3]) (rest := []) hx hb hml hown hts hK hA hZ hl.1 hP hD hS (c_X13_isRow (h0 := h0) (a0 := a0) hq9) (gVt mlX13_310 imX13_isRow seX13_isRow inX13 coX13_isRow) rfl qnX13_isRow rfl rfl ⟨Nat.le_of_ble_eq_true rfl, Nat.le_of_ble_eq_true rfl⟩ 0 13 rfl rfl rfl rfl rfl (Nat.le_of_ble_eq_true rfl) ⟨Nat.zero_le _, Nat.zero_le _⟩ dX13_see_81 (fun H locs hP hD hS => ?_)
        refine lv_if_ne (tgt := 90) hx hb dX13_see_84 (by decide) (fun hc => ?_) (fun hc => ?_)
        · have hf := ite_f hf hc
          refine lv_aload_n hx hb dX13_see_90 rfl (lv_at hl 0 rfl) ?_
          refine va_get (D := D) (ci := 13) (v := .int (i0 77)) (C := RX13) (T := TX13) (N := 87) hx hb hts hiX13 hown hK hP 0 rfl rfl 77 (by decide) (hts _ flX13_624) (fun _ h9 => h9) rfl dX13_see_91 ?_
          refine lv_bipush (v := 20) hx hb dX13_see_94 (by decide) ?_
          refine lv_icmp_ne (tgt := 102) hx hb dX13_see_96 (by decide) (fun hc => ?_) (fun hc => ?_)
          · have hf := ite_f hf hc
            refine lv_aload_n hx hb dX13_see_102 rfl (lv_at hl 0 rfl) ?_
            refine lv_iload_n hx hb dX13_see_103 rfl (lv_at hl 1 rfl) ?_
            refine va_put (D := D) (ci := 13) (v := .int x1) (ty := .int) (C := RX13) (T := TX13) (N := 87) hx hb hts hiX13 tyX13 tyX13_ok nmX13 hown hK hP hD hS 0 rfl rfl 79 (by decide) (hts _ flX13_630) (fun _ h9 => h9) rfl (tyX13_ok 79 (by decide)) rfl rfl (Nat.le_of_ble_eq_true rfl) dX13_see_104 (fun H locs hP hD hS => ?_)
            obtain ⟨hP, hD⟩ := st13_79 hP hD
            refine lv_aload_n hx hb dX13_see_107 rfl (lv_at hl 0 rfl) ?_
            refine va_get (D := D) (ci := 13) (v := .ref (a0 80)) (C := RX13) (T := TX13) (N := 87) hx hb hts hiX13 hown hK hP 0 rfl rfl 80 (by decide) (hts _ flX13_258) (fun _ h9 => h9) rfl dX13_see_108 ?_
            refine lv_aload_n hx hb dX13_see_111 rfl (lv_at hl 0 rfl) ?_
            refine va_get (D := D) (ci := 13) (v := .int (i0 77)) (C := RX13) (T := TX13) (N := 87) hx hb hts hiX13 hown hK hP 0 rfl rfl 77 (by decide) (hts _ flX13_624) (fun _ h9 => h9) rfl dX13_see_112 ?_
            refine lv_iload_n hx hb dX13_see_115 rfl (lv_at hl 2 rfl) ?_
            refine va_iast (f := r0 80) hx hb hK hP hD hS 45 0 rfl rfl (ck_in hf) dX13_see_116 (fun H locs hP hD hS => ?_)
            have hf := ck_2 hf
            obtain ⟨hP, hD⟩ := st13_80 hP hD
            refine lv_aload_n hx hb dX13_see_117 rfl (lv_at hl 0 rfl) ?_
            refine va_get (D := D) (ci := 13) (v := .ref (a0 81)) (C := RX13) (T := TX13) (N := 87) hx hb hts hiX13 hown hK hP 0 rfl rfl 81 (by decide) (hts _ flX13_261) (fun _ h9 => h9) rfl dX13_see_118 ?_
            refine lv_aload_n hx hb dX13_see_121 rfl (lv_at hl 0 rfl) ?_
            refine va_get (D := D) (ci := 13) (v := .int (i0 77)) (C := RX13) (T := TX13) (N := 87) hx hb hts hiX13 hown hK hP 0 rfl rfl 77 (by decide) (hts _ flX13_624) (fun _ h9 => h9) rfl dX13_see_122 ?_
            refine lv_iload_n hx hb dX13_see_125 rfl (lv_at hl 3 rfl) ?_
            refine va_iast (f := r0 81) hx hb hK hP hD hS 46 0 rfl rfl (ck_in hf) dX13_see_126 (fun H locs hP hD hS => ?_)
            have hf := ck_2 hf
            obtain ⟨hP, hD⟩ := st13_81 hP hD
            exact w_X13_see_127 C  _ _ _ _ _ _ hf hP hD hS (lv_sub hl [0, 1] rfl)
          · have hf := ite_t hf hc
            refine lv_bipush (v := (-3)) hx hb dX13_see_99 (by decide) ?_
            obtain rfl := Option.some.inj hf
            exact k_iret hx hb hr hlocks hK hP hD hS dX13_see_101
        · have hf := ite_t hf hc
          refine lv_bipush (v := (-2)) hx hb dX13_see_87 (by decide) ?_
          obtain rfl := Option.some.inj hf
          exact k_iret hx hb hr hlocks hK hP hD hS dX13_see_89
  · have hf := ite_t hf hc
    refine lv_iload_n hx hb dX13_see_7 rfl (lv_at hl 1 rfl) ?_
    refine lv_i2l hx hb dX13_see_8 rfl ?_
    refine lv_lconst (v := 0) hx hb dX13_see_9 (by decide) ?_
    refine lv_ldc2 (v := 999) hx hb hown (hts _ kcX13_633) dX13_see_10 ?_
    obtain ⟨q10, hq10, hf⟩ := bd_s hf
    refine k_eSi (As := [.long x1.toInt64, .long 0, .long 999]) (rest := []) hx hb hml hown hts hK hA hZ hl.1 hP hD hS (c_X13_in  hq10) (gSt mlX13_64 stX13_in inX13 coX13_in) rfl qnX13_in rfl rfl ⟨Nat.le_of_ble_eq_true rfl, Nat.le_of_ble_eq_true rfl⟩ rfl rfl (Nat.le_of_ble_eq_true rfl) ⟨Nat.zero_le _, Nat.zero_le _⟩ dX13_see_13 (fun H locs hP hD hS => ?_)
    refine lv_if_eq (tgt := 48) hx hb dX13_see_16 (by decide) (fun hc => ?_) (fun hc => ?_)
    · have hf := ite_t hf hc
      refine lv_bipush (v := (-2)) hx hb dX13_see_48 (by decide) ?_
      obtain rfl := Option.some.inj hf
      exact k_iret hx hb hr hlocks hK hP hD hS dX13_see_50
    · have hf := ite_f hf hc
      refine lv_iload_n hx hb dX13_see_19 rfl (lv_at hl 2 rfl) ?_
      refine lv_i2l hx hb dX13_see_20 rfl ?_
      refine lv_lconst (v := 0) hx hb dX13_see_21 (by decide) ?_
      refine lv_ldc2 (v := 255) hx hb hown (hts _ kcX13_635) dX13_see_22 ?_
      obtain ⟨q11, hq11, hf⟩ := bd_s hf
      refine k_eSi (As := [.long x2.toInt64, .long 0, .long 255]) (rest := []) hx hb hml hown hts hK hA hZ hl.1 hP hD hS (c_X13_in  hq11) (gSt mlX13_64 stX13_in inX13 coX13_in) rfl qnX13_in rfl rfl ⟨Nat.le_of_ble_eq_true rfl, Nat.le_of_ble_eq_true rfl⟩ rfl rfl (Nat.le_of_ble_eq_true rfl) ⟨Nat.zero_le _, Nat.zero_le _⟩ dX13_see_25 (fun H locs hP hD hS => ?_)
      refine lv_if_eq (tgt := 48) hx hb dX13_see_28 (by decide) (fun hc => ?_) (fun hc => ?_)
      · have hf := ite_t hf hc
        refine lv_bipush (v := (-2)) hx hb dX13_see_48 (by decide) ?_
        obtain rfl := Option.some.inj hf
        exact k_iret hx hb hr hlocks hK hP hD hS dX13_see_50
      · have hf := ite_f hf hc
        refine lv_iload_n hx hb dX13_see_31 rfl (lv_at hl 3 rfl) ?_
        refine lv_i2l hx hb dX13_see_32 rfl ?_
        refine lv_lconst (v := 0) hx hb dX13_see_33 (by decide) ?_
        refine lv_ldc2 (v := 255) hx hb hown (hts _ kcX13_635) dX13_see_34 ?_
        obtain ⟨q12, hq12, hf⟩ := bd_s hf
        refine k_eSi (As := [.long x3.toInt64, .long 0, .long 255]) (rest := []) hx hb hml hown hts hK hA hZ hl.1 hP hD hS (c_X13_in  hq12) (gSt mlX13_64 stX13_in inX13 coX13_in) rfl qnX13_in rfl rfl ⟨Nat.le_of_ble_eq_true rfl, Nat.le_of_ble_eq_true rfl⟩ rfl rfl (Nat.le_of_ble_eq_true rfl) ⟨Nat.zero_le _, Nat.zero_le _⟩ dX13_see_37 (fun H locs hP hD hS => ?_)
        refine lv_if_eq (tgt := 48) hx hb dX13_see_40 (by decide) (fun hc => ?_) (fun hc => ?_)
        · have hf := ite_t hf hc
          refine lv_bipush (v := (-2)) hx hb dX13_see_48 (by decide) ?_
          obtain rfl := Option.some.inj hf
          exact k_iret hx hb hr hlocks hK hP hD hS dX13_see_50
        · have hf := ite_f hf hc
          refine lv_bipush (v := (-4)) hx hb dX13_see_43 (by decide) ?_
          refine lv_goto (tgt := 50) hx hb dX13_see_45 (by decide) ?_
          obtain rfl := Option.some.inj hf
          exact k_iret hx hb hr hlocks hK hP hD hS dX13_see_50
/-! MarbleFloorModel.right(III)I -/
abbrev wlX13_right_ : List Cond := Cond.code yX13_right_ cX13_right_ 6 (some .int) :: tbG
abbrev rmX13_right_ : Room := { frames := 2, cells := 0, slots := 0, locals := 47 }
theorem qnX13_right_ : yX13_right_.cls = RX13 ∧ yX13_right_.cls ≠ "java/lang/invoke/MethodHandle" ∧ yX13_right_.cls ≠ "java/lang/invoke/VarHandle" ∧ (parseMethodDescriptor yX13_right_.desc).map (fun d => d.parameters.length) = some 3 := by decide +kernel
def f_X13_right__135 (l0 : Nat → Nat → Int64) (K108 : (Nat → Int32) → (Nat → Nat → Int32) → Int32 → Int32 → Int32 → Option (Int32 × (Nat → Int32) × (Nat → Nat → Int32))) (i0 : Nat → Int32) (r0 : Nat → Nat → Int32) (x2 : Int32) (x5 : Int32) (y0 : Int32) (y1 : Int32) : Option (Int32 × (Nat → Int32) × (Nat → Nat → Int32)) := K108 i0 r0 x2 (y1 + y0) (x5 + 1)
set_option maxRecDepth 100000 in
set_option maxHeartbeats 4000000 in
theorem w_X13_right__135 {p : Program} {l : Launch} {e : Env} {s : State} {m : MethodId} {args : Array Value} {below : List Frame} {meth : Method} {c : Code} {A : Nat → Prop} {D : va_G} {cs zs : Nat → Nat} {h0 : Nat} {a0 : Nat → Nat} {l0 : Nat → Nat → Int64} {q : Int32 × (Nat → Int32) × (Nat → Nat → Int32)} (C : Cx p s m args meth c A D cs zs cX13_right_ 6 (some .int) RX13) (K108 : (Nat → Int32) → (Nat → Nat → Int32) → Int32 → Int32 → Int32 → Option (Int32 × (Nat → Int32) × (Nat → Nat → Int32))) (hK108 : ∀ (i0 : Nat → Int32) (r0 : Nat → Nat → Int32) (x2 : Int32) (x4 : Int32) (x5 : Int32) (H : Heap) (locs : List Loc) (ls : Array Slot), K108 i0 r0 x2 x4 x5 = some q → va_P D vwCl (W13 cs h0 a0 i0 r0 l0) H → va_D A (W13 cs h0 a0 i0 r0 l0) → va_S A s.heap H locs → lv_has ls 6 [(0, .ref h0), (2, .int x2), (4, .int x4), (5, .int x5)] → W p l e rmX13_right_ s m args below meth c H locs 0 0 (MQ below (Qi D cs A q.1 (W13 cs h0 a0 q.2.1 q.2.2 l0)) args s 0 0 A) (F0 m 108 ls [])) : ∀ (i0 : Nat → Int32) (r0 : Nat → Nat → Int32) (x2 : Int32) (x5 : Int32) (y0 : Int32) (y1 : Int32) (H : Heap) (locs : List Loc) (ls : Array Slot), f_X13_right__135 l0 K108 i0 r0 x2 x5 y0 y1 = some q → va_P D vwCl (W13 cs h0 a0 i0 r0 l0) H → va_D A (W13 cs h0 a0 i0 r0 l0) → va_S A s.heap H locs → lv_has ls 6 [(0, .ref h0), (2, .int x2), (5, .int x5)] → W p l e rmX13_right_ s m args below meth c H locs 0 0 (MQ below (Qi D cs A q.1 (W13 cs h0 a0 q.2.1 q.2.2 l0)) args s 0 0 A) (F0 m 135 ls [.int y0, .int y1]) := by
  obtain ⟨hx, hb, hr, hml, hown, hts, hK, hA, hlocks, hZ⟩ := id C
  intro i0 r0 x2 x5 y0 y1 H locs ls hf hP hD hS hl
  rw [f_X13_right__135] at hf
  refine lv_iadd hx hb dX13_right__135 ?_
  refine lv_istore (lv' := [(4, .int (y1 + y0)), (0, .ref h0), (2, .int x2), (5, .int x5)]) hx hb dX13_right__136 hl (by decide) rfl (fun ls hl => ?_)
  refine lv_iinc (v := x5 + 1) (lv' := [(5, .int (x5 + 1)), (4, .int (y1 + y0)), (0, .ref h0), (2, .int x2)]) hx hb dX13_right__138 hl (k := 3) rfl rfl (by decide) rfl (fun ls hl => ?_)
  refine lv_goto (tgt := 108) hx hb dX13_right__141 (by decide) ?_
  exact hK108 _ _ _ _ _ _ _ _ hf hP hD hS (lv_sub hl [2, 3, 1, 0] rfl)
def f_X13_right__108 (l0 : Nat → Nat → Int64)  : Nat → (Nat → Int32) → (Nat → Nat → Int32) → Int32 → Int32 → Int32 → Option (Int32 × (Nat → Int32) × (Nat → Nat → Int32))
  | 0, _, _, _, _, _ => none
  | n + 1, i0, r0, x2, x4, x5 => if (i0 78) ≤ x5 then (some (x4, i0, r0)) else (ck (inb x5 20) (if (r0 83 x5.toNatClampNeg) = x2 then (f_X13_right__135 l0 (f_X13_right__108 l0 n) i0 r0 x2 x5 1 x4) else (f_X13_right__135 l0 (f_X13_right__108 l0 n) i0 r0 x2 x5 0 x4)))
set_option maxRecDepth 100000 in
set_option maxHeartbeats 4000000 in
theorem w_X13_right__108 {p : Program} {l : Launch} {e : Env} {s : State} {m : MethodId} {args : Array Value} {below : List Frame} {meth : Method} {c : Code} {A : Nat → Prop} {D : va_G} {cs zs : Nat → Nat} {h0 : Nat} {a0 : Nat → Nat} {l0 : Nat → Nat → Int64} {q : Int32 × (Nat → Int32) × (Nat → Nat → Int32)} (C : Cx p s m args meth c A D cs zs cX13_right_ 6 (some .int) RX13)  : ∀ (n : Nat), ∀ (i0 : Nat → Int32) (r0 : Nat → Nat → Int32) (x2 : Int32) (x4 : Int32) (x5 : Int32) (H : Heap) (locs : List Loc) (ls : Array Slot), f_X13_right__108 l0 n i0 r0 x2 x4 x5 = some q → va_P D vwCl (W13 cs h0 a0 i0 r0 l0) H → va_D A (W13 cs h0 a0 i0 r0 l0) → va_S A s.heap H locs → lv_has ls 6 [(0, .ref h0), (2, .int x2), (4, .int x4), (5, .int x5)] → W p l e rmX13_right_ s m args below meth c H locs 0 0 (MQ below (Qi D cs A q.1 (W13 cs h0 a0 q.2.1 q.2.2 l0)) args s 0 0 A) (F0 m 108 ls []) := by
  obtain ⟨hx, hb, hr, hml, hown, hts, hK, hA, hlocks, hZ⟩ := id C
  intro n
  induction n with
  | zero =>
    intro i0 r0 x2 x4 x5 H locs ls hf
    rw [f_X13_right__108] at hf
    cases hf
  | succ n ih =>
    intro i0 r0 x2 x4 x5 H locs ls hf hP hD hS hl
    rw [f_X13_right__108] at hf
    refine lv_iload hx hb dX13_right__108 (lv_at hl 3 rfl) ?_
    refine lv_aload_n hx hb dX13_right__110 rfl (lv_at hl 0 rfl) ?_
    refine va_get (D := D) (ci := 13) (v := .int (i0 78)) (C := RX13) (T := TX13) (N := 87) hx hb hts hiX13 hown hK hP 0 rfl rfl 78 (by decide) (hts _ flX13_627) (fun _ h9 => h9) rfl dX13_right__111 ?_
    refine lv_icmp_ge (tgt := 144) hx hb dX13_right__114 (by decide) (fun hc => ?_) (fun hc => ?_)
    · have hf := ite_t hf hc
      refine lv_iload hx hb dX13_right__144 (lv_at hl 2 rfl) ?_
      obtain rfl := Option.some.inj hf
      exact k_iret hx hb hr hlocks hK hP hD hS dX13_right__146
    · have hf := ite_f hf hc
      refine lv_iload hx hb dX13_right__117 (lv_at hl 2 rfl) ?_
      refine lv_aload_n hx hb dX13_right__119 rfl (lv_at hl 0 rfl) ?_
      refine va_get (D := D) (ci := 13) (v := .ref (a0 83)) (C := RX13) (T := TX13) (N := 87) hx hb hts hiX13 hown hK hP 0 rfl rfl 83 (by decide) (hts _ flX13_267) (fun _ h9 => h9) rfl dX13_right__120 ?_
      refine lv_iload hx hb dX13_right__123 (lv_at hl 3 rfl) ?_
      refine va_iald (f := r0 83) hx hb hK hP 48 0 rfl rfl (ck_in hf) dX13_right__125 ?_
      have hf := ck_2 hf
      refine lv_iload_n hx hb dX13_right__126 rfl (lv_at hl 1 rfl) ?_
      refine lv_icmp_ne (tgt := 134) hx hb dX13_right__127 (by decide) (fun hc => ?_) (fun hc => ?_)
      · have hf := ite_f hf hc
        refine lv_iconst (v := 0) hx hb dX13_right__134 (by decide) ?_
        exact w_X13_right__135 C _ (ih) _ _ _ _ _ _ _ _ _ hf hP hD hS (lv_sub hl [0, 1, 3] rfl)
      · have hf := ite_t hf hc
        refine lv_iconst (v := 1) hx hb dX13_right__130 (by decide) ?_
        refine lv_goto (tgt := 135) hx hb dX13_right__131 (by decide) ?_
        exact w_X13_right__135 C _ (ih) _ _ _ _ _ _ _ _ _ hf hP hD hS (lv_sub hl [0, 1, 3] rfl)
def f_X13_right__82 (l0 : Nat → Nat → Int64)  (i0 : Nat → Int32) (r0 : Nat → Nat → Int32) (x1 : Int32) (x2 : Int32) : Option (Int32 × (Nat → Int32) × (Nat → Nat → Int32)) := ck (inb (i0 78) 20) (f_X13_right__108 l0 2000000 (upd i0 78 ((i0 78) + 1)) (va_up r0 85 (upd (r0 85) (i0 78).toNatClampNeg x1)) x2 0 0)
set_option maxRecDepth 100000 in
set_option maxHeartbeats 4000000 in
theorem w_X13_right__82 {p : Program} {l : Launch} {e : Env} {s : State} {m : MethodId} {args : Array Value} {below : List Frame} {meth : Method} {c : Code} {A : Nat → Prop} {D : va_G} {cs zs : Nat → Nat} {h0 : Nat} {a0 : Nat → Nat} {l0 : Nat → Nat → Int64} {q : Int32 × (Nat → Int32) × (Nat → Nat → Int32)} (C : Cx p s m args meth c A D cs zs cX13_right_ 6 (some .int) RX13)  : ∀ (i0 : Nat → Int32) (r0 : Nat → Nat → Int32) (x1 : Int32) (x2 : Int32) (H : Heap) (locs : List Loc) (ls : Array Slot), f_X13_right__82 l0 i0 r0 x1 x2 = some q → va_P D vwCl (W13 cs h0 a0 i0 r0 l0) H → va_D A (W13 cs h0 a0 i0 r0 l0) → va_S A s.heap H locs → lv_has ls 6 [(0, .ref h0), (1, .int x1), (2, .int x2)] → W p l e rmX13_right_ s m args below meth c H locs 0 0 (MQ below (Qi D cs A q.1 (W13 cs h0 a0 q.2.1 q.2.2 l0)) args s 0 0 A) (F0 m 82 ls []) := by
  obtain ⟨hx, hb, hr, hml, hown, hts, hK, hA, hlocks, hZ⟩ := id C
  intro i0 r0 x1 x2 H locs ls hf hP hD hS hl
  rw [f_X13_right__82] at hf
  refine lv_aload_n hx hb dX13_right__82 rfl (lv_at hl 0 rfl) ?_
  refine va_get (D := D) (ci := 13) (v := .ref (a0 85)) (C := RX13) (T := TX13) (N := 87) hx hb hts hiX13 hown hK hP 0 rfl rfl 85 (by decide) (hts _ flX13_273) (fun _ h9 => h9) rfl dX13_right__83 ?_
  refine lv_aload_n hx hb dX13_right__86 rfl (lv_at hl 0 rfl) ?_
  refine va_get (D := D) (ci := 13) (v := .int (i0 78)) (C := RX13) (T := TX13) (N := 87) hx hb hts hiX13 hown hK hP 0 rfl rfl 78 (by decide) (hts _ flX13_627) (fun _ h9 => h9) rfl dX13_right__87 ?_
  refine lv_iload_n hx hb dX13_right__90 rfl (lv_at hl 1 rfl) ?_
  refine va_iast (f := r0 85) hx hb hK hP hD hS 50 0 rfl rfl (ck_in hf) dX13_right__91 (fun H locs hP hD hS => ?_)
  have hf := ck_2 hf
  obtain ⟨hP, hD⟩ := st13_85 hP hD
  refine lv_aload_n hx hb dX13_right__92 rfl (lv_at hl 0 rfl) ?_
  refine lv_dup hx hb dX13_right__93 rfl ?_
  refine va_get (D := D) (ci := 13) (v := .int (i0 78)) (C := RX13) (T := TX13) (N := 87) hx hb hts hiX13 hown hK hP 0 rfl rfl 78 (by decide) (hts _ flX13_627) (fun _ h9 => h9) rfl dX13_right__94 ?_
  refine lv_iconst (v := 1) hx hb dX13_right__97 (by decide) ?_
  refine lv_iadd hx hb dX13_right__98 ?_
  refine va_put (D := D) (ci := 13) (v := .int ((i0 78) + 1)) (ty := .int) (C := RX13) (T := TX13) (N := 87) hx hb hts hiX13 tyX13 tyX13_ok nmX13 hown hK hP hD hS 0 rfl rfl 78 (by decide) (hts _ flX13_627) (fun _ h9 => h9) rfl (tyX13_ok 78 (by decide)) rfl rfl (Nat.le_of_ble_eq_true rfl) dX13_right__99 (fun H locs hP hD hS => ?_)
  obtain ⟨hP, hD⟩ := st13_78 hP hD
  refine lv_iconst (v := 0) hx hb dX13_right__102 (by decide) ?_
  refine lv_istore (lv' := [(4, .int 0), (0, .ref h0), (1, .int x1), (2, .int x2)]) hx hb dX13_right__103 hl (by decide) rfl (fun ls hl => ?_)
  refine lv_iconst (v := 0) hx hb dX13_right__105 (by decide) ?_
  refine lv_istore (lv' := [(5, .int 0), (4, .int 0), (0, .ref h0), (1, .int x1), (2, .int x2)]) hx hb dX13_right__106 hl (by decide) rfl (fun ls hl => ?_)
  exact w_X13_right__108 C  2000000 _ _ _ _ _ _ _ _ hf hP hD hS (lv_sub hl [2, 4, 1, 0] rfl)
def f_X13_right_  (i0 : Nat → Int32) (r0 : Nat → Nat → Int32) (l0 : Nat → Nat → Int64) (x1 : Int32) (x2 : Int32) (x3 : Int32) : Option (Int32 × (Nat → Int32) × (Nat → Nat → Int32)) := bd (f_X13_in x1.toInt64 ((i0 79).toInt64) 999) (fun q4 => if q4 = 0 then (some ((-2), i0, r0)) else (bd (f_X13_in x2.toInt64 0 (((i0 77).toInt64) - 1)) (fun q5 => if q5 = 0 then (some ((-2), i0, r0)) else (bd (f_X13_isRow i0 r0 l0 7 x3) (fun q6 => if q6 = 0 then (some ((-2), i0, r0)) else (if (i0 78) = 20 then (some ((-3), i0, r0)) else (ck (inb (i0 78) 20) (ck (inb (i0 78) 20) (f_X13_right__82 l0 (upd i0 79 x1) (va_up (va_up r0 83 (upd (r0 83) (i0 78).toNatClampNeg x2)) 84 (upd (r0 84) (i0 78).toNatClampNeg x3)) x1 x2)))))))))
set_option maxRecDepth 100000 in
set_option maxHeartbeats 4000000 in
theorem c_X13_right_ {l : Launch} {D : va_G} {cs zs : Nat → Nat} {h0 : Nat} {a0 : Nat → Nat} {i0 : Nat → Int32} {r0 : Nat → Nat → Int32} {l0 : Nat → Nat → Int64} {x1 : Int32} {x2 : Int32} {x3 : Int32} {q : Int32 × (Nat → Int32) × (Nat → Nat → Int32)} (hf : f_X13_right_ i0 r0 l0 x1 x2 x3 = some q) : Mi l yX13_right_ wlX13_right_ rmX13_right_ D cs zs [.ref h0, .int x1, .int x2, .int x3] (W13 cs h0 a0 i0 r0 l0) q.1 (W13 cs h0 a0 q.2.1 q.2.2 l0) := by
  refine Mi.of RX13 (by decide) rfl (Nat.le_of_ble_eq_true rfl) (fun p e s m below meth c A C hP hD hS ls hl => ?_)
  generalize ([.ref h0, .int x1, .int x2, .int x3] : List Value).toArray = args at C ⊢
  obtain ⟨hx, hb, hr, hml, hown, hts, hK, hA, hlocks, hZ⟩ := id C
  have hl : lv_has ls 6 [(0, .ref h0), (1, .int x1), (2, .int x2), (3, .int x3)] := hl
  rw [f_X13_right_] at hf
  refine lv_iload_n hx hb dX13_right__0 rfl (lv_at hl 1 rfl) ?_
  refine lv_i2l hx hb dX13_right__1 rfl ?_
  refine lv_aload_n hx hb dX13_right__2 rfl (lv_at hl 0 rfl) ?_
  refine va_get (D := D) (ci := 13) (v := .int (i0 79)) (C := RX13) (T := TX13) (N := 87) hx hb hts hiX13 hown hK hP 0 rfl rfl 79 (by decide) (hts _ flX13_630) (fun _ h9 => h9) rfl dX13_right__3 ?_
  refine lv_i2l hx hb dX13_right__6 rfl ?_
  refine lv_ldc2 (v := 999) hx hb hown (hts _ kcX13_633) dX13_right__7 ?_
  obtain ⟨q4, hq4, hf⟩ := bd_s hf
  refine k_eSi (As := [.long x1.toInt64, .long ((i0 79).toInt64), .long 999]) (rest := []) hx hb hml hown hts hK hA hZ hl.1 hP hD hS (c_X13_in  hq4) (gSt mlX13_64 stX13_in inX13 coX13_in) rfl qnX13_in rfl rfl ⟨Nat.le_of_ble_eq_true rfl, Nat.le_of_ble_eq_true rfl⟩ rfl rfl (Nat.le_of_ble_eq_true rfl) ⟨Nat.zero_le _, Nat.zero_le _⟩ dX13_right__10 (fun H locs hP hD hS => ?_)
  refine lv_if_eq (tgt := 42) hx hb dX13_right__13 (by decide) (fun hc => ?_) (fun hc => ?_)
  · have hf := ite_t hf hc
    refine lv_bipush (v := (-2)) hx hb dX13_right__42 (by decide) ?_
    obtain rfl := Option.some.inj hf
    exact k_iret hx hb hr hlocks hK hP hD hS dX13_right__44
  · have hf := ite_f hf hc
    refine lv_iload_n hx hb dX13_right__16 rfl (lv_at hl 2 rfl) ?_
    refine lv_i2l hx hb dX13_right__17 rfl ?_
    refine lv_lconst (v := 0) hx hb dX13_right__18 (by decide) ?_
    refine lv_aload_n hx hb dX13_right__19 rfl (lv_at hl 0 rfl) ?_
    refine va_get (D := D) (ci := 13) (v := .int (i0 77)) (C := RX13) (T := TX13) (N := 87) hx hb hts hiX13 hown hK hP 0 rfl rfl 77 (by decide) (hts _ flX13_624) (fun _ h9 => h9) rfl dX13_right__20 ?_
    refine lv_i2l hx hb dX13_right__23 rfl ?_
    refine lv_lconst (v := 1) hx hb dX13_right__24 (by decide) ?_
    refine lv_lsub hx hb dX13_right__25 ?_
    obtain ⟨q5, hq5, hf⟩ := bd_s hf
    refine k_eSi (As := [.long x2.toInt64, .long 0, .long (((i0 77).toInt64) - 1)]) (rest := []) hx hb hml hown hts hK hA hZ hl.1 hP hD hS (c_X13_in  hq5) (gSt mlX13_64 stX13_in inX13 coX13_in) rfl qnX13_in rfl rfl ⟨Nat.le_of_ble_eq_true rfl, Nat.le_of_ble_eq_true rfl⟩ rfl rfl (Nat.le_of_ble_eq_true rfl) ⟨Nat.zero_le _, Nat.zero_le _⟩ dX13_right__26 (fun H locs hP hD hS => ?_)
    refine lv_if_eq (tgt := 42) hx hb dX13_right__29 (by decide) (fun hc => ?_) (fun hc => ?_)
    · have hf := ite_t hf hc
      refine lv_bipush (v := (-2)) hx hb dX13_right__42 (by decide) ?_
      obtain rfl := Option.some.inj hf
      exact k_iret hx hb hr hlocks hK hP hD hS dX13_right__44
    · have hf := ite_f hf hc
      refine lv_aload_n hx hb dX13_right__32 rfl (lv_at hl 0 rfl) ?_
      refine lv_bipush (v := 7) hx hb dX13_right__33 (by decide) ?_
      refine lv_iload_n hx hb dX13_right__35 rfl (lv_at hl 3 rfl) ?_
      obtain ⟨q6, hq6, hf⟩ := bd_s hf
      refine k_sVi (ws2 := W13 cs h0 a0 i0 r0 l0) (As := [.int 7, .int x3]) (rest := []) hx hb hml hown hts hK hA hZ hl.1 hP hD hS (c_X13_isRow (h0 := h0) (a0 := a0) hq6) (gVt mlX13_310 imX13_isRow seX13_isRow inX13 coX13_isRow) rfl qnX13_isRow rfl rfl ⟨Nat.le_of_ble_eq_true rfl, Nat.le_of_ble_eq_true rfl⟩ 0 13 rfl rfl rfl rfl rfl (Nat.le_of_ble_eq_true rfl) ⟨Nat.zero_le _, Nat.zero_le _⟩ dX13_right__36 (fun H locs hP hD hS => ?_)
      refine lv_if_ne (tgt := 45) hx hb dX13_right__39 (by decide) (fun hc => ?_) (fun hc => ?_)
      · have hf := ite_f hf hc
        refine lv_aload_n hx hb dX13_right__45 rfl (lv_at hl 0 rfl) ?_
        refine va_get (D := D) (ci := 13) (v := .int (i0 78)) (C := RX13) (T := TX13) (N := 87) hx hb hts hiX13 hown hK hP 0 rfl rfl 78 (by decide) (hts _ flX13_627) (fun _ h9 => h9) rfl dX13_right__46 ?_
        refine lv_bipush (v := 20) hx hb dX13_right__49 (by decide) ?_
        refine lv_icmp_ne (tgt := 57) hx hb dX13_right__51 (by decide) (fun hc => ?_) (fun hc => ?_)
        · have hf := ite_f hf hc
          refine lv_aload_n hx hb dX13_right__57 rfl (lv_at hl 0 rfl) ?_
          refine lv_iload_n hx hb dX13_right__58 rfl (lv_at hl 1 rfl) ?_
          refine va_put (D := D) (ci := 13) (v := .int x1) (ty := .int) (C := RX13) (T := TX13) (N := 87) hx hb hts hiX13 tyX13 tyX13_ok nmX13 hown hK hP hD hS 0 rfl rfl 79 (by decide) (hts _ flX13_630) (fun _ h9 => h9) rfl (tyX13_ok 79 (by decide)) rfl rfl (Nat.le_of_ble_eq_true rfl) dX13_right__59 (fun H locs hP hD hS => ?_)
          obtain ⟨hP, hD⟩ := st13_79 hP hD
          refine lv_aload_n hx hb dX13_right__62 rfl (lv_at hl 0 rfl) ?_
          refine va_get (D := D) (ci := 13) (v := .ref (a0 83)) (C := RX13) (T := TX13) (N := 87) hx hb hts hiX13 hown hK hP 0 rfl rfl 83 (by decide) (hts _ flX13_267) (fun _ h9 => h9) rfl dX13_right__63 ?_
          refine lv_aload_n hx hb dX13_right__66 rfl (lv_at hl 0 rfl) ?_
          refine va_get (D := D) (ci := 13) (v := .int (i0 78)) (C := RX13) (T := TX13) (N := 87) hx hb hts hiX13 hown hK hP 0 rfl rfl 78 (by decide) (hts _ flX13_627) (fun _ h9 => h9) rfl dX13_right__67 ?_
          refine lv_iload_n hx hb dX13_right__70 rfl (lv_at hl 2 rfl) ?_
          refine va_iast (f := r0 83) hx hb hK hP hD hS 48 0 rfl rfl (ck_in hf) dX13_right__71 (fun H locs hP hD hS => ?_)
          have hf := ck_2 hf
          obtain ⟨hP, hD⟩ := st13_83 hP hD
          refine lv_aload_n hx hb dX13_right__72 rfl (lv_at hl 0 rfl) ?_
          refine va_get (D := D) (ci := 13) (v := .ref (a0 84)) (C := RX13) (T := TX13) (N := 87) hx hb hts hiX13 hown hK hP 0 rfl rfl 84 (by decide) (hts _ flX13_270) (fun _ h9 => h9) rfl dX13_right__73 ?_
          refine lv_aload_n hx hb dX13_right__76 rfl (lv_at hl 0 rfl) ?_
          refine va_get (D := D) (ci := 13) (v := .int (i0 78)) (C := RX13) (T := TX13) (N := 87) hx hb hts hiX13 hown hK hP 0 rfl rfl 78 (by decide) (hts _ flX13_627) (fun _ h9 => h9) rfl dX13_right__77 ?_
          refine lv_iload_n hx hb dX13_right__80 rfl (lv_at hl 3 rfl) ?_
          refine va_iast (f := r0 84) hx hb hK hP hD hS 49 0 rfl rfl (ck_in hf) dX13_right__81 (fun H locs hP hD hS => ?_)
          have hf := ck_2 hf
          obtain ⟨hP, hD⟩ := st13_84 hP hD
          exact w_X13_right__82 C  _ _ _ _ _ _ _ hf hP hD hS (lv_sub hl [0, 1, 2] rfl)
        · have hf := ite_t hf hc
          refine lv_bipush (v := (-3)) hx hb dX13_right__54 (by decide) ?_
          obtain rfl := Option.some.inj hf
          exact k_iret hx hb hr hlocks hK hP hD hS dX13_right__56
      · have hf := ite_t hf hc
        refine lv_bipush (v := (-2)) hx hb dX13_right__42 (by decide) ?_
        obtain rfl := Option.some.inj hf
        exact k_iret hx hb hr hlocks hK hP hD hS dX13_right__44
/-! MarbleFloorModel.outAsKnown(II)I -/
abbrev wlX13_outAsKnown : List Cond := Cond.code yX13_outAsKnown cX13_outAsKnown 5 (some .int) :: tbG
abbrev rmX13_outAsKnown : Room := { frames := 0, cells := 0, slots := 0, locals := 0 }
theorem qnX13_outAsKnown : yX13_outAsKnown.cls = RX13 ∧ yX13_outAsKnown.cls ≠ "java/lang/invoke/MethodHandle" ∧ yX13_outAsKnown.cls ≠ "java/lang/invoke/VarHandle" ∧ (parseMethodDescriptor yX13_outAsKnown.desc).map (fun d => d.parameters.length) = some 2 := by decide +kernel
def f_X13_outAsKnown_49 (i0 : Nat → Int32) (r0 : Nat → Nat → Int32) (l0 : Nat → Nat → Int64) (K10 : Int32 → Int32 → Int32 → Int32 → Option (Int32)) (x1 : Int32) (x2 : Int32) (x3 : Int32) (x4 : Int32) : Option (Int32) := K10 x1 x2 x3 (x4 + 1)
set_option maxRecDepth 100000 in
set_option maxHeartbeats 4000000 in
theorem w_X13_outAsKnown_49 {p : Program} {l : Launch} {e : Env} {s : State} {m : MethodId} {args : Array Value} {below : List Frame} {meth : Method} {c : Code} {A : Nat → Prop} {D : va_G} {cs zs : Nat → Nat} {h0 : Nat} {a0 : Nat → Nat} {i0 : Nat → Int32} {r0 : Nat → Nat → Int32} {l0 : Nat → Nat → Int64} {q : Int32} (C : Cx p s m args meth c A D cs zs cX13_outAsKnown 5 (some .int) RX13) (K10 : Int32 → Int32 → Int32 → Int32 → Option (Int32)) (hK10 : ∀ (x1 : Int32) (x2 : Int32) (x3 : Int32) (x4 : Int32) (H : Heap) (locs : List Loc) (ls : Array Slot), K10 x1 x2 x3 x4 = some q → va_P D vwCl (W13 cs h0 a0 i0 r0 l0) H → va_D A (W13 cs h0 a0 i0 r0 l0) → va_S A s.heap H locs → lv_has ls 5 [(0, .ref h0), (1, .int x1), (2, .int x2), (3, .int x3), (4, .int x4)] → W p l e rmX13_outAsKnown s m args below meth c H locs 0 0 (MQ below (Qi D cs A q (W13 cs h0 a0 i0 r0 l0)) args s 0 0 A) (F0 m 10 ls [])) : ∀ (x1 : Int32) (x2 : Int32) (x3 : Int32) (x4 : Int32) (H : Heap) (locs : List Loc) (ls : Array Slot), f_X13_outAsKnown_49 i0 r0 l0 K10 x1 x2 x3 x4 = some q → va_P D vwCl (W13 cs h0 a0 i0 r0 l0) H → va_D A (W13 cs h0 a0 i0 r0 l0) → va_S A s.heap H locs → lv_has ls 5 [(0, .ref h0), (1, .int x1), (2, .int x2), (3, .int x3), (4, .int x4)] → W p l e rmX13_outAsKnown s m args below meth c H locs 0 0 (MQ below (Qi D cs A q (W13 cs h0 a0 i0 r0 l0)) args s 0 0 A) (F0 m 49 ls []) := by
  obtain ⟨hx, hb, hr, hml, hown, hts, hK, hA, hlocks, hZ⟩ := id C
  intro x1 x2 x3 x4 H locs ls hf hP hD hS hl
  rw [f_X13_outAsKnown_49] at hf
  refine lv_iinc (v := x4 + 1) (lv' := [(4, .int (x4 + 1)), (0, .ref h0), (1, .int x1), (2, .int x2), (3, .int x3)]) hx hb dX13_outAsKnown_49 hl (k := 4) rfl rfl (by decide) rfl (fun ls hl => ?_)
  refine lv_goto (tgt := 10) hx hb dX13_outAsKnown_52 (by decide) ?_
  exact hK10 _ _ _ _ _ _ _ hf hP hD hS (lv_sub hl [1, 2, 3, 4, 0] rfl)
def f_X13_outAsKnown_10 (i0 : Nat → Int32) (r0 : Nat → Nat → Int32) (l0 : Nat → Nat → Int64)  : Nat → Int32 → Int32 → Int32 → Int32 → Option (Int32)
  | 0, _, _, _, _ => none
  | n + 1, x1, x2, x3, x4 => if (i0 78) ≤ x4 then (some (x3)) else (ck (inb x4 20) (if (r0 83 x4.toNatClampNeg) = x1 then (ck (inb x4 20) (if x2 < (r0 85 x4.toNatClampNeg) then (f_X13_outAsKnown_49 i0 r0 l0 (f_X13_outAsKnown_10 i0 r0 l0 n) x1 x2 x3 x4) else (ck (inb x4 20) (f_X13_outAsKnown_49 i0 r0 l0 (f_X13_outAsKnown_10 i0 r0 l0 n) x1 x2 (r0 84 x4.toNatClampNeg) x4)))) else (f_X13_outAsKnown_49 i0 r0 l0 (f_X13_outAsKnown_10 i0 r0 l0 n) x1 x2 x3 x4)))
set_option maxRecDepth 100000 in
set_option maxHeartbeats 4000000 in
theorem w_X13_outAsKnown_10 {p : Program} {l : Launch} {e : Env} {s : State} {m : MethodId} {args : Array Value} {below : List Frame} {meth : Method} {c : Code} {A : Nat → Prop} {D : va_G} {cs zs : Nat → Nat} {h0 : Nat} {a0 : Nat → Nat} {i0 : Nat → Int32} {r0 : Nat → Nat → Int32} {l0 : Nat → Nat → Int64} {q : Int32} (C : Cx p s m args meth c A D cs zs cX13_outAsKnown 5 (some .int) RX13)  : ∀ (n : Nat), ∀ (x1 : Int32) (x2 : Int32) (x3 : Int32) (x4 : Int32) (H : Heap) (locs : List Loc) (ls : Array Slot), f_X13_outAsKnown_10 i0 r0 l0 n x1 x2 x3 x4 = some q → va_P D vwCl (W13 cs h0 a0 i0 r0 l0) H → va_D A (W13 cs h0 a0 i0 r0 l0) → va_S A s.heap H locs → lv_has ls 5 [(0, .ref h0), (1, .int x1), (2, .int x2), (3, .int x3), (4, .int x4)] → W p l e rmX13_outAsKnown s m args below meth c H locs 0 0 (MQ below (Qi D cs A q (W13 cs h0 a0 i0 r0 l0)) args s 0 0 A) (F0 m 10 ls []) := by
  obtain ⟨hx, hb, hr, hml, hown, hts, hK, hA, hlocks, hZ⟩ := id C
  intro n
  induction n with
  | zero =>
    intro x1 x2 x3 x4 H locs ls hf
    rw [f_X13_outAsKnown_10] at hf
    cases hf
  | succ n ih =>
    intro x1 x2 x3 x4 H locs ls hf hP hD hS hl
    rw [f_X13_outAsKnown_10] at hf
    refine lv_iload hx hb dX13_outAsKnown_10 (lv_at hl 4 rfl) ?_
    refine lv_aload_n hx hb dX13_outAsKnown_12 rfl (lv_at hl 0 rfl) ?_
    refine va_get (D := D) (ci := 13) (v := .int (i0 78)) (C := RX13) (T := TX13) (N := 87) hx hb hts hiX13 hown hK hP 0 rfl rfl 78 (by decide) (hts _ flX13_627) (fun _ h9 => h9) rfl dX13_outAsKnown_13 ?_
    refine lv_icmp_ge (tgt := 55) hx hb dX13_outAsKnown_16 (by decide) (fun hc => ?_) (fun hc => ?_)
    · have hf := ite_t hf hc
      refine lv_iload_n hx hb dX13_outAsKnown_55 rfl (lv_at hl 3 rfl) ?_
      obtain rfl := Option.some.inj hf
      exact k_iret hx hb hr hlocks hK hP hD hS dX13_outAsKnown_56
    · have hf := ite_f hf hc
      refine lv_aload_n hx hb dX13_outAsKnown_19 rfl (lv_at hl 0 rfl) ?_
      refine va_get (D := D) (ci := 13) (v := .ref (a0 83)) (C := RX13) (T := TX13) (N := 87) hx hb hts hiX13 hown hK hP 0 rfl rfl 83 (by decide) (hts _ flX13_267) (fun _ h9 => h9) rfl dX13_outAsKnown_20 ?_
      refine lv_iload hx hb dX13_outAsKnown_23 (lv_at hl 4 rfl) ?_
      refine va_iald (f := r0 83) hx hb hK hP 48 0 rfl rfl (ck_in hf) dX13_outAsKnown_25 ?_
      have hf := ck_2 hf
      refine lv_iload_n hx hb dX13_outAsKnown_26 rfl (lv_at hl 1 rfl) ?_
      refine lv_icmp_ne (tgt := 49) hx hb dX13_outAsKnown_27 (by decide) (fun hc => ?_) (fun hc => ?_)
      · have hf := ite_f hf hc
        exact w_X13_outAsKnown_49 C _ (ih) _ _ _ _ _ _ _ hf hP hD hS (lv_sub hl [0, 1, 2, 3, 4] rfl)
      · have hf := ite_t hf hc
        refine lv_aload_n hx hb dX13_outAsKnown_30 rfl (lv_at hl 0 rfl) ?_
        refine va_get (D := D) (ci := 13) (v := .ref (a0 85)) (C := RX13) (T := TX13) (N := 87) hx hb hts hiX13 hown hK hP 0 rfl rfl 85 (by decide) (hts _ flX13_273) (fun _ h9 => h9) rfl dX13_outAsKnown_31 ?_
        refine lv_iload hx hb dX13_outAsKnown_34 (lv_at hl 4 rfl) ?_
        refine va_iald (f := r0 85) hx hb hK hP 50 0 rfl rfl (ck_in hf) dX13_outAsKnown_36 ?_
        have hf := ck_2 hf
        refine lv_iload_n hx hb dX13_outAsKnown_37 rfl (lv_at hl 2 rfl) ?_
        refine lv_icmp_gt (tgt := 49) hx hb dX13_outAsKnown_38 (by decide) (fun hc => ?_) (fun hc => ?_)
        · have hf := ite_t hf hc
          exact w_X13_outAsKnown_49 C _ (ih) _ _ _ _ _ _ _ hf hP hD hS (lv_sub hl [0, 1, 2, 3, 4] rfl)
        · have hf := ite_f hf hc
          refine lv_aload_n hx hb dX13_outAsKnown_41 rfl (lv_at hl 0 rfl) ?_
          refine va_get (D := D) (ci := 13) (v := .ref (a0 84)) (C := RX13) (T := TX13) (N := 87) hx hb hts hiX13 hown hK hP 0 rfl rfl 84 (by decide) (hts _ flX13_270) (fun _ h9 => h9) rfl dX13_outAsKnown_42 ?_
          refine lv_iload hx hb dX13_outAsKnown_45 (lv_at hl 4 rfl) ?_
          refine va_iald (f := r0 84) hx hb hK hP 49 0 rfl rfl (ck_in hf) dX13_outAsKnown_47 ?_
          have hf := ck_2 hf
          refine lv_istore_n (lv' := [(3, .int (r0 84 x4.toNatClampNeg)), (0, .ref h0), (1, .int x1), (2, .int x2), (4, .int x4)]) hx hb dX13_outAsKnown_48 rfl hl (by decide) rfl (fun ls hl => ?_)
          exact w_X13_outAsKnown_49 C _ (ih) _ _ _ _ _ _ _ hf hP hD hS (lv_sub hl [1, 2, 3, 0, 4] rfl)
def f_X13_outAsKnown  (i0 : Nat → Int32) (r0 : Nat → Nat → Int32) (l0 : Nat → Nat → Int64) (x1 : Int32) (x2 : Int32) : Option (Int32) := ck (inb x1 20) (f_X13_outAsKnown_10 i0 r0 l0 2000000 x1 x2 (r0 81 x1.toNatClampNeg) 0)
set_option maxRecDepth 100000 in
set_option maxHeartbeats 4000000 in
theorem c_X13_outAsKnown {l : Launch} {D : va_G} {cs zs : Nat → Nat} {h0 : Nat} {a0 : Nat → Nat} {i0 : Nat → Int32} {r0 : Nat → Nat → Int32} {l0 : Nat → Nat → Int64} {x1 : Int32} {x2 : Int32} {q : Int32} (hf : f_X13_outAsKnown i0 r0 l0 x1 x2 = some q) : Mi l yX13_outAsKnown wlX13_outAsKnown rmX13_outAsKnown D cs zs [.ref h0, .int x1, .int x2] (W13 cs h0 a0 i0 r0 l0) q (W13 cs h0 a0 i0 r0 l0) := by
  refine Mi.of RX13 (by decide) rfl (Nat.le_of_ble_eq_true rfl) (fun p e s m below meth c A C hP hD hS ls hl => ?_)
  generalize ([.ref h0, .int x1, .int x2] : List Value).toArray = args at C ⊢
  obtain ⟨hx, hb, hr, hml, hown, hts, hK, hA, hlocks, hZ⟩ := id C
  have hl : lv_has ls 5 [(0, .ref h0), (1, .int x1), (2, .int x2)] := hl
  rw [f_X13_outAsKnown] at hf
  refine lv_aload_n hx hb dX13_outAsKnown_0 rfl (lv_at hl 0 rfl) ?_
  refine va_get (D := D) (ci := 13) (v := .ref (a0 81)) (C := RX13) (T := TX13) (N := 87) hx hb hts hiX13 hown hK hP 0 rfl rfl 81 (by decide) (hts _ flX13_261) (fun _ h9 => h9) rfl dX13_outAsKnown_1 ?_
  refine lv_iload_n hx hb dX13_outAsKnown_4 rfl (lv_at hl 1 rfl) ?_
  refine va_iald (f := r0 81) hx hb hK hP 46 0 rfl rfl (ck_in hf) dX13_outAsKnown_5 ?_
  have hf := ck_2 hf
  refine lv_istore_n (lv' := [(3, .int (r0 81 x1.toNatClampNeg)), (0, .ref h0), (1, .int x1), (2, .int x2)]) hx hb dX13_outAsKnown_6 rfl hl (by decide) rfl (fun ls hl => ?_)
  refine lv_iconst (v := 0) hx hb dX13_outAsKnown_7 (by decide) ?_
  refine lv_istore (lv' := [(4, .int 0), (3, .int (r0 81 x1.toNatClampNeg)), (0, .ref h0), (1, .int x1), (2, .int x2)]) hx hb dX13_outAsKnown_8 hl (by decide) rfl (fun ls hl => ?_)
  exact w_X13_outAsKnown_10 C  2000000 _ _ _ _ _ _ _ hf hP hD hS (lv_sub hl [2, 3, 4, 1, 0] rfl)
/-! MarbleFloorModel.mayBe(II)Z -/
abbrev wlX13_mayBe : List Cond := Cond.code yX13_mayBe cX13_mayBe 4 (some .boolean) :: tbG
abbrev rmX13_mayBe : Room := { frames := 3, cells := 0, slots := 0, locals := 72 }
theorem qnX13_mayBe : yX13_mayBe.cls = RX13 ∧ yX13_mayBe.cls ≠ "java/lang/invoke/MethodHandle" ∧ yX13_mayBe.cls ≠ "java/lang/invoke/VarHandle" ∧ (parseMethodDescriptor yX13_mayBe.desc).map (fun d => d.parameters.length) = some 2 := by decide +kernel
def f_X13_mayBe_45 (i0 : Nat → Int32) (r0 : Nat → Nat → Int32) (l0 : Nat → Nat → Int64) (K2 : Int32 → Int32 → Int32 → Option (Int32)) (x1 : Int32) (x2 : Int32) (x3 : Int32) : Option (Int32) := K2 x1 x2 (x3 + 1)
set_option maxRecDepth 100000 in
set_option maxHeartbeats 4000000 in
theorem w_X13_mayBe_45 {p : Program} {l : Launch} {e : Env} {s : State} {m : MethodId} {args : Array Value} {below : List Frame} {meth : Method} {c : Code} {A : Nat → Prop} {D : va_G} {cs zs : Nat → Nat} {h0 : Nat} {a0 : Nat → Nat} {i0 : Nat → Int32} {r0 : Nat → Nat → Int32} {l0 : Nat → Nat → Int64} {q : Int32} (C : Cx p s m args meth c A D cs zs cX13_mayBe 4 (some .boolean) RX13) (K2 : Int32 → Int32 → Int32 → Option (Int32)) (hK2 : ∀ (x1 : Int32) (x2 : Int32) (x3 : Int32) (H : Heap) (locs : List Loc) (ls : Array Slot), K2 x1 x2 x3 = some q → va_P D vwCl (W13 cs h0 a0 i0 r0 l0) H → va_D A (W13 cs h0 a0 i0 r0 l0) → va_S A s.heap H locs → lv_has ls 4 [(0, .ref h0), (1, .int x1), (2, .int x2), (3, .int x3)] → W p l e rmX13_mayBe s m args below meth c H locs 0 0 (MQ below (Qi D cs A q (W13 cs h0 a0 i0 r0 l0)) args s 0 0 A) (F0 m 2 ls [])) : ∀ (x1 : Int32) (x2 : Int32) (x3 : Int32) (H : Heap) (locs : List Loc) (ls : Array Slot), f_X13_mayBe_45 i0 r0 l0 K2 x1 x2 x3 = some q → va_P D vwCl (W13 cs h0 a0 i0 r0 l0) H → va_D A (W13 cs h0 a0 i0 r0 l0) → va_S A s.heap H locs → lv_has ls 4 [(0, .ref h0), (1, .int x1), (2, .int x2), (3, .int x3)] → W p l e rmX13_mayBe s m args below meth c H locs 0 0 (MQ below (Qi D cs A q (W13 cs h0 a0 i0 r0 l0)) args s 0 0 A) (F0 m 45 ls []) := by
  obtain ⟨hx, hb, hr, hml, hown, hts, hK, hA, hlocks, hZ⟩ := id C
  intro x1 x2 x3 H locs ls hf hP hD hS hl
  rw [f_X13_mayBe_45] at hf
  refine lv_iinc (v := x3 + 1) (lv' := [(3, .int (x3 + 1)), (0, .ref h0), (1, .int x1), (2, .int x2)]) hx hb dX13_mayBe_45 hl (k := 3) rfl rfl (by decide) rfl (fun ls hl => ?_)
  refine lv_goto (tgt := 2) hx hb dX13_mayBe_48 (by decide) ?_
  exact hK2 _ _ _ _ _ _ hf hP hD hS (lv_sub hl [1, 2, 3, 0] rfl)
def f_X13_mayBe_2 (i0 : Nat → Int32) (r0 : Nat → Nat → Int32) (l0 : Nat → Nat → Int64)  : Nat → Int32 → Int32 → Int32 → Option (Int32)
  | 0, _, _, _ => none
  | n + 1, x1, x2, x3 => if (i0 77) ≤ x3 then (some (1)) else (ck (inb x3 20) (if x2 < (r0 82 x3.toNatClampNeg) then (f_X13_mayBe_45 i0 r0 l0 (f_X13_mayBe_2 i0 r0 l0 n) x1 x2 x3) else (ck (inb x3 20) (bd (f_X13_outBut i0 r0 l0 7 (r0 80 x3.toNatClampNeg) 0 x1) (fun q3 => bd (f_X13_outAsKnown i0 r0 l0 x3 x2) (fun q4 => if q3 = q4 then (f_X13_mayBe_45 i0 r0 l0 (f_X13_mayBe_2 i0 r0 l0 n) x1 x2 x3) else (some (0))))))))
set_option maxRecDepth 100000 in
set_option maxHeartbeats 4000000 in
theorem w_X13_mayBe_2 {p : Program} {l : Launch} {e : Env} {s : State} {m : MethodId} {args : Array Value} {below : List Frame} {meth : Method} {c : Code} {A : Nat → Prop} {D : va_G} {cs zs : Nat → Nat} {h0 : Nat} {a0 : Nat → Nat} {i0 : Nat → Int32} {r0 : Nat → Nat → Int32} {l0 : Nat → Nat → Int64} {q : Int32} (C : Cx p s m args meth c A D cs zs cX13_mayBe 4 (some .boolean) RX13)  : ∀ (n : Nat), ∀ (x1 : Int32) (x2 : Int32) (x3 : Int32) (H : Heap) (locs : List Loc) (ls : Array Slot), f_X13_mayBe_2 i0 r0 l0 n x1 x2 x3 = some q → va_P D vwCl (W13 cs h0 a0 i0 r0 l0) H → va_D A (W13 cs h0 a0 i0 r0 l0) → va_S A s.heap H locs → lv_has ls 4 [(0, .ref h0), (1, .int x1), (2, .int x2), (3, .int x3)] → W p l e rmX13_mayBe s m args below meth c H locs 0 0 (MQ below (Qi D cs A q (W13 cs h0 a0 i0 r0 l0)) args s 0 0 A) (F0 m 2 ls []) := by
  obtain ⟨hx, hb, hr, hml, hown, hts, hK, hA, hlocks, hZ⟩ := id C
  intro n
  induction n with
  | zero =>
    intro x1 x2 x3 H locs ls hf
    rw [f_X13_mayBe_2] at hf
    cases hf
  | succ n ih =>
    intro x1 x2 x3 H locs ls hf hP hD hS hl
    rw [f_X13_mayBe_2] at hf
    refine lv_iload_n hx hb dX13_mayBe_2 rfl (lv_at hl 3 rfl) ?_
    refine lv_aload_n hx hb dX13_mayBe_3 rfl (lv_at hl 0 rfl) ?_
    refine va_get (D := D) (ci := 13) (v := .int (i0 77)) (C := RX13) (T := TX13) (N := 87) hx hb hts hiX13 hown hK hP 0 rfl rfl 77 (by decide) (hts _ flX13_624) (fun _ h9 => h9) rfl dX13_mayBe_4 ?_
    refine lv_icmp_ge (tgt := 51) hx hb dX13_mayBe_7 (by decide) (fun hc => ?_) (fun hc => ?_)
    · have hf := ite_t hf hc
      refine lv_iconst (v := 1) hx hb dX13_mayBe_51 (by decide) ?_
      obtain rfl := Option.some.inj hf
      exact k_zret (r := 1) hx hb hr hlocks rfl hK hP hD hS dX13_mayBe_52
    · have hf := ite_f hf hc
      refine lv_aload_n hx hb dX13_mayBe_10 rfl (lv_at hl 0 rfl) ?_
      refine va_get (D := D) (ci := 13) (v := .ref (a0 82)) (C := RX13) (T := TX13) (N := 87) hx hb hts hiX13 hown hK hP 0 rfl rfl 82 (by decide) (hts _ flX13_264) (fun _ h9 => h9) rfl dX13_mayBe_11 ?_
      refine lv_iload_n hx hb dX13_mayBe_14 rfl (lv_at hl 3 rfl) ?_
      refine va_iald (f := r0 82) hx hb hK hP 47 0 rfl rfl (ck_in hf) dX13_mayBe_15 ?_
      have hf := ck_2 hf
      refine lv_iload_n hx hb dX13_mayBe_16 rfl (lv_at hl 2 rfl) ?_
      refine lv_icmp_gt (tgt := 45) hx hb dX13_mayBe_17 (by decide) (fun hc => ?_) (fun hc => ?_)
      · have hf := ite_t hf hc
        exact w_X13_mayBe_45 C _ (ih) _ _ _ _ _ _ hf hP hD hS (lv_sub hl [0, 1, 2, 3] rfl)
      · have hf := ite_f hf hc
        refine lv_aload_n hx hb dX13_mayBe_20 rfl (lv_at hl 0 rfl) ?_
        refine lv_bipush (v := 7) hx hb dX13_mayBe_21 (by decide) ?_
        refine lv_aload_n hx hb dX13_mayBe_23 rfl (lv_at hl 0 rfl) ?_
        refine va_get (D := D) (ci := 13) (v := .ref (a0 80)) (C := RX13) (T := TX13) (N := 87) hx hb hts hiX13 hown hK hP 0 rfl rfl 80 (by decide) (hts _ flX13_258) (fun _ h9 => h9) rfl dX13_mayBe_24 ?_
        refine lv_iload_n hx hb dX13_mayBe_27 rfl (lv_at hl 3 rfl) ?_
        refine va_iald (f := r0 80) hx hb hK hP 45 0 rfl rfl (ck_in hf) dX13_mayBe_28 ?_
        have hf := ck_2 hf
        refine lv_iconst (v := 0) hx hb dX13_mayBe_29 (by decide) ?_
        refine lv_iload_n hx hb dX13_mayBe_30 rfl (lv_at hl 1 rfl) ?_
        obtain ⟨q3, hq3, hf⟩ := bd_s hf
        refine k_sVi (ws2 := W13 cs h0 a0 i0 r0 l0) (As := [.int 7, .int (r0 80 x3.toNatClampNeg), .int 0, .int x1]) (rest := []) hx hb hml hown hts hK hA hZ hl.1 hP hD hS (c_X13_outBut (h0 := h0) (a0 := a0) hq3) (gVt mlX13_314 imX13_outBut seX13_outBut inX13 coX13_outBut) rfl qnX13_outBut rfl rfl ⟨Nat.le_of_ble_eq_true rfl, Nat.le_of_ble_eq_true rfl⟩ 0 13 rfl rfl rfl rfl rfl (Nat.le_of_ble_eq_true rfl) ⟨Nat.zero_le _, Nat.zero_le _⟩ dX13_mayBe_31 (fun H locs hP hD hS => ?_)
        refine lv_aload_n hx hb dX13_mayBe_34 rfl (lv_at hl 0 rfl) ?_
        refine lv_iload_n hx hb dX13_mayBe_35 rfl (lv_at hl 3 rfl) ?_
        refine lv_iload_n hx hb dX13_mayBe_36 rfl (lv_at hl 2 rfl) ?_
        obtain ⟨q4, hq4, hf⟩ := bd_s hf
        refine k_sVi (ws2 := W13 cs h0 a0 i0 r0 l0) (As := [.int x3, .int x2]) (rest := [.int q3]) hx hb hml hown hts hK hA hZ hl.1 hP hD hS (c_X13_outAsKnown (h0 := h0) (a0 := a0) hq4) (gVt mlX13_637 imX13_outAsKnown seX13_outAsKnown inX13 coX13_outAsKnown) rfl qnX13_outAsKnown rfl rfl ⟨Nat.le_of_ble_eq_true rfl, Nat.le_of_ble_eq_true rfl⟩ 0 13 rfl rfl rfl rfl rfl (Nat.le_of_ble_eq_true rfl) ⟨Nat.zero_le _, Nat.zero_le _⟩ dX13_mayBe_37 (fun H locs hP hD hS => ?_)
        refine lv_icmp_eq (tgt := 45) hx hb dX13_mayBe_40 (by decide) (fun hc => ?_) (fun hc => ?_)
        · have hf := ite_t hf hc
          exact w_X13_mayBe_45 C _ (ih) _ _ _ _ _ _ hf hP hD hS (lv_sub hl [0, 1, 2, 3] rfl)
        · have hf := ite_f hf hc
          refine lv_iconst (v := 0) hx hb dX13_mayBe_43 (by decide) ?_
          obtain rfl := Option.some.inj hf
          exact k_zret (r := 0) hx hb hr hlocks rfl hK hP hD hS dX13_mayBe_44
def f_X13_mayBe  (i0 : Nat → Int32) (r0 : Nat → Nat → Int32) (l0 : Nat → Nat → Int64) (x1 : Int32) (x2 : Int32) : Option (Int32) := f_X13_mayBe_2 i0 r0 l0 2000000 x1 x2 0
set_option maxRecDepth 100000 in
set_option maxHeartbeats 4000000 in
theorem c_X13_mayBe {l : Launch} {D : va_G} {cs zs : Nat → Nat} {h0 : Nat} {a0 : Nat → Nat} {i0 : Nat → Int32} {r0 : Nat → Nat → Int32} {l0 : Nat → Nat → Int64} {x1 : Int32} {x2 : Int32} {q : Int32} (hf : f_X13_mayBe i0 r0 l0 x1 x2 = some q) : Mi l yX13_mayBe wlX13_mayBe rmX13_mayBe D cs zs [.ref h0, .int x1, .int x2] (W13 cs h0 a0 i0 r0 l0) q (W13 cs h0 a0 i0 r0 l0) := by
  refine Mi.of RX13 (by decide) rfl (Nat.le_of_ble_eq_true rfl) (fun p e s m below meth c A C hP hD hS ls hl => ?_)
  generalize ([.ref h0, .int x1, .int x2] : List Value).toArray = args at C ⊢
  obtain ⟨hx, hb, hr, hml, hown, hts, hK, hA, hlocks, hZ⟩ := id C
  have hl : lv_has ls 4 [(0, .ref h0), (1, .int x1), (2, .int x2)] := hl
  rw [f_X13_mayBe] at hf
  refine lv_iconst (v := 0) hx hb dX13_mayBe_0 (by decide) ?_
  refine lv_istore_n (lv' := [(3, .int 0), (0, .ref h0), (1, .int x1), (2, .int x2)]) hx hb dX13_mayBe_1 rfl hl (by decide) rfl (fun ls hl => ?_)
  exact w_X13_mayBe_2 C  2000000 _ _ _ _ _ _ hf hP hD hS (lv_sub hl [1, 2, 3, 0] rfl)
/-! MarbleFloorModel.fitOf(I)J -/
abbrev wlX13_fitOf : List Cond := Cond.code yX13_fitOf cX13_fitOf 5 (some .long) :: tbG
abbrev rmX13_fitOf : Room := { frames := 4, cells := 0, slots := 0, locals := 95 }
theorem qnX13_fitOf : yX13_fitOf.cls = RX13 ∧ yX13_fitOf.cls ≠ "java/lang/invoke/MethodHandle" ∧ yX13_fitOf.cls ≠ "java/lang/invoke/VarHandle" ∧ (parseMethodDescriptor yX13_fitOf.desc).map (fun d => d.parameters.length) = some 1 := by decide +kernel
def f_X13_fitOf_50 (i0 : Nat → Int32) (r0 : Nat → Nat → Int32) (l0 : Nat → Nat → Int64) (K21 : Int32 → Int64 → Int32 → Option (Int64)) (x1 : Int32) (x2 : Int64) (x4 : Int32) : Option (Int64) := K21 x1 x2 (x4 + 1)
set_option maxRecDepth 100000 in
set_option maxHeartbeats 4000000 in
theorem w_X13_fitOf_50 {p : Program} {l : Launch} {e : Env} {s : State} {m : MethodId} {args : Array Value} {below : List Frame} {meth : Method} {c : Code} {A : Nat → Prop} {D : va_G} {cs zs : Nat → Nat} {h0 : Nat} {a0 : Nat → Nat} {i0 : Nat → Int32} {r0 : Nat → Nat → Int32} {l0 : Nat → Nat → Int64} {q : Int64} (C : Cx p s m args meth c A D cs zs cX13_fitOf 5 (some .long) RX13) (K21 : Int32 → Int64 → Int32 → Option (Int64)) (hK21 : ∀ (x1 : Int32) (x2 : Int64) (x4 : Int32) (H : Heap) (locs : List Loc) (ls : Array Slot), K21 x1 x2 x4 = some q → va_P D vwCl (W13 cs h0 a0 i0 r0 l0) H → va_D A (W13 cs h0 a0 i0 r0 l0) → va_S A s.heap H locs → lv_has ls 5 [(0, .ref h0), (1, .int x1), (2, .long x2), (4, .int x4)] → W p l e rmX13_fitOf s m args below meth c H locs 0 0 (MQ below (Ql D cs A q (W13 cs h0 a0 i0 r0 l0)) args s 0 0 A) (F0 m 21 ls [])) : ∀ (x1 : Int32) (x2 : Int64) (x4 : Int32) (H : Heap) (locs : List Loc) (ls : Array Slot), f_X13_fitOf_50 i0 r0 l0 K21 x1 x2 x4 = some q → va_P D vwCl (W13 cs h0 a0 i0 r0 l0) H → va_D A (W13 cs h0 a0 i0 r0 l0) → va_S A s.heap H locs → lv_has ls 5 [(0, .ref h0), (1, .int x1), (2, .long x2), (4, .int x4)] → W p l e rmX13_fitOf s m args below meth c H locs 0 0 (MQ below (Ql D cs A q (W13 cs h0 a0 i0 r0 l0)) args s 0 0 A) (F0 m 50 ls []) := by
  obtain ⟨hx, hb, hr, hml, hown, hts, hK, hA, hlocks, hZ⟩ := id C
  intro x1 x2 x4 H locs ls hf hP hD hS hl
  rw [f_X13_fitOf_50] at hf
  refine lv_iinc (v := x4 + 1) (lv' := [(4, .int (x4 + 1)), (0, .ref h0), (1, .int x1), (2, .long x2)]) hx hb dX13_fitOf_50 hl (k := 3) rfl rfl (by decide) rfl (fun ls hl => ?_)
  refine lv_goto (tgt := 21) hx hb dX13_fitOf_53 (by decide) ?_
  exact hK21 _ _ _ _ _ _ hf hP hD hS (lv_sub hl [1, 2, 3, 0] rfl)
def f_X13_fitOf_21 (i0 : Nat → Int32) (r0 : Nat → Nat → Int32) (l0 : Nat → Nat → Int64)  : Nat → Int32 → Int64 → Int32 → Option (Int64)
  | 0, _, _, _ => none
  | n + 1, x1, x2, x4 => ck (inb 7 8) (if (r0 11 (7 : Int32).toNatClampNeg) ≤ x4 then (some (x2)) else (bd (f_X13_mayBe i0 r0 l0 x4 x1) (fun q3 => if q3 = 0 then (f_X13_fitOf_50 i0 r0 l0 (f_X13_fitOf_21 i0 r0 l0 n) x1 x2 x4) else (f_X13_fitOf_50 i0 r0 l0 (f_X13_fitOf_21 i0 r0 l0 n) x1 (x2 ||| ((1 : Int64) <<< (x4.toInt64 &&& 63))) x4))))
set_option maxRecDepth 100000 in
set_option maxHeartbeats 4000000 in
theorem w_X13_fitOf_21 {p : Program} {l : Launch} {e : Env} {s : State} {m : MethodId} {args : Array Value} {below : List Frame} {meth : Method} {c : Code} {A : Nat → Prop} {D : va_G} {cs zs : Nat → Nat} {h0 : Nat} {a0 : Nat → Nat} {i0 : Nat → Int32} {r0 : Nat → Nat → Int32} {l0 : Nat → Nat → Int64} {q : Int64} (C : Cx p s m args meth c A D cs zs cX13_fitOf 5 (some .long) RX13)  : ∀ (n : Nat), ∀ (x1 : Int32) (x2 : Int64) (x4 : Int32) (H : Heap) (locs : List Loc) (ls : Array Slot), f_X13_fitOf_21 i0 r0 l0 n x1 x2 x4 = some q → va_P D vwCl (W13 cs h0 a0 i0 r0 l0) H → va_D A (W13 cs h0 a0 i0 r0 l0) → va_S A s.heap H locs → lv_has ls 5 [(0, .ref h0), (1, .int x1), (2, .long x2), (4, .int x4)] → W p l e rmX13_fitOf s m args below meth c H locs 0 0 (MQ below (Ql D cs A q (W13 cs h0 a0 i0 r0 l0)) args s 0 0 A) (F0 m 21 ls []) := by
  obtain ⟨hx, hb, hr, hml, hown, hts, hK, hA, hlocks, hZ⟩ := id C
  intro n
  induction n with
  | zero =>
    intro x1 x2 x4 H locs ls hf
    rw [f_X13_fitOf_21] at hf
    cases hf
  | succ n ih =>
    intro x1 x2 x4 H locs ls hf hP hD hS hl
    rw [f_X13_fitOf_21] at hf
    refine lv_iload hx hb dX13_fitOf_21 (lv_at hl 3 rfl) ?_
    refine lv_aload_n hx hb dX13_fitOf_23 rfl (lv_at hl 0 rfl) ?_
    refine va_get (D := D) (ci := 13) (v := .ref (a0 11)) (C := RX13) (T := TX13) (N := 87) hx hb hts hiX13 hown hK hP 0 rfl rfl 11 (by decide) (hts _ flX13_86) (fun _ h9 => h9) rfl dX13_fitOf_24 ?_
    refine lv_bipush (v := 7) hx hb dX13_fitOf_27 (by decide) ?_
    refine va_iald (f := r0 11) hx hb hK hP 3 0 rfl rfl (ck_in hf) dX13_fitOf_29 ?_
    have hf := ck_2 hf
    refine lv_icmp_ge (tgt := 56) hx hb dX13_fitOf_30 (by decide) (fun hc => ?_) (fun hc => ?_)
    · have hf := ite_t hf hc
      refine lv_lload_n hx hb dX13_fitOf_56 rfl (lv_at hl 2 rfl) ?_
      obtain rfl := Option.some.inj hf
      exact k_lret hx hb hr hlocks hK hP hD hS dX13_fitOf_57
    · have hf := ite_f hf hc
      refine lv_aload_n hx hb dX13_fitOf_33 rfl (lv_at hl 0 rfl) ?_
      refine lv_iload hx hb dX13_fitOf_34 (lv_at hl 3 rfl) ?_
      refine lv_iload_n hx hb dX13_fitOf_36 rfl (lv_at hl 1 rfl) ?_
      obtain ⟨q3, hq3, hf⟩ := bd_s hf
      refine k_sVi (ws2 := W13 cs h0 a0 i0 r0 l0) (As := [.int x4, .int x1]) (rest := []) hx hb hml hown hts hK hA hZ hl.1 hP hD hS (c_X13_mayBe (h0 := h0) (a0 := a0) hq3) (gVt mlX13_640 imX13_mayBe seX13_mayBe inX13 coX13_mayBe) rfl qnX13_mayBe rfl rfl ⟨Nat.le_of_ble_eq_true rfl, Nat.le_of_ble_eq_true rfl⟩ 0 13 rfl rfl rfl rfl rfl (Nat.le_of_ble_eq_true rfl) ⟨Nat.zero_le _, Nat.zero_le _⟩ dX13_fitOf_37 (fun H locs hP hD hS => ?_)
      refine lv_if_eq (tgt := 50) hx hb dX13_fitOf_40 (by decide) (fun hc => ?_) (fun hc => ?_)
      · have hf := ite_t hf hc
        exact w_X13_fitOf_50 C _ (ih) _ _ _ _ _ _ hf hP hD hS (lv_sub hl [0, 1, 2, 3] rfl)
      · have hf := ite_f hf hc
        refine lv_lload_n hx hb dX13_fitOf_43 rfl (lv_at hl 2 rfl) ?_
        refine lv_lconst (v := 1) hx hb dX13_fitOf_44 (by decide) ?_
        refine lv_iload hx hb dX13_fitOf_45 (lv_at hl 3 rfl) ?_
        refine lv_lshl hx hb dX13_fitOf_47 rfl ?_
        refine lv_lor hx hb dX13_fitOf_48 ?_
        refine lv_lstore_n (lv' := [(2, .long (x2 ||| ((1 : Int64) <<< (x4.toInt64 &&& 63)))), (0, .ref h0), (1, .int x1), (4, .int x4)]) hx hb dX13_fitOf_49 rfl hl (by decide) rfl (fun ls hl => ?_)
        exact w_X13_fitOf_50 C _ (ih) _ _ _ _ _ _ hf hP hD hS (lv_sub hl [1, 2, 0, 3] rfl)
def f_X13_fitOf_17 (i0 : Nat → Int32) (r0 : Nat → Nat → Int32) (l0 : Nat → Nat → Int64)  (x1 : Int32) (y0 : Int64) : Option (Int64) := f_X13_fitOf_21 i0 r0 l0 2000000 x1 y0 0
set_option maxRecDepth 100000 in
set_option maxHeartbeats 4000000 in
theorem w_X13_fitOf_17 {p : Program} {l : Launch} {e : Env} {s : State} {m : MethodId} {args : Array Value} {below : List Frame} {meth : Method} {c : Code} {A : Nat → Prop} {D : va_G} {cs zs : Nat → Nat} {h0 : Nat} {a0 : Nat → Nat} {i0 : Nat → Int32} {r0 : Nat → Nat → Int32} {l0 : Nat → Nat → Int64} {q : Int64} (C : Cx p s m args meth c A D cs zs cX13_fitOf 5 (some .long) RX13)  : ∀ (x1 : Int32) (y0 : Int64) (H : Heap) (locs : List Loc) (ls : Array Slot), f_X13_fitOf_17 i0 r0 l0 x1 y0 = some q → va_P D vwCl (W13 cs h0 a0 i0 r0 l0) H → va_D A (W13 cs h0 a0 i0 r0 l0) → va_S A s.heap H locs → lv_has ls 5 [(0, .ref h0), (1, .int x1)] → W p l e rmX13_fitOf s m args below meth c H locs 0 0 (MQ below (Ql D cs A q (W13 cs h0 a0 i0 r0 l0)) args s 0 0 A) (F0 m 17 ls [.long y0]) := by
  obtain ⟨hx, hb, hr, hml, hown, hts, hK, hA, hlocks, hZ⟩ := id C
  intro x1 y0 H locs ls hf hP hD hS hl
  rw [f_X13_fitOf_17] at hf
  refine lv_lstore_n (lv' := [(2, .long y0), (0, .ref h0), (1, .int x1)]) hx hb dX13_fitOf_17 rfl hl (by decide) rfl (fun ls hl => ?_)
  refine lv_iconst (v := 0) hx hb dX13_fitOf_18 (by decide) ?_
  refine lv_istore (lv' := [(4, .int 0), (2, .long y0), (0, .ref h0), (1, .int x1)]) hx hb dX13_fitOf_19 hl (by decide) rfl (fun ls hl => ?_)
  exact w_X13_fitOf_21 C  2000000 _ _ _ _ _ _ hf hP hD hS (lv_sub hl [2, 3, 1, 0] rfl)
def f_X13_fitOf  (i0 : Nat → Int32) (r0 : Nat → Nat → Int32) (l0 : Nat → Nat → Int64) (x1 : Int32) : Option (Int64) := bd (f_X13_mayBe i0 r0 l0 40 x1) (fun q4 => if q4 = 0 then (f_X13_fitOf_17 i0 r0 l0 x1 0) else (f_X13_fitOf_17 i0 r0 l0 x1 1099511627776))
set_option maxRecDepth 100000 in
set_option maxHeartbeats 4000000 in
theorem c_X13_fitOf {l : Launch} {D : va_G} {cs zs : Nat → Nat} {h0 : Nat} {a0 : Nat → Nat} {i0 : Nat → Int32} {r0 : Nat → Nat → Int32} {l0 : Nat → Nat → Int64} {x1 : Int32} {q : Int64} (hf : f_X13_fitOf i0 r0 l0 x1 = some q) : Ml l yX13_fitOf wlX13_fitOf rmX13_fitOf D cs zs [.ref h0, .int x1] (W13 cs h0 a0 i0 r0 l0) q (W13 cs h0 a0 i0 r0 l0) := by
  refine Ml.of RX13 (by decide) rfl (Nat.le_of_ble_eq_true rfl) (fun p e s m below meth c A C hP hD hS ls hl => ?_)
  generalize ([.ref h0, .int x1] : List Value).toArray = args at C ⊢
  obtain ⟨hx, hb, hr, hml, hown, hts, hK, hA, hlocks, hZ⟩ := id C
  have hl : lv_has ls 5 [(0, .ref h0), (1, .int x1)] := hl
  rw [f_X13_fitOf] at hf
  refine lv_aload_n hx hb dX13_fitOf_0 rfl (lv_at hl 0 rfl) ?_
  refine lv_bipush (v := 40) hx hb dX13_fitOf_1 (by decide) ?_
  refine lv_iload_n hx hb dX13_fitOf_3 rfl (lv_at hl 1 rfl) ?_
  obtain ⟨q4, hq4, hf⟩ := bd_s hf
  refine k_sVi (ws2 := W13 cs h0 a0 i0 r0 l0) (As := [.int 40, .int x1]) (rest := []) hx hb hml hown hts hK hA hZ hl.1 hP hD hS (c_X13_mayBe (h0 := h0) (a0 := a0) hq4) (gVt mlX13_640 imX13_mayBe seX13_mayBe inX13 coX13_mayBe) rfl qnX13_mayBe rfl rfl ⟨Nat.le_of_ble_eq_true rfl, Nat.le_of_ble_eq_true rfl⟩ 0 13 rfl rfl rfl rfl rfl (Nat.le_of_ble_eq_true rfl) ⟨Nat.zero_le _, Nat.zero_le _⟩ dX13_fitOf_4 (fun H locs hP hD hS => ?_)
  refine lv_if_eq (tgt := 16) hx hb dX13_fitOf_7 (by decide) (fun hc => ?_) (fun hc => ?_)
  · have hf := ite_t hf hc
    refine lv_lconst (v := 0) hx hb dX13_fitOf_16 (by decide) ?_
    exact w_X13_fitOf_17 C  _ _ _ _ _ hf hP hD hS (lv_sub hl [0, 1] rfl)
  · have hf := ite_f hf hc
    refine lv_ldc2 (v := 1099511627776) hx hb hown (hts _ kcX13_643) dX13_fitOf_10 ?_
    refine lv_goto (tgt := 17) hx hb dX13_fitOf_13 (by decide) ?_
    exact w_X13_fitOf_17 C  _ _ _ _ _ hf hP hD hS (lv_sub hl [0, 1] rfl)
/-! MarbleFloorModel.fit(I)J -/
abbrev wlX13_fit : List Cond := Cond.code yX13_fit cX13_fit 2 (some .long) :: tbG
abbrev rmX13_fit : Room := { frames := 5, cells := 0, slots := 0, locals := 119 }
theorem qnX13_fit : yX13_fit.cls = RX13 ∧ yX13_fit.cls ≠ "java/lang/invoke/MethodHandle" ∧ yX13_fit.cls ≠ "java/lang/invoke/VarHandle" ∧ (parseMethodDescriptor yX13_fit.desc).map (fun d => d.parameters.length) = some 1 := by decide +kernel
def f_X13_fit  (i0 : Nat → Int32) (r0 : Nat → Nat → Int32) (l0 : Nat → Nat → Int64) (x1 : Int32) : Option (Int64) := bd (f_X13_in x1.toInt64 0 999) (fun q3 => if q3 = 0 then (some ((-2))) else (if (i0 76) = 0 then (some ((-4))) else (bd (f_X13_fitOf i0 r0 l0 x1) (fun q4 => some (q4)))))
set_option maxRecDepth 100000 in
set_option maxHeartbeats 4000000 in
theorem c_X13_fit {l : Launch} {D : va_G} {cs zs : Nat → Nat} {h0 : Nat} {a0 : Nat → Nat} {i0 : Nat → Int32} {r0 : Nat → Nat → Int32} {l0 : Nat → Nat → Int64} {x1 : Int32} {q : Int64} (hf : f_X13_fit i0 r0 l0 x1 = some q) : Ml l yX13_fit wlX13_fit rmX13_fit D cs zs [.ref h0, .int x1] (W13 cs h0 a0 i0 r0 l0) q (W13 cs h0 a0 i0 r0 l0) := by
  refine Ml.of RX13 (by decide) rfl (Nat.le_of_ble_eq_true rfl) (fun p e s m below meth c A C hP hD hS ls hl => ?_)
  generalize ([.ref h0, .int x1] : List Value).toArray = args at C ⊢
  obtain ⟨hx, hb, hr, hml, hown, hts, hK, hA, hlocks, hZ⟩ := id C
  have hl : lv_has ls 2 [(0, .ref h0), (1, .int x1)] := hl
  rw [f_X13_fit] at hf
  refine lv_iload_n hx hb dX13_fit_0 rfl (lv_at hl 1 rfl) ?_
  refine lv_i2l hx hb dX13_fit_1 rfl ?_
  refine lv_lconst (v := 0) hx hb dX13_fit_2 (by decide) ?_
  refine lv_ldc2 (v := 999) hx hb hown (hts _ kcX13_633) dX13_fit_3 ?_
  obtain ⟨q3, hq3, hf⟩ := bd_s hf
  refine k_eSi (As := [.long x1.toInt64, .long 0, .long 999]) (rest := []) hx hb hml hown hts hK hA hZ hl.1 hP hD hS (c_X13_in  hq3) (gSt mlX13_64 stX13_in inX13 coX13_in) rfl qnX13_in rfl rfl ⟨Nat.le_of_ble_eq_true rfl, Nat.le_of_ble_eq_true rfl⟩ rfl rfl (Nat.le_of_ble_eq_true rfl) ⟨Nat.zero_le _, Nat.zero_le _⟩ dX13_fit_6 (fun H locs hP hD hS => ?_)
  refine lv_if_ne (tgt := 18) hx hb dX13_fit_9 (by decide) (fun hc => ?_) (fun hc => ?_)
  · have hf := ite_f hf hc
    refine lv_aload_n hx hb dX13_fit_18 rfl (lv_at hl 0 rfl) ?_
    refine va_get (D := D) (ci := 13) (v := .int (i0 76)) (C := RX13) (T := TX13) (N := 87) hx hb hts hiX13 hown hK hP 0 rfl rfl 76 (by decide) (hts _ flX13_620) (fun _ h9 => h9) rfl dX13_fit_19 ?_
    refine lv_if_eq (tgt := 33) hx hb dX13_fit_22 (by decide) (fun hc => ?_) (fun hc => ?_)
    · have hf := ite_t hf hc
      refine lv_ldc2 (v := (-4)) hx hb hown (hts _ kcX13_649) dX13_fit_33 ?_
      obtain rfl := Option.some.inj hf
      exact k_lret hx hb hr hlocks hK hP hD hS dX13_fit_36
    · have hf := ite_f hf hc
      refine lv_aload_n hx hb dX13_fit_25 rfl (lv_at hl 0 rfl) ?_
      refine lv_iload_n hx hb dX13_fit_26 rfl (lv_at hl 1 rfl) ?_
      obtain ⟨q4, hq4, hf⟩ := bd_s hf
      refine k_sVl (ws2 := W13 cs h0 a0 i0 r0 l0) (As := [.int x1]) (rest := []) hx hb hml hown hts hK hA hZ hl.1 hP hD hS (c_X13_fitOf (h0 := h0) (a0 := a0) hq4) (gVt mlX13_645 imX13_fitOf seX13_fitOf inX13 coX13_fitOf) rfl qnX13_fitOf rfl rfl ⟨Nat.le_of_ble_eq_true rfl, Nat.le_of_ble_eq_true rfl⟩ 0 13 rfl rfl rfl rfl rfl (Nat.le_of_ble_eq_true rfl) ⟨Nat.zero_le _, Nat.zero_le _⟩ dX13_fit_27 (fun H locs hP hD hS => ?_)
      refine lv_goto (tgt := 36) hx hb dX13_fit_30 (by decide) ?_
      obtain rfl := Option.some.inj hf
      exact k_lret hx hb hr hlocks hK hP hD hS dX13_fit_36
  · have hf := ite_t hf hc
    refine lv_ldc2 (v := (-2)) hx hb hown (hts _ kcX13_324) dX13_fit_12 ?_
    refine lv_goto (tgt := 36) hx hb dX13_fit_15 (by decide) ?_
    obtain rfl := Option.some.inj hf
    exact k_lret hx hb hr hlocks hK hP hD hS dX13_fit_36
/-! MarbleFloorModel.look()I -/
abbrev wlX13_look_ : List Cond := Cond.code yX13_look_ cX13_look_ 9 (some .int) :: tbG
abbrev rmX13_look_ : Room := { frames := 5, cells := 0, slots := 0, locals := 119 }
theorem qnX13_look_ : yX13_look_.cls = RX13 ∧ yX13_look_.cls ≠ "java/lang/invoke/MethodHandle" ∧ yX13_look_.cls ≠ "java/lang/invoke/VarHandle" ∧ (parseMethodDescriptor yX13_look_.desc).map (fun d => d.parameters.length) = some 0 := by decide +kernel
def f_X13_look__162 (i0 : Nat → Int32) (l0 : Nat → Nat → Int64) (K52 : (Nat → Nat → Int32) → Int64 → Int32 → Int32 → Int32 → Option (Int32 × (Nat → Nat → Int32))) (K103 : (Nat → Nat → Int32) → Int64 → Int32 → Int32 → Int32 → Int32 → Int32 → Option (Int32 × (Nat → Nat → Int32))) (r0 : Nat → Nat → Int32) (x1 : Int64) (x3 : Int32) (x4 : Int32) (x5 : Int32) (x6 : Int32) (x7 : Int32) : Option (Int32 × (Nat → Nat → Int32)) := K103 r0 x1 x3 x4 x5 x6 (x7 + 1)
set_option maxRecDepth 100000 in
set_option maxHeartbeats 4000000 in
theorem w_X13_look__162 {p : Program} {l : Launch} {e : Env} {s : State} {m : MethodId} {args : Array Value} {below : List Frame} {meth : Method} {c : Code} {A : Nat → Prop} {D : va_G} {cs zs : Nat → Nat} {h0 : Nat} {a0 : Nat → Nat} {i0 : Nat → Int32} {l0 : Nat → Nat → Int64} {q : Int32 × (Nat → Nat → Int32)} (C : Cx p s m args meth c A D cs zs cX13_look_ 9 (some .int) RX13) (K52 : (Nat → Nat → Int32) → Int64 → Int32 → Int32 → Int32 → Option (Int32 × (Nat → Nat → Int32))) (hK52 : ∀ (r0 : Nat → Nat → Int32) (x1 : Int64) (x3 : Int32) (x4 : Int32) (x5 : Int32) (H : Heap) (locs : List Loc) (ls : Array Slot), K52 r0 x1 x3 x4 x5 = some q → va_P D vwCl (W13 cs h0 a0 i0 r0 l0) H → va_D A (W13 cs h0 a0 i0 r0 l0) → va_S A s.heap H locs → lv_has ls 9 [(0, .ref h0), (1, .long x1), (3, .int x3), (4, .int x4), (5, .int x5)] → W p l e rmX13_look_ s m args below meth c H locs 0 0 (MQ below (Qi D cs A q.1 (W13 cs h0 a0 i0 q.2 l0)) args s 0 0 A) (F0 m 52 ls [])) (K103 : (Nat → Nat → Int32) → Int64 → Int32 → Int32 → Int32 → Int32 → Int32 → Option (Int32 × (Nat → Nat → Int32))) (hK103 : ∀ (r0 : Nat → Nat → Int32) (x1 : Int64) (x3 : Int32) (x4 : Int32) (x5 : Int32) (x6 : Int32) (x7 : Int32) (H : Heap) (locs : List Loc) (ls : Array Slot), K103 r0 x1 x3 x4 x5 x6 x7 = some q → va_P D vwCl (W13 cs h0 a0 i0 r0 l0) H → va_D A (W13 cs h0 a0 i0 r0 l0) → va_S A s.heap H locs → lv_has ls 9 [(0, .ref h0), (1, .long x1), (3, .int x3), (4, .int x4), (5, .int x5), (6, .int x6), (7, .int x7)] → W p l e rmX13_look_ s m args below meth c H locs 0 0 (MQ below (Qi D cs A q.1 (W13 cs h0 a0 i0 q.2 l0)) args s 0 0 A) (F0 m 103 ls [])) : ∀ (r0 : Nat → Nat → Int32) (x1 : Int64) (x3 : Int32) (x4 : Int32) (x5 : Int32) (x6 : Int32) (x7 : Int32) (H : Heap) (locs : List Loc) (ls : Array Slot), f_X13_look__162 i0 l0 K52 K103 r0 x1 x3 x4 x5 x6 x7 = some q → va_P D vwCl (W13 cs h0 a0 i0 r0 l0) H → va_D A (W13 cs h0 a0 i0 r0 l0) → va_S A s.heap H locs → lv_has ls 9 [(0, .ref h0), (1, .long x1), (3, .int x3), (4, .int x4), (5, .int x5), (6, .int x6), (7, .int x7)] → W p l e rmX13_look_ s m args below meth c H locs 0 0 (MQ below (Qi D cs A q.1 (W13 cs h0 a0 i0 q.2 l0)) args s 0 0 A) (F0 m 162 ls []) := by
  obtain ⟨hx, hb, hr, hml, hown, hts, hK, hA, hlocks, hZ⟩ := id C
  intro r0 x1 x3 x4 x5 x6 x7 H locs ls hf hP hD hS hl
  rw [f_X13_look__162] at hf
  refine lv_iinc (v := x7 + 1) (lv' := [(7, .int (x7 + 1)), (0, .ref h0), (1, .long x1), (3, .int x3), (4, .int x4), (5, .int x5), (6, .int x6)]) hx hb dX13_look__162 hl (k := 6) rfl rfl (by decide) rfl (fun ls hl => ?_)
  refine lv_goto (tgt := 103) hx hb dX13_look__165 (by decide) ?_
  exact hK103 _ _ _ _ _ _ _ _ _ _ hf hP hD hS (lv_sub hl [1, 2, 3, 4, 5, 6, 0] rfl)
def f_X13_look__148 (i0 : Nat → Int32) (l0 : Nat → Nat → Int64) (K52 : (Nat → Nat → Int32) → Int64 → Int32 → Int32 → Int32 → Option (Int32 × (Nat → Nat → Int32))) (K103 : (Nat → Nat → Int32) → Int64 → Int32 → Int32 → Int32 → Int32 → Int32 → Option (Int32 × (Nat → Nat → Int32))) (r0 : Nat → Nat → Int32) (x1 : Int64) (x3 : Int32) (x4 : Int32) (x5 : Int32) (x6 : Int32) (x7 : Int32) (x8 : Int32) : Option (Int32 × (Nat → Nat → Int32)) := ck (inb x8 256) (f_X13_look__162 i0 l0 K52 K103 r0 x1 x3 x4 x5 (if x6 < (r0 86 x8.toNatClampNeg) then (r0 86 x8.toNatClampNeg) else x6) x7)
set_option maxRecDepth 100000 in
set_option maxHeartbeats 4000000 in
theorem w_X13_look__148 {p : Program} {l : Launch} {e : Env} {s : State} {m : MethodId} {args : Array Value} {below : List Frame} {meth : Method} {c : Code} {A : Nat → Prop} {D : va_G} {cs zs : Nat → Nat} {h0 : Nat} {a0 : Nat → Nat} {i0 : Nat → Int32} {l0 : Nat → Nat → Int64} {q : Int32 × (Nat → Nat → Int32)} (C : Cx p s m args meth c A D cs zs cX13_look_ 9 (some .int) RX13) (K52 : (Nat → Nat → Int32) → Int64 → Int32 → Int32 → Int32 → Option (Int32 × (Nat → Nat → Int32))) (hK52 : ∀ (r0 : Nat → Nat → Int32) (x1 : Int64) (x3 : Int32) (x4 : Int32) (x5 : Int32) (H : Heap) (locs : List Loc) (ls : Array Slot), K52 r0 x1 x3 x4 x5 = some q → va_P D vwCl (W13 cs h0 a0 i0 r0 l0) H → va_D A (W13 cs h0 a0 i0 r0 l0) → va_S A s.heap H locs → lv_has ls 9 [(0, .ref h0), (1, .long x1), (3, .int x3), (4, .int x4), (5, .int x5)] → W p l e rmX13_look_ s m args below meth c H locs 0 0 (MQ below (Qi D cs A q.1 (W13 cs h0 a0 i0 q.2 l0)) args s 0 0 A) (F0 m 52 ls [])) (K103 : (Nat → Nat → Int32) → Int64 → Int32 → Int32 → Int32 → Int32 → Int32 → Option (Int32 × (Nat → Nat → Int32))) (hK103 : ∀ (r0 : Nat → Nat → Int32) (x1 : Int64) (x3 : Int32) (x4 : Int32) (x5 : Int32) (x6 : Int32) (x7 : Int32) (H : Heap) (locs : List Loc) (ls : Array Slot), K103 r0 x1 x3 x4 x5 x6 x7 = some q → va_P D vwCl (W13 cs h0 a0 i0 r0 l0) H → va_D A (W13 cs h0 a0 i0 r0 l0) → va_S A s.heap H locs → lv_has ls 9 [(0, .ref h0), (1, .long x1), (3, .int x3), (4, .int x4), (5, .int x5), (6, .int x6), (7, .int x7)] → W p l e rmX13_look_ s m args below meth c H locs 0 0 (MQ below (Qi D cs A q.1 (W13 cs h0 a0 i0 q.2 l0)) args s 0 0 A) (F0 m 103 ls [])) : ∀ (r0 : Nat → Nat → Int32) (x1 : Int64) (x3 : Int32) (x4 : Int32) (x5 : Int32) (x6 : Int32) (x7 : Int32) (x8 : Int32) (H : Heap) (locs : List Loc) (ls : Array Slot), f_X13_look__148 i0 l0 K52 K103 r0 x1 x3 x4 x5 x6 x7 x8 = some q → va_P D vwCl (W13 cs h0 a0 i0 r0 l0) H → va_D A (W13 cs h0 a0 i0 r0 l0) → va_S A s.heap H locs → lv_has ls 9 [(0, .ref h0), (1, .long x1), (3, .int x3), (4, .int x4), (5, .int x5), (6, .int x6), (7, .int x7), (8, .int x8)] → W p l e rmX13_look_ s m args below meth c H locs 0 0 (MQ below (Qi D cs A q.1 (W13 cs h0 a0 i0 q.2 l0)) args s 0 0 A) (F0 m 148 ls []) := by
  obtain ⟨hx, hb, hr, hml, hown, hts, hK, hA, hlocks, hZ⟩ := id C
  intro r0 x1 x3 x4 x5 x6 x7 x8 H locs ls hf hP hD hS hl
  rw [f_X13_look__148] at hf
  refine lv_iload hx hb dX13_look__148 (lv_at hl 5 rfl) ?_
  refine lv_aload_n hx hb dX13_look__150 rfl (lv_at hl 0 rfl) ?_
  refine va_get (D := D) (ci := 13) (v := .ref (a0 86)) (C := RX13) (T := TX13) (N := 87) hx hb hts hiX13 hown hK hP 0 rfl rfl 86 (by decide) (hts _ flX13_276) (fun _ h9 => h9) rfl dX13_look__151 ?_
  refine lv_iload hx hb dX13_look__154 (lv_at hl 7 rfl) ?_
  refine va_iald (f := r0 86) hx hb hK hP 51 0 rfl rfl (ck_in hf) dX13_look__156 ?_
  have hf := ck_2 hf
  refine va_mmax hx hb (hml.trans hl.1.symm) hown (hts _ mlX13_366) (hts _ stJ9_max_7cf53) (hts _ ini_Math) (hts _ coJ9_max_7cf53) (Nat.le_of_ble_eq_true rfl) (Nat.le_of_ble_eq_true rfl) (Nat.zero_le _) (Nat.zero_le _) dX13_look__157 ?_
  refine lv_istore (lv' := [(6, .int (if x6 < (r0 86 x8.toNatClampNeg) then (r0 86 x8.toNatClampNeg) else x6)), (0, .ref h0), (1, .long x1), (3, .int x3), (4, .int x4), (5, .int x5), (7, .int x7), (8, .int x8)]) hx hb dX13_look__160 hl (by decide) rfl (fun ls hl => ?_)
  exact w_X13_look__162 C _ (hK52) _ (hK103) _ _ _ _ _ _ _ _ _ _ hf hP hD hS (lv_sub hl [1, 2, 3, 4, 5, 0, 6] rfl)
def f_X13_look__184 (i0 : Nat → Int32) (l0 : Nat → Nat → Int64) (K52 : (Nat → Nat → Int32) → Int64 → Int32 → Int32 → Int32 → Option (Int32 × (Nat → Nat → Int32))) (r0 : Nat → Nat → Int32) (x1 : Int64) (x3 : Int32) (x4 : Int32) (x5 : Int32) : Option (Int32 × (Nat → Nat → Int32)) := K52 r0 x1 x3 x4 (x5 + 1)
set_option maxRecDepth 100000 in
set_option maxHeartbeats 4000000 in
theorem w_X13_look__184 {p : Program} {l : Launch} {e : Env} {s : State} {m : MethodId} {args : Array Value} {below : List Frame} {meth : Method} {c : Code} {A : Nat → Prop} {D : va_G} {cs zs : Nat → Nat} {h0 : Nat} {a0 : Nat → Nat} {i0 : Nat → Int32} {l0 : Nat → Nat → Int64} {q : Int32 × (Nat → Nat → Int32)} (C : Cx p s m args meth c A D cs zs cX13_look_ 9 (some .int) RX13) (K52 : (Nat → Nat → Int32) → Int64 → Int32 → Int32 → Int32 → Option (Int32 × (Nat → Nat → Int32))) (hK52 : ∀ (r0 : Nat → Nat → Int32) (x1 : Int64) (x3 : Int32) (x4 : Int32) (x5 : Int32) (H : Heap) (locs : List Loc) (ls : Array Slot), K52 r0 x1 x3 x4 x5 = some q → va_P D vwCl (W13 cs h0 a0 i0 r0 l0) H → va_D A (W13 cs h0 a0 i0 r0 l0) → va_S A s.heap H locs → lv_has ls 9 [(0, .ref h0), (1, .long x1), (3, .int x3), (4, .int x4), (5, .int x5)] → W p l e rmX13_look_ s m args below meth c H locs 0 0 (MQ below (Qi D cs A q.1 (W13 cs h0 a0 i0 q.2 l0)) args s 0 0 A) (F0 m 52 ls [])) : ∀ (r0 : Nat → Nat → Int32) (x1 : Int64) (x3 : Int32) (x4 : Int32) (x5 : Int32) (H : Heap) (locs : List Loc) (ls : Array Slot), f_X13_look__184 i0 l0 K52 r0 x1 x3 x4 x5 = some q → va_P D vwCl (W13 cs h0 a0 i0 r0 l0) H → va_D A (W13 cs h0 a0 i0 r0 l0) → va_S A s.heap H locs → lv_has ls 9 [(0, .ref h0), (1, .long x1), (3, .int x3), (4, .int x4), (5, .int x5)] → W p l e rmX13_look_ s m args below meth c H locs 0 0 (MQ below (Qi D cs A q.1 (W13 cs h0 a0 i0 q.2 l0)) args s 0 0 A) (F0 m 184 ls []) := by
  obtain ⟨hx, hb, hr, hml, hown, hts, hK, hA, hlocks, hZ⟩ := id C
  intro r0 x1 x3 x4 x5 H locs ls hf hP hD hS hl
  rw [f_X13_look__184] at hf
  refine lv_iinc (v := x5 + 1) (lv' := [(5, .int (x5 + 1)), (0, .ref h0), (1, .long x1), (3, .int x3), (4, .int x4)]) hx hb dX13_look__184 hl (k := 4) rfl rfl (by decide) rfl (fun ls hl => ?_)
  refine lv_goto (tgt := 52) hx hb dX13_look__187 (by decide) ?_
  exact hK52 _ _ _ _ _ _ _ _ hf hP hD hS (lv_sub hl [1, 2, 3, 4, 0] rfl)
def f_X13_look__103 (i0 : Nat → Int32) (l0 : Nat → Nat → Int64) (K52 : (Nat → Nat → Int32) → Int64 → Int32 → Int32 → Int32 → Option (Int32 × (Nat → Nat → Int32))) : Nat → (Nat → Nat → Int32) → Int64 → Int32 → Int32 → Int32 → Int32 → Int32 → Option (Int32 × (Nat → Nat → Int32))
  | 0, _, _, _, _, _, _, _ => none
  | n + 1, r0, x1, x3, x4, x5, x6, x7 => if 40 < x7 then (if x6 < x3 then (f_X13_look__184 i0 l0 K52 r0 x1 x6 x5 x5) else (f_X13_look__184 i0 l0 K52 r0 x1 x3 x4 x5)) else (if (lg_cmp ((x1 >>> (x7.toInt64 &&& 63)) &&& 1) 0) = 0 then (f_X13_look__162 i0 l0 K52 (f_X13_look__103 i0 l0 K52 n) r0 x1 x3 x4 x5 x6 x7) else (bd (f_X13_outBut i0 r0 l0 7 x5 0 x7) (fun q3 => ck (inb q3 256) (ck (inb q3 256) (f_X13_look__148 i0 l0 K52 (f_X13_look__103 i0 l0 K52 n) (va_up r0 86 (upd (r0 86) q3.toNatClampNeg ((r0 86 q3.toNatClampNeg) + 1))) x1 x3 x4 x5 x6 x7 q3)))))
set_option maxRecDepth 100000 in
set_option maxHeartbeats 4000000 in
theorem w_X13_look__103 {p : Program} {l : Launch} {e : Env} {s : State} {m : MethodId} {args : Array Value} {below : List Frame} {meth : Method} {c : Code} {A : Nat → Prop} {D : va_G} {cs zs : Nat → Nat} {h0 : Nat} {a0 : Nat → Nat} {i0 : Nat → Int32} {l0 : Nat → Nat → Int64} {q : Int32 × (Nat → Nat → Int32)} (C : Cx p s m args meth c A D cs zs cX13_look_ 9 (some .int) RX13) (K52 : (Nat → Nat → Int32) → Int64 → Int32 → Int32 → Int32 → Option (Int32 × (Nat → Nat → Int32))) (hK52 : ∀ (r0 : Nat → Nat → Int32) (x1 : Int64) (x3 : Int32) (x4 : Int32) (x5 : Int32) (H : Heap) (locs : List Loc) (ls : Array Slot), K52 r0 x1 x3 x4 x5 = some q → va_P D vwCl (W13 cs h0 a0 i0 r0 l0) H → va_D A (W13 cs h0 a0 i0 r0 l0) → va_S A s.heap H locs → lv_has ls 9 [(0, .ref h0), (1, .long x1), (3, .int x3), (4, .int x4), (5, .int x5)] → W p l e rmX13_look_ s m args below meth c H locs 0 0 (MQ below (Qi D cs A q.1 (W13 cs h0 a0 i0 q.2 l0)) args s 0 0 A) (F0 m 52 ls [])) : ∀ (n : Nat), ∀ (r0 : Nat → Nat → Int32) (x1 : Int64) (x3 : Int32) (x4 : Int32) (x5 : Int32) (x6 : Int32) (x7 : Int32) (H : Heap) (locs : List Loc) (ls : Array Slot), f_X13_look__103 i0 l0 K52 n r0 x1 x3 x4 x5 x6 x7 = some q → va_P D vwCl (W13 cs h0 a0 i0 r0 l0) H → va_D A (W13 cs h0 a0 i0 r0 l0) → va_S A s.heap H locs → lv_has ls 9 [(0, .ref h0), (1, .long x1), (3, .int x3), (4, .int x4), (5, .int x5), (6, .int x6), (7, .int x7)] → W p l e rmX13_look_ s m args below meth c H locs 0 0 (MQ below (Qi D cs A q.1 (W13 cs h0 a0 i0 q.2 l0)) args s 0 0 A) (F0 m 103 ls []) := by
  obtain ⟨hx, hb, hr, hml, hown, hts, hK, hA, hlocks, hZ⟩ := id C
  intro n
  induction n with
  | zero =>
    intro r0 x1 x3 x4 x5 x6 x7 H locs ls hf
    rw [f_X13_look__103] at hf
    cases hf
  | succ n ih =>
    intro r0 x1 x3 x4 x5 x6 x7 H locs ls hf hP hD hS hl
    rw [f_X13_look__103] at hf
    refine lv_iload hx hb dX13_look__103 (lv_at hl 6 rfl) ?_
    refine lv_bipush (v := 40) hx hb dX13_look__105 (by decide) ?_
    refine lv_icmp_gt (tgt := 168) hx hb dX13_look__107 (by decide) (fun hc => ?_) (fun hc => ?_)
    · have hf := ite_t hf hc
      refine lv_iload hx hb dX13_look__168 (lv_at hl 5 rfl) ?_
      refine lv_iload_n hx hb dX13_look__170 rfl (lv_at hl 2 rfl) ?_
      refine lv_icmp_lt (tgt := 177) hx hb dX13_look__171 (by decide) (fun hc => ?_) (fun hc => ?_)
      · have hf := ite_t hf hc
        refine lv_iload hx hb dX13_look__177 (lv_at hl 5 rfl) ?_
        refine lv_istore_n (lv' := [(3, .int x6), (0, .ref h0), (1, .long x1), (4, .int x4), (5, .int x5), (6, .int x6), (7, .int x7)]) hx hb dX13_look__179 rfl hl (by decide) rfl (fun ls hl => ?_)
        refine lv_iload hx hb dX13_look__180 (lv_at hl 4 rfl) ?_
        refine lv_istore (lv' := [(4, .int x5), (3, .int x6), (0, .ref h0), (1, .long x1), (5, .int x5), (6, .int x6), (7, .int x7)]) hx hb dX13_look__182 hl (by decide) rfl (fun ls hl => ?_)
        exact w_X13_look__184 C _ (hK52) _ _ _ _ _ _ _ _ hf hP hD hS (lv_sub hl [2, 3, 1, 0, 4] rfl)
      · have hf := ite_f hf hc
        refine lv_goto (tgt := 184) hx hb dX13_look__174 (by decide) ?_
        exact w_X13_look__184 C _ (hK52) _ _ _ _ _ _ _ _ hf hP hD hS (lv_sub hl [0, 1, 2, 3, 4] rfl)
    · have hf := ite_f hf hc
      refine lv_lload_n hx hb dX13_look__110 rfl (lv_at hl 1 rfl) ?_
      refine lv_iload hx hb dX13_look__111 (lv_at hl 6 rfl) ?_
      refine lv_lshr hx hb dX13_look__113 rfl ?_
      refine lv_lconst (v := 1) hx hb dX13_look__114 (by decide) ?_
      refine lv_land hx hb dX13_look__115 ?_
      refine lv_lconst (v := 0) hx hb dX13_look__116 (by decide) ?_
      refine W.lcmp hx hb dX13_look__117 ?_
      refine lv_if_ne (tgt := 124) hx hb dX13_look__118 (by decide) (fun hc => ?_) (fun hc => ?_)
      · have hf := ite_f hf hc
        refine lv_aload_n hx hb dX13_look__124 rfl (lv_at hl 0 rfl) ?_
        refine lv_bipush (v := 7) hx hb dX13_look__125 (by decide) ?_
        refine lv_iload hx hb dX13_look__127 (lv_at hl 4 rfl) ?_
        refine lv_iconst (v := 0) hx hb dX13_look__129 (by decide) ?_
        refine lv_iload hx hb dX13_look__130 (lv_at hl 6 rfl) ?_
        obtain ⟨q3, hq3, hf⟩ := bd_s hf
        refine k_sVi (ws2 := W13 cs h0 a0 i0 r0 l0) (As := [.int 7, .int x5, .int 0, .int x7]) (rest := []) hx hb hml hown hts hK hA hZ hl.1 hP hD hS (c_X13_outBut (h0 := h0) (a0 := a0) hq3) (gVt mlX13_314 imX13_outBut seX13_outBut inX13 coX13_outBut) rfl qnX13_outBut rfl rfl ⟨Nat.le_of_ble_eq_true rfl, Nat.le_of_ble_eq_true rfl⟩ 0 13 rfl rfl rfl rfl rfl (Nat.le_of_ble_eq_true rfl) ⟨Nat.zero_le _, Nat.zero_le _⟩ dX13_look__132 (fun H locs hP hD hS => ?_)
        refine lv_istore (lv' := [(8, .int q3), (0, .ref h0), (1, .long x1), (3, .int x3), (4, .int x4), (5, .int x5), (6, .int x6), (7, .int x7)]) hx hb dX13_look__135 hl (by decide) rfl (fun ls hl => ?_)
        refine lv_aload_n hx hb dX13_look__137 rfl (lv_at hl 1 rfl) ?_
        refine va_get (D := D) (ci := 13) (v := .ref (a0 86)) (C := RX13) (T := TX13) (N := 87) hx hb hts hiX13 hown hK hP 0 rfl rfl 86 (by decide) (hts _ flX13_276) (fun _ h9 => h9) rfl dX13_look__138 ?_
        refine lv_iload hx hb dX13_look__141 (lv_at hl 0 rfl) ?_
        refine lv_dup2_11 hx hb dX13_look__143 rfl rfl ?_
        refine va_iald (f := r0 86) hx hb hK hP 51 0 rfl rfl (ck_in hf) dX13_look__144 ?_
        have hf := ck_2 hf
        refine lv_iconst (v := 1) hx hb dX13_look__145 (by decide) ?_
        refine lv_iadd hx hb dX13_look__146 ?_
        refine va_iast (f := r0 86) hx hb hK hP hD hS 51 0 rfl rfl (ck_in hf) dX13_look__147 (fun H locs hP hD hS => ?_)
        have hf := ck_2 hf
        obtain ⟨hP, hD⟩ := st13_86 hP hD
        exact w_X13_look__148 C _ (hK52) _ (ih) _ _ _ _ _ _ _ _ _ _ _ hf hP hD hS (lv_sub hl [1, 2, 3, 4, 5, 6, 7, 0] rfl)
      · have hf := ite_t hf hc
        refine lv_goto (tgt := 162) hx hb dX13_look__121 (by decide) ?_
        exact w_X13_look__162 C _ (hK52) _ (ih) _ _ _ _ _ _ _ _ _ _ hf hP hD hS (lv_sub hl [0, 1, 2, 3, 4, 5, 6] rfl)
def f_X13_look__69 (i0 : Nat → Int32) (l0 : Nat → Nat → Int64) (K52 : (Nat → Nat → Int32) → Int64 → Int32 → Int32 → Int32 → Option (Int32 × (Nat → Nat → Int32))) : Nat → (Nat → Nat → Int32) → Int64 → Int32 → Int32 → Int32 → Int32 → Option (Int32 × (Nat → Nat → Int32))
  | 0, _, _, _, _, _, _ => none
  | n + 1, r0, x1, x3, x4, x5, x6 => ck (inb 7 8) (if ((1 : Int32) <<< ((r0 10 (7 : Int32).toNatClampNeg) &&& 31)) ≤ x6 then (f_X13_look__103 i0 l0 K52 2000000 r0 x1 x3 x4 x5 0 0) else (ck (inb x6 256) (f_X13_look__69 i0 l0 K52 n (va_up r0 86 (upd (r0 86) x6.toNatClampNeg 0)) x1 x3 x4 x5 (x6 + 1))))
set_option maxRecDepth 100000 in
set_option maxHeartbeats 4000000 in
theorem w_X13_look__69 {p : Program} {l : Launch} {e : Env} {s : State} {m : MethodId} {args : Array Value} {below : List Frame} {meth : Method} {c : Code} {A : Nat → Prop} {D : va_G} {cs zs : Nat → Nat} {h0 : Nat} {a0 : Nat → Nat} {i0 : Nat → Int32} {l0 : Nat → Nat → Int64} {q : Int32 × (Nat → Nat → Int32)} (C : Cx p s m args meth c A D cs zs cX13_look_ 9 (some .int) RX13) (K52 : (Nat → Nat → Int32) → Int64 → Int32 → Int32 → Int32 → Option (Int32 × (Nat → Nat → Int32))) (hK52 : ∀ (r0 : Nat → Nat → Int32) (x1 : Int64) (x3 : Int32) (x4 : Int32) (x5 : Int32) (H : Heap) (locs : List Loc) (ls : Array Slot), K52 r0 x1 x3 x4 x5 = some q → va_P D vwCl (W13 cs h0 a0 i0 r0 l0) H → va_D A (W13 cs h0 a0 i0 r0 l0) → va_S A s.heap H locs → lv_has ls 9 [(0, .ref h0), (1, .long x1), (3, .int x3), (4, .int x4), (5, .int x5)] → W p l e rmX13_look_ s m args below meth c H locs 0 0 (MQ below (Qi D cs A q.1 (W13 cs h0 a0 i0 q.2 l0)) args s 0 0 A) (F0 m 52 ls [])) : ∀ (n : Nat), ∀ (r0 : Nat → Nat → Int32) (x1 : Int64) (x3 : Int32) (x4 : Int32) (x5 : Int32) (x6 : Int32) (H : Heap) (locs : List Loc) (ls : Array Slot), f_X13_look__69 i0 l0 K52 n r0 x1 x3 x4 x5 x6 = some q → va_P D vwCl (W13 cs h0 a0 i0 r0 l0) H → va_D A (W13 cs h0 a0 i0 r0 l0) → va_S A s.heap H locs → lv_has ls 9 [(0, .ref h0), (1, .long x1), (3, .int x3), (4, .int x4), (5, .int x5), (6, .int x6)] → W p l e rmX13_look_ s m args below meth c H locs 0 0 (MQ below (Qi D cs A q.1 (W13 cs h0 a0 i0 q.2 l0)) args s 0 0 A) (F0 m 69 ls []) := by
  obtain ⟨hx, hb, hr, hml, hown, hts, hK, hA, hlocks, hZ⟩ := id C
  intro n
  induction n with
  | zero =>
    intro r0 x1 x3 x4 x5 x6 H locs ls hf
    rw [f_X13_look__69] at hf
    cases hf
  | succ n ih =>
    intro r0 x1 x3 x4 x5 x6 H locs ls hf hP hD hS hl
    rw [f_X13_look__69] at hf
    refine lv_iload hx hb dX13_look__69 (lv_at hl 5 rfl) ?_
    refine lv_iconst (v := 1) hx hb dX13_look__71 (by decide) ?_
    refine lv_aload_n hx hb dX13_look__72 rfl (lv_at hl 0 rfl) ?_
    refine va_get (D := D) (ci := 13) (v := .ref (a0 10)) (C := RX13) (T := TX13) (N := 87) hx hb hts hiX13 hown hK hP 0 rfl rfl 10 (by decide) (hts _ flX13_99) (fun _ h9 => h9) rfl dX13_look__73 ?_
    refine lv_bipush (v := 7) hx hb dX13_look__76 (by decide) ?_
    refine va_iald (f := r0 10) hx hb hK hP 2 0 rfl rfl (ck_in hf) dX13_look__78 ?_
    have hf := ck_2 hf
    refine lv_ishl hx hb dX13_look__79 ?_
    refine lv_icmp_ge (tgt := 97) hx hb dX13_look__80 (by decide) (fun hc => ?_) (fun hc => ?_)
    · have hf := ite_t hf hc
      refine lv_iconst (v := 0) hx hb dX13_look__97 (by decide) ?_
      refine lv_istore (lv' := [(6, .int 0), (0, .ref h0), (1, .long x1), (3, .int x3), (4, .int x4), (5, .int x5)]) hx hb dX13_look__98 hl (by decide) rfl (fun ls hl => ?_)
      refine lv_iconst (v := 0) hx hb dX13_look__100 (by decide) ?_
      refine lv_istore (lv' := [(7, .int 0), (6, .int 0), (0, .ref h0), (1, .long x1), (3, .int x3), (4, .int x4), (5, .int x5)]) hx hb dX13_look__101 hl (by decide) rfl (fun ls hl => ?_)
      exact w_X13_look__103 C _ (hK52) 2000000 _ _ _ _ _ _ _ _ _ _ hf hP hD hS (lv_sub hl [2, 3, 4, 5, 6, 1, 0] rfl)
    · have hf := ite_f hf hc
      refine lv_aload_n hx hb dX13_look__83 rfl (lv_at hl 0 rfl) ?_
      refine va_get (D := D) (ci := 13) (v := .ref (a0 86)) (C := RX13) (T := TX13) (N := 87) hx hb hts hiX13 hown hK hP 0 rfl rfl 86 (by decide) (hts _ flX13_276) (fun _ h9 => h9) rfl dX13_look__84 ?_
      refine lv_iload hx hb dX13_look__87 (lv_at hl 5 rfl) ?_
      refine lv_iconst (v := 0) hx hb dX13_look__89 (by decide) ?_
      refine va_iast (f := r0 86) hx hb hK hP hD hS 51 0 rfl rfl (ck_in hf) dX13_look__90 (fun H locs hP hD hS => ?_)
      have hf := ck_2 hf
      obtain ⟨hP, hD⟩ := st13_86 hP hD
      refine lv_iinc (v := x6 + 1) (lv' := [(6, .int (x6 + 1)), (0, .ref h0), (1, .long x1), (3, .int x3), (4, .int x4), (5, .int x5)]) hx hb dX13_look__91 hl (k := 5) rfl rfl (by decide) rfl (fun ls hl => ?_)
      refine lv_goto (tgt := 69) hx hb dX13_look__94 (by decide) ?_
      exact ih _ _ _ _ _ _ _ _ _ hf hP hD hS (lv_sub hl [1, 2, 3, 4, 5, 0] rfl)
def f_X13_look__52 (i0 : Nat → Int32) (l0 : Nat → Nat → Int64)  : Nat → (Nat → Nat → Int32) → Int64 → Int32 → Int32 → Int32 → Option (Int32 × (Nat → Nat → Int32))
  | 0, _, _, _, _, _ => none
  | n + 1, r0, x1, x3, x4, x5 => ck (inb 7 8) (if ((1 : Int32) <<< ((r0 10 (7 : Int32).toNatClampNeg) &&& 31)) ≤ x5 then (some (x4, r0)) else (f_X13_look__69 i0 l0 (f_X13_look__52 i0 l0 n) 2000000 r0 x1 x3 x4 x5 0))
set_option maxRecDepth 100000 in
set_option maxHeartbeats 4000000 in
theorem w_X13_look__52 {p : Program} {l : Launch} {e : Env} {s : State} {m : MethodId} {args : Array Value} {below : List Frame} {meth : Method} {c : Code} {A : Nat → Prop} {D : va_G} {cs zs : Nat → Nat} {h0 : Nat} {a0 : Nat → Nat} {i0 : Nat → Int32} {l0 : Nat → Nat → Int64} {q : Int32 × (Nat → Nat → Int32)} (C : Cx p s m args meth c A D cs zs cX13_look_ 9 (some .int) RX13)  : ∀ (n : Nat), ∀ (r0 : Nat → Nat → Int32) (x1 : Int64) (x3 : Int32) (x4 : Int32) (x5 : Int32) (H : Heap) (locs : List Loc) (ls : Array Slot), f_X13_look__52 i0 l0 n r0 x1 x3 x4 x5 = some q → va_P D vwCl (W13 cs h0 a0 i0 r0 l0) H → va_D A (W13 cs h0 a0 i0 r0 l0) → va_S A s.heap H locs → lv_has ls 9 [(0, .ref h0), (1, .long x1), (3, .int x3), (4, .int x4), (5, .int x5)] → W p l e rmX13_look_ s m args below meth c H locs 0 0 (MQ below (Qi D cs A q.1 (W13 cs h0 a0 i0 q.2 l0)) args s 0 0 A) (F0 m 52 ls []) := by
  obtain ⟨hx, hb, hr, hml, hown, hts, hK, hA, hlocks, hZ⟩ := id C
  intro n
  induction n with
  | zero =>
    intro r0 x1 x3 x4 x5 H locs ls hf
    rw [f_X13_look__52] at hf
    cases hf
  | succ n ih =>
    intro r0 x1 x3 x4 x5 H locs ls hf hP hD hS hl
    rw [f_X13_look__52] at hf
    refine lv_iload hx hb dX13_look__52 (lv_at hl 4 rfl) ?_
    refine lv_iconst (v := 1) hx hb dX13_look__54 (by decide) ?_
    refine lv_aload_n hx hb dX13_look__55 rfl (lv_at hl 0 rfl) ?_
    refine va_get (D := D) (ci := 13) (v := .ref (a0 10)) (C := RX13) (T := TX13) (N := 87) hx hb hts hiX13 hown hK hP 0 rfl rfl 10 (by decide) (hts _ flX13_99) (fun _ h9 => h9) rfl dX13_look__56 ?_
    refine lv_bipush (v := 7) hx hb dX13_look__59 (by decide) ?_
    refine va_iald (f := r0 10) hx hb hK hP 2 0 rfl rfl (ck_in hf) dX13_look__61 ?_
    have hf := ck_2 hf
    refine lv_ishl hx hb dX13_look__62 ?_
    refine lv_icmp_ge (tgt := 190) hx hb dX13_look__63 (by decide) (fun hc => ?_) (fun hc => ?_)
    · have hf := ite_t hf hc
      refine lv_iload hx hb dX13_look__190 (lv_at hl 3 rfl) ?_
      obtain rfl := Option.some.inj hf
      exact k_iret hx hb hr hlocks hK hP hD hS dX13_look__192
    · have hf := ite_f hf hc
      refine lv_iconst (v := 0) hx hb dX13_look__66 (by decide) ?_
      refine lv_istore (lv' := [(6, .int 0), (0, .ref h0), (1, .long x1), (3, .int x3), (4, .int x4), (5, .int x5)]) hx hb dX13_look__67 hl (by decide) rfl (fun ls hl => ?_)
      exact w_X13_look__69 C _ (ih) 2000000 _ _ _ _ _ _ _ _ _ hf hP hD hS (lv_sub hl [1, 2, 3, 4, 5, 0] rfl)
def f_X13_look__23 (i0 : Nat → Int32) (l0 : Nat → Nat → Int64)  : Nat → (Nat → Nat → Int32) → Int64 → Int32 → Int32 → Option (Int32 × (Nat → Nat → Int32))
  | 0, _, _, _, _ => none
  | n + 1, r0, x1, x3, x4 => if 40 < x4 then (f_X13_look__52 i0 l0 2000000 r0 x1 x3 (-1) 0) else (f_X13_look__23 i0 l0 n r0 x1 (x3 + (((x1 >>> (x4.toInt64 &&& 63)) &&& 1).toInt32)) (x4 + 1))
set_option maxRecDepth 100000 in
set_option maxHeartbeats 4000000 in
theorem w_X13_look__23 {p : Program} {l : Launch} {e : Env} {s : State} {m : MethodId} {args : Array Value} {below : List Frame} {meth : Method} {c : Code} {A : Nat → Prop} {D : va_G} {cs zs : Nat → Nat} {h0 : Nat} {a0 : Nat → Nat} {i0 : Nat → Int32} {l0 : Nat → Nat → Int64} {q : Int32 × (Nat → Nat → Int32)} (C : Cx p s m args meth c A D cs zs cX13_look_ 9 (some .int) RX13)  : ∀ (n : Nat), ∀ (r0 : Nat → Nat → Int32) (x1 : Int64) (x3 : Int32) (x4 : Int32) (H : Heap) (locs : List Loc) (ls : Array Slot), f_X13_look__23 i0 l0 n r0 x1 x3 x4 = some q → va_P D vwCl (W13 cs h0 a0 i0 r0 l0) H → va_D A (W13 cs h0 a0 i0 r0 l0) → va_S A s.heap H locs → lv_has ls 9 [(0, .ref h0), (1, .long x1), (3, .int x3), (4, .int x4)] → W p l e rmX13_look_ s m args below meth c H locs 0 0 (MQ below (Qi D cs A q.1 (W13 cs h0 a0 i0 q.2 l0)) args s 0 0 A) (F0 m 23 ls []) := by
  obtain ⟨hx, hb, hr, hml, hown, hts, hK, hA, hlocks, hZ⟩ := id C
  intro n
  induction n with
  | zero =>
    intro r0 x1 x3 x4 H locs ls hf
    rw [f_X13_look__23] at hf
    cases hf
  | succ n ih =>
    intro r0 x1 x3 x4 H locs ls hf hP hD hS hl
    rw [f_X13_look__23] at hf
    refine lv_iload hx hb dX13_look__23 (lv_at hl 3 rfl) ?_
    refine lv_bipush (v := 40) hx hb dX13_look__25 (by decide) ?_
    refine lv_icmp_gt (tgt := 46) hx hb dX13_look__27 (by decide) (fun hc => ?_) (fun hc => ?_)
    · have hf := ite_t hf hc
      refine lv_iconst (v := (-1)) hx hb dX13_look__46 (by decide) ?_
      refine lv_istore (lv' := [(4, .int (-1)), (0, .ref h0), (1, .long x1), (3, .int x3)]) hx hb dX13_look__47 hl (by decide) rfl (fun ls hl => ?_)
      refine lv_iconst (v := 0) hx hb dX13_look__49 (by decide) ?_
      refine lv_istore (lv' := [(5, .int 0), (4, .int (-1)), (0, .ref h0), (1, .long x1), (3, .int x3)]) hx hb dX13_look__50 hl (by decide) rfl (fun ls hl => ?_)
      exact w_X13_look__52 C  2000000 _ _ _ _ _ _ _ _ hf hP hD hS (lv_sub hl [2, 3, 4, 1, 0] rfl)
    · have hf := ite_f hf hc
      refine lv_iload_n hx hb dX13_look__30 rfl (lv_at hl 2 rfl) ?_
      refine lv_lload_n hx hb dX13_look__31 rfl (lv_at hl 1 rfl) ?_
      refine lv_iload hx hb dX13_look__32 (lv_at hl 3 rfl) ?_
      refine lv_lshr hx hb dX13_look__34 rfl ?_
      refine lv_lconst (v := 1) hx hb dX13_look__35 (by decide) ?_
      refine lv_land hx hb dX13_look__36 ?_
      refine lv_l2i hx hb dX13_look__37 rfl ?_
      refine lv_iadd hx hb dX13_look__38 ?_
      refine lv_istore_n (lv' := [(3, .int (x3 + (((x1 >>> (x4.toInt64 &&& 63)) &&& 1).toInt32))), (0, .ref h0), (1, .long x1), (4, .int x4)]) hx hb dX13_look__39 rfl hl (by decide) rfl (fun ls hl => ?_)
      refine lv_iinc (v := x4 + 1) (lv' := [(4, .int (x4 + 1)), (3, .int (x3 + (((x1 >>> (x4.toInt64 &&& 63)) &&& 1).toInt32))), (0, .ref h0), (1, .long x1)]) hx hb dX13_look__40 hl (k := 3) rfl rfl (by decide) rfl (fun ls hl => ?_)
      refine lv_goto (tgt := 23) hx hb dX13_look__43 (by decide) ?_
      exact ih _ _ _ _ _ _ _ hf hP hD hS (lv_sub hl [2, 3, 1, 0] rfl)
def f_X13_look_  (i0 : Nat → Int32) (r0 : Nat → Nat → Int32) (l0 : Nat → Nat → Int64)  : Option (Int32 × (Nat → Nat → Int32)) := if (i0 76) = 0 then (some ((-4), r0)) else (bd (f_X13_fitOf i0 r0 l0 999) (fun q4 => f_X13_look__23 i0 l0 2000000 r0 q4 0 0))
set_option maxRecDepth 100000 in
set_option maxHeartbeats 4000000 in
theorem c_X13_look_ {l : Launch} {D : va_G} {cs zs : Nat → Nat} {h0 : Nat} {a0 : Nat → Nat} {i0 : Nat → Int32} {r0 : Nat → Nat → Int32} {l0 : Nat → Nat → Int64}  {q : Int32 × (Nat → Nat → Int32)} (hf : f_X13_look_ i0 r0 l0 = some q) : Mi l yX13_look_ wlX13_look_ rmX13_look_ D cs zs [.ref h0] (W13 cs h0 a0 i0 r0 l0) q.1 (W13 cs h0 a0 i0 q.2 l0) := by
  refine Mi.of RX13 (by decide) rfl (Nat.le_of_ble_eq_true rfl) (fun p e s m below meth c A C hP hD hS ls hl => ?_)
  generalize ([.ref h0] : List Value).toArray = args at C ⊢
  obtain ⟨hx, hb, hr, hml, hown, hts, hK, hA, hlocks, hZ⟩ := id C
  have hl : lv_has ls 9 [(0, .ref h0)] := hl
  rw [f_X13_look_] at hf
  refine lv_aload_n hx hb dX13_look__0 rfl (lv_at hl 0 rfl) ?_
  refine va_get (D := D) (ci := 13) (v := .int (i0 76)) (C := RX13) (T := TX13) (N := 87) hx hb hts hiX13 hown hK hP 0 rfl rfl 76 (by decide) (hts _ flX13_620) (fun _ h9 => h9) rfl dX13_look__1 ?_
  refine lv_if_ne (tgt := 10) hx hb dX13_look__4 (by decide) (fun hc => ?_) (fun hc => ?_)
  · have hf := ite_f hf hc
    refine lv_aload_n hx hb dX13_look__10 rfl (lv_at hl 0 rfl) ?_
    refine lv_sipush (v := 999) hx hb dX13_look__11 (by decide) ?_
    obtain ⟨q4, hq4, hf⟩ := bd_s hf
    refine k_sVl (ws2 := W13 cs h0 a0 i0 r0 l0) (As := [.int 999]) (rest := []) hx hb hml hown hts hK hA hZ hl.1 hP hD hS (c_X13_fitOf (h0 := h0) (a0 := a0) hq4) (gVt mlX13_645 imX13_fitOf seX13_fitOf inX13 coX13_fitOf) rfl qnX13_fitOf rfl rfl ⟨Nat.le_of_ble_eq_true rfl, Nat.le_of_ble_eq_true rfl⟩ 0 13 rfl rfl rfl rfl rfl (Nat.le_of_ble_eq_true rfl) ⟨Nat.zero_le _, Nat.zero_le _⟩ dX13_look__14 (fun H locs hP hD hS => ?_)
    refine lv_lstore_n (lv' := [(1, .long q4), (0, .ref h0)]) hx hb dX13_look__17 rfl hl (by decide) rfl (fun ls hl => ?_)
    refine lv_iconst (v := 0) hx hb dX13_look__18 (by decide) ?_
    refine lv_istore_n (lv' := [(3, .int 0), (1, .long q4), (0, .ref h0)]) hx hb dX13_look__19 rfl hl (by decide) rfl (fun ls hl => ?_)
    refine lv_iconst (v := 0) hx hb dX13_look__20 (by decide) ?_
    refine lv_istore (lv' := [(4, .int 0), (3, .int 0), (1, .long q4), (0, .ref h0)]) hx hb dX13_look__21 hl (by decide) rfl (fun ls hl => ?_)
    exact w_X13_look__23 C  2000000 _ _ _ _ _ _ _ hf hP hD hS (lv_sub hl [3, 2, 1, 0] rfl)
  · have hf := ite_t hf hc
    refine lv_bipush (v := (-4)) hx hb dX13_look__7 (by decide) ?_
    obtain rfl := Option.some.inj hf
    exact k_iret hx hb hr hlocks hK hP hD hS dX13_look__9
/-! MarbleFloorModel.count(I)I -/
abbrev wlX13_count : List Cond := Cond.code yX13_count cX13_count 2 (some .int) :: tbG
abbrev rmX13_count : Room := { frames := 2, cells := 0, slots := 0, locals := 44 }
theorem qnX13_count : yX13_count.cls = RX13 ∧ yX13_count.cls ≠ "java/lang/invoke/MethodHandle" ∧ yX13_count.cls ≠ "java/lang/invoke/VarHandle" ∧ (parseMethodDescriptor yX13_count.desc).map (fun d => d.parameters.length) = some 1 := by decide +kernel
def f_X13_count  (i0 : Nat → Int32) (r0 : Nat → Nat → Int32) (l0 : Nat → Nat → Int64) (x1 : Int32) : Option (Int32) := if x1 = 0 then (some (i0 46)) else (if x1 = 1 then (some (i0 66)) else (if x1 = 2 then (some (i0 67)) else (if x1 = 3 then (bd (f_X13_ballsNow i0 r0 l0) (fun q2 => some (q2))) else (if x1 = 4 then (some (i0 64)) else (if x1 = 5 then (some (i0 65)) else (if x1 = 6 then (some (i0 77)) else (if x1 = 7 then (some (i0 78)) else (if x1 = 8 then (some (i0 2)) else (some ((-1)))))))))))
set_option maxRecDepth 100000 in
set_option maxHeartbeats 4000000 in
theorem c_X13_count {l : Launch} {D : va_G} {cs zs : Nat → Nat} {h0 : Nat} {a0 : Nat → Nat} {i0 : Nat → Int32} {r0 : Nat → Nat → Int32} {l0 : Nat → Nat → Int64} {x1 : Int32} {q : Int32} (hf : f_X13_count i0 r0 l0 x1 = some q) : Mi l yX13_count wlX13_count rmX13_count D cs zs [.ref h0, .int x1] (W13 cs h0 a0 i0 r0 l0) q (W13 cs h0 a0 i0 r0 l0) := by
  refine Mi.of RX13 (by decide) rfl (Nat.le_of_ble_eq_true rfl) (fun p e s m below meth c A C hP hD hS ls hl => ?_)
  generalize ([.ref h0, .int x1] : List Value).toArray = args at C ⊢
  obtain ⟨hx, hb, hr, hml, hown, hts, hK, hA, hlocks, hZ⟩ := id C
  have hl : lv_has ls 2 [(0, .ref h0), (1, .int x1)] := hl
  rw [f_X13_count] at hf
  refine lv_iload_n hx hb dX13_count_0 rfl (lv_at hl 1 rfl) ?_
  by_cases hc0 : x1 = 0
  · have hf := ite_t hf hc0
    refine lv_tableIn (off := 51) (tgt := 52) hx hb dX13_count_1 (by rw [hc0]; decide) (by rw [hc0]; decide) (by rw [hc0]; rfl) (by decide) ?_
    refine lv_aload_n hx hb dX13_count_52 rfl (lv_at hl 0 rfl) ?_
    refine va_get (D := D) (ci := 13) (v := .int (i0 46)) (C := RX13) (T := TX13) (N := 87) hx hb hts hiX13 hown hK hP 0 rfl rfl 46 (by decide) (hts _ flX13_497) (fun _ h9 => h9) rfl dX13_count_53 ?_
    obtain rfl := Option.some.inj hf
    exact k_iret hx hb hr hlocks hK hP hD hS dX13_count_56
  · have hf := ite_f hf hc0
    by_cases hc1 : x1 = 1
    · have hf := ite_t hf hc1
      refine lv_tableIn (off := 56) (tgt := 57) hx hb dX13_count_1 (by rw [hc1]; decide) (by rw [hc1]; decide) (by rw [hc1]; rfl) (by decide) ?_
      refine lv_aload_n hx hb dX13_count_57 rfl (lv_at hl 0 rfl) ?_
      refine va_get (D := D) (ci := 13) (v := .int (i0 66)) (C := RX13) (T := TX13) (N := 87) hx hb hts hiX13 hown hK hP 0 rfl rfl 66 (by decide) (hts _ flX13_575) (fun _ h9 => h9) rfl dX13_count_58 ?_
      obtain rfl := Option.some.inj hf
      exact k_iret hx hb hr hlocks hK hP hD hS dX13_count_61
    · have hf := ite_f hf hc1
      by_cases hc2 : x1 = 2
      · have hf := ite_t hf hc2
        refine lv_tableIn (off := 61) (tgt := 62) hx hb dX13_count_1 (by rw [hc2]; decide) (by rw [hc2]; decide) (by rw [hc2]; rfl) (by decide) ?_
        refine lv_aload_n hx hb dX13_count_62 rfl (lv_at hl 0 rfl) ?_
        refine va_get (D := D) (ci := 13) (v := .int (i0 67)) (C := RX13) (T := TX13) (N := 87) hx hb hts hiX13 hown hK hP 0 rfl rfl 67 (by decide) (hts _ flX13_578) (fun _ h9 => h9) rfl dX13_count_63 ?_
        obtain rfl := Option.some.inj hf
        exact k_iret hx hb hr hlocks hK hP hD hS dX13_count_66
      · have hf := ite_f hf hc2
        by_cases hc3 : x1 = 3
        · have hf := ite_t hf hc3
          refine lv_tableIn (off := 66) (tgt := 67) hx hb dX13_count_1 (by rw [hc3]; decide) (by rw [hc3]; decide) (by rw [hc3]; rfl) (by decide) ?_
          refine lv_aload_n hx hb dX13_count_67 rfl (lv_at hl 0 rfl) ?_
          obtain ⟨q2, hq2, hf⟩ := bd_s hf
          refine k_sVi (ws2 := W13 cs h0 a0 i0 r0 l0) (As := []) (rest := []) hx hb hml hown hts hK hA hZ hl.1 hP hD hS (c_X13_ballsNow (h0 := h0) (a0 := a0) hq2) (gVt mlX13_603 imX13_ballsNow seX13_ballsNow inX13 coX13_ballsNow) rfl qnX13_ballsNow rfl rfl ⟨Nat.le_of_ble_eq_true rfl, Nat.le_of_ble_eq_true rfl⟩ 0 13 rfl rfl rfl rfl rfl (Nat.le_of_ble_eq_true rfl) ⟨Nat.zero_le _, Nat.zero_le _⟩ dX13_count_68 (fun H locs hP hD hS => ?_)
          obtain rfl := Option.some.inj hf
          exact k_iret hx hb hr hlocks hK hP hD hS dX13_count_71
        · have hf := ite_f hf hc3
          by_cases hc4 : x1 = 4
          · have hf := ite_t hf hc4
            refine lv_tableIn (off := 71) (tgt := 72) hx hb dX13_count_1 (by rw [hc4]; decide) (by rw [hc4]; decide) (by rw [hc4]; rfl) (by decide) ?_
            refine lv_aload_n hx hb dX13_count_72 rfl (lv_at hl 0 rfl) ?_
            refine va_get (D := D) (ci := 13) (v := .int (i0 64)) (C := RX13) (T := TX13) (N := 87) hx hb hts hiX13 hown hK hP 0 rfl rfl 64 (by decide) (hts _ flX13_279) (fun _ h9 => h9) rfl dX13_count_73 ?_
            obtain rfl := Option.some.inj hf
            exact k_iret hx hb hr hlocks hK hP hD hS dX13_count_76
          · have hf := ite_f hf hc4
            by_cases hc5 : x1 = 5
            · have hf := ite_t hf hc5
              refine lv_tableIn (off := 76) (tgt := 77) hx hb dX13_count_1 (by rw [hc5]; decide) (by rw [hc5]; decide) (by rw [hc5]; rfl) (by decide) ?_
              refine lv_aload_n hx hb dX13_count_77 rfl (lv_at hl 0 rfl) ?_
              refine va_get (D := D) (ci := 13) (v := .int (i0 65)) (C := RX13) (T := TX13) (N := 87) hx hb hts hiX13 hown hK hP 0 rfl rfl 65 (by decide) (hts _ flX13_282) (fun _ h9 => h9) rfl dX13_count_78 ?_
              obtain rfl := Option.some.inj hf
              exact k_iret hx hb hr hlocks hK hP hD hS dX13_count_81
            · have hf := ite_f hf hc5
              by_cases hc6 : x1 = 6
              · have hf := ite_t hf hc6
                refine lv_tableIn (off := 81) (tgt := 82) hx hb dX13_count_1 (by rw [hc6]; decide) (by rw [hc6]; decide) (by rw [hc6]; rfl) (by decide) ?_
                refine lv_aload_n hx hb dX13_count_82 rfl (lv_at hl 0 rfl) ?_
                refine va_get (D := D) (ci := 13) (v := .int (i0 77)) (C := RX13) (T := TX13) (N := 87) hx hb hts hiX13 hown hK hP 0 rfl rfl 77 (by decide) (hts _ flX13_624) (fun _ h9 => h9) rfl dX13_count_83 ?_
                obtain rfl := Option.some.inj hf
                exact k_iret hx hb hr hlocks hK hP hD hS dX13_count_86
              · have hf := ite_f hf hc6
                by_cases hc7 : x1 = 7
                · have hf := ite_t hf hc7
                  refine lv_tableIn (off := 86) (tgt := 87) hx hb dX13_count_1 (by rw [hc7]; decide) (by rw [hc7]; decide) (by rw [hc7]; rfl) (by decide) ?_
                  refine lv_aload_n hx hb dX13_count_87 rfl (lv_at hl 0 rfl) ?_
                  refine va_get (D := D) (ci := 13) (v := .int (i0 78)) (C := RX13) (T := TX13) (N := 87) hx hb hts hiX13 hown hK hP 0 rfl rfl 78 (by decide) (hts _ flX13_627) (fun _ h9 => h9) rfl dX13_count_88 ?_
                  obtain rfl := Option.some.inj hf
                  exact k_iret hx hb hr hlocks hK hP hD hS dX13_count_91
                · have hf := ite_f hf hc7
                  by_cases hc8 : x1 = 8
                  · have hf := ite_t hf hc8
                    refine lv_tableIn (off := 91) (tgt := 92) hx hb dX13_count_1 (by rw [hc8]; decide) (by rw [hc8]; decide) (by rw [hc8]; rfl) (by decide) ?_
                    refine lv_aload_n hx hb dX13_count_92 rfl (lv_at hl 0 rfl) ?_
                    refine va_get (D := D) (ci := 13) (v := .int (i0 2)) (C := RX13) (T := TX13) (N := 87) hx hb hts hiX13 hown hK hP 0 rfl rfl 2 (by decide) (hts _ flX13_83) (fun _ h9 => h9) rfl dX13_count_93 ?_
                    obtain rfl := Option.some.inj hf
                    exact k_iret hx hb hr hlocks hK hP hD hS dX13_count_96
                  · have hf := ite_f hf hc8
                    have z0 := sw_ne (k := 0) (by decide) hc0
                    have z1 := sw_ne (k := 1) (by decide) hc1
                    have z2 := sw_ne (k := 2) (by decide) hc2
                    have z3 := sw_ne (k := 3) (by decide) hc3
                    have z4 := sw_ne (k := 4) (by decide) hc4
                    have z5 := sw_ne (k := 5) (by decide) hc5
                    have z6 := sw_ne (k := 6) (by decide) hc6
                    have z7 := sw_ne (k := 7) (by decide) hc7
                    have z8 := sw_ne (k := 8) (by decide) hc8
                    refine lv_tableOut (tgt := 97) hx hb dX13_count_1 (by omega) (by decide) ?_
                    refine lv_iconst (v := (-1)) hx hb dX13_count_97 (by decide) ?_
                    obtain rfl := Option.some.inj hf
                    exact k_iret hx hb hr hlocks hK hP hD hS dX13_count_98
