/-! MarbleFloorModel.findNeeds(I)V -/
abbrev wlX13_findNeeds : List Cond := Cond.code yX13_findNeeds cX13_findNeeds 7 none :: tbG
abbrev rmX13_findNeeds : Room := { frames := 3, cells := 0, slots := 0, locals := 67 }
theorem qnX13_findNeeds : yX13_findNeeds.cls = RX13 ∧ yX13_findNeeds.cls ≠ "java/lang/invoke/MethodHandle" ∧ yX13_findNeeds.cls ≠ "java/lang/invoke/VarHandle" ∧ (parseMethodDescriptor yX13_findNeeds.desc).map (fun d => d.parameters.length) = some 1 := by decide +kernel
def f_X13_findNeeds_147 (l0 : Nat → Nat → Int64) (K58 : (Nat → Int32) → (Nat → Nat → Int32) → Int32 → Int32 → Option ((Nat → Int32) × (Nat → Nat → Int32))) (K84 : (Nat → Int32) → (Nat → Nat → Int32) → Int32 → Int32 → Int32 → Int32 → Option ((Nat → Int32) × (Nat → Nat → Int32))) (i0 : Nat → Int32) (r0 : Nat → Nat → Int32) (x2 : Int32) (x3 : Int32) (x4 : Int32) (x5 : Int32) : Option ((Nat → Int32) × (Nat → Nat → Int32)) := K84 i0 r0 x2 x3 x4 (x5 + 1)
set_option maxRecDepth 100000 in
set_option maxHeartbeats 4000000 in
theorem w_X13_findNeeds_147 {p : Program} {l : Launch} {e : Env} {s : State} {m : MethodId} {args : Array Value} {below : List Frame} {meth : Method} {c : Code} {A : Nat → Prop} {D : va_G} {cs zs : Nat → Nat} {h0 : Nat} {a0 : Nat → Nat} {l0 : Nat → Nat → Int64} {q : (Nat → Int32) × (Nat → Nat → Int32)} (C : Cx p s m args meth c A D cs zs cX13_findNeeds 7 none RX13) (K58 : (Nat → Int32) → (Nat → Nat → Int32) → Int32 → Int32 → Option ((Nat → Int32) × (Nat → Nat → Int32))) (hK58 : ∀ (i0 : Nat → Int32) (r0 : Nat → Nat → Int32) (x2 : Int32) (x3 : Int32) (H : Heap) (locs : List Loc) (ls : Array Slot), K58 i0 r0 x2 x3 = some q → va_P D vwCl (W13 cs h0 a0 i0 r0 l0) H → va_D A (W13 cs h0 a0 i0 r0 l0) → va_S A s.heap H locs → lv_has ls 7 [(0, .ref h0), (2, .int x2), (3, .int x3)] → W p l e rmX13_findNeeds s m args below meth c H locs 0 0 (MQ below (Qv D cs A (W13 cs h0 a0 q.1 q.2 l0)) args s 0 0 A) (F0 m 58 ls [])) (K84 : (Nat → Int32) → (Nat → Nat → Int32) → Int32 → Int32 → Int32 → Int32 → Option ((Nat → Int32) × (Nat → Nat → Int32))) (hK84 : ∀ (i0 : Nat → Int32) (r0 : Nat → Nat → Int32) (x2 : Int32) (x3 : Int32) (x4 : Int32) (x5 : Int32) (H : Heap) (locs : List Loc) (ls : Array Slot), K84 i0 r0 x2 x3 x4 x5 = some q → va_P D vwCl (W13 cs h0 a0 i0 r0 l0) H → va_D A (W13 cs h0 a0 i0 r0 l0) → va_S A s.heap H locs → lv_has ls 7 [(0, .ref h0), (2, .int x2), (3, .int x3), (4, .int x4), (5, .int x5)] → W p l e rmX13_findNeeds s m args below meth c H locs 0 0 (MQ below (Qv D cs A (W13 cs h0 a0 q.1 q.2 l0)) args s 0 0 A) (F0 m 84 ls [])) : ∀ (i0 : Nat → Int32) (r0 : Nat → Nat → Int32) (x2 : Int32) (x3 : Int32) (x4 : Int32) (x5 : Int32) (H : Heap) (locs : List Loc) (ls : Array Slot), f_X13_findNeeds_147 l0 K58 K84 i0 r0 x2 x3 x4 x5 = some q → va_P D vwCl (W13 cs h0 a0 i0 r0 l0) H → va_D A (W13 cs h0 a0 i0 r0 l0) → va_S A s.heap H locs → lv_has ls 7 [(0, .ref h0), (2, .int x2), (3, .int x3), (4, .int x4), (5, .int x5)] → W p l e rmX13_findNeeds s m args below meth c H locs 0 0 (MQ below (Qv D cs A (W13 cs h0 a0 q.1 q.2 l0)) args s 0 0 A) (F0 m 147 ls []) := by
  obtain ⟨hx, hb, hr, hml, hown, hts, hK, hA, hlocks, hZ⟩ := id C
  intro i0 r0 x2 x3 x4 x5 H locs ls hf hP hD hS hl
  rw [f_X13_findNeeds_147] at hf
  refine lv_iinc (v := x5 + 1) (lv' := [(5, .int (x5 + 1)), (0, .ref h0), (2, .int x2), (3, .int x3), (4, .int x4)]) hx hb dX13_findNeeds_147 hl (k := 4) rfl rfl (by decide) rfl (fun ls hl => ?_)
  refine lv_goto (tgt := 84) hx hb dX13_findNeeds_150 (by decide) ?_
  exact hK84 _ _ _ _ _ _ _ _ _ hf hP hD hS (lv_sub hl [1, 2, 3, 4, 0] rfl)
def f_X13_findNeeds_144 (l0 : Nat → Nat → Int64) (K58 : (Nat → Int32) → (Nat → Nat → Int32) → Int32 → Int32 → Option ((Nat → Int32) × (Nat → Nat → Int32))) (K84 : (Nat → Int32) → (Nat → Nat → Int32) → Int32 → Int32 → Int32 → Int32 → Option ((Nat → Int32) × (Nat → Nat → Int32))) (i0 : Nat → Int32) (r0 : Nat → Nat → Int32) (x2 : Int32) (x3 : Int32) (x4 : Int32) (x5 : Int32) : Option ((Nat → Int32) × (Nat → Nat → Int32)) := f_X13_findNeeds_147 l0 K58 K84 i0 r0 (x2 + 1) x3 x4 x5
set_option maxRecDepth 100000 in
set_option maxHeartbeats 4000000 in
theorem w_X13_findNeeds_144 {p : Program} {l : Launch} {e : Env} {s : State} {m : MethodId} {args : Array Value} {below : List Frame} {meth : Method} {c : Code} {A : Nat → Prop} {D : va_G} {cs zs : Nat → Nat} {h0 : Nat} {a0 : Nat → Nat} {l0 : Nat → Nat → Int64} {q : (Nat → Int32) × (Nat → Nat → Int32)} (C : Cx p s m args meth c A D cs zs cX13_findNeeds 7 none RX13) (K58 : (Nat → Int32) → (Nat → Nat → Int32) → Int32 → Int32 → Option ((Nat → Int32) × (Nat → Nat → Int32))) (hK58 : ∀ (i0 : Nat → Int32) (r0 : Nat → Nat → Int32) (x2 : Int32) (x3 : Int32) (H : Heap) (locs : List Loc) (ls : Array Slot), K58 i0 r0 x2 x3 = some q → va_P D vwCl (W13 cs h0 a0 i0 r0 l0) H → va_D A (W13 cs h0 a0 i0 r0 l0) → va_S A s.heap H locs → lv_has ls 7 [(0, .ref h0), (2, .int x2), (3, .int x3)] → W p l e rmX13_findNeeds s m args below meth c H locs 0 0 (MQ below (Qv D cs A (W13 cs h0 a0 q.1 q.2 l0)) args s 0 0 A) (F0 m 58 ls [])) (K84 : (Nat → Int32) → (Nat → Nat → Int32) → Int32 → Int32 → Int32 → Int32 → Option ((Nat → Int32) × (Nat → Nat → Int32))) (hK84 : ∀ (i0 : Nat → Int32) (r0 : Nat → Nat → Int32) (x2 : Int32) (x3 : Int32) (x4 : Int32) (x5 : Int32) (H : Heap) (locs : List Loc) (ls : Array Slot), K84 i0 r0 x2 x3 x4 x5 = some q → va_P D vwCl (W13 cs h0 a0 i0 r0 l0) H → va_D A (W13 cs h0 a0 i0 r0 l0) → va_S A s.heap H locs → lv_has ls 7 [(0, .ref h0), (2, .int x2), (3, .int x3), (4, .int x4), (5, .int x5)] → W p l e rmX13_findNeeds s m args below meth c H locs 0 0 (MQ below (Qv D cs A (W13 cs h0 a0 q.1 q.2 l0)) args s 0 0 A) (F0 m 84 ls [])) : ∀ (i0 : Nat → Int32) (r0 : Nat → Nat → Int32) (x2 : Int32) (x3 : Int32) (x4 : Int32) (x5 : Int32) (H : Heap) (locs : List Loc) (ls : Array Slot), f_X13_findNeeds_144 l0 K58 K84 i0 r0 x2 x3 x4 x5 = some q → va_P D vwCl (W13 cs h0 a0 i0 r0 l0) H → va_D A (W13 cs h0 a0 i0 r0 l0) → va_S A s.heap H locs → lv_has ls 7 [(0, .ref h0), (2, .int x2), (3, .int x3), (4, .int x4), (5, .int x5)] → W p l e rmX13_findNeeds s m args below meth c H locs 0 0 (MQ below (Qv D cs A (W13 cs h0 a0 q.1 q.2 l0)) args s 0 0 A) (F0 m 144 ls []) := by
  obtain ⟨hx, hb, hr, hml, hown, hts, hK, hA, hlocks, hZ⟩ := id C
  intro i0 r0 x2 x3 x4 x5 H locs ls hf hP hD hS hl
  rw [f_X13_findNeeds_144] at hf
  refine lv_iinc (v := x2 + 1) (lv' := [(2, .int (x2 + 1)), (0, .ref h0), (3, .int x3), (4, .int x4), (5, .int x5)]) hx hb dX13_findNeeds_144 hl (k := 1) rfl rfl (by decide) rfl (fun ls hl => ?_)
  exact w_X13_findNeeds_147 C _ (hK58) _ (hK84) _ _ _ _ _ _ _ _ _ hf hP hD hS (lv_sub hl [1, 0, 2, 3, 4] rfl)
def f_X13_findNeeds_84 (l0 : Nat → Nat → Int64) (K58 : (Nat → Int32) → (Nat → Nat → Int32) → Int32 → Int32 → Option ((Nat → Int32) × (Nat → Nat → Int32))) : Nat → (Nat → Int32) → (Nat → Nat → Int32) → Int32 → Int32 → Int32 → Int32 → Option ((Nat → Int32) × (Nat → Nat → Int32))
  | 0, _, _, _, _, _, _ => none
  | n + 1, i0, r0, x2, x3, x4, x5 => if (i0 24) ≤ x5 then (K58 i0 r0 x2 (x3 + 1)) else (bd (f_X13_without i0 r0 l0 x5) (fun q4 => ck (inb q4.1 40320) (if (q4.2 17 q4.1.toNatClampNeg) = (-1) then (ck (inb x4 40320) (ck (inb q4.1 40320) (ck (inb x2 40320) (f_X13_findNeeds_144 l0 K58 (f_X13_findNeeds_84 l0 K58 n) i0 (va_up (va_up q4.2 17 (upd (q4.2 17) q4.1.toNatClampNeg (vp_nar .byte (((q4.2 17 x4.toNatClampNeg) + 1).toInt8.toInt32)))) 18 (upd (q4.2 18) x2.toNatClampNeg q4.1)) x2 x3 x4 x5)))) else (f_X13_findNeeds_147 l0 K58 (f_X13_findNeeds_84 l0 K58 n) i0 q4.2 x2 x3 x4 x5))))
set_option maxRecDepth 100000 in
set_option maxHeartbeats 4000000 in
theorem w_X13_findNeeds_84 {p : Program} {l : Launch} {e : Env} {s : State} {m : MethodId} {args : Array Value} {below : List Frame} {meth : Method} {c : Code} {A : Nat → Prop} {D : va_G} {cs zs : Nat → Nat} {h0 : Nat} {a0 : Nat → Nat} {l0 : Nat → Nat → Int64} {q : (Nat → Int32) × (Nat → Nat → Int32)} (C : Cx p s m args meth c A D cs zs cX13_findNeeds 7 none RX13) (K58 : (Nat → Int32) → (Nat → Nat → Int32) → Int32 → Int32 → Option ((Nat → Int32) × (Nat → Nat → Int32))) (hK58 : ∀ (i0 : Nat → Int32) (r0 : Nat → Nat → Int32) (x2 : Int32) (x3 : Int32) (H : Heap) (locs : List Loc) (ls : Array Slot), K58 i0 r0 x2 x3 = some q → va_P D vwCl (W13 cs h0 a0 i0 r0 l0) H → va_D A (W13 cs h0 a0 i0 r0 l0) → va_S A s.heap H locs → lv_has ls 7 [(0, .ref h0), (2, .int x2), (3, .int x3)] → W p l e rmX13_findNeeds s m args below meth c H locs 0 0 (MQ below (Qv D cs A (W13 cs h0 a0 q.1 q.2 l0)) args s 0 0 A) (F0 m 58 ls [])) : ∀ (n : Nat), ∀ (i0 : Nat → Int32) (r0 : Nat → Nat → Int32) (x2 : Int32) (x3 : Int32) (x4 : Int32) (x5 : Int32) (H : Heap) (locs : List Loc) (ls : Array Slot), f_X13_findNeeds_84 l0 K58 n i0 r0 x2 x3 x4 x5 = some q → va_P D vwCl (W13 cs h0 a0 i0 r0 l0) H → va_D A (W13 cs h0 a0 i0 r0 l0) → va_S A s.heap H locs → lv_has ls 7 [(0, .ref h0), (2, .int x2), (3, .int x3), (4, .int x4), (5, .int x5)] → W p l e rmX13_findNeeds s m args below meth c H locs 0 0 (MQ below (Qv D cs A (W13 cs h0 a0 q.1 q.2 l0)) args s 0 0 A) (F0 m 84 ls []) := by
  obtain ⟨hx, hb, hr, hml, hown, hts, hK, hA, hlocks, hZ⟩ := id C
  intro n
  induction n with
  | zero =>
    intro i0 r0 x2 x3 x4 x5 H locs ls hf
    rw [f_X13_findNeeds_84] at hf
    cases hf
  | succ n ih =>
    intro i0 r0 x2 x3 x4 x5 H locs ls hf hP hD hS hl
    rw [f_X13_findNeeds_84] at hf
    refine lv_iload hx hb dX13_findNeeds_84 (lv_at hl 4 rfl) ?_
    refine lv_aload_n hx hb dX13_findNeeds_86 rfl (lv_at hl 0 rfl) ?_
    refine va_get (D := D) (ci := 13) (v := .int (i0 24)) (C := RX13) (T := TX13) (N := 87) hx hb hts hiX13 hown hK hP 0 rfl rfl 24 (by decide) (hts _ flX13_330) (fun _ h9 => h9) rfl dX13_findNeeds_87 ?_
    refine lv_icmp_ge (tgt := 153) hx hb dX13_findNeeds_90 (by decide) (fun hc => ?_) (fun hc => ?_)
    · have hf := ite_t hf hc
      refine lv_iinc (v := x3 + 1) (lv' := [(3, .int (x3 + 1)), (0, .ref h0), (2, .int x2), (4, .int x4), (5, .int x5)]) hx hb dX13_findNeeds_153 hl (k := 2) rfl rfl (by decide) rfl (fun ls hl => ?_)
      refine lv_goto (tgt := 58) hx hb dX13_findNeeds_156 (by decide) ?_
      exact hK58 _ _ _ _ _ _ _ hf hP hD hS (lv_sub hl [1, 2, 0] rfl)
    · have hf := ite_f hf hc
      refine lv_aload_n hx hb dX13_findNeeds_93 rfl (lv_at hl 0 rfl) ?_
      refine lv_aload_n hx hb dX13_findNeeds_94 rfl (lv_at hl 0 rfl) ?_
      refine va_get (D := D) (ci := 13) (v := .ref (a0 19)) (C := RX13) (T := TX13) (N := 87) hx hb hts hiX13 hown hK hP 0 rfl rfl 19 (by decide) (hts _ flX13_152) (fun _ h9 => h9) rfl dX13_findNeeds_95 ?_
      refine lv_iload hx hb dX13_findNeeds_98 (lv_at hl 4 rfl) ?_
      obtain ⟨q4, hq4, hf⟩ := bd_s hf
      refine k_sVi (ws2 := W13 cs h0 a0 i0 q4.2 l0) (As := [.ref (a0 19), .int x5]) (rest := []) hx hb hml hown hts hK hA hZ hl.1 hP hD hS (c_X13_without (h0 := h0) (a0 := a0) hq4) (gVt mlX13_350 imX13_without seX13_without inX13 coX13_without) rfl qnX13_without rfl rfl ⟨Nat.le_of_ble_eq_true rfl, Nat.le_of_ble_eq_true rfl⟩ 0 13 rfl rfl rfl rfl rfl (Nat.le_of_ble_eq_true rfl) ⟨Nat.zero_le _, Nat.zero_le _⟩ dX13_findNeeds_100 (fun H locs hP hD hS => ?_)
      refine lv_istore (lv' := [(6, .int q4.1), (0, .ref h0), (2, .int x2), (3, .int x3), (4, .int x4), (5, .int x5)]) hx hb dX13_findNeeds_103 hl (by decide) rfl (fun ls hl => ?_)
      refine lv_aload_n hx hb dX13_findNeeds_105 rfl (lv_at hl 1 rfl) ?_
      refine va_get (D := D) (ci := 13) (v := .ref (a0 17)) (C := RX13) (T := TX13) (N := 87) hx hb hts hiX13 hown hK hP 0 rfl rfl 17 (by decide) (hts _ flX13_146) (fun _ h9 => h9) rfl dX13_findNeeds_106 ?_
      refine lv_iload hx hb dX13_findNeeds_109 (lv_at hl 0 rfl) ?_
      refine va_bald (f := q4.2 17) hx hb hK hP 9 3 rfl rfl (ck_in hf) dX13_findNeeds_111 ?_
      have hf := ck_2 hf
      refine lv_iconst (v := (-1)) hx hb dX13_findNeeds_112 (by decide) ?_
      refine lv_icmp_eq (tgt := 119) hx hb dX13_findNeeds_113 (by decide) (fun hc => ?_) (fun hc => ?_)
      · have hf := ite_t hf hc
        refine lv_aload_n hx hb dX13_findNeeds_119 rfl (lv_at hl 1 rfl) ?_
        refine va_get (D := D) (ci := 13) (v := .ref (a0 17)) (C := RX13) (T := TX13) (N := 87) hx hb hts hiX13 hown hK hP 0 rfl rfl 17 (by decide) (hts _ flX13_146) (fun _ h9 => h9) rfl dX13_findNeeds_120 ?_
        refine lv_iload hx hb dX13_findNeeds_123 (lv_at hl 0 rfl) ?_
        refine lv_aload_n hx hb dX13_findNeeds_125 rfl (lv_at hl 1 rfl) ?_
        refine va_get (D := D) (ci := 13) (v := .ref (a0 17)) (C := RX13) (T := TX13) (N := 87) hx hb hts hiX13 hown hK hP 0 rfl rfl 17 (by decide) (hts _ flX13_146) (fun _ h9 => h9) rfl dX13_findNeeds_126 ?_
        refine lv_iload hx hb dX13_findNeeds_129 (lv_at hl 4 rfl) ?_
        refine va_bald (f := q4.2 17) hx hb hK hP 9 3 rfl rfl (ck_in hf) dX13_findNeeds_131 ?_
        have hf := ck_2 hf
        refine lv_iconst (v := 1) hx hb dX13_findNeeds_132 (by decide) ?_
        refine lv_iadd hx hb dX13_findNeeds_133 ?_
        refine lv_i2b hx hb dX13_findNeeds_134 rfl ?_
        refine va_bast (f := q4.2 17) hx hb hK hP hD hS 9 3 rfl rfl (ck_in hf) dX13_findNeeds_135 (fun H locs hP hD hS => ?_)
        have hf := ck_2 hf
        obtain ⟨hP, hD⟩ := st13_17 hP hD
        refine lv_aload_n hx hb dX13_findNeeds_136 rfl (lv_at hl 1 rfl) ?_
        refine va_get (D := D) (ci := 13) (v := .ref (a0 18)) (C := RX13) (T := TX13) (N := 87) hx hb hts hiX13 hown hK hP 0 rfl rfl 18 (by decide) (hts _ flX13_149) (fun _ h9 => h9) rfl dX13_findNeeds_137 ?_
        refine lv_iload_n hx hb dX13_findNeeds_140 rfl (lv_at hl 2 rfl) ?_
        refine lv_iload hx hb dX13_findNeeds_141 (lv_at hl 0 rfl) ?_
        refine va_iast (f := q4.2 18) hx hb hK hP hD hS 10 0 rfl rfl (ck_in hf) dX13_findNeeds_143 (fun H locs hP hD hS => ?_)
        have hf := ck_2 hf
        obtain ⟨hP, hD⟩ := st13_18 hP hD
        exact w_X13_findNeeds_144 C _ (hK58) _ (ih) _ _ _ _ _ _ _ _ _ hf hP hD hS (lv_sub hl [1, 2, 3, 4, 5] rfl)
      · have hf := ite_f hf hc
        refine lv_goto (tgt := 147) hx hb dX13_findNeeds_116 (by decide) ?_
        exact w_X13_findNeeds_147 C _ (hK58) _ (ih) _ _ _ _ _ _ _ _ _ hf hP hD hS (lv_sub hl [1, 2, 3, 4, 5] rfl)
def f_X13_findNeeds_58 (l0 : Nat → Nat → Int64)  : Nat → (Nat → Int32) → (Nat → Nat → Int32) → Int32 → Int32 → Option ((Nat → Int32) × (Nat → Nat → Int32))
  | 0, _, _, _, _ => none
  | n + 1, i0, r0, x2, x3 => if x2 ≤ x3 then (some (i0, r0)) else (ck (inb x3 40320) (bd (f_X13_unrank i0 r0 l0 (r0 18 x3.toNatClampNeg)) (fun q5 => f_X13_findNeeds_84 l0 (f_X13_findNeeds_58 l0 n) 2000000 i0 q5 x2 x3 (r0 18 x3.toNatClampNeg) 0)))
set_option maxRecDepth 100000 in
set_option maxHeartbeats 4000000 in
theorem w_X13_findNeeds_58 {p : Program} {l : Launch} {e : Env} {s : State} {m : MethodId} {args : Array Value} {below : List Frame} {meth : Method} {c : Code} {A : Nat → Prop} {D : va_G} {cs zs : Nat → Nat} {h0 : Nat} {a0 : Nat → Nat} {l0 : Nat → Nat → Int64} {q : (Nat → Int32) × (Nat → Nat → Int32)} (C : Cx p s m args meth c A D cs zs cX13_findNeeds 7 none RX13)  : ∀ (n : Nat), ∀ (i0 : Nat → Int32) (r0 : Nat → Nat → Int32) (x2 : Int32) (x3 : Int32) (H : Heap) (locs : List Loc) (ls : Array Slot), f_X13_findNeeds_58 l0 n i0 r0 x2 x3 = some q → va_P D vwCl (W13 cs h0 a0 i0 r0 l0) H → va_D A (W13 cs h0 a0 i0 r0 l0) → va_S A s.heap H locs → lv_has ls 7 [(0, .ref h0), (2, .int x2), (3, .int x3)] → W p l e rmX13_findNeeds s m args below meth c H locs 0 0 (MQ below (Qv D cs A (W13 cs h0 a0 q.1 q.2 l0)) args s 0 0 A) (F0 m 58 ls []) := by
  obtain ⟨hx, hb, hr, hml, hown, hts, hK, hA, hlocks, hZ⟩ := id C
  intro n
  induction n with
  | zero =>
    intro i0 r0 x2 x3 H locs ls hf
    rw [f_X13_findNeeds_58] at hf
    cases hf
  | succ n ih =>
    intro i0 r0 x2 x3 H locs ls hf hP hD hS hl
    rw [f_X13_findNeeds_58] at hf
    refine lv_iload_n hx hb dX13_findNeeds_58 rfl (lv_at hl 2 rfl) ?_
    refine lv_iload_n hx hb dX13_findNeeds_59 rfl (lv_at hl 1 rfl) ?_
    refine lv_icmp_ge (tgt := 159) hx hb dX13_findNeeds_60 (by decide) (fun hc => ?_) (fun hc => ?_)
    · have hf := ite_t hf hc
      obtain rfl := Option.some.inj hf
      exact k_vret hx hb hr hlocks hK hP hD hS dX13_findNeeds_159
    · have hf := ite_f hf hc
      refine lv_aload_n hx hb dX13_findNeeds_63 rfl (lv_at hl 0 rfl) ?_
      refine va_get (D := D) (ci := 13) (v := .ref (a0 18)) (C := RX13) (T := TX13) (N := 87) hx hb hts hiX13 hown hK hP 0 rfl rfl 18 (by decide) (hts _ flX13_149) (fun _ h9 => h9) rfl dX13_findNeeds_64 ?_
      refine lv_iload_n hx hb dX13_findNeeds_67 rfl (lv_at hl 2 rfl) ?_
      refine va_iald (f := r0 18) hx hb hK hP 10 0 rfl rfl (ck_in hf) dX13_findNeeds_68 ?_
      have hf := ck_2 hf
      refine lv_istore (lv' := [(4, .int (r0 18 x3.toNatClampNeg)), (0, .ref h0), (2, .int x2), (3, .int x3)]) hx hb dX13_findNeeds_69 hl (by decide) rfl (fun ls hl => ?_)
      refine lv_aload_n hx hb dX13_findNeeds_71 rfl (lv_at hl 1 rfl) ?_
      refine lv_iload hx hb dX13_findNeeds_72 (lv_at hl 0 rfl) ?_
      refine lv_aload_n hx hb dX13_findNeeds_74 rfl (lv_at hl 1 rfl) ?_
      refine va_get (D := D) (ci := 13) (v := .ref (a0 19)) (C := RX13) (T := TX13) (N := 87) hx hb hts hiX13 hown hK hP 0 rfl rfl 19 (by decide) (hts _ flX13_152) (fun _ h9 => h9) rfl dX13_findNeeds_75 ?_
      obtain ⟨q5, hq5, hf⟩ := bd_s hf
      refine k_sVv (ws2 := W13 cs h0 a0 i0 q5 l0) (As := [.int (r0 18 x3.toNatClampNeg), .ref (a0 19)]) (rest := []) hx hb hml hown hts hK hA hZ hl.1 hP hD hS (c_X13_unrank (h0 := h0) (a0 := a0) hq5) (gVt mlX13_346 imX13_unrank seX13_unrank inX13 coX13_unrank) rfl qnX13_unrank rfl rfl ⟨Nat.le_of_ble_eq_true rfl, Nat.le_of_ble_eq_true rfl⟩ 0 13 rfl rfl rfl rfl rfl (Nat.le_of_ble_eq_true rfl) ⟨Nat.zero_le _, Nat.zero_le _⟩ dX13_findNeeds_78 (fun H locs hP hD hS => ?_)
      refine lv_iconst (v := 0) hx hb dX13_findNeeds_81 (by decide) ?_
      refine lv_istore (lv' := [(5, .int 0), (4, .int (r0 18 x3.toNatClampNeg)), (0, .ref h0), (2, .int x2), (3, .int x3)]) hx hb dX13_findNeeds_82 hl (by decide) rfl (fun ls hl => ?_)
      exact w_X13_findNeeds_84 C _ (ih) 2000000 _ _ _ _ _ _ _ _ _ hf hP hD hS (lv_sub hl [2, 3, 4, 1, 0] rfl)
def f_X13_findNeeds_54 (l0 : Nat → Nat → Int64)  (i0 : Nat → Int32) (r0 : Nat → Nat → Int32) : Option ((Nat → Int32) × (Nat → Nat → Int32)) := f_X13_findNeeds_58 l0 2000000 i0 r0 1 0
set_option maxRecDepth 100000 in
set_option maxHeartbeats 4000000 in
theorem w_X13_findNeeds_54 {p : Program} {l : Launch} {e : Env} {s : State} {m : MethodId} {args : Array Value} {below : List Frame} {meth : Method} {c : Code} {A : Nat → Prop} {D : va_G} {cs zs : Nat → Nat} {h0 : Nat} {a0 : Nat → Nat} {l0 : Nat → Nat → Int64} {q : (Nat → Int32) × (Nat → Nat → Int32)} (C : Cx p s m args meth c A D cs zs cX13_findNeeds 7 none RX13)  : ∀ (i0 : Nat → Int32) (r0 : Nat → Nat → Int32) (H : Heap) (locs : List Loc) (ls : Array Slot), f_X13_findNeeds_54 l0 i0 r0 = some q → va_P D vwCl (W13 cs h0 a0 i0 r0 l0) H → va_D A (W13 cs h0 a0 i0 r0 l0) → va_S A s.heap H locs → lv_has ls 7 [(0, .ref h0)] → W p l e rmX13_findNeeds s m args below meth c H locs 0 0 (MQ below (Qv D cs A (W13 cs h0 a0 q.1 q.2 l0)) args s 0 0 A) (F0 m 54 ls []) := by
  obtain ⟨hx, hb, hr, hml, hown, hts, hK, hA, hlocks, hZ⟩ := id C
  intro i0 r0 H locs ls hf hP hD hS hl
  rw [f_X13_findNeeds_54] at hf
  refine lv_iconst (v := 1) hx hb dX13_findNeeds_54 (by decide) ?_
  refine lv_istore_n (lv' := [(2, .int 1), (0, .ref h0)]) hx hb dX13_findNeeds_55 rfl hl (by decide) rfl (fun ls hl => ?_)
  refine lv_iconst (v := 0) hx hb dX13_findNeeds_56 (by decide) ?_
  refine lv_istore_n (lv' := [(3, .int 0), (2, .int 1), (0, .ref h0)]) hx hb dX13_findNeeds_57 rfl hl (by decide) rfl (fun ls hl => ?_)
  exact w_X13_findNeeds_58 C  2000000 _ _ _ _ _ _ _ hf hP hD hS (lv_sub hl [2, 1, 0] rfl)
def f_X13_findNeeds_21 (l0 : Nat → Nat → Int64)  : Nat → (Nat → Int32) → (Nat → Nat → Int32) → Int32 → Option ((Nat → Int32) × (Nat → Nat → Int32))
  | 0, _, _, _ => none
  | n + 1, i0, r0, x2 => if 40320 ≤ x2 then (ck (inb 0 40320) (ck (inb 0 40320) (f_X13_findNeeds_54 l0 i0 (va_up (va_up r0 17 (upd (r0 17) (0 : Int32).toNatClampNeg (vp_nar .byte 0))) 18 (upd (r0 18) (0 : Int32).toNatClampNeg 0))))) else (ck (inb x2 40320) (f_X13_findNeeds_21 l0 n i0 (va_up r0 17 (upd (r0 17) x2.toNatClampNeg (vp_nar .byte (-1)))) (x2 + 1)))
set_option maxRecDepth 100000 in
set_option maxHeartbeats 4000000 in
theorem w_X13_findNeeds_21 {p : Program} {l : Launch} {e : Env} {s : State} {m : MethodId} {args : Array Value} {below : List Frame} {meth : Method} {c : Code} {A : Nat → Prop} {D : va_G} {cs zs : Nat → Nat} {h0 : Nat} {a0 : Nat → Nat} {l0 : Nat → Nat → Int64} {q : (Nat → Int32) × (Nat → Nat → Int32)} (C : Cx p s m args meth c A D cs zs cX13_findNeeds 7 none RX13)  : ∀ (n : Nat), ∀ (i0 : Nat → Int32) (r0 : Nat → Nat → Int32) (x2 : Int32) (H : Heap) (locs : List Loc) (ls : Array Slot), f_X13_findNeeds_21 l0 n i0 r0 x2 = some q → va_P D vwCl (W13 cs h0 a0 i0 r0 l0) H → va_D A (W13 cs h0 a0 i0 r0 l0) → va_S A s.heap H locs → lv_has ls 7 [(0, .ref h0), (2, .int x2)] → W p l e rmX13_findNeeds s m args below meth c H locs 0 0 (MQ below (Qv D cs A (W13 cs h0 a0 q.1 q.2 l0)) args s 0 0 A) (F0 m 21 ls []) := by
  obtain ⟨hx, hb, hr, hml, hown, hts, hK, hA, hlocks, hZ⟩ := id C
  intro n
  induction n with
  | zero =>
    intro i0 r0 x2 H locs ls hf
    rw [f_X13_findNeeds_21] at hf
    cases hf
  | succ n ih =>
    intro i0 r0 x2 H locs ls hf hP hD hS hl
    rw [f_X13_findNeeds_21] at hf
    refine lv_iload_n hx hb dX13_findNeeds_21 rfl (lv_at hl 1 rfl) ?_
    refine lv_ldc (v := 40320) hx hb hown (hts _ kcX13_145) dX13_findNeeds_22 ?_
    refine lv_icmp_ge (tgt := 40) hx hb dX13_findNeeds_24 (by decide) (fun hc => ?_) (fun hc => ?_)
    · have hf := ite_t hf hc
      refine lv_aload_n hx hb dX13_findNeeds_40 rfl (lv_at hl 0 rfl) ?_
      refine va_get (D := D) (ci := 13) (v := .ref (a0 17)) (C := RX13) (T := TX13) (N := 87) hx hb hts hiX13 hown hK hP 0 rfl rfl 17 (by decide) (hts _ flX13_146) (fun _ h9 => h9) rfl dX13_findNeeds_41 ?_
      refine lv_iconst (v := 0) hx hb dX13_findNeeds_44 (by decide) ?_
      refine lv_iconst (v := 0) hx hb dX13_findNeeds_45 (by decide) ?_
      refine va_bast (f := r0 17) hx hb hK hP hD hS 9 3 rfl rfl (ck_in hf) dX13_findNeeds_46 (fun H locs hP hD hS => ?_)
      have hf := ck_2 hf
      obtain ⟨hP, hD⟩ := st13_17 hP hD
      refine lv_aload_n hx hb dX13_findNeeds_47 rfl (lv_at hl 0 rfl) ?_
      refine va_get (D := D) (ci := 13) (v := .ref (a0 18)) (C := RX13) (T := TX13) (N := 87) hx hb hts hiX13 hown hK hP 0 rfl rfl 18 (by decide) (hts _ flX13_149) (fun _ h9 => h9) rfl dX13_findNeeds_48 ?_
      refine lv_iconst (v := 0) hx hb dX13_findNeeds_51 (by decide) ?_
      refine lv_iconst (v := 0) hx hb dX13_findNeeds_52 (by decide) ?_
      refine va_iast (f := r0 18) hx hb hK hP hD hS 10 0 rfl rfl (ck_in hf) dX13_findNeeds_53 (fun H locs hP hD hS => ?_)
      have hf := ck_2 hf
      obtain ⟨hP, hD⟩ := st13_18 hP hD
      exact w_X13_findNeeds_54 C  _ _ _ _ _ hf hP hD hS (lv_sub hl [0] rfl)
    · have hf := ite_f hf hc
      refine lv_aload_n hx hb dX13_findNeeds_27 rfl (lv_at hl 0 rfl) ?_
      refine va_get (D := D) (ci := 13) (v := .ref (a0 17)) (C := RX13) (T := TX13) (N := 87) hx hb hts hiX13 hown hK hP 0 rfl rfl 17 (by decide) (hts _ flX13_146) (fun _ h9 => h9) rfl dX13_findNeeds_28 ?_
      refine lv_iload_n hx hb dX13_findNeeds_31 rfl (lv_at hl 1 rfl) ?_
      refine lv_iconst (v := (-1)) hx hb dX13_findNeeds_32 (by decide) ?_
      refine va_bast (f := r0 17) hx hb hK hP hD hS 9 3 rfl rfl (ck_in hf) dX13_findNeeds_33 (fun H locs hP hD hS => ?_)
      have hf := ck_2 hf
      obtain ⟨hP, hD⟩ := st13_17 hP hD
      refine lv_iinc (v := x2 + 1) (lv' := [(2, .int (x2 + 1)), (0, .ref h0)]) hx hb dX13_findNeeds_34 hl (k := 1) rfl rfl (by decide) rfl (fun ls hl => ?_)
      refine lv_goto (tgt := 21) hx hb dX13_findNeeds_37 (by decide) ?_
      exact ih _ _ _ _ _ _ hf hP hD hS (lv_sub hl [1, 0] rfl)
def f_X13_findNeeds  (i0 : Nat → Int32) (r0 : Nat → Nat → Int32) (l0 : Nat → Nat → Int64) (x1 : Int32) : Option ((Nat → Int32) × (Nat → Nat → Int32)) := bd (f_X13_findGates i0 r0 l0 x1) (fun q6 => if (q6.1 25) = x1 then (some (q6.1, q6.2)) else (f_X13_findNeeds_21 l0 2000000 (upd q6.1 25 x1) q6.2 0))
set_option maxRecDepth 100000 in
set_option maxHeartbeats 4000000 in
theorem c_X13_findNeeds {l : Launch} {D : va_G} {cs zs : Nat → Nat} {h0 : Nat} {a0 : Nat → Nat} {i0 : Nat → Int32} {r0 : Nat → Nat → Int32} {l0 : Nat → Nat → Int64} {x1 : Int32} {q : (Nat → Int32) × (Nat → Nat → Int32)} (hf : f_X13_findNeeds i0 r0 l0 x1 = some q) : Mv l yX13_findNeeds wlX13_findNeeds rmX13_findNeeds D cs zs [.ref h0, .int x1] (W13 cs h0 a0 i0 r0 l0) (W13 cs h0 a0 q.1 q.2 l0) := by
  refine Mv.of RX13 (by decide) rfl (Nat.le_of_ble_eq_true rfl) (fun p e s m below meth c A C hP hD hS ls hl => ?_)
  generalize ([.ref h0, .int x1] : List Value).toArray = args at C ⊢
  obtain ⟨hx, hb, hr, hml, hown, hts, hK, hA, hlocks, hZ⟩ := id C
  have hl : lv_has ls 7 [(0, .ref h0), (1, .int x1)] := hl
  rw [f_X13_findNeeds] at hf
  refine lv_aload_n hx hb dX13_findNeeds_0 rfl (lv_at hl 0 rfl) ?_
  refine lv_iload_n hx hb dX13_findNeeds_1 rfl (lv_at hl 1 rfl) ?_
  obtain ⟨q6, hq6, hf⟩ := bd_s hf
  refine k_sVv (ws2 := W13 cs h0 a0 q6.1 q6.2 l0) (As := [.int x1]) (rest := []) hx hb hml hown hts hK hA hZ hl.1 hP hD hS (c_X13_findGates (h0 := h0) (a0 := a0) hq6) (gVt mlX13_343 imX13_findGates seX13_findGates inX13 coX13_findGates) rfl qnX13_findGates rfl rfl ⟨Nat.le_of_ble_eq_true rfl, Nat.le_of_ble_eq_true rfl⟩ 0 13 rfl rfl rfl rfl rfl (Nat.le_of_ble_eq_true rfl) ⟨Nat.zero_le _, Nat.zero_le _⟩ dX13_findNeeds_2 (fun H locs hP hD hS => ?_)
  refine lv_aload_n hx hb dX13_findNeeds_5 rfl (lv_at hl 0 rfl) ?_
  refine va_get (D := D) (ci := 13) (v := .int (q6.1 25)) (C := RX13) (T := TX13) (N := 87) hx hb hts hiX13 hown hK hP 0 rfl rfl 25 (by decide) (hts _ flX13_167) (fun _ h9 => h9) rfl dX13_findNeeds_6 ?_
  refine lv_iload_n hx hb dX13_findNeeds_9 rfl (lv_at hl 1 rfl) ?_
  refine lv_icmp_ne (tgt := 14) hx hb dX13_findNeeds_10 (by decide) (fun hc => ?_) (fun hc => ?_)
  · have hf := ite_f hf hc
    refine lv_aload_n hx hb dX13_findNeeds_14 rfl (lv_at hl 0 rfl) ?_
    refine lv_iload_n hx hb dX13_findNeeds_15 rfl (lv_at hl 1 rfl) ?_
    refine va_put (D := D) (ci := 13) (v := .int x1) (ty := .int) (C := RX13) (T := TX13) (N := 87) hx hb hts hiX13 tyX13 tyX13_ok nmX13 hown hK hP hD hS 0 rfl rfl 25 (by decide) (hts _ flX13_167) (fun _ h9 => h9) rfl (tyX13_ok 25 (by decide)) rfl rfl (Nat.le_of_ble_eq_true rfl) dX13_findNeeds_16 (fun H locs hP hD hS => ?_)
    obtain ⟨hP, hD⟩ := st13_25 hP hD
    refine lv_iconst (v := 0) hx hb dX13_findNeeds_19 (by decide) ?_
    refine lv_istore_n (lv' := [(2, .int 0), (0, .ref h0), (1, .int x1)]) hx hb dX13_findNeeds_20 rfl hl (by decide) rfl (fun ls hl => ?_)
    exact w_X13_findNeeds_21 C  2000000 _ _ _ _ _ _ hf hP hD hS (lv_sub hl [1, 0] rfl)
  · have hf := ite_t hf hc
    obtain rfl := Option.some.inj hf
    exact k_vret hx hb hr hlocks hK hP hD hS dX13_findNeeds_13
/-! MarbleFloorModel.least(III)I -/
abbrev wlX13_least : List Cond := Cond.code yX13_least cX13_least 7 (some .int) :: tbG
abbrev rmX13_least : Room := { frames := 4, cells := 0, slots := 0, locals := 93 }
theorem qnX13_least : yX13_least.cls = RX13 ∧ yX13_least.cls ≠ "java/lang/invoke/MethodHandle" ∧ yX13_least.cls ≠ "java/lang/invoke/VarHandle" ∧ (parseMethodDescriptor yX13_least.desc).map (fun d => d.parameters.length) = some 3 := by decide +kernel
def f_X13_least_149 (l0 : Nat → Nat → Int64) (K126 : (Nat → Int32) → (Nat → Nat → Int32) → Int32 → Int32 → Int32 → Option (Int32 × (Nat → Int32) × (Nat → Nat → Int32))) : Nat → (Nat → Int32) → (Nat → Nat → Int32) → Int32 → Int32 → Int32 → Int32 → Option (Int32 × (Nat → Int32) × (Nat → Nat → Int32))
  | 0, _, _, _, _, _, _ => none
  | n + 1, i0, r0, x3, x4, x5, x6 => bd (f_X13_without i0 r0 l0 x6) (fun q12 => ck (inb q12.1 40320) (ck (inb x4 40320) (if (q12.2 17 q12.1.toNatClampNeg) = ((q12.2 17 x4.toNatClampNeg) - 1) then (ck (inb x6 18) (ck (inb x6 18) (ck (inb x6 18) (bd (f_X13_add i0 q12.2 l0 (q12.2 21 x6.toNatClampNeg) (q12.2 22 x6.toNatClampNeg) (q12.2 23 x6.toNatClampNeg)) (fun q13 => bd (f_X13_without i0 q13 l0 x6) (fun q14 => K126 i0 q14.2 x3 q14.1 x5)))))) else (f_X13_least_149 l0 K126 n i0 q12.2 x3 x4 x5 (x6 + 1)))))
set_option maxRecDepth 100000 in
set_option maxHeartbeats 4000000 in
theorem w_X13_least_149 {p : Program} {l : Launch} {e : Env} {s : State} {m : MethodId} {args : Array Value} {below : List Frame} {meth : Method} {c : Code} {A : Nat → Prop} {D : va_G} {cs zs : Nat → Nat} {h0 : Nat} {a0 : Nat → Nat} {l0 : Nat → Nat → Int64} {q : Int32 × (Nat → Int32) × (Nat → Nat → Int32)} (C : Cx p s m args meth c A D cs zs cX13_least 7 (some .int) RX13) (K126 : (Nat → Int32) → (Nat → Nat → Int32) → Int32 → Int32 → Int32 → Option (Int32 × (Nat → Int32) × (Nat → Nat → Int32))) (hK126 : ∀ (i0 : Nat → Int32) (r0 : Nat → Nat → Int32) (x3 : Int32) (x4 : Int32) (x5 : Int32) (H : Heap) (locs : List Loc) (ls : Array Slot), K126 i0 r0 x3 x4 x5 = some q → va_P D vwCl (W13 cs h0 a0 i0 r0 l0) H → va_D A (W13 cs h0 a0 i0 r0 l0) → va_S A s.heap H locs → lv_has ls 7 [(0, .ref h0), (3, .int x3), (4, .int x4), (5, .int x5)] → W p l e rmX13_least s m args below meth c H locs 0 0 (MQ below (Qi D cs A q.1 (W13 cs h0 a0 q.2.1 q.2.2 l0)) args s 0 0 A) (F0 m 126 ls [])) : ∀ (n : Nat), ∀ (i0 : Nat → Int32) (r0 : Nat → Nat → Int32) (x3 : Int32) (x4 : Int32) (x5 : Int32) (x6 : Int32) (H : Heap) (locs : List Loc) (ls : Array Slot), f_X13_least_149 l0 K126 n i0 r0 x3 x4 x5 x6 = some q → va_P D vwCl (W13 cs h0 a0 i0 r0 l0) H → va_D A (W13 cs h0 a0 i0 r0 l0) → va_S A s.heap H locs → lv_has ls 7 [(0, .ref h0), (3, .int x3), (4, .int x4), (5, .int x5), (6, .int x6)] → W p l e rmX13_least s m args below meth c H locs 0 0 (MQ below (Qi D cs A q.1 (W13 cs h0 a0 q.2.1 q.2.2 l0)) args s 0 0 A) (F0 m 149 ls []) := by
  obtain ⟨hx, hb, hr, hml, hown, hts, hK, hA, hlocks, hZ⟩ := id C
  intro n
  induction n with
  | zero =>
    intro i0 r0 x3 x4 x5 x6 H locs ls hf
    rw [f_X13_least_149] at hf
    cases hf
  | succ n ih =>
    intro i0 r0 x3 x4 x5 x6 H locs ls hf hP hD hS hl
    rw [f_X13_least_149] at hf
    refine lv_aload_n hx hb dX13_least_149 rfl (lv_at hl 0 rfl) ?_
    refine va_get (D := D) (ci := 13) (v := .ref (a0 17)) (C := RX13) (T := TX13) (N := 87) hx hb hts hiX13 hown hK hP 0 rfl rfl 17 (by decide) (hts _ flX13_146) (fun _ h9 => h9) rfl dX13_least_150 ?_
    refine lv_aload_n hx hb dX13_least_153 rfl (lv_at hl 0 rfl) ?_
    refine lv_aload_n hx hb dX13_least_154 rfl (lv_at hl 0 rfl) ?_
    refine va_get (D := D) (ci := 13) (v := .ref (a0 19)) (C := RX13) (T := TX13) (N := 87) hx hb hts hiX13 hown hK hP 0 rfl rfl 19 (by decide) (hts _ flX13_152) (fun _ h9 => h9) rfl dX13_least_155 ?_
    refine lv_iload hx hb dX13_least_158 (lv_at hl 4 rfl) ?_
    obtain ⟨q12, hq12, hf⟩ := bd_s hf
    refine k_sVi (ws2 := W13 cs h0 a0 i0 q12.2 l0) (As := [.ref (a0 19), .int x6]) (rest := [.ref (a0 17)]) hx hb hml hown hts hK hA hZ hl.1 hP hD hS (c_X13_without (h0 := h0) (a0 := a0) hq12) (gVt mlX13_350 imX13_without seX13_without inX13 coX13_without) rfl qnX13_without rfl rfl ⟨Nat.le_of_ble_eq_true rfl, Nat.le_of_ble_eq_true rfl⟩ 0 13 rfl rfl rfl rfl rfl (Nat.le_of_ble_eq_true rfl) ⟨Nat.zero_le _, Nat.zero_le _⟩ dX13_least_160 (fun H locs hP hD hS => ?_)
    refine va_bald (f := q12.2 17) hx hb hK hP 9 3 rfl rfl (ck_in hf) dX13_least_163 ?_
    have hf := ck_2 hf
    refine lv_aload_n hx hb dX13_least_164 rfl (lv_at hl 0 rfl) ?_
    refine va_get (D := D) (ci := 13) (v := .ref (a0 17)) (C := RX13) (T := TX13) (N := 87) hx hb hts hiX13 hown hK hP 0 rfl rfl 17 (by decide) (hts _ flX13_146) (fun _ h9 => h9) rfl dX13_least_165 ?_
    refine lv_iload hx hb dX13_least_168 (lv_at hl 2 rfl) ?_
    refine va_bald (f := q12.2 17) hx hb hK hP 9 3 rfl rfl (ck_in hf) dX13_least_170 ?_
    have hf := ck_2 hf
    refine lv_iconst (v := 1) hx hb dX13_least_171 (by decide) ?_
    refine lv_isub hx hb dX13_least_172 ?_
    refine lv_icmp_eq (tgt := 182) hx hb dX13_least_173 (by decide) (fun hc => ?_) (fun hc => ?_)
    · have hf := ite_t hf hc
      refine lv_aload_n hx hb dX13_least_182 rfl (lv_at hl 0 rfl) ?_
      refine lv_aload_n hx hb dX13_least_183 rfl (lv_at hl 0 rfl) ?_
      refine va_get (D := D) (ci := 13) (v := .ref (a0 21)) (C := RX13) (T := TX13) (N := 87) hx hb hts hiX13 hown hK hP 0 rfl rfl 21 (by decide) (hts _ flX13_158) (fun _ h9 => h9) rfl dX13_least_184 ?_
      refine lv_iload hx hb dX13_least_187 (lv_at hl 4 rfl) ?_
      refine va_iald (f := q12.2 21) hx hb hK hP 13 0 rfl rfl (ck_in hf) dX13_least_189 ?_
      have hf := ck_2 hf
      refine lv_aload_n hx hb dX13_least_190 rfl (lv_at hl 0 rfl) ?_
      refine va_get (D := D) (ci := 13) (v := .ref (a0 22)) (C := RX13) (T := TX13) (N := 87) hx hb hts hiX13 hown hK hP 0 rfl rfl 22 (by decide) (hts _ flX13_161) (fun _ h9 => h9) rfl dX13_least_191 ?_
      refine lv_iload hx hb dX13_least_194 (lv_at hl 4 rfl) ?_
      refine va_iald (f := q12.2 22) hx hb hK hP 14 0 rfl rfl (ck_in hf) dX13_least_196 ?_
      have hf := ck_2 hf
      refine lv_aload_n hx hb dX13_least_197 rfl (lv_at hl 0 rfl) ?_
      refine va_get (D := D) (ci := 13) (v := .ref (a0 23)) (C := RX13) (T := TX13) (N := 87) hx hb hts hiX13 hown hK hP 0 rfl rfl 23 (by decide) (hts _ flX13_164) (fun _ h9 => h9) rfl dX13_least_198 ?_
      refine lv_iload hx hb dX13_least_201 (lv_at hl 4 rfl) ?_
      refine va_iald (f := q12.2 23) hx hb hK hP 15 0 rfl rfl (ck_in hf) dX13_least_203 ?_
      have hf := ck_2 hf
      obtain ⟨q13, hq13, hf⟩ := bd_s hf
      refine k_sVv (ws2 := W13 cs h0 a0 i0 q13 l0) (As := [.int (q12.2 21 x6.toNatClampNeg), .int (q12.2 22 x6.toNatClampNeg), .int (q12.2 23 x6.toNatClampNeg)]) (rest := []) hx hb hml hown hts hK hA hZ hl.1 hP hD hS (c_X13_add (h0 := h0) (a0 := a0) hq13) (gVt mlX13_115 imX13_add seX13_add inX13 coX13_add) rfl qnX13_add rfl rfl ⟨Nat.le_of_ble_eq_true rfl, Nat.le_of_ble_eq_true rfl⟩ 0 13 rfl rfl rfl rfl rfl (Nat.le_of_ble_eq_true rfl) ⟨Nat.zero_le _, Nat.zero_le _⟩ dX13_least_204 (fun H locs hP hD hS => ?_)
      refine lv_aload_n hx hb dX13_least_207 rfl (lv_at hl 0 rfl) ?_
      refine lv_aload_n hx hb dX13_least_208 rfl (lv_at hl 0 rfl) ?_
      refine va_get (D := D) (ci := 13) (v := .ref (a0 19)) (C := RX13) (T := TX13) (N := 87) hx hb hts hiX13 hown hK hP 0 rfl rfl 19 (by decide) (hts _ flX13_152) (fun _ h9 => h9) rfl dX13_least_209 ?_
      refine lv_iload hx hb dX13_least_212 (lv_at hl 4 rfl) ?_
      obtain ⟨q14, hq14, hf⟩ := bd_s hf
      refine k_sVi (ws2 := W13 cs h0 a0 i0 q14.2 l0) (As := [.ref (a0 19), .int x6]) (rest := []) hx hb hml hown hts hK hA hZ hl.1 hP hD hS (c_X13_without (h0 := h0) (a0 := a0) hq14) (gVt mlX13_350 imX13_without seX13_without inX13 coX13_without) rfl qnX13_without rfl rfl ⟨Nat.le_of_ble_eq_true rfl, Nat.le_of_ble_eq_true rfl⟩ 0 13 rfl rfl rfl rfl rfl (Nat.le_of_ble_eq_true rfl) ⟨Nat.zero_le _, Nat.zero_le _⟩ dX13_least_214 (fun H locs hP hD hS => ?_)
      refine lv_istore (lv' := [(4, .int q14.1), (0, .ref h0), (3, .int x3), (5, .int x5), (6, .int x6)]) hx hb dX13_least_217 hl (by decide) rfl (fun ls hl => ?_)
      refine lv_goto (tgt := 126) hx hb dX13_least_219 (by decide) ?_
      exact hK126 _ _ _ _ _ _ _ _ hf hP hD hS (lv_sub hl [1, 2, 0, 3] rfl)
    · have hf := ite_f hf hc
      refine lv_iinc (v := x6 + 1) (lv' := [(6, .int (x6 + 1)), (0, .ref h0), (3, .int x3), (4, .int x4), (5, .int x5)]) hx hb dX13_least_176 hl (k := 4) rfl rfl (by decide) rfl (fun ls hl => ?_)
      refine lv_goto (tgt := 149) hx hb dX13_least_179 (by decide) ?_
      exact ih _ _ _ _ _ _ _ _ _ hf hP hD hS (lv_sub hl [1, 2, 3, 4, 0] rfl)
def f_X13_least_126 (l0 : Nat → Nat → Int64)  : Nat → (Nat → Int32) → (Nat → Nat → Int32) → Int32 → Int32 → Int32 → Option (Int32 × (Nat → Int32) × (Nat → Nat → Int32))
  | 0, _, _, _, _, _ => none
  | n + 1, i0, r0, x3, x4, x5 => ck (inb x4 40320) (if (r0 17 x4.toNatClampNeg) ≤ 0 then (bd (f_X13_copyFloor i0 r0 l0 6 x3) (fun q15 => some (x5, i0, q15))) else (bd (f_X13_unrank i0 r0 l0 x4) (fun q16 => f_X13_least_149 l0 (f_X13_least_126 l0 n) 2000000 i0 q16 x3 x4 x5 0)))
set_option maxRecDepth 100000 in
set_option maxHeartbeats 4000000 in
theorem w_X13_least_126 {p : Program} {l : Launch} {e : Env} {s : State} {m : MethodId} {args : Array Value} {below : List Frame} {meth : Method} {c : Code} {A : Nat → Prop} {D : va_G} {cs zs : Nat → Nat} {h0 : Nat} {a0 : Nat → Nat} {l0 : Nat → Nat → Int64} {q : Int32 × (Nat → Int32) × (Nat → Nat → Int32)} (C : Cx p s m args meth c A D cs zs cX13_least 7 (some .int) RX13)  : ∀ (n : Nat), ∀ (i0 : Nat → Int32) (r0 : Nat → Nat → Int32) (x3 : Int32) (x4 : Int32) (x5 : Int32) (H : Heap) (locs : List Loc) (ls : Array Slot), f_X13_least_126 l0 n i0 r0 x3 x4 x5 = some q → va_P D vwCl (W13 cs h0 a0 i0 r0 l0) H → va_D A (W13 cs h0 a0 i0 r0 l0) → va_S A s.heap H locs → lv_has ls 7 [(0, .ref h0), (3, .int x3), (4, .int x4), (5, .int x5)] → W p l e rmX13_least s m args below meth c H locs 0 0 (MQ below (Qi D cs A q.1 (W13 cs h0 a0 q.2.1 q.2.2 l0)) args s 0 0 A) (F0 m 126 ls []) := by
  obtain ⟨hx, hb, hr, hml, hown, hts, hK, hA, hlocks, hZ⟩ := id C
  intro n
  induction n with
  | zero =>
    intro i0 r0 x3 x4 x5 H locs ls hf
    rw [f_X13_least_126] at hf
    cases hf
  | succ n ih =>
    intro i0 r0 x3 x4 x5 H locs ls hf hP hD hS hl
    rw [f_X13_least_126] at hf
    refine lv_aload_n hx hb dX13_least_126 rfl (lv_at hl 0 rfl) ?_
    refine va_get (D := D) (ci := 13) (v := .ref (a0 17)) (C := RX13) (T := TX13) (N := 87) hx hb hts hiX13 hown hK hP 0 rfl rfl 17 (by decide) (hts _ flX13_146) (fun _ h9 => h9) rfl dX13_least_127 ?_
    refine lv_iload hx hb dX13_least_130 (lv_at hl 2 rfl) ?_
    refine va_bald (f := r0 17) hx hb hK hP 9 3 rfl rfl (ck_in hf) dX13_least_132 ?_
    have hf := ck_2 hf
    refine lv_if_le (tgt := 222) hx hb dX13_least_133 (by decide) (fun hc => ?_) (fun hc => ?_)
    · have hf := ite_t hf hc
      refine lv_aload_n hx hb dX13_least_222 rfl (lv_at hl 0 rfl) ?_
      refine lv_bipush (v := 6) hx hb dX13_least_223 (by decide) ?_
      refine lv_iload_n hx hb dX13_least_225 rfl (lv_at hl 1 rfl) ?_
      obtain ⟨q15, hq15, hf⟩ := bd_s hf
      refine k_sVv (ws2 := W13 cs h0 a0 i0 q15 l0) (As := [.int 6, .int x3]) (rest := []) hx hb hml hown hts hK hA hZ hl.1 hP hD hS (c_X13_copyFloor (h0 := h0) (a0 := a0) hq15) (gVt mlX13_299 imX13_copyFloor seX13_copyFloor inX13 coX13_copyFloor) rfl qnX13_copyFloor rfl rfl ⟨Nat.le_of_ble_eq_true rfl, Nat.le_of_ble_eq_true rfl⟩ 0 13 rfl rfl rfl rfl rfl (Nat.le_of_ble_eq_true rfl) ⟨Nat.zero_le _, Nat.zero_le _⟩ dX13_least_226 (fun H locs hP hD hS => ?_)
      refine lv_iload hx hb dX13_least_229 (lv_at hl 3 rfl) ?_
      obtain rfl := Option.some.inj hf
      exact k_iret hx hb hr hlocks hK hP hD hS dX13_least_231
    · have hf := ite_f hf hc
      refine lv_aload_n hx hb dX13_least_136 rfl (lv_at hl 0 rfl) ?_
      refine lv_iload hx hb dX13_least_137 (lv_at hl 2 rfl) ?_
      refine lv_aload_n hx hb dX13_least_139 rfl (lv_at hl 0 rfl) ?_
      refine va_get (D := D) (ci := 13) (v := .ref (a0 19)) (C := RX13) (T := TX13) (N := 87) hx hb hts hiX13 hown hK hP 0 rfl rfl 19 (by decide) (hts _ flX13_152) (fun _ h9 => h9) rfl dX13_least_140 ?_
      obtain ⟨q16, hq16, hf⟩ := bd_s hf
      refine k_sVv (ws2 := W13 cs h0 a0 i0 q16 l0) (As := [.int x4, .ref (a0 19)]) (rest := []) hx hb hml hown hts hK hA hZ hl.1 hP hD hS (c_X13_unrank (h0 := h0) (a0 := a0) hq16) (gVt mlX13_346 imX13_unrank seX13_unrank inX13 coX13_unrank) rfl qnX13_unrank rfl rfl ⟨Nat.le_of_ble_eq_true rfl, Nat.le_of_ble_eq_true rfl⟩ 0 13 rfl rfl rfl rfl rfl (Nat.le_of_ble_eq_true rfl) ⟨Nat.zero_le _, Nat.zero_le _⟩ dX13_least_143 (fun H locs hP hD hS => ?_)
      refine lv_iconst (v := 0) hx hb dX13_least_146 (by decide) ?_
      refine lv_istore (lv' := [(6, .int 0), (0, .ref h0), (3, .int x3), (4, .int x4), (5, .int x5)]) hx hb dX13_least_147 hl (by decide) rfl (fun ls hl => ?_)
      exact w_X13_least_149 C _ (ih) 2000000 _ _ _ _ _ _ _ _ _ hf hP hD hS (lv_sub hl [1, 2, 3, 4, 0] rfl)
def f_X13_least_117 (l0 : Nat → Nat → Int64)  (i0 : Nat → Int32) (r0 : Nat → Nat → Int32) (x3 : Int32) (x4 : Int32) : Option (Int32 × (Nat → Int32) × (Nat → Nat → Int32)) := ck (inb x4 40320) (f_X13_least_126 l0 2000000 i0 r0 x3 x4 (r0 17 x4.toNatClampNeg))
set_option maxRecDepth 100000 in
set_option maxHeartbeats 4000000 in
theorem w_X13_least_117 {p : Program} {l : Launch} {e : Env} {s : State} {m : MethodId} {args : Array Value} {below : List Frame} {meth : Method} {c : Code} {A : Nat → Prop} {D : va_G} {cs zs : Nat → Nat} {h0 : Nat} {a0 : Nat → Nat} {l0 : Nat → Nat → Int64} {q : Int32 × (Nat → Int32) × (Nat → Nat → Int32)} (C : Cx p s m args meth c A D cs zs cX13_least 7 (some .int) RX13)  : ∀ (i0 : Nat → Int32) (r0 : Nat → Nat → Int32) (x3 : Int32) (x4 : Int32) (H : Heap) (locs : List Loc) (ls : Array Slot), f_X13_least_117 l0 i0 r0 x3 x4 = some q → va_P D vwCl (W13 cs h0 a0 i0 r0 l0) H → va_D A (W13 cs h0 a0 i0 r0 l0) → va_S A s.heap H locs → lv_has ls 7 [(0, .ref h0), (3, .int x3), (4, .int x4)] → W p l e rmX13_least s m args below meth c H locs 0 0 (MQ below (Qi D cs A q.1 (W13 cs h0 a0 q.2.1 q.2.2 l0)) args s 0 0 A) (F0 m 117 ls []) := by
  obtain ⟨hx, hb, hr, hml, hown, hts, hK, hA, hlocks, hZ⟩ := id C
  intro i0 r0 x3 x4 H locs ls hf hP hD hS hl
  rw [f_X13_least_117] at hf
  refine lv_aload_n hx hb dX13_least_117 rfl (lv_at hl 0 rfl) ?_
  refine va_get (D := D) (ci := 13) (v := .ref (a0 17)) (C := RX13) (T := TX13) (N := 87) hx hb hts hiX13 hown hK hP 0 rfl rfl 17 (by decide) (hts _ flX13_146) (fun _ h9 => h9) rfl dX13_least_118 ?_
  refine lv_iload hx hb dX13_least_121 (lv_at hl 2 rfl) ?_
  refine va_bald (f := r0 17) hx hb hK hP 9 3 rfl rfl (ck_in hf) dX13_least_123 ?_
  have hf := ck_2 hf
  refine lv_istore (lv' := [(5, .int (r0 17 x4.toNatClampNeg)), (0, .ref h0), (3, .int x3), (4, .int x4)]) hx hb dX13_least_124 hl (by decide) rfl (fun ls hl => ?_)
  exact w_X13_least_126 C  2000000 _ _ _ _ _ _ _ _ hf hP hD hS (lv_sub hl [1, 2, 3, 0] rfl)
def f_X13_least_50 (l0 : Nat → Nat → Int64)  : Nat → (Nat → Int32) → (Nat → Nat → Int32) → Int32 → Int32 → Int32 → Option (Int32 × (Nat → Int32) × (Nat → Nat → Int32))
  | 0, _, _, _, _, _ => none
  | n + 1, i0, r0, x1, x3, x4 => if 8 ≤ x4 then (bd (f_X13_rank 8 (r0 19)) (fun q17 => ck (inb q17 40320) (if (r0 17 q17.toNatClampNeg) = (-1) then (some ((-1), i0, r0)) else (ck (inb 6 8) (ck (inb 6 8) (f_X13_least_117 l0 i0 (va_up (va_up r0 10 (upd (r0 10) (6 : Int32).toNatClampNeg 3)) 11 (upd (r0 11) (6 : Int32).toNatClampNeg 0)) x3 q17)))))) else (bd (f_X13_outBut i0 r0 l0 x1 x4 0 (-1)) (fun q18 => ck (inb x4 8) (f_X13_least_50 l0 n i0 (va_up r0 19 (upd (r0 19) x4.toNatClampNeg q18)) x1 x3 (x4 + 1))))
set_option maxRecDepth 100000 in
set_option maxHeartbeats 4000000 in
theorem w_X13_least_50 {p : Program} {l : Launch} {e : Env} {s : State} {m : MethodId} {args : Array Value} {below : List Frame} {meth : Method} {c : Code} {A : Nat → Prop} {D : va_G} {cs zs : Nat → Nat} {h0 : Nat} {a0 : Nat → Nat} {l0 : Nat → Nat → Int64} {q : Int32 × (Nat → Int32) × (Nat → Nat → Int32)} (C : Cx p s m args meth c A D cs zs cX13_least 7 (some .int) RX13)  : ∀ (n : Nat), ∀ (i0 : Nat → Int32) (r0 : Nat → Nat → Int32) (x1 : Int32) (x3 : Int32) (x4 : Int32) (H : Heap) (locs : List Loc) (ls : Array Slot), f_X13_least_50 l0 n i0 r0 x1 x3 x4 = some q → va_P D vwCl (W13 cs h0 a0 i0 r0 l0) H → va_D A (W13 cs h0 a0 i0 r0 l0) → va_S A s.heap H locs → lv_has ls 7 [(0, .ref h0), (1, .int x1), (3, .int x3), (4, .int x4)] → W p l e rmX13_least s m args below meth c H locs 0 0 (MQ below (Qi D cs A q.1 (W13 cs h0 a0 q.2.1 q.2.2 l0)) args s 0 0 A) (F0 m 50 ls []) := by
  obtain ⟨hx, hb, hr, hml, hown, hts, hK, hA, hlocks, hZ⟩ := id C
  intro n
  induction n with
  | zero =>
    intro i0 r0 x1 x3 x4 H locs ls hf
    rw [f_X13_least_50] at hf
    cases hf
  | succ n ih =>
    intro i0 r0 x1 x3 x4 H locs ls hf hP hD hS hl
    rw [f_X13_least_50] at hf
    refine lv_iload hx hb dX13_least_50 (lv_at hl 3 rfl) ?_
    refine lv_bipush (v := 8) hx hb dX13_least_52 (by decide) ?_
    refine lv_icmp_ge (tgt := 79) hx hb dX13_least_54 (by decide) (fun hc => ?_) (fun hc => ?_)
    · have hf := ite_t hf hc
      refine lv_aload_n hx hb dX13_least_79 rfl (lv_at hl 0 rfl) ?_
      refine va_get (D := D) (ci := 13) (v := .ref (a0 19)) (C := RX13) (T := TX13) (N := 87) hx hb hts hiX13 hown hK hP 0 rfl rfl 19 (by decide) (hts _ flX13_152) (fun _ h9 => h9) rfl dX13_least_80 ?_
      obtain ⟨q17, hq17, hf⟩ := bd_s hf
      refine k_pSi (wr := [(h0, .inr (13, fs13 a0 i0)), (a0 1, .inl (cs 3, 900, .inl (r0 1))), (a0 10, .inl (cs 0, 8, .inl (r0 10))), (a0 11, .inl (cs 0, 8, .inl (r0 11))), (a0 12, .inl (cs 0, 320, .inl (r0 12))), (a0 13, .inl (cs 0, 320, .inl (r0 13))), (a0 14, .inl (cs 0, 320, .inl (r0 14))), (a0 15, .inl (cs 0, 256, .inl (r0 15))), (a0 16, .inl (cs 2, 256, .inl (r0 16))), (a0 17, .inl (cs 3, 40320, .inl (r0 17))), (a0 18, .inl (cs 0, 40320, .inl (r0 18))), (a0 20, .inl (cs 0, 8, .inl (r0 20))), (a0 21, .inl (cs 0, 18, .inl (r0 21))), (a0 22, .inl (cs 0, 18, .inl (r0 22))), (a0 23, .inl (cs 0, 18, .inl (r0 23))), (a0 26, .inl (cs 0, 8, .inl (r0 26))), (a0 28, .inl (cs 0, 120, .inl (r0 28))), (a0 29, .inl (cs 0, 120, .inl (r0 29))), (a0 30, .inl (cs 0, 120, .inl (r0 30))), (a0 31, .inl (cs 0, 120, .inl (r0 31))), (a0 32, .inl (cs 0, 240, .inl (r0 32))), (a0 33, .inl (cs 0, 240, .inl (r0 33))), (a0 34, .inl (cs 0, 480, .inl (r0 34))), (a0 35, .inl (cs 0, 480, .inl (r0 35))), (a0 36, .inl (cs 0, 240, .inl (r0 36))), (a0 37, .inl (cs 0, 240, .inl (r0 37))), (a0 38, .inl (cs 0, 240, .inl (r0 38))), (a0 39, .inl (cs 0, 2000, .inl (r0 39))), (a0 40, .inl (cs 0, 2000, .inl (r0 40))), (a0 41, .inl (cs 0, 2000, .inl (r0 41))), (a0 42, .inl (cs 0, 12, .inl (r0 42))), (a0 43, .inl (cs 0, 12, .inl (r0 43))), (a0 44, .inl (cs 1, 6, .inr (.inl (l0 44)))), (a0 45, .inl (cs 1, 60, .inr (.inl (l0 45)))), (a0 58, .inl (cs 0, 18, .inl (r0 58))), (a0 59, .inl (cs 0, 18, .inl (r0 59))), (a0 60, .inl (cs 0, 64, .inl (r0 60))), (a0 68, .inl (cs 0, 100, .inl (r0 68))), (a0 69, .inl (cs 0, 100, .inl (r0 69))), (a0 70, .inl (cs 0, 100, .inl (r0 70))), (a0 71, .inl (cs 0, 100, .inl (r0 71))), (a0 72, .inl (cs 0, 4096, .inl (r0 72))), (a0 73, .inl (cs 0, 4096, .inl (r0 73))), (a0 74, .inl (cs 0, 4096, .inl (r0 74))), (a0 80, .inl (cs 0, 20, .inl (r0 80))), (a0 81, .inl (cs 0, 20, .inl (r0 81))), (a0 82, .inl (cs 0, 20, .inl (r0 82))), (a0 83, .inl (cs 0, 20, .inl (r0 83))), (a0 84, .inl (cs 0, 20, .inl (r0 84))), (a0 85, .inl (cs 0, 20, .inl (r0 85))), (a0 86, .inl (cs 0, 256, .inl (r0 86)))]) (ws2 := W13 cs h0 a0 i0 r0 l0) (As := [.ref (a0 19)]) (rest := []) hx hb hml hown hts hK hA hZ hl.1 hP hD hS (c_X13_rank (h0 := (a0 19)) (n0 := 8) hq17) (gSt mlX13_339 stX13_rank inX13 coX13_rank) rfl qnX13_rank rfl rfl ⟨Nat.le_of_ble_eq_true rfl, Nat.le_of_ble_eq_true rfl⟩ [11] [0, 1, 2, 3, 4, 5, 6, 7, 8, 9, 10, 12, 13, 14, 15, 16, 17, 18, 19, 20, 21, 22, 23, 24, 25, 26, 27, 28, 29, 30, 31, 32, 33, 34, 35, 36, 37, 38, 39, 40, 41, 42, 43, 44, 45, 46, 47, 48, 49, 50, 51] [0, 1, 2, 3, 4, 5, 6, 7, 8, 9, 10, 51, 11, 12, 13, 14, 15, 16, 17, 18, 19, 20, 21, 22, 23, 24, 25, 26, 27, 28, 29, 30, 31, 32, 33, 34, 35, 36, 37, 38, 39, 40, 41, 42, 43, 44, 45, 46, 47, 48, 49, 50] rfl rfl rfl (by decide) rfl rfl (Nat.le_of_ble_eq_true rfl) ⟨Nat.zero_le _, Nat.zero_le _⟩ dX13_least_83 (fun H locs hP hD hS => ?_)
      refine lv_istore (lv' := [(4, .int q17), (0, .ref h0), (1, .int x1), (3, .int x3)]) hx hb dX13_least_86 hl (by decide) rfl (fun ls hl => ?_)
      refine lv_aload_n hx hb dX13_least_88 rfl (lv_at hl 1 rfl) ?_
      refine va_get (D := D) (ci := 13) (v := .ref (a0 17)) (C := RX13) (T := TX13) (N := 87) hx hb hts hiX13 hown hK hP 0 rfl rfl 17 (by decide) (hts _ flX13_146) (fun _ h9 => h9) rfl dX13_least_89 ?_
      refine lv_iload hx hb dX13_least_92 (lv_at hl 0 rfl) ?_
      refine va_bald (f := r0 17) hx hb hK hP 9 3 rfl rfl (ck_in hf) dX13_least_94 ?_
      have hf := ck_2 hf
      refine lv_iconst (v := (-1)) hx hb dX13_least_95 (by decide) ?_
      refine lv_icmp_ne (tgt := 101) hx hb dX13_least_96 (by decide) (fun hc => ?_) (fun hc => ?_)
      · have hf := ite_f hf hc
        refine lv_aload_n hx hb dX13_least_101 rfl (lv_at hl 1 rfl) ?_
        refine va_get (D := D) (ci := 13) (v := .ref (a0 10)) (C := RX13) (T := TX13) (N := 87) hx hb hts hiX13 hown hK hP 0 rfl rfl 10 (by decide) (hts _ flX13_99) (fun _ h9 => h9) rfl dX13_least_102 ?_
        refine lv_bipush (v := 6) hx hb dX13_least_105 (by decide) ?_
        refine lv_iconst (v := 3) hx hb dX13_least_107 (by decide) ?_
        refine va_iast (f := r0 10) hx hb hK hP hD hS 2 0 rfl rfl (ck_in hf) dX13_least_108 (fun H locs hP hD hS => ?_)
        have hf := ck_2 hf
        obtain ⟨hP, hD⟩ := st13_10 hP hD
        refine lv_aload_n hx hb dX13_least_109 rfl (lv_at hl 1 rfl) ?_
        refine va_get (D := D) (ci := 13) (v := .ref (a0 11)) (C := RX13) (T := TX13) (N := 87) hx hb hts hiX13 hown hK hP 0 rfl rfl 11 (by decide) (hts _ flX13_86) (fun _ h9 => h9) rfl dX13_least_110 ?_
        refine lv_bipush (v := 6) hx hb dX13_least_113 (by decide) ?_
        refine lv_iconst (v := 0) hx hb dX13_least_115 (by decide) ?_
        refine va_iast (f := r0 11) hx hb hK hP hD hS 3 0 rfl rfl (ck_in hf) dX13_least_116 (fun H locs hP hD hS => ?_)
        have hf := ck_2 hf
        obtain ⟨hP, hD⟩ := st13_11 hP hD
        exact w_X13_least_117 C  _ _ _ _ _ _ _ hf hP hD hS (lv_sub hl [1, 3, 0] rfl)
      · have hf := ite_t hf hc
        refine lv_iconst (v := (-1)) hx hb dX13_least_99 (by decide) ?_
        obtain rfl := Option.some.inj hf
        exact k_iret hx hb hr hlocks hK hP hD hS dX13_least_100
    · have hf := ite_f hf hc
      refine lv_aload_n hx hb dX13_least_57 rfl (lv_at hl 0 rfl) ?_
      refine va_get (D := D) (ci := 13) (v := .ref (a0 19)) (C := RX13) (T := TX13) (N := 87) hx hb hts hiX13 hown hK hP 0 rfl rfl 19 (by decide) (hts _ flX13_152) (fun _ h9 => h9) rfl dX13_least_58 ?_
      refine lv_iload hx hb dX13_least_61 (lv_at hl 3 rfl) ?_
      refine lv_aload_n hx hb dX13_least_63 rfl (lv_at hl 0 rfl) ?_
      refine lv_iload_n hx hb dX13_least_64 rfl (lv_at hl 1 rfl) ?_
      refine lv_iload hx hb dX13_least_65 (lv_at hl 3 rfl) ?_
      refine lv_iconst (v := 0) hx hb dX13_least_67 (by decide) ?_
      refine lv_iconst (v := (-1)) hx hb dX13_least_68 (by decide) ?_
      obtain ⟨q18, hq18, hf⟩ := bd_s hf
      refine k_sVi (ws2 := W13 cs h0 a0 i0 r0 l0) (As := [.int x1, .int x4, .int 0, .int (-1)]) (rest := [.int x4, .ref (a0 19)]) hx hb hml hown hts hK hA hZ hl.1 hP hD hS (c_X13_outBut (h0 := h0) (a0 := a0) hq18) (gVt mlX13_314 imX13_outBut seX13_outBut inX13 coX13_outBut) rfl qnX13_outBut rfl rfl ⟨Nat.le_of_ble_eq_true rfl, Nat.le_of_ble_eq_true rfl⟩ 0 13 rfl rfl rfl rfl rfl (Nat.le_of_ble_eq_true rfl) ⟨Nat.zero_le _, Nat.zero_le _⟩ dX13_least_69 (fun H locs hP hD hS => ?_)
      refine va_iast (f := r0 19) hx hb hK hP hD hS 11 0 rfl rfl (ck_in hf) dX13_least_72 (fun H locs hP hD hS => ?_)
      have hf := ck_2 hf
      obtain ⟨hP, hD⟩ := st13_19 hP hD
      refine lv_iinc (v := x4 + 1) (lv' := [(4, .int (x4 + 1)), (0, .ref h0), (1, .int x1), (3, .int x3)]) hx hb dX13_least_73 hl (k := 3) rfl rfl (by decide) rfl (fun ls hl => ?_)
      refine lv_goto (tgt := 50) hx hb dX13_least_76 (by decide) ?_
      exact ih _ _ _ _ _ _ _ _ hf hP hD hS (lv_sub hl [1, 2, 3, 0] rfl)
def f_X13_least  (i0 : Nat → Int32) (r0 : Nat → Nat → Int32) (l0 : Nat → Nat → Int64) (x1 : Int32) (x2 : Int32) (x3 : Int32) : Option (Int32 × (Nat → Int32) × (Nat → Nat → Int32)) := bd (f_X13_isFloor x1) (fun q19 => if q19 = 0 then (some ((-2), i0, r0)) else (bd (f_X13_in x2.toInt64 0 31) (fun q20 => if q20 = 0 then (some ((-2), i0, r0)) else (bd (f_X13_isFloor x3) (fun q21 => if q21 = 0 then (some ((-2), i0, r0)) else (ck (inb x1 8) (if (r0 10 x1.toNatClampNeg) = 3 then (bd (f_X13_findNeeds i0 r0 l0 x2) (fun q22 => f_X13_least_50 l0 2000000 q22.1 q22.2 x1 x3 0)) else (some ((-4), i0, r0)))))))))
set_option maxRecDepth 100000 in
set_option maxHeartbeats 4000000 in
theorem c_X13_least {l : Launch} {D : va_G} {cs zs : Nat → Nat} {h0 : Nat} {a0 : Nat → Nat} {i0 : Nat → Int32} {r0 : Nat → Nat → Int32} {l0 : Nat → Nat → Int64} {x1 : Int32} {x2 : Int32} {x3 : Int32} {q : Int32 × (Nat → Int32) × (Nat → Nat → Int32)} (hf : f_X13_least i0 r0 l0 x1 x2 x3 = some q) : Mi l yX13_least wlX13_least rmX13_least D cs zs [.ref h0, .int x1, .int x2, .int x3] (W13 cs h0 a0 i0 r0 l0) q.1 (W13 cs h0 a0 q.2.1 q.2.2 l0) := by
  refine Mi.of RX13 (by decide) rfl (Nat.le_of_ble_eq_true rfl) (fun p e s m below meth c A C hP hD hS ls hl => ?_)
  generalize ([.ref h0, .int x1, .int x2, .int x3] : List Value).toArray = args at C ⊢
  obtain ⟨hx, hb, hr, hml, hown, hts, hK, hA, hlocks, hZ⟩ := id C
  have hl : lv_has ls 7 [(0, .ref h0), (1, .int x1), (2, .int x2), (3, .int x3)] := hl
  rw [f_X13_least] at hf
  refine lv_iload_n hx hb dX13_least_0 rfl (lv_at hl 1 rfl) ?_
  obtain ⟨q19, hq19, hf⟩ := bd_s hf
  refine k_eSi (As := [.int x1]) (rest := []) hx hb hml hown hts hK hA hZ hl.1 hP hD hS (c_X13_isFloor  hq19) (gSt mlX13_290 stX13_isFloor inX13 coX13_isFloor) rfl qnX13_isFloor rfl rfl ⟨Nat.le_of_ble_eq_true rfl, Nat.le_of_ble_eq_true rfl⟩ rfl rfl (Nat.le_of_ble_eq_true rfl) ⟨Nat.zero_le _, Nat.zero_le _⟩ dX13_least_1 (fun H locs hP hD hS => ?_)
  refine lv_if_eq (tgt := 26) hx hb dX13_least_4 (by decide) (fun hc => ?_) (fun hc => ?_)
  · have hf := ite_t hf hc
    refine lv_bipush (v := (-2)) hx hb dX13_least_26 (by decide) ?_
    obtain rfl := Option.some.inj hf
    exact k_iret hx hb hr hlocks hK hP hD hS dX13_least_28
  · have hf := ite_f hf hc
    refine lv_iload_n hx hb dX13_least_7 rfl (lv_at hl 2 rfl) ?_
    refine lv_i2l hx hb dX13_least_8 rfl ?_
    refine lv_lconst (v := 0) hx hb dX13_least_9 (by decide) ?_
    refine lv_ldc2 (v := 31) hx hb hown (hts _ kcX13_354) dX13_least_10 ?_
    obtain ⟨q20, hq20, hf⟩ := bd_s hf
    refine k_eSi (As := [.long x2.toInt64, .long 0, .long 31]) (rest := []) hx hb hml hown hts hK hA hZ hl.1 hP hD hS (c_X13_in  hq20) (gSt mlX13_64 stX13_in inX13 coX13_in) rfl qnX13_in rfl rfl ⟨Nat.le_of_ble_eq_true rfl, Nat.le_of_ble_eq_true rfl⟩ rfl rfl (Nat.le_of_ble_eq_true rfl) ⟨Nat.zero_le _, Nat.zero_le _⟩ dX13_least_13 (fun H locs hP hD hS => ?_)
    refine lv_if_eq (tgt := 26) hx hb dX13_least_16 (by decide) (fun hc => ?_) (fun hc => ?_)
    · have hf := ite_t hf hc
      refine lv_bipush (v := (-2)) hx hb dX13_least_26 (by decide) ?_
      obtain rfl := Option.some.inj hf
      exact k_iret hx hb hr hlocks hK hP hD hS dX13_least_28
    · have hf := ite_f hf hc
      refine lv_iload_n hx hb dX13_least_19 rfl (lv_at hl 3 rfl) ?_
      obtain ⟨q21, hq21, hf⟩ := bd_s hf
      refine k_eSi (As := [.int x3]) (rest := []) hx hb hml hown hts hK hA hZ hl.1 hP hD hS (c_X13_isFloor  hq21) (gSt mlX13_290 stX13_isFloor inX13 coX13_isFloor) rfl qnX13_isFloor rfl rfl ⟨Nat.le_of_ble_eq_true rfl, Nat.le_of_ble_eq_true rfl⟩ rfl rfl (Nat.le_of_ble_eq_true rfl) ⟨Nat.zero_le _, Nat.zero_le _⟩ dX13_least_20 (fun H locs hP hD hS => ?_)
      refine lv_if_ne (tgt := 29) hx hb dX13_least_23 (by decide) (fun hc => ?_) (fun hc => ?_)
      · have hf := ite_f hf hc
        refine lv_aload_n hx hb dX13_least_29 rfl (lv_at hl 0 rfl) ?_
        refine va_get (D := D) (ci := 13) (v := .ref (a0 10)) (C := RX13) (T := TX13) (N := 87) hx hb hts hiX13 hown hK hP 0 rfl rfl 10 (by decide) (hts _ flX13_99) (fun _ h9 => h9) rfl dX13_least_30 ?_
        refine lv_iload_n hx hb dX13_least_33 rfl (lv_at hl 1 rfl) ?_
        refine va_iald (f := r0 10) hx hb hK hP 2 0 rfl rfl (ck_in hf) dX13_least_34 ?_
        have hf := ck_2 hf
        refine lv_iconst (v := 3) hx hb dX13_least_35 (by decide) ?_
        refine lv_icmp_eq (tgt := 42) hx hb dX13_least_36 (by decide) (fun hc => ?_) (fun hc => ?_)
        · have hf := ite_t hf hc
          refine lv_aload_n hx hb dX13_least_42 rfl (lv_at hl 0 rfl) ?_
          refine lv_iload_n hx hb dX13_least_43 rfl (lv_at hl 2 rfl) ?_
          obtain ⟨q22, hq22, hf⟩ := bd_s hf
          refine k_sVv (ws2 := W13 cs h0 a0 q22.1 q22.2 l0) (As := [.int x2]) (rest := []) hx hb hml hown hts hK hA hZ hl.1 hP hD hS (c_X13_findNeeds (h0 := h0) (a0 := a0) hq22) (gVt mlX13_356 imX13_findNeeds seX13_findNeeds inX13 coX13_findNeeds) rfl qnX13_findNeeds rfl rfl ⟨Nat.le_of_ble_eq_true rfl, Nat.le_of_ble_eq_true rfl⟩ 0 13 rfl rfl rfl rfl rfl (Nat.le_of_ble_eq_true rfl) ⟨Nat.zero_le _, Nat.zero_le _⟩ dX13_least_44 (fun H locs hP hD hS => ?_)
          refine lv_iconst (v := 0) hx hb dX13_least_47 (by decide) ?_
          refine lv_istore (lv' := [(4, .int 0), (0, .ref h0), (1, .int x1), (2, .int x2), (3, .int x3)]) hx hb dX13_least_48 hl (by decide) rfl (fun ls hl => ?_)
          exact w_X13_least_50 C  2000000 _ _ _ _ _ _ _ _ hf hP hD hS (lv_sub hl [1, 2, 4, 0] rfl)
        · have hf := ite_f hf hc
          refine lv_bipush (v := (-4)) hx hb dX13_least_39 (by decide) ?_
          obtain rfl := Option.some.inj hf
          exact k_iret hx hb hr hlocks hK hP hD hS dX13_least_41
      · have hf := ite_t hf hc
        refine lv_bipush (v := (-2)) hx hb dX13_least_26 (by decide) ?_
        obtain rfl := Option.some.inj hf
        exact k_iret hx hb hr hlocks hK hP hD hS dX13_least_28
/-! MarbleFloorModel.lays(III)Z -/
abbrev wlX13_lays : List Cond := Cond.code yX13_lays cX13_lays 5 (some .boolean) :: tbG
abbrev rmX13_lays : Room := { frames := 2, cells := 0, slots := 0, locals := 44 }
theorem qnX13_lays : yX13_lays.cls = RX13 ∧ yX13_lays.cls ≠ "java/lang/invoke/MethodHandle" ∧ yX13_lays.cls ≠ "java/lang/invoke/VarHandle" ∧ (parseMethodDescriptor yX13_lays.desc).map (fun d => d.parameters.length) = some 3 := by decide +kernel
def f_X13_lays_52 (l0 : Nat → Nat → Int64)  : Nat → (Nat → Int32) → (Nat → Nat → Int32) → Int32 → Int32 → Int32 → Int32 → Option (Int32 × (Nat → Int32) × (Nat → Nat → Int32))
  | 0, _, _, _, _, _, _ => none
  | n + 1, i0, r0, x1, x2, x3, x4 => if x3 ≤ x4 then (some (1, i0, r0)) else (ck (inb x4 256) (bd (f_X13_done x1 (-1) x2 (r0 15 x4.toNatClampNeg)) (fun q2 => ck (inb x4 256) (f_X13_lays_52 l0 n i0 (va_up r0 15 (upd (r0 15) x4.toNatClampNeg q2)) x1 x2 x3 (x4 + 1)))))
set_option maxRecDepth 100000 in
set_option maxHeartbeats 4000000 in
theorem w_X13_lays_52 {p : Program} {l : Launch} {e : Env} {s : State} {m : MethodId} {args : Array Value} {below : List Frame} {meth : Method} {c : Code} {A : Nat → Prop} {D : va_G} {cs zs : Nat → Nat} {h0 : Nat} {a0 : Nat → Nat} {l0 : Nat → Nat → Int64} {q : Int32 × (Nat → Int32) × (Nat → Nat → Int32)} (C : Cx p s m args meth c A D cs zs cX13_lays 5 (some .boolean) RX13)  : ∀ (n : Nat), ∀ (i0 : Nat → Int32) (r0 : Nat → Nat → Int32) (x1 : Int32) (x2 : Int32) (x3 : Int32) (x4 : Int32) (H : Heap) (locs : List Loc) (ls : Array Slot), f_X13_lays_52 l0 n i0 r0 x1 x2 x3 x4 = some q → va_P D vwCl (W13 cs h0 a0 i0 r0 l0) H → va_D A (W13 cs h0 a0 i0 r0 l0) → va_S A s.heap H locs → lv_has ls 5 [(0, .ref h0), (1, .int x1), (2, .int x2), (3, .int x3), (4, .int x4)] → W p l e rmX13_lays s m args below meth c H locs 0 0 (MQ below (Qi D cs A q.1 (W13 cs h0 a0 q.2.1 q.2.2 l0)) args s 0 0 A) (F0 m 52 ls []) := by
  obtain ⟨hx, hb, hr, hml, hown, hts, hK, hA, hlocks, hZ⟩ := id C
  intro n
  induction n with
  | zero =>
    intro i0 r0 x1 x2 x3 x4 H locs ls hf
    rw [f_X13_lays_52] at hf
    cases hf
  | succ n ih =>
    intro i0 r0 x1 x2 x3 x4 H locs ls hf hP hD hS hl
    rw [f_X13_lays_52] at hf
    refine lv_iload hx hb dX13_lays_52 (lv_at hl 4 rfl) ?_
    refine lv_iload_n hx hb dX13_lays_54 rfl (lv_at hl 3 rfl) ?_
    refine lv_icmp_ge (tgt := 84) hx hb dX13_lays_55 (by decide) (fun hc => ?_) (fun hc => ?_)
    · have hf := ite_t hf hc
      refine lv_iconst (v := 1) hx hb dX13_lays_84 (by decide) ?_
      obtain rfl := Option.some.inj hf
      exact k_zret (r := 1) hx hb hr hlocks rfl hK hP hD hS dX13_lays_85
    · have hf := ite_f hf hc
      refine lv_aload_n hx hb dX13_lays_58 rfl (lv_at hl 0 rfl) ?_
      refine va_get (D := D) (ci := 13) (v := .ref (a0 15)) (C := RX13) (T := TX13) (N := 87) hx hb hts hiX13 hown hK hP 0 rfl rfl 15 (by decide) (hts _ flX13_138) (fun _ h9 => h9) rfl dX13_lays_59 ?_
      refine lv_iload hx hb dX13_lays_62 (lv_at hl 4 rfl) ?_
      refine lv_iload_n hx hb dX13_lays_64 rfl (lv_at hl 1 rfl) ?_
      refine lv_iconst (v := (-1)) hx hb dX13_lays_65 (by decide) ?_
      refine lv_iload_n hx hb dX13_lays_66 rfl (lv_at hl 2 rfl) ?_
      refine lv_aload_n hx hb dX13_lays_67 rfl (lv_at hl 0 rfl) ?_
      refine va_get (D := D) (ci := 13) (v := .ref (a0 15)) (C := RX13) (T := TX13) (N := 87) hx hb hts hiX13 hown hK hP 0 rfl rfl 15 (by decide) (hts _ flX13_138) (fun _ h9 => h9) rfl dX13_lays_68 ?_
      refine lv_iload hx hb dX13_lays_71 (lv_at hl 4 rfl) ?_
      refine va_iald (f := r0 15) hx hb hK hP 7 0 rfl rfl (ck_in hf) dX13_lays_73 ?_
      have hf := ck_2 hf
      obtain ⟨q2, hq2, hf⟩ := bd_s hf
      refine k_eSi (As := [.int x1, .int (-1), .int x2, .int (r0 15 x4.toNatClampNeg)]) (rest := [.int x4, .ref (a0 15)]) hx hb hml hown hts hK hA hZ hl.1 hP hD hS (c_X13_done  hq2) (gSt mlX13_306 stX13_done inX13 coX13_done) rfl qnX13_done rfl rfl ⟨Nat.le_of_ble_eq_true rfl, Nat.le_of_ble_eq_true rfl⟩ rfl rfl (Nat.le_of_ble_eq_true rfl) ⟨Nat.zero_le _, Nat.zero_le _⟩ dX13_lays_74 (fun H locs hP hD hS => ?_)
      refine va_iast (f := r0 15) hx hb hK hP hD hS 7 0 rfl rfl (ck_in hf) dX13_lays_77 (fun H locs hP hD hS => ?_)
      have hf := ck_2 hf
      obtain ⟨hP, hD⟩ := st13_15 hP hD
      refine lv_iinc (v := x4 + 1) (lv' := [(4, .int (x4 + 1)), (0, .ref h0), (1, .int x1), (2, .int x2), (3, .int x3)]) hx hb dX13_lays_78 hl (k := 4) rfl rfl (by decide) rfl (fun ls hl => ?_)
      refine lv_goto (tgt := 52) hx hb dX13_lays_81 (by decide) ?_
      exact ih _ _ _ _ _ _ _ _ _ hf hP hD hS (lv_sub hl [1, 2, 3, 4, 0] rfl)
def f_X13_lays_39 (l0 : Nat → Nat → Int64)  (i0 : Nat → Int32) (r0 : Nat → Nat → Int32) (x1 : Int32) (x2 : Int32) (x3 : Int32) : Option (Int32 × (Nat → Int32) × (Nat → Nat → Int32)) := f_X13_lays_52 l0 2000000 (upd i0 27 ((i0 27) + 1)) r0 x1 x2 x3 0
set_option maxRecDepth 100000 in
set_option maxHeartbeats 4000000 in
theorem w_X13_lays_39 {p : Program} {l : Launch} {e : Env} {s : State} {m : MethodId} {args : Array Value} {below : List Frame} {meth : Method} {c : Code} {A : Nat → Prop} {D : va_G} {cs zs : Nat → Nat} {h0 : Nat} {a0 : Nat → Nat} {l0 : Nat → Nat → Int64} {q : Int32 × (Nat → Int32) × (Nat → Nat → Int32)} (C : Cx p s m args meth c A D cs zs cX13_lays 5 (some .boolean) RX13)  : ∀ (i0 : Nat → Int32) (r0 : Nat → Nat → Int32) (x1 : Int32) (x2 : Int32) (x3 : Int32) (H : Heap) (locs : List Loc) (ls : Array Slot), f_X13_lays_39 l0 i0 r0 x1 x2 x3 = some q → va_P D vwCl (W13 cs h0 a0 i0 r0 l0) H → va_D A (W13 cs h0 a0 i0 r0 l0) → va_S A s.heap H locs → lv_has ls 5 [(0, .ref h0), (1, .int x1), (2, .int x2), (3, .int x3)] → W p l e rmX13_lays s m args below meth c H locs 0 0 (MQ below (Qi D cs A q.1 (W13 cs h0 a0 q.2.1 q.2.2 l0)) args s 0 0 A) (F0 m 39 ls []) := by
  obtain ⟨hx, hb, hr, hml, hown, hts, hK, hA, hlocks, hZ⟩ := id C
  intro i0 r0 x1 x2 x3 H locs ls hf hP hD hS hl
  rw [f_X13_lays_39] at hf
  refine lv_aload_n hx hb dX13_lays_39 rfl (lv_at hl 0 rfl) ?_
  refine lv_dup hx hb dX13_lays_40 rfl ?_
  refine va_get (D := D) (ci := 13) (v := .int (i0 27)) (C := RX13) (T := TX13) (N := 87) hx hb hts hiX13 hown hK hP 0 rfl rfl 27 (by decide) (hts _ flX13_359) (fun _ h9 => h9) rfl dX13_lays_41 ?_
  refine lv_iconst (v := 1) hx hb dX13_lays_44 (by decide) ?_
  refine lv_iadd hx hb dX13_lays_45 ?_
  refine va_put (D := D) (ci := 13) (v := .int ((i0 27) + 1)) (ty := .int) (C := RX13) (T := TX13) (N := 87) hx hb hts hiX13 tyX13 tyX13_ok nmX13 hown hK hP hD hS 0 rfl rfl 27 (by decide) (hts _ flX13_359) (fun _ h9 => h9) rfl (tyX13_ok 27 (by decide)) rfl rfl (Nat.le_of_ble_eq_true rfl) dX13_lays_46 (fun H locs hP hD hS => ?_)
  obtain ⟨hP, hD⟩ := st13_27 hP hD
  refine lv_iconst (v := 0) hx hb dX13_lays_49 (by decide) ?_
  refine lv_istore (lv' := [(4, .int 0), (0, .ref h0), (1, .int x1), (2, .int x2), (3, .int x3)]) hx hb dX13_lays_50 hl (by decide) rfl (fun ls hl => ?_)
  exact w_X13_lays_52 C  2000000 _ _ _ _ _ _ _ _ _ hf hP hD hS (lv_sub hl [1, 2, 3, 4, 0] rfl)
def f_X13_lays  (i0 : Nat → Int32) (r0 : Nat → Nat → Int32) (l0 : Nat → Nat → Int64) (x1 : Int32) (x2 : Int32) (x3 : Int32) : Option (Int32 × (Nat → Int32) × (Nat → Nat → Int32)) := if (i0 27) = 40 then (some (0, i0, r0)) else (ck (inb (279 - (i0 27)) 320) (ck (inb (279 - (i0 27)) 320) (f_X13_lays_39 l0 i0 (va_up (va_up r0 12 (upd (r0 12) (279 - (i0 27)).toNatClampNeg x1)) 14 (upd (r0 14) (279 - (i0 27)).toNatClampNeg x2)) x1 x2 x3)))
set_option maxRecDepth 100000 in
set_option maxHeartbeats 4000000 in
theorem c_X13_lays {l : Launch} {D : va_G} {cs zs : Nat → Nat} {h0 : Nat} {a0 : Nat → Nat} {i0 : Nat → Int32} {r0 : Nat → Nat → Int32} {l0 : Nat → Nat → Int64} {x1 : Int32} {x2 : Int32} {x3 : Int32} {q : Int32 × (Nat → Int32) × (Nat → Nat → Int32)} (hf : f_X13_lays i0 r0 l0 x1 x2 x3 = some q) : Mi l yX13_lays wlX13_lays rmX13_lays D cs zs [.ref h0, .int x1, .int x2, .int x3] (W13 cs h0 a0 i0 r0 l0) q.1 (W13 cs h0 a0 q.2.1 q.2.2 l0) := by
  refine Mi.of RX13 (by decide) rfl (Nat.le_of_ble_eq_true rfl) (fun p e s m below meth c A C hP hD hS ls hl => ?_)
  generalize ([.ref h0, .int x1, .int x2, .int x3] : List Value).toArray = args at C ⊢
  obtain ⟨hx, hb, hr, hml, hown, hts, hK, hA, hlocks, hZ⟩ := id C
  have hl : lv_has ls 5 [(0, .ref h0), (1, .int x1), (2, .int x2), (3, .int x3)] := hl
  rw [f_X13_lays] at hf
  refine lv_aload_n hx hb dX13_lays_0 rfl (lv_at hl 0 rfl) ?_
  refine va_get (D := D) (ci := 13) (v := .int (i0 27)) (C := RX13) (T := TX13) (N := 87) hx hb hts hiX13 hown hK hP 0 rfl rfl 27 (by decide) (hts _ flX13_359) (fun _ h9 => h9) rfl dX13_lays_1 ?_
  refine lv_bipush (v := 40) hx hb dX13_lays_4 (by decide) ?_
  refine lv_icmp_ne (tgt := 11) hx hb dX13_lays_6 (by decide) (fun hc => ?_) (fun hc => ?_)
  · have hf := ite_f hf hc
    refine lv_aload_n hx hb dX13_lays_11 rfl (lv_at hl 0 rfl) ?_
    refine va_get (D := D) (ci := 13) (v := .ref (a0 12)) (C := RX13) (T := TX13) (N := 87) hx hb hts hiX13 hown hK hP 0 rfl rfl 12 (by decide) (hts _ flX13_90) (fun _ h9 => h9) rfl dX13_lays_12 ?_
    refine lv_sipush (v := 279) hx hb dX13_lays_15 (by decide) ?_
    refine lv_aload_n hx hb dX13_lays_18 rfl (lv_at hl 0 rfl) ?_
    refine va_get (D := D) (ci := 13) (v := .int (i0 27)) (C := RX13) (T := TX13) (N := 87) hx hb hts hiX13 hown hK hP 0 rfl rfl 27 (by decide) (hts _ flX13_359) (fun _ h9 => h9) rfl dX13_lays_19 ?_
    refine lv_isub hx hb dX13_lays_22 ?_
    refine lv_iload_n hx hb dX13_lays_23 rfl (lv_at hl 1 rfl) ?_
    refine va_iast (f := r0 12) hx hb hK hP hD hS 4 0 rfl rfl (ck_in hf) dX13_lays_24 (fun H locs hP hD hS => ?_)
    have hf := ck_2 hf
    obtain ⟨hP, hD⟩ := st13_12 hP hD
    refine lv_aload_n hx hb dX13_lays_25 rfl (lv_at hl 0 rfl) ?_
    refine va_get (D := D) (ci := 13) (v := .ref (a0 14)) (C := RX13) (T := TX13) (N := 87) hx hb hts hiX13 hown hK hP 0 rfl rfl 14 (by decide) (hts _ flX13_96) (fun _ h9 => h9) rfl dX13_lays_26 ?_
    refine lv_sipush (v := 279) hx hb dX13_lays_29 (by decide) ?_
    refine lv_aload_n hx hb dX13_lays_32 rfl (lv_at hl 0 rfl) ?_
    refine va_get (D := D) (ci := 13) (v := .int (i0 27)) (C := RX13) (T := TX13) (N := 87) hx hb hts hiX13 hown hK hP 0 rfl rfl 27 (by decide) (hts _ flX13_359) (fun _ h9 => h9) rfl dX13_lays_33 ?_
    refine lv_isub hx hb dX13_lays_36 ?_
    refine lv_iload_n hx hb dX13_lays_37 rfl (lv_at hl 2 rfl) ?_
    refine va_iast (f := r0 14) hx hb hK hP hD hS 6 0 rfl rfl (ck_in hf) dX13_lays_38 (fun H locs hP hD hS => ?_)
    have hf := ck_2 hf
    obtain ⟨hP, hD⟩ := st13_14 hP hD
    exact w_X13_lays_39 C  _ _ _ _ _ _ _ _ hf hP hD hS (lv_sub hl [0, 1, 2, 3] rfl)
  · have hf := ite_t hf hc
    refine lv_iconst (v := 0) hx hb dX13_lays_9 (by decide) ?_
    obtain rfl := Option.some.inj hf
    exact k_zret (r := 0) hx hb hr hlocks rfl hK hP hD hS dX13_lays_10
/-! MarbleFloorModel.lay(II)I -/
abbrev wlX13_lay : List Cond := Cond.code yX13_lay cX13_lay 6 (some .int) :: tbG
abbrev rmX13_lay : Room := { frames := 4, cells := 0, slots := 0, locals := 94 }
theorem qnX13_lay : yX13_lay.cls = RX13 ∧ yX13_lay.cls ≠ "java/lang/invoke/MethodHandle" ∧ yX13_lay.cls ≠ "java/lang/invoke/VarHandle" ∧ (parseMethodDescriptor yX13_lay.desc).map (fun d => d.parameters.length) = some 2 := by decide +kernel
def f_X13_lay_105 (l0 : Nat → Nat → Int64) (K39 : (Nat → Int32) → (Nat → Nat → Int32) → Int32 → Int32 → Int32 → Int32 → Option (Int32 × (Nat → Int32) × (Nat → Nat → Int32))) (K48 : (Nat → Int32) → (Nat → Nat → Int32) → Int32 → Int32 → Int32 → Int32 → Int32 → Option (Int32 × (Nat → Int32) × (Nat → Nat → Int32))) (i0 : Nat → Int32) (r0 : Nat → Nat → Int32) (x1 : Int32) (x2 : Int32) (x3 : Int32) (x4 : Int32) (x5 : Int32) : Option (Int32 × (Nat → Int32) × (Nat → Nat → Int32)) := K48 i0 r0 x1 x2 x3 x4 (x5 + 1)
set_option maxRecDepth 100000 in
set_option maxHeartbeats 4000000 in
theorem w_X13_lay_105 {p : Program} {l : Launch} {e : Env} {s : State} {m : MethodId} {args : Array Value} {below : List Frame} {meth : Method} {c : Code} {A : Nat → Prop} {D : va_G} {cs zs : Nat → Nat} {h0 : Nat} {a0 : Nat → Nat} {l0 : Nat → Nat → Int64} {q : Int32 × (Nat → Int32) × (Nat → Nat → Int32)} (C : Cx p s m args meth c A D cs zs cX13_lay 6 (some .int) RX13) (K39 : (Nat → Int32) → (Nat → Nat → Int32) → Int32 → Int32 → Int32 → Int32 → Option (Int32 × (Nat → Int32) × (Nat → Nat → Int32))) (hK39 : ∀ (i0 : Nat → Int32) (r0 : Nat → Nat → Int32) (x1 : Int32) (x2 : Int32) (x3 : Int32) (x4 : Int32) (H : Heap) (locs : List Loc) (ls : Array Slot), K39 i0 r0 x1 x2 x3 x4 = some q → va_P D vwCl (W13 cs h0 a0 i0 r0 l0) H → va_D A (W13 cs h0 a0 i0 r0 l0) → va_S A s.heap H locs → lv_has ls 6 [(0, .ref h0), (1, .int x1), (2, .int x2), (3, .int x3), (4, .int x4)] → W p l e rmX13_lay s m args below meth c H locs 0 0 (MQ below (Qi D cs A q.1 (W13 cs h0 a0 q.2.1 q.2.2 l0)) args s 0 0 A) (F0 m 39 ls [])) (K48 : (Nat → Int32) → (Nat → Nat → Int32) → Int32 → Int32 → Int32 → Int32 → Int32 → Option (Int32 × (Nat → Int32) × (Nat → Nat → Int32))) (hK48 : ∀ (i0 : Nat → Int32) (r0 : Nat → Nat → Int32) (x1 : Int32) (x2 : Int32) (x3 : Int32) (x4 : Int32) (x5 : Int32) (H : Heap) (locs : List Loc) (ls : Array Slot), K48 i0 r0 x1 x2 x3 x4 x5 = some q → va_P D vwCl (W13 cs h0 a0 i0 r0 l0) H → va_D A (W13 cs h0 a0 i0 r0 l0) → va_S A s.heap H locs → lv_has ls 6 [(0, .ref h0), (1, .int x1), (2, .int x2), (3, .int x3), (4, .int x4), (5, .int x5)] → W p l e rmX13_lay s m args below meth c H locs 0 0 (MQ below (Qi D cs A q.1 (W13 cs h0 a0 q.2.1 q.2.2 l0)) args s 0 0 A) (F0 m 48 ls [])) : ∀ (i0 : Nat → Int32) (r0 : Nat → Nat → Int32) (x1 : Int32) (x2 : Int32) (x3 : Int32) (x4 : Int32) (x5 : Int32) (H : Heap) (locs : List Loc) (ls : Array Slot), f_X13_lay_105 l0 K39 K48 i0 r0 x1 x2 x3 x4 x5 = some q → va_P D vwCl (W13 cs h0 a0 i0 r0 l0) H → va_D A (W13 cs h0 a0 i0 r0 l0) → va_S A s.heap H locs → lv_has ls 6 [(0, .ref h0), (1, .int x1), (2, .int x2), (3, .int x3), (4, .int x4), (5, .int x5)] → W p l e rmX13_lay s m args below meth c H locs 0 0 (MQ below (Qi D cs A q.1 (W13 cs h0 a0 q.2.1 q.2.2 l0)) args s 0 0 A) (F0 m 105 ls []) := by
  obtain ⟨hx, hb, hr, hml, hown, hts, hK, hA, hlocks, hZ⟩ := id C
  intro i0 r0 x1 x2 x3 x4 x5 H locs ls hf hP hD hS hl
  rw [f_X13_lay_105] at hf
  refine lv_iinc (v := x5 + 1) (lv' := [(5, .int (x5 + 1)), (0, .ref h0), (1, .int x1), (2, .int x2), (3, .int x3), (4, .int x4)]) hx hb dX13_lay_105 hl (k := 5) rfl rfl (by decide) rfl (fun ls hl => ?_)
  refine lv_goto (tgt := 48) hx hb dX13_lay_108 (by decide) ?_
  exact hK48 _ _ _ _ _ _ _ _ _ _ hf hP hD hS (lv_sub hl [1, 2, 3, 4, 5, 0] rfl)
def f_X13_lay_178 (l0 : Nat → Nat → Int64) (K39 : (Nat → Int32) → (Nat → Nat → Int32) → Int32 → Int32 → Int32 → Int32 → Option (Int32 × (Nat → Int32) × (Nat → Nat → Int32))) (K114 : (Nat → Int32) → (Nat → Nat → Int32) → Int32 → Int32 → Int32 → Int32 → Int32 → Option (Int32 × (Nat → Int32) × (Nat → Nat → Int32))) (i0 : Nat → Int32) (r0 : Nat → Nat → Int32) (x1 : Int32) (x2 : Int32) (x3 : Int32) (x4 : Int32) (x5 : Int32) : Option (Int32 × (Nat → Int32) × (Nat → Nat → Int32)) := K114 i0 r0 x1 x2 x3 x4 (x5 + 1)
set_option maxRecDepth 100000 in
set_option maxHeartbeats 4000000 in
theorem w_X13_lay_178 {p : Program} {l : Launch} {e : Env} {s : State} {m : MethodId} {args : Array Value} {below : List Frame} {meth : Method} {c : Code} {A : Nat → Prop} {D : va_G} {cs zs : Nat → Nat} {h0 : Nat} {a0 : Nat → Nat} {l0 : Nat → Nat → Int64} {q : Int32 × (Nat → Int32) × (Nat → Nat → Int32)} (C : Cx p s m args meth c A D cs zs cX13_lay 6 (some .int) RX13) (K39 : (Nat → Int32) → (Nat → Nat → Int32) → Int32 → Int32 → Int32 → Int32 → Option (Int32 × (Nat → Int32) × (Nat → Nat → Int32))) (hK39 : ∀ (i0 : Nat → Int32) (r0 : Nat → Nat → Int32) (x1 : Int32) (x2 : Int32) (x3 : Int32) (x4 : Int32) (H : Heap) (locs : List Loc) (ls : Array Slot), K39 i0 r0 x1 x2 x3 x4 = some q → va_P D vwCl (W13 cs h0 a0 i0 r0 l0) H → va_D A (W13 cs h0 a0 i0 r0 l0) → va_S A s.heap H locs → lv_has ls 6 [(0, .ref h0), (1, .int x1), (2, .int x2), (3, .int x3), (4, .int x4)] → W p l e rmX13_lay s m args below meth c H locs 0 0 (MQ below (Qi D cs A q.1 (W13 cs h0 a0 q.2.1 q.2.2 l0)) args s 0 0 A) (F0 m 39 ls [])) (K114 : (Nat → Int32) → (Nat → Nat → Int32) → Int32 → Int32 → Int32 → Int32 → Int32 → Option (Int32 × (Nat → Int32) × (Nat → Nat → Int32))) (hK114 : ∀ (i0 : Nat → Int32) (r0 : Nat → Nat → Int32) (x1 : Int32) (x2 : Int32) (x3 : Int32) (x4 : Int32) (x5 : Int32) (H : Heap) (locs : List Loc) (ls : Array Slot), K114 i0 r0 x1 x2 x3 x4 x5 = some q → va_P D vwCl (W13 cs h0 a0 i0 r0 l0) H → va_D A (W13 cs h0 a0 i0 r0 l0) → va_S A s.heap H locs → lv_has ls 6 [(0, .ref h0), (1, .int x1), (2, .int x2), (3, .int x3), (4, .int x4), (5, .int x5)] → W p l e rmX13_lay s m args below meth c H locs 0 0 (MQ below (Qi D cs A q.1 (W13 cs h0 a0 q.2.1 q.2.2 l0)) args s 0 0 A) (F0 m 114 ls [])) : ∀ (i0 : Nat → Int32) (r0 : Nat → Nat → Int32) (x1 : Int32) (x2 : Int32) (x3 : Int32) (x4 : Int32) (x5 : Int32) (H : Heap) (locs : List Loc) (ls : Array Slot), f_X13_lay_178 l0 K39 K114 i0 r0 x1 x2 x3 x4 x5 = some q → va_P D vwCl (W13 cs h0 a0 i0 r0 l0) H → va_D A (W13 cs h0 a0 i0 r0 l0) → va_S A s.heap H locs → lv_has ls 6 [(0, .ref h0), (1, .int x1), (2, .int x2), (3, .int x3), (4, .int x4), (5, .int x5)] → W p l e rmX13_lay s m args below meth c H locs 0 0 (MQ below (Qi D cs A q.1 (W13 cs h0 a0 q.2.1 q.2.2 l0)) args s 0 0 A) (F0 m 178 ls []) := by
  obtain ⟨hx, hb, hr, hml, hown, hts, hK, hA, hlocks, hZ⟩ := id C
  intro i0 r0 x1 x2 x3 x4 x5 H locs ls hf hP hD hS hl
  rw [f_X13_lay_178] at hf
  refine lv_iinc (v := x5 + 1) (lv' := [(5, .int (x5 + 1)), (0, .ref h0), (1, .int x1), (2, .int x2), (3, .int x3), (4, .int x4)]) hx hb dX13_lay_178 hl (k := 5) rfl rfl (by decide) rfl (fun ls hl => ?_)
  refine lv_goto (tgt := 114) hx hb dX13_lay_181 (by decide) ?_
  exact hK114 _ _ _ _ _ _ _ _ _ _ hf hP hD hS (lv_sub hl [1, 2, 3, 4, 5, 0] rfl)
def f_X13_lay_114 (l0 : Nat → Nat → Int64) (K39 : (Nat → Int32) → (Nat → Nat → Int32) → Int32 → Int32 → Int32 → Int32 → Option (Int32 × (Nat → Int32) × (Nat → Nat → Int32))) : Nat → (Nat → Int32) → (Nat → Nat → Int32) → Int32 → Int32 → Int32 → Int32 → Int32 → Option (Int32 × (Nat → Int32) × (Nat → Nat → Int32))
  | 0, _, _, _, _, _, _, _ => none
  | n + 1, i0, r0, x1, x2, x3, x4, x5 => ck (inb x1 8) (if (r0 10 x1.toNatClampNeg) ≤ x5 then (K39 i0 r0 x1 x2 x3 (x4 + 1)) else (bd (f_X13_bit x4 x5) (fun q10 => if q10 = 0 then (ck (inb x4 256) (bd (f_X13_bit (r0 15 x4.toNatClampNeg) x5) (fun q11 => if q11 = 1 then (ck (inb x4 256) (bd (f_X13_lays i0 r0 l0 x5 ((r0 15 x4.toNatClampNeg) &&& (((1 : Int32) <<< (x5 &&& 31)) ^^^ (-1))) x3) (fun q12 => if q12.1 = 0 then (some ((-3), q12.2.1, q12.2.2)) else (f_X13_lay_178 l0 K39 (f_X13_lay_114 l0 K39 n) q12.2.1 q12.2.2 x1 x2 x3 x4 x5)))) else (f_X13_lay_178 l0 K39 (f_X13_lay_114 l0 K39 n) i0 r0 x1 x2 x3 x4 x5)))) else (f_X13_lay_178 l0 K39 (f_X13_lay_114 l0 K39 n) i0 r0 x1 x2 x3 x4 x5))))
set_option maxRecDepth 100000 in
set_option maxHeartbeats 4000000 in
theorem w_X13_lay_114 {p : Program} {l : Launch} {e : Env} {s : State} {m : MethodId} {args : Array Value} {below : List Frame} {meth : Method} {c : Code} {A : Nat → Prop} {D : va_G} {cs zs : Nat → Nat} {h0 : Nat} {a0 : Nat → Nat} {l0 : Nat → Nat → Int64} {q : Int32 × (Nat → Int32) × (Nat → Nat → Int32)} (C : Cx p s m args meth c A D cs zs cX13_lay 6 (some .int) RX13) (K39 : (Nat → Int32) → (Nat → Nat → Int32) → Int32 → Int32 → Int32 → Int32 → Option (Int32 × (Nat → Int32) × (Nat → Nat → Int32))) (hK39 : ∀ (i0 : Nat → Int32) (r0 : Nat → Nat → Int32) (x1 : Int32) (x2 : Int32) (x3 : Int32) (x4 : Int32) (H : Heap) (locs : List Loc) (ls : Array Slot), K39 i0 r0 x1 x2 x3 x4 = some q → va_P D vwCl (W13 cs h0 a0 i0 r0 l0) H → va_D A (W13 cs h0 a0 i0 r0 l0) → va_S A s.heap H locs → lv_has ls 6 [(0, .ref h0), (1, .int x1), (2, .int x2), (3, .int x3), (4, .int x4)] → W p l e rmX13_lay s m args below meth c H locs 0 0 (MQ below (Qi D cs A q.1 (W13 cs h0 a0 q.2.1 q.2.2 l0)) args s 0 0 A) (F0 m 39 ls [])) : ∀ (n : Nat), ∀ (i0 : Nat → Int32) (r0 : Nat → Nat → Int32) (x1 : Int32) (x2 : Int32) (x3 : Int32) (x4 : Int32) (x5 : Int32) (H : Heap) (locs : List Loc) (ls : Array Slot), f_X13_lay_114 l0 K39 n i0 r0 x1 x2 x3 x4 x5 = some q → va_P D vwCl (W13 cs h0 a0 i0 r0 l0) H → va_D A (W13 cs h0 a0 i0 r0 l0) → va_S A s.heap H locs → lv_has ls 6 [(0, .ref h0), (1, .int x1), (2, .int x2), (3, .int x3), (4, .int x4), (5, .int x5)] → W p l e rmX13_lay s m args below meth c H locs 0 0 (MQ below (Qi D cs A q.1 (W13 cs h0 a0 q.2.1 q.2.2 l0)) args s 0 0 A) (F0 m 114 ls []) := by
  obtain ⟨hx, hb, hr, hml, hown, hts, hK, hA, hlocks, hZ⟩ := id C
  intro n
  induction n with
  | zero =>
    intro i0 r0 x1 x2 x3 x4 x5 H locs ls hf
    rw [f_X13_lay_114] at hf
    cases hf
  | succ n ih =>
    intro i0 r0 x1 x2 x3 x4 x5 H locs ls hf hP hD hS hl
    rw [f_X13_lay_114] at hf
    refine lv_iload hx hb dX13_lay_114 (lv_at hl 5 rfl) ?_
    refine lv_aload_n hx hb dX13_lay_116 rfl (lv_at hl 0 rfl) ?_
    refine va_get (D := D) (ci := 13) (v := .ref (a0 10)) (C := RX13) (T := TX13) (N := 87) hx hb hts hiX13 hown hK hP 0 rfl rfl 10 (by decide) (hts _ flX13_99) (fun _ h9 => h9) rfl dX13_lay_117 ?_
    refine lv_iload_n hx hb dX13_lay_120 rfl (lv_at hl 1 rfl) ?_
    refine va_iald (f := r0 10) hx hb hK hP 2 0 rfl rfl (ck_in hf) dX13_lay_121 ?_
    have hf := ck_2 hf
    refine lv_icmp_ge (tgt := 184) hx hb dX13_lay_122 (by decide) (fun hc => ?_) (fun hc => ?_)
    · have hf := ite_t hf hc
      refine lv_iinc (v := x4 + 1) (lv' := [(4, .int (x4 + 1)), (0, .ref h0), (1, .int x1), (2, .int x2), (3, .int x3), (5, .int x5)]) hx hb dX13_lay_184 hl (k := 4) rfl rfl (by decide) rfl (fun ls hl => ?_)
      refine lv_goto (tgt := 39) hx hb dX13_lay_187 (by decide) ?_
      exact hK39 _ _ _ _ _ _ _ _ _ hf hP hD hS (lv_sub hl [1, 2, 3, 4, 0] rfl)
    · have hf := ite_f hf hc
      refine lv_iload hx hb dX13_lay_125 (lv_at hl 4 rfl) ?_
      refine lv_iload hx hb dX13_lay_127 (lv_at hl 5 rfl) ?_
      obtain ⟨q10, hq10, hf⟩ := bd_s hf
      refine k_eSi (As := [.int x4, .int x5]) (rest := []) hx hb hml hown hts hK hA hZ hl.1 hP hD hS (c_X13_bit  hq10) (gSt mlX13_303 stX13_bit inX13 coX13_bit) rfl qnX13_bit rfl rfl ⟨Nat.le_of_ble_eq_true rfl, Nat.le_of_ble_eq_true rfl⟩ rfl rfl (Nat.le_of_ble_eq_true rfl) ⟨Nat.zero_le _, Nat.zero_le _⟩ dX13_lay_129 (fun H locs hP hD hS => ?_)
      refine lv_if_ne (tgt := 178) hx hb dX13_lay_132 (by decide) (fun hc => ?_) (fun hc => ?_)
      · have hf := ite_f hf hc
        exact w_X13_lay_178 C _ (hK39) _ (ih) _ _ _ _ _ _ _ _ _ _ hf hP hD hS (lv_sub hl [0, 1, 2, 3, 4, 5] rfl)
      · have hf := ite_t hf hc
        refine lv_aload_n hx hb dX13_lay_135 rfl (lv_at hl 0 rfl) ?_
        refine va_get (D := D) (ci := 13) (v := .ref (a0 15)) (C := RX13) (T := TX13) (N := 87) hx hb hts hiX13 hown hK hP 0 rfl rfl 15 (by decide) (hts _ flX13_138) (fun _ h9 => h9) rfl dX13_lay_136 ?_
        refine lv_iload hx hb dX13_lay_139 (lv_at hl 4 rfl) ?_
        refine va_iald (f := r0 15) hx hb hK hP 7 0 rfl rfl (ck_in hf) dX13_lay_141 ?_
        have hf := ck_2 hf
        refine lv_iload hx hb dX13_lay_142 (lv_at hl 5 rfl) ?_
        obtain ⟨q11, hq11, hf⟩ := bd_s hf
        refine k_eSi (As := [.int (r0 15 x4.toNatClampNeg), .int x5]) (rest := []) hx hb hml hown hts hK hA hZ hl.1 hP hD hS (c_X13_bit  hq11) (gSt mlX13_303 stX13_bit inX13 coX13_bit) rfl qnX13_bit rfl rfl ⟨Nat.le_of_ble_eq_true rfl, Nat.le_of_ble_eq_true rfl⟩ rfl rfl (Nat.le_of_ble_eq_true rfl) ⟨Nat.zero_le _, Nat.zero_le _⟩ dX13_lay_144 (fun H locs hP hD hS => ?_)
        refine lv_iconst (v := 1) hx hb dX13_lay_147 (by decide) ?_
        refine lv_icmp_ne (tgt := 178) hx hb dX13_lay_148 (by decide) (fun hc => ?_) (fun hc => ?_)
        · have hf := ite_f hf hc
          exact w_X13_lay_178 C _ (hK39) _ (ih) _ _ _ _ _ _ _ _ _ _ hf hP hD hS (lv_sub hl [0, 1, 2, 3, 4, 5] rfl)
        · have hf := ite_t hf hc
          refine lv_aload_n hx hb dX13_lay_151 rfl (lv_at hl 0 rfl) ?_
          refine lv_iload hx hb dX13_lay_152 (lv_at hl 5 rfl) ?_
          refine lv_aload_n hx hb dX13_lay_154 rfl (lv_at hl 0 rfl) ?_
          refine va_get (D := D) (ci := 13) (v := .ref (a0 15)) (C := RX13) (T := TX13) (N := 87) hx hb hts hiX13 hown hK hP 0 rfl rfl 15 (by decide) (hts _ flX13_138) (fun _ h9 => h9) rfl dX13_lay_155 ?_
          refine lv_iload hx hb dX13_lay_158 (lv_at hl 4 rfl) ?_
          refine va_iald (f := r0 15) hx hb hK hP 7 0 rfl rfl (ck_in hf) dX13_lay_160 ?_
          have hf := ck_2 hf
          refine lv_iconst (v := 1) hx hb dX13_lay_161 (by decide) ?_
          refine lv_iload hx hb dX13_lay_162 (lv_at hl 5 rfl) ?_
          refine lv_ishl hx hb dX13_lay_164 ?_
          refine lv_iconst (v := (-1)) hx hb dX13_lay_165 (by decide) ?_
          refine lv_ixor hx hb dX13_lay_166 ?_
          refine lv_iand hx hb dX13_lay_167 ?_
          refine lv_iload_n hx hb dX13_lay_168 rfl (lv_at hl 3 rfl) ?_
          obtain ⟨q12, hq12, hf⟩ := bd_s hf
          refine k_sVi (ws2 := W13 cs h0 a0 q12.2.1 q12.2.2 l0) (As := [.int x5, .int ((r0 15 x4.toNatClampNeg) &&& (((1 : Int32) <<< (x5 &&& 31)) ^^^ (-1))), .int x3]) (rest := []) hx hb hml hown hts hK hA hZ hl.1 hP hD hS (c_X13_lays (h0 := h0) (a0 := a0) hq12) (gVt mlX13_362 imX13_lays seX13_lays inX13 coX13_lays) rfl qnX13_lays rfl rfl ⟨Nat.le_of_ble_eq_true rfl, Nat.le_of_ble_eq_true rfl⟩ 0 13 rfl rfl rfl rfl rfl (Nat.le_of_ble_eq_true rfl) ⟨Nat.zero_le _, Nat.zero_le _⟩ dX13_lay_169 (fun H locs hP hD hS => ?_)
          refine lv_if_ne (tgt := 178) hx hb dX13_lay_172 (by decide) (fun hc => ?_) (fun hc => ?_)
          · have hf := ite_f hf hc
            exact w_X13_lay_178 C _ (hK39) _ (ih) _ _ _ _ _ _ _ _ _ _ hf hP hD hS (lv_sub hl [0, 1, 2, 3, 4, 5] rfl)
          · have hf := ite_t hf hc
            refine lv_bipush (v := (-3)) hx hb dX13_lay_175 (by decide) ?_
            obtain rfl := Option.some.inj hf
            exact k_iret hx hb hr hlocks hK hP hD hS dX13_lay_177
def f_X13_lay_48 (l0 : Nat → Nat → Int64) (K39 : (Nat → Int32) → (Nat → Nat → Int32) → Int32 → Int32 → Int32 → Int32 → Option (Int32 × (Nat → Int32) × (Nat → Nat → Int32))) : Nat → (Nat → Int32) → (Nat → Nat → Int32) → Int32 → Int32 → Int32 → Int32 → Int32 → Option (Int32 × (Nat → Int32) × (Nat → Nat → Int32))
  | 0, _, _, _, _, _, _, _ => none
  | n + 1, i0, r0, x1, x2, x3, x4, x5 => ck (inb x1 8) (if (r0 10 x1.toNatClampNeg) ≤ x5 then (f_X13_lay_114 l0 K39 2000000 i0 r0 x1 x2 x3 x4 0) else (bd (f_X13_bit x4 x5) (fun q13 => if q13 = 1 then (ck (inb x4 256) (bd (f_X13_bit (r0 15 x4.toNatClampNeg) x5) (fun q14 => if q14 = 0 then (ck (inb x4 256) (bd (f_X13_lays i0 r0 l0 x5 (r0 15 x4.toNatClampNeg) x3) (fun q15 => if q15.1 = 0 then (some ((-3), q15.2.1, q15.2.2)) else (f_X13_lay_105 l0 K39 (f_X13_lay_48 l0 K39 n) q15.2.1 q15.2.2 x1 x2 x3 x4 x5)))) else (f_X13_lay_105 l0 K39 (f_X13_lay_48 l0 K39 n) i0 r0 x1 x2 x3 x4 x5)))) else (f_X13_lay_105 l0 K39 (f_X13_lay_48 l0 K39 n) i0 r0 x1 x2 x3 x4 x5))))
set_option maxRecDepth 100000 in
set_option maxHeartbeats 4000000 in
theorem w_X13_lay_48 {p : Program} {l : Launch} {e : Env} {s : State} {m : MethodId} {args : Array Value} {below : List Frame} {meth : Method} {c : Code} {A : Nat → Prop} {D : va_G} {cs zs : Nat → Nat} {h0 : Nat} {a0 : Nat → Nat} {l0 : Nat → Nat → Int64} {q : Int32 × (Nat → Int32) × (Nat → Nat → Int32)} (C : Cx p s m args meth c A D cs zs cX13_lay 6 (some .int) RX13) (K39 : (Nat → Int32) → (Nat → Nat → Int32) → Int32 → Int32 → Int32 → Int32 → Option (Int32 × (Nat → Int32) × (Nat → Nat → Int32))) (hK39 : ∀ (i0 : Nat → Int32) (r0 : Nat → Nat → Int32) (x1 : Int32) (x2 : Int32) (x3 : Int32) (x4 : Int32) (H : Heap) (locs : List Loc) (ls : Array Slot), K39 i0 r0 x1 x2 x3 x4 = some q → va_P D vwCl (W13 cs h0 a0 i0 r0 l0) H → va_D A (W13 cs h0 a0 i0 r0 l0) → va_S A s.heap H locs → lv_has ls 6 [(0, .ref h0), (1, .int x1), (2, .int x2), (3, .int x3), (4, .int x4)] → W p l e rmX13_lay s m args below meth c H locs 0 0 (MQ below (Qi D cs A q.1 (W13 cs h0 a0 q.2.1 q.2.2 l0)) args s 0 0 A) (F0 m 39 ls [])) : ∀ (n : Nat), ∀ (i0 : Nat → Int32) (r0 : Nat → Nat → Int32) (x1 : Int32) (x2 : Int32) (x3 : Int32) (x4 : Int32) (x5 : Int32) (H : Heap) (locs : List Loc) (ls : Array Slot), f_X13_lay_48 l0 K39 n i0 r0 x1 x2 x3 x4 x5 = some q → va_P D vwCl (W13 cs h0 a0 i0 r0 l0) H → va_D A (W13 cs h0 a0 i0 r0 l0) → va_S A s.heap H locs → lv_has ls 6 [(0, .ref h0), (1, .int x1), (2, .int x2), (3, .int x3), (4, .int x4), (5, .int x5)] → W p l e rmX13_lay s m args below meth c H locs 0 0 (MQ below (Qi D cs A q.1 (W13 cs h0 a0 q.2.1 q.2.2 l0)) args s 0 0 A) (F0 m 48 ls []) := by
  obtain ⟨hx, hb, hr, hml, hown, hts, hK, hA, hlocks, hZ⟩ := id C
  intro n
  induction n with
  | zero =>
    intro i0 r0 x1 x2 x3 x4 x5 H locs ls hf
    rw [f_X13_lay_48] at hf
    cases hf
  | succ n ih =>
    intro i0 r0 x1 x2 x3 x4 x5 H locs ls hf hP hD hS hl
    rw [f_X13_lay_48] at hf
    refine lv_iload hx hb dX13_lay_48 (lv_at hl 5 rfl) ?_
    refine lv_aload_n hx hb dX13_lay_50 rfl (lv_at hl 0 rfl) ?_
    refine va_get (D := D) (ci := 13) (v := .ref (a0 10)) (C := RX13) (T := TX13) (N := 87) hx hb hts hiX13 hown hK hP 0 rfl rfl 10 (by decide) (hts _ flX13_99) (fun _ h9 => h9) rfl dX13_lay_51 ?_
    refine lv_iload_n hx hb dX13_lay_54 rfl (lv_at hl 1 rfl) ?_
    refine va_iald (f := r0 10) hx hb hK hP 2 0 rfl rfl (ck_in hf) dX13_lay_55 ?_
    have hf := ck_2 hf
    refine lv_icmp_ge (tgt := 111) hx hb dX13_lay_56 (by decide) (fun hc => ?_) (fun hc => ?_)
    · have hf := ite_t hf hc
      refine lv_iconst (v := 0) hx hb dX13_lay_111 (by decide) ?_
      refine lv_istore (lv' := [(5, .int 0), (0, .ref h0), (1, .int x1), (2, .int x2), (3, .int x3), (4, .int x4)]) hx hb dX13_lay_112 hl (by decide) rfl (fun ls hl => ?_)
      exact w_X13_lay_114 C _ (hK39) 2000000 _ _ _ _ _ _ _ _ _ _ hf hP hD hS (lv_sub hl [1, 2, 3, 4, 5, 0] rfl)
    · have hf := ite_f hf hc
      refine lv_iload hx hb dX13_lay_59 (lv_at hl 4 rfl) ?_
      refine lv_iload hx hb dX13_lay_61 (lv_at hl 5 rfl) ?_
      obtain ⟨q13, hq13, hf⟩ := bd_s hf
      refine k_eSi (As := [.int x4, .int x5]) (rest := []) hx hb hml hown hts hK hA hZ hl.1 hP hD hS (c_X13_bit  hq13) (gSt mlX13_303 stX13_bit inX13 coX13_bit) rfl qnX13_bit rfl rfl ⟨Nat.le_of_ble_eq_true rfl, Nat.le_of_ble_eq_true rfl⟩ rfl rfl (Nat.le_of_ble_eq_true rfl) ⟨Nat.zero_le _, Nat.zero_le _⟩ dX13_lay_63 (fun H locs hP hD hS => ?_)
      refine lv_iconst (v := 1) hx hb dX13_lay_66 (by decide) ?_
      refine lv_icmp_ne (tgt := 105) hx hb dX13_lay_67 (by decide) (fun hc => ?_) (fun hc => ?_)
      · have hf := ite_f hf hc
        exact w_X13_lay_105 C _ (hK39) _ (ih) _ _ _ _ _ _ _ _ _ _ hf hP hD hS (lv_sub hl [0, 1, 2, 3, 4, 5] rfl)
      · have hf := ite_t hf hc
        refine lv_aload_n hx hb dX13_lay_70 rfl (lv_at hl 0 rfl) ?_
        refine va_get (D := D) (ci := 13) (v := .ref (a0 15)) (C := RX13) (T := TX13) (N := 87) hx hb hts hiX13 hown hK hP 0 rfl rfl 15 (by decide) (hts _ flX13_138) (fun _ h9 => h9) rfl dX13_lay_71 ?_
        refine lv_iload hx hb dX13_lay_74 (lv_at hl 4 rfl) ?_
        refine va_iald (f := r0 15) hx hb hK hP 7 0 rfl rfl (ck_in hf) dX13_lay_76 ?_
        have hf := ck_2 hf
        refine lv_iload hx hb dX13_lay_77 (lv_at hl 5 rfl) ?_
        obtain ⟨q14, hq14, hf⟩ := bd_s hf
        refine k_eSi (As := [.int (r0 15 x4.toNatClampNeg), .int x5]) (rest := []) hx hb hml hown hts hK hA hZ hl.1 hP hD hS (c_X13_bit  hq14) (gSt mlX13_303 stX13_bit inX13 coX13_bit) rfl qnX13_bit rfl rfl ⟨Nat.le_of_ble_eq_true rfl, Nat.le_of_ble_eq_true rfl⟩ rfl rfl (Nat.le_of_ble_eq_true rfl) ⟨Nat.zero_le _, Nat.zero_le _⟩ dX13_lay_79 (fun H locs hP hD hS => ?_)
        refine lv_if_ne (tgt := 105) hx hb dX13_lay_82 (by decide) (fun hc => ?_) (fun hc => ?_)
        · have hf := ite_f hf hc
          exact w_X13_lay_105 C _ (hK39) _ (ih) _ _ _ _ _ _ _ _ _ _ hf hP hD hS (lv_sub hl [0, 1, 2, 3, 4, 5] rfl)
        · have hf := ite_t hf hc
          refine lv_aload_n hx hb dX13_lay_85 rfl (lv_at hl 0 rfl) ?_
          refine lv_iload hx hb dX13_lay_86 (lv_at hl 5 rfl) ?_
          refine lv_aload_n hx hb dX13_lay_88 rfl (lv_at hl 0 rfl) ?_
          refine va_get (D := D) (ci := 13) (v := .ref (a0 15)) (C := RX13) (T := TX13) (N := 87) hx hb hts hiX13 hown hK hP 0 rfl rfl 15 (by decide) (hts _ flX13_138) (fun _ h9 => h9) rfl dX13_lay_89 ?_
          refine lv_iload hx hb dX13_lay_92 (lv_at hl 4 rfl) ?_
          refine va_iald (f := r0 15) hx hb hK hP 7 0 rfl rfl (ck_in hf) dX13_lay_94 ?_
          have hf := ck_2 hf
          refine lv_iload_n hx hb dX13_lay_95 rfl (lv_at hl 3 rfl) ?_
          obtain ⟨q15, hq15, hf⟩ := bd_s hf
          refine k_sVi (ws2 := W13 cs h0 a0 q15.2.1 q15.2.2 l0) (As := [.int x5, .int (r0 15 x4.toNatClampNeg), .int x3]) (rest := []) hx hb hml hown hts hK hA hZ hl.1 hP hD hS (c_X13_lays (h0 := h0) (a0 := a0) hq15) (gVt mlX13_362 imX13_lays seX13_lays inX13 coX13_lays) rfl qnX13_lays rfl rfl ⟨Nat.le_of_ble_eq_true rfl, Nat.le_of_ble_eq_true rfl⟩ 0 13 rfl rfl rfl rfl rfl (Nat.le_of_ble_eq_true rfl) ⟨Nat.zero_le _, Nat.zero_le _⟩ dX13_lay_96 (fun H locs hP hD hS => ?_)
          refine lv_if_ne (tgt := 105) hx hb dX13_lay_99 (by decide) (fun hc => ?_) (fun hc => ?_)
          · have hf := ite_f hf hc
            exact w_X13_lay_105 C _ (hK39) _ (ih) _ _ _ _ _ _ _ _ _ _ hf hP hD hS (lv_sub hl [0, 1, 2, 3, 4, 5] rfl)
          · have hf := ite_t hf hc
            refine lv_bipush (v := (-3)) hx hb dX13_lay_102 (by decide) ?_
            obtain rfl := Option.some.inj hf
            exact k_iret hx hb hr hlocks hK hP hD hS dX13_lay_104
def f_X13_lay_265 (l0 : Nat → Nat → Int64) (K215 : (Nat → Int32) → (Nat → Nat → Int32) → Int32 → Int32 → Option (Int32 × (Nat → Int32) × (Nat → Nat → Int32))) (i0 : Nat → Int32) (r0 : Nat → Nat → Int32) (x2 : Int32) (x4 : Int32) : Option (Int32 × (Nat → Int32) × (Nat → Nat → Int32)) := ck (inb ((280 - (i0 27)) + x4) 320) (ck (inb ((40 * x2) + x4) 320) (K215 i0 (va_up r0 14 (upd (r0 14) ((40 * x2) + x4).toNatClampNeg (r0 14 ((280 - (i0 27)) + x4).toNatClampNeg))) x2 (x4 + 1)))
set_option maxRecDepth 100000 in
set_option maxHeartbeats 4000000 in
theorem w_X13_lay_265 {p : Program} {l : Launch} {e : Env} {s : State} {m : MethodId} {args : Array Value} {below : List Frame} {meth : Method} {c : Code} {A : Nat → Prop} {D : va_G} {cs zs : Nat → Nat} {h0 : Nat} {a0 : Nat → Nat} {l0 : Nat → Nat → Int64} {q : Int32 × (Nat → Int32) × (Nat → Nat → Int32)} (C : Cx p s m args meth c A D cs zs cX13_lay 6 (some .int) RX13) (K215 : (Nat → Int32) → (Nat → Nat → Int32) → Int32 → Int32 → Option (Int32 × (Nat → Int32) × (Nat → Nat → Int32))) (hK215 : ∀ (i0 : Nat → Int32) (r0 : Nat → Nat → Int32) (x2 : Int32) (x4 : Int32) (H : Heap) (locs : List Loc) (ls : Array Slot), K215 i0 r0 x2 x4 = some q → va_P D vwCl (W13 cs h0 a0 i0 r0 l0) H → va_D A (W13 cs h0 a0 i0 r0 l0) → va_S A s.heap H locs → lv_has ls 6 [(0, .ref h0), (2, .int x2), (4, .int x4)] → W p l e rmX13_lay s m args below meth c H locs 0 0 (MQ below (Qi D cs A q.1 (W13 cs h0 a0 q.2.1 q.2.2 l0)) args s 0 0 A) (F0 m 215 ls [])) : ∀ (i0 : Nat → Int32) (r0 : Nat → Nat → Int32) (x2 : Int32) (x4 : Int32) (H : Heap) (locs : List Loc) (ls : Array Slot), f_X13_lay_265 l0 K215 i0 r0 x2 x4 = some q → va_P D vwCl (W13 cs h0 a0 i0 r0 l0) H → va_D A (W13 cs h0 a0 i0 r0 l0) → va_S A s.heap H locs → lv_has ls 6 [(0, .ref h0), (2, .int x2), (4, .int x4)] → W p l e rmX13_lay s m args below meth c H locs 0 0 (MQ below (Qi D cs A q.1 (W13 cs h0 a0 q.2.1 q.2.2 l0)) args s 0 0 A) (F0 m 265 ls []) := by
  obtain ⟨hx, hb, hr, hml, hown, hts, hK, hA, hlocks, hZ⟩ := id C
  intro i0 r0 x2 x4 H locs ls hf hP hD hS hl
  rw [f_X13_lay_265] at hf
  refine lv_aload_n hx hb dX13_lay_265 rfl (lv_at hl 0 rfl) ?_
  refine va_get (D := D) (ci := 13) (v := .ref (a0 14)) (C := RX13) (T := TX13) (N := 87) hx hb hts hiX13 hown hK hP 0 rfl rfl 14 (by decide) (hts _ flX13_96) (fun _ h9 => h9) rfl dX13_lay_266 ?_
  refine lv_bipush (v := 40) hx hb dX13_lay_269 (by decide) ?_
  refine lv_iload_n hx hb dX13_lay_271 rfl (lv_at hl 1 rfl) ?_
  refine lv_imul hx hb dX13_lay_272 ?_
  refine lv_iload hx hb dX13_lay_273 (lv_at hl 2 rfl) ?_
  refine lv_iadd hx hb dX13_lay_275 ?_
  refine lv_aload_n hx hb dX13_lay_276 rfl (lv_at hl 0 rfl) ?_
  refine va_get (D := D) (ci := 13) (v := .ref (a0 14)) (C := RX13) (T := TX13) (N := 87) hx hb hts hiX13 hown hK hP 0 rfl rfl 14 (by decide) (hts _ flX13_96) (fun _ h9 => h9) rfl dX13_lay_277 ?_
  refine lv_sipush (v := 280) hx hb dX13_lay_280 (by decide) ?_
  refine lv_aload_n hx hb dX13_lay_283 rfl (lv_at hl 0 rfl) ?_
  refine va_get (D := D) (ci := 13) (v := .int (i0 27)) (C := RX13) (T := TX13) (N := 87) hx hb hts hiX13 hown hK hP 0 rfl rfl 27 (by decide) (hts _ flX13_359) (fun _ h9 => h9) rfl dX13_lay_284 ?_
  refine lv_isub hx hb dX13_lay_287 ?_
  refine lv_iload hx hb dX13_lay_288 (lv_at hl 2 rfl) ?_
  refine lv_iadd hx hb dX13_lay_290 ?_
  refine va_iald (f := r0 14) hx hb hK hP 6 0 rfl rfl (ck_in hf) dX13_lay_291 ?_
  have hf := ck_2 hf
  refine va_iast (f := r0 14) hx hb hK hP hD hS 6 0 rfl rfl (ck_in hf) dX13_lay_292 (fun H locs hP hD hS => ?_)
  have hf := ck_2 hf
  obtain ⟨hP, hD⟩ := st13_14 hP hD
  refine lv_iinc (v := x4 + 1) (lv' := [(4, .int (x4 + 1)), (0, .ref h0), (2, .int x2)]) hx hb dX13_lay_293 hl (k := 2) rfl rfl (by decide) rfl (fun ls hl => ?_)
  refine lv_goto (tgt := 215) hx hb dX13_lay_296 (by decide) ?_
  exact hK215 _ _ _ _ _ _ _ hf hP hD hS (lv_sub hl [1, 2, 0] rfl)
def f_X13_lay_215 (l0 : Nat → Nat → Int64)  : Nat → (Nat → Int32) → (Nat → Nat → Int32) → Int32 → Int32 → Option (Int32 × (Nat → Int32) × (Nat → Nat → Int32))
  | 0, _, _, _, _ => none
  | n + 1, i0, r0, x2, x4 => if (i0 27) ≤ x4 then (some (i0 27, i0, r0)) else (ck (inb ((280 - (i0 27)) + x4) 320) (ck (inb ((40 * x2) + x4) 320) (ck (inb ((40 * x2) + x4) 320) (f_X13_lay_265 l0 (f_X13_lay_215 l0 n) i0 (va_up (va_up r0 12 (upd (r0 12) ((40 * x2) + x4).toNatClampNeg (r0 12 ((280 - (i0 27)) + x4).toNatClampNeg))) 13 (upd (r0 13) ((40 * x2) + x4).toNatClampNeg (-1))) x2 x4))))
set_option maxRecDepth 100000 in
set_option maxHeartbeats 4000000 in
theorem w_X13_lay_215 {p : Program} {l : Launch} {e : Env} {s : State} {m : MethodId} {args : Array Value} {below : List Frame} {meth : Method} {c : Code} {A : Nat → Prop} {D : va_G} {cs zs : Nat → Nat} {h0 : Nat} {a0 : Nat → Nat} {l0 : Nat → Nat → Int64} {q : Int32 × (Nat → Int32) × (Nat → Nat → Int32)} (C : Cx p s m args meth c A D cs zs cX13_lay 6 (some .int) RX13)  : ∀ (n : Nat), ∀ (i0 : Nat → Int32) (r0 : Nat → Nat → Int32) (x2 : Int32) (x4 : Int32) (H : Heap) (locs : List Loc) (ls : Array Slot), f_X13_lay_215 l0 n i0 r0 x2 x4 = some q → va_P D vwCl (W13 cs h0 a0 i0 r0 l0) H → va_D A (W13 cs h0 a0 i0 r0 l0) → va_S A s.heap H locs → lv_has ls 6 [(0, .ref h0), (2, .int x2), (4, .int x4)] → W p l e rmX13_lay s m args below meth c H locs 0 0 (MQ below (Qi D cs A q.1 (W13 cs h0 a0 q.2.1 q.2.2 l0)) args s 0 0 A) (F0 m 215 ls []) := by
  obtain ⟨hx, hb, hr, hml, hown, hts, hK, hA, hlocks, hZ⟩ := id C
  intro n
  induction n with
  | zero =>
    intro i0 r0 x2 x4 H locs ls hf
    rw [f_X13_lay_215] at hf
    cases hf
  | succ n ih =>
    intro i0 r0 x2 x4 H locs ls hf hP hD hS hl
    rw [f_X13_lay_215] at hf
    refine lv_iload hx hb dX13_lay_215 (lv_at hl 2 rfl) ?_
    refine lv_aload_n hx hb dX13_lay_217 rfl (lv_at hl 0 rfl) ?_
    refine va_get (D := D) (ci := 13) (v := .int (i0 27)) (C := RX13) (T := TX13) (N := 87) hx hb hts hiX13 hown hK hP 0 rfl rfl 27 (by decide) (hts _ flX13_359) (fun _ h9 => h9) rfl dX13_lay_218 ?_
    refine lv_icmp_ge (tgt := 299) hx hb dX13_lay_221 (by decide) (fun hc => ?_) (fun hc => ?_)
    · have hf := ite_t hf hc
      refine lv_aload_n hx hb dX13_lay_299 rfl (lv_at hl 0 rfl) ?_
      refine va_get (D := D) (ci := 13) (v := .int (i0 27)) (C := RX13) (T := TX13) (N := 87) hx hb hts hiX13 hown hK hP 0 rfl rfl 27 (by decide) (hts _ flX13_359) (fun _ h9 => h9) rfl dX13_lay_300 ?_
      obtain rfl := Option.some.inj hf
      exact k_iret hx hb hr hlocks hK hP hD hS dX13_lay_303
    · have hf := ite_f hf hc
      refine lv_aload_n hx hb dX13_lay_224 rfl (lv_at hl 0 rfl) ?_
      refine va_get (D := D) (ci := 13) (v := .ref (a0 12)) (C := RX13) (T := TX13) (N := 87) hx hb hts hiX13 hown hK hP 0 rfl rfl 12 (by decide) (hts _ flX13_90) (fun _ h9 => h9) rfl dX13_lay_225 ?_
      refine lv_bipush (v := 40) hx hb dX13_lay_228 (by decide) ?_
      refine lv_iload_n hx hb dX13_lay_230 rfl (lv_at hl 1 rfl) ?_
      refine lv_imul hx hb dX13_lay_231 ?_
      refine lv_iload hx hb dX13_lay_232 (lv_at hl 2 rfl) ?_
      refine lv_iadd hx hb dX13_lay_234 ?_
      refine lv_aload_n hx hb dX13_lay_235 rfl (lv_at hl 0 rfl) ?_
      refine va_get (D := D) (ci := 13) (v := .ref (a0 12)) (C := RX13) (T := TX13) (N := 87) hx hb hts hiX13 hown hK hP 0 rfl rfl 12 (by decide) (hts _ flX13_90) (fun _ h9 => h9) rfl dX13_lay_236 ?_
      refine lv_sipush (v := 280) hx hb dX13_lay_239 (by decide) ?_
      refine lv_aload_n hx hb dX13_lay_242 rfl (lv_at hl 0 rfl) ?_
      refine va_get (D := D) (ci := 13) (v := .int (i0 27)) (C := RX13) (T := TX13) (N := 87) hx hb hts hiX13 hown hK hP 0 rfl rfl 27 (by decide) (hts _ flX13_359) (fun _ h9 => h9) rfl dX13_lay_243 ?_
      refine lv_isub hx hb dX13_lay_246 ?_
      refine lv_iload hx hb dX13_lay_247 (lv_at hl 2 rfl) ?_
      refine lv_iadd hx hb dX13_lay_249 ?_
      refine va_iald (f := r0 12) hx hb hK hP 4 0 rfl rfl (ck_in hf) dX13_lay_250 ?_
      have hf := ck_2 hf
      refine va_iast (f := r0 12) hx hb hK hP hD hS 4 0 rfl rfl (ck_in hf) dX13_lay_251 (fun H locs hP hD hS => ?_)
      have hf := ck_2 hf
      obtain ⟨hP, hD⟩ := st13_12 hP hD
      refine lv_aload_n hx hb dX13_lay_252 rfl (lv_at hl 0 rfl) ?_
      refine va_get (D := D) (ci := 13) (v := .ref (a0 13)) (C := RX13) (T := TX13) (N := 87) hx hb hts hiX13 hown hK hP 0 rfl rfl 13 (by decide) (hts _ flX13_93) (fun _ h9 => h9) rfl dX13_lay_253 ?_
      refine lv_bipush (v := 40) hx hb dX13_lay_256 (by decide) ?_
      refine lv_iload_n hx hb dX13_lay_258 rfl (lv_at hl 1 rfl) ?_
      refine lv_imul hx hb dX13_lay_259 ?_
      refine lv_iload hx hb dX13_lay_260 (lv_at hl 2 rfl) ?_
      refine lv_iadd hx hb dX13_lay_262 ?_
      refine lv_iconst (v := (-1)) hx hb dX13_lay_263 (by decide) ?_
      refine va_iast (f := r0 13) hx hb hK hP hD hS 5 0 rfl rfl (ck_in hf) dX13_lay_264 (fun H locs hP hD hS => ?_)
      have hf := ck_2 hf
      obtain ⟨hP, hD⟩ := st13_13 hP hD
      exact w_X13_lay_265 C _ (ih) _ _ _ _ _ _ _ hf hP hD hS (lv_sub hl [0, 1, 2] rfl)
def f_X13_lay_212 (l0 : Nat → Nat → Int64)  (i0 : Nat → Int32) (r0 : Nat → Nat → Int32) (x2 : Int32) : Option (Int32 × (Nat → Int32) × (Nat → Nat → Int32)) := f_X13_lay_215 l0 2000000 i0 r0 x2 0
set_option maxRecDepth 100000 in
set_option maxHeartbeats 4000000 in
theorem w_X13_lay_212 {p : Program} {l : Launch} {e : Env} {s : State} {m : MethodId} {args : Array Value} {below : List Frame} {meth : Method} {c : Code} {A : Nat → Prop} {D : va_G} {cs zs : Nat → Nat} {h0 : Nat} {a0 : Nat → Nat} {l0 : Nat → Nat → Int64} {q : Int32 × (Nat → Int32) × (Nat → Nat → Int32)} (C : Cx p s m args meth c A D cs zs cX13_lay 6 (some .int) RX13)  : ∀ (i0 : Nat → Int32) (r0 : Nat → Nat → Int32) (x2 : Int32) (H : Heap) (locs : List Loc) (ls : Array Slot), f_X13_lay_212 l0 i0 r0 x2 = some q → va_P D vwCl (W13 cs h0 a0 i0 r0 l0) H → va_D A (W13 cs h0 a0 i0 r0 l0) → va_S A s.heap H locs → lv_has ls 6 [(0, .ref h0), (2, .int x2)] → W p l e rmX13_lay s m args below meth c H locs 0 0 (MQ below (Qi D cs A q.1 (W13 cs h0 a0 q.2.1 q.2.2 l0)) args s 0 0 A) (F0 m 212 ls []) := by
  obtain ⟨hx, hb, hr, hml, hown, hts, hK, hA, hlocks, hZ⟩ := id C
  intro i0 r0 x2 H locs ls hf hP hD hS hl
  rw [f_X13_lay_212] at hf
  refine lv_iconst (v := 0) hx hb dX13_lay_212 (by decide) ?_
  refine lv_istore (lv' := [(4, .int 0), (0, .ref h0), (2, .int x2)]) hx hb dX13_lay_213 hl (by decide) rfl (fun ls hl => ?_)
  exact w_X13_lay_215 C  2000000 _ _ _ _ _ _ _ hf hP hD hS (lv_sub hl [1, 2, 0] rfl)
def f_X13_lay_39 (l0 : Nat → Nat → Int64)  : Nat → (Nat → Int32) → (Nat → Nat → Int32) → Int32 → Int32 → Int32 → Int32 → Option (Int32 × (Nat → Int32) × (Nat → Nat → Int32))
  | 0, _, _, _, _, _, _ => none
  | n + 1, i0, r0, x1, x2, x3, x4 => if x3 ≤ x4 then (ck (inb x1 8) (ck (inb x2 8) (ck (inb x2 8) (f_X13_lay_212 l0 i0 (va_up (va_up r0 10 (upd (r0 10) x2.toNatClampNeg (r0 10 x1.toNatClampNeg))) 11 (upd (r0 11) x2.toNatClampNeg (i0 27))) x2)))) else (f_X13_lay_48 l0 (f_X13_lay_39 l0 n) 2000000 i0 r0 x1 x2 x3 x4 0)
set_option maxRecDepth 100000 in
set_option maxHeartbeats 4000000 in
theorem w_X13_lay_39 {p : Program} {l : Launch} {e : Env} {s : State} {m : MethodId} {args : Array Value} {below : List Frame} {meth : Method} {c : Code} {A : Nat → Prop} {D : va_G} {cs zs : Nat → Nat} {h0 : Nat} {a0 : Nat → Nat} {l0 : Nat → Nat → Int64} {q : Int32 × (Nat → Int32) × (Nat → Nat → Int32)} (C : Cx p s m args meth c A D cs zs cX13_lay 6 (some .int) RX13)  : ∀ (n : Nat), ∀ (i0 : Nat → Int32) (r0 : Nat → Nat → Int32) (x1 : Int32) (x2 : Int32) (x3 : Int32) (x4 : Int32) (H : Heap) (locs : List Loc) (ls : Array Slot), f_X13_lay_39 l0 n i0 r0 x1 x2 x3 x4 = some q → va_P D vwCl (W13 cs h0 a0 i0 r0 l0) H → va_D A (W13 cs h0 a0 i0 r0 l0) → va_S A s.heap H locs → lv_has ls 6 [(0, .ref h0), (1, .int x1), (2, .int x2), (3, .int x3), (4, .int x4)] → W p l e rmX13_lay s m args below meth c H locs 0 0 (MQ below (Qi D cs A q.1 (W13 cs h0 a0 q.2.1 q.2.2 l0)) args s 0 0 A) (F0 m 39 ls []) := by
  obtain ⟨hx, hb, hr, hml, hown, hts, hK, hA, hlocks, hZ⟩ := id C
  intro n
  induction n with
  | zero =>
    intro i0 r0 x1 x2 x3 x4 H locs ls hf
    rw [f_X13_lay_39] at hf
    cases hf
  | succ n ih =>
    intro i0 r0 x1 x2 x3 x4 H locs ls hf hP hD hS hl
    rw [f_X13_lay_39] at hf
    refine lv_iload hx hb dX13_lay_39 (lv_at hl 4 rfl) ?_
    refine lv_iload_n hx hb dX13_lay_41 rfl (lv_at hl 3 rfl) ?_
    refine lv_icmp_ge (tgt := 190) hx hb dX13_lay_42 (by decide) (fun hc => ?_) (fun hc => ?_)
    · have hf := ite_t hf hc
      refine lv_aload_n hx hb dX13_lay_190 rfl (lv_at hl 0 rfl) ?_
      refine va_get (D := D) (ci := 13) (v := .ref (a0 10)) (C := RX13) (T := TX13) (N := 87) hx hb hts hiX13 hown hK hP 0 rfl rfl 10 (by decide) (hts _ flX13_99) (fun _ h9 => h9) rfl dX13_lay_191 ?_
      refine lv_iload_n hx hb dX13_lay_194 rfl (lv_at hl 2 rfl) ?_
      refine lv_aload_n hx hb dX13_lay_195 rfl (lv_at hl 0 rfl) ?_
      refine va_get (D := D) (ci := 13) (v := .ref (a0 10)) (C := RX13) (T := TX13) (N := 87) hx hb hts hiX13 hown hK hP 0 rfl rfl 10 (by decide) (hts _ flX13_99) (fun _ h9 => h9) rfl dX13_lay_196 ?_
      refine lv_iload_n hx hb dX13_lay_199 rfl (lv_at hl 1 rfl) ?_
      refine va_iald (f := r0 10) hx hb hK hP 2 0 rfl rfl (ck_in hf) dX13_lay_200 ?_
      have hf := ck_2 hf
      refine va_iast (f := r0 10) hx hb hK hP hD hS 2 0 rfl rfl (ck_in hf) dX13_lay_201 (fun H locs hP hD hS => ?_)
      have hf := ck_2 hf
      obtain ⟨hP, hD⟩ := st13_10 hP hD
      refine lv_aload_n hx hb dX13_lay_202 rfl (lv_at hl 0 rfl) ?_
      refine va_get (D := D) (ci := 13) (v := .ref (a0 11)) (C := RX13) (T := TX13) (N := 87) hx hb hts hiX13 hown hK hP 0 rfl rfl 11 (by decide) (hts _ flX13_86) (fun _ h9 => h9) rfl dX13_lay_203 ?_
      refine lv_iload_n hx hb dX13_lay_206 rfl (lv_at hl 2 rfl) ?_
      refine lv_aload_n hx hb dX13_lay_207 rfl (lv_at hl 0 rfl) ?_
      refine va_get (D := D) (ci := 13) (v := .int (i0 27)) (C := RX13) (T := TX13) (N := 87) hx hb hts hiX13 hown hK hP 0 rfl rfl 27 (by decide) (hts _ flX13_359) (fun _ h9 => h9) rfl dX13_lay_208 ?_
      refine va_iast (f := r0 11) hx hb hK hP hD hS 3 0 rfl rfl (ck_in hf) dX13_lay_211 (fun H locs hP hD hS => ?_)
      have hf := ck_2 hf
      obtain ⟨hP, hD⟩ := st13_11 hP hD
      exact w_X13_lay_212 C  _ _ _ _ _ _ hf hP hD hS (lv_sub hl [0, 2] rfl)
    · have hf := ite_f hf hc
      refine lv_iconst (v := 0) hx hb dX13_lay_45 (by decide) ?_
      refine lv_istore (lv' := [(5, .int 0), (0, .ref h0), (1, .int x1), (2, .int x2), (3, .int x3), (4, .int x4)]) hx hb dX13_lay_46 hl (by decide) rfl (fun ls hl => ?_)
      exact w_X13_lay_48 C _ (ih) 2000000 _ _ _ _ _ _ _ _ _ _ hf hP hD hS (lv_sub hl [1, 2, 3, 4, 5, 0] rfl)
def f_X13_lay  (i0 : Nat → Int32) (r0 : Nat → Nat → Int32) (l0 : Nat → Nat → Int64) (x1 : Int32) (x2 : Int32) : Option (Int32 × (Nat → Int32) × (Nat → Nat → Int32)) := bd (f_X13_isFloor x1) (fun q16 => if q16 = 0 then (some ((-2), i0, r0)) else (bd (f_X13_isFloor x2) (fun q17 => if q17 = 0 then (some ((-2), i0, r0)) else (bd (f_X13_findTable i0 r0 l0 x1) (fun q18 => ck (inb x1 8) (f_X13_lay_39 l0 2000000 (upd i0 27 0) q18 x1 x2 ((1 : Int32) <<< ((q18 10 x1.toNatClampNeg) &&& 31)) 0))))))
set_option maxRecDepth 100000 in
set_option maxHeartbeats 4000000 in
theorem c_X13_lay {l : Launch} {D : va_G} {cs zs : Nat → Nat} {h0 : Nat} {a0 : Nat → Nat} {i0 : Nat → Int32} {r0 : Nat → Nat → Int32} {l0 : Nat → Nat → Int64} {x1 : Int32} {x2 : Int32} {q : Int32 × (Nat → Int32) × (Nat → Nat → Int32)} (hf : f_X13_lay i0 r0 l0 x1 x2 = some q) : Mi l yX13_lay wlX13_lay rmX13_lay D cs zs [.ref h0, .int x1, .int x2] (W13 cs h0 a0 i0 r0 l0) q.1 (W13 cs h0 a0 q.2.1 q.2.2 l0) := by
  refine Mi.of RX13 (by decide) rfl (Nat.le_of_ble_eq_true rfl) (fun p e s m below meth c A C hP hD hS ls hl => ?_)
  generalize ([.ref h0, .int x1, .int x2] : List Value).toArray = args at C ⊢
  obtain ⟨hx, hb, hr, hml, hown, hts, hK, hA, hlocks, hZ⟩ := id C
  have hl : lv_has ls 6 [(0, .ref h0), (1, .int x1), (2, .int x2)] := hl
  rw [f_X13_lay] at hf
  refine lv_iload_n hx hb dX13_lay_0 rfl (lv_at hl 1 rfl) ?_
  obtain ⟨q16, hq16, hf⟩ := bd_s hf
  refine k_eSi (As := [.int x1]) (rest := []) hx hb hml hown hts hK hA hZ hl.1 hP hD hS (c_X13_isFloor  hq16) (gSt mlX13_290 stX13_isFloor inX13 coX13_isFloor) rfl qnX13_isFloor rfl rfl ⟨Nat.le_of_ble_eq_true rfl, Nat.le_of_ble_eq_true rfl⟩ rfl rfl (Nat.le_of_ble_eq_true rfl) ⟨Nat.zero_le _, Nat.zero_le _⟩ dX13_lay_1 (fun H locs hP hD hS => ?_)
  refine lv_if_eq (tgt := 14) hx hb dX13_lay_4 (by decide) (fun hc => ?_) (fun hc => ?_)
  · have hf := ite_t hf hc
    refine lv_bipush (v := (-2)) hx hb dX13_lay_14 (by decide) ?_
    obtain rfl := Option.some.inj hf
    exact k_iret hx hb hr hlocks hK hP hD hS dX13_lay_16
  · have hf := ite_f hf hc
    refine lv_iload_n hx hb dX13_lay_7 rfl (lv_at hl 2 rfl) ?_
    obtain ⟨q17, hq17, hf⟩ := bd_s hf
    refine k_eSi (As := [.int x2]) (rest := []) hx hb hml hown hts hK hA hZ hl.1 hP hD hS (c_X13_isFloor  hq17) (gSt mlX13_290 stX13_isFloor inX13 coX13_isFloor) rfl qnX13_isFloor rfl rfl ⟨Nat.le_of_ble_eq_true rfl, Nat.le_of_ble_eq_true rfl⟩ rfl rfl (Nat.le_of_ble_eq_true rfl) ⟨Nat.zero_le _, Nat.zero_le _⟩ dX13_lay_8 (fun H locs hP hD hS => ?_)
    refine lv_if_ne (tgt := 17) hx hb dX13_lay_11 (by decide) (fun hc => ?_) (fun hc => ?_)
    · have hf := ite_f hf hc
      refine lv_aload_n hx hb dX13_lay_17 rfl (lv_at hl 0 rfl) ?_
      refine lv_iload_n hx hb dX13_lay_18 rfl (lv_at hl 1 rfl) ?_
      obtain ⟨q18, hq18, hf⟩ := bd_s hf
      refine k_sVv (ws2 := W13 cs h0 a0 i0 q18 l0) (As := [.int x1]) (rest := []) hx hb hml hown hts hK hA hZ hl.1 hP hD hS (c_X13_findTable (h0 := h0) (a0 := a0) hq18) (gVt mlX13_318 imX13_findTable seX13_findTable inX13 coX13_findTable) rfl qnX13_findTable rfl rfl ⟨Nat.le_of_ble_eq_true rfl, Nat.le_of_ble_eq_true rfl⟩ 0 13 rfl rfl rfl rfl rfl (Nat.le_of_ble_eq_true rfl) ⟨Nat.zero_le _, Nat.zero_le _⟩ dX13_lay_19 (fun H locs hP hD hS => ?_)
      refine lv_aload_n hx hb dX13_lay_22 rfl (lv_at hl 0 rfl) ?_
      refine lv_iconst (v := 0) hx hb dX13_lay_23 (by decide) ?_
      refine va_put (D := D) (ci := 13) (v := .int 0) (ty := .int) (C := RX13) (T := TX13) (N := 87) hx hb hts hiX13 tyX13 tyX13_ok nmX13 hown hK hP hD hS 0 rfl rfl 27 (by decide) (hts _ flX13_359) (fun _ h9 => h9) rfl (tyX13_ok 27 (by decide)) rfl rfl (Nat.le_of_ble_eq_true rfl) dX13_lay_24 (fun H locs hP hD hS => ?_)
      obtain ⟨hP, hD⟩ := st13_27 hP hD
      refine lv_iconst (v := 1) hx hb dX13_lay_27 (by decide) ?_
      refine lv_aload_n hx hb dX13_lay_28 rfl (lv_at hl 0 rfl) ?_
      refine va_get (D := D) (ci := 13) (v := .ref (a0 10)) (C := RX13) (T := TX13) (N := 87) hx hb hts hiX13 hown hK hP 0 rfl rfl 10 (by decide) (hts _ flX13_99) (fun _ h9 => h9) rfl dX13_lay_29 ?_
      refine lv_iload_n hx hb dX13_lay_32 rfl (lv_at hl 1 rfl) ?_
      refine va_iald (f := q18 10) hx hb hK hP 2 0 rfl rfl (ck_in hf) dX13_lay_33 ?_
      have hf := ck_2 hf
      refine lv_ishl hx hb dX13_lay_34 ?_
      refine lv_istore_n (lv' := [(3, .int ((1 : Int32) <<< ((q18 10 x1.toNatClampNeg) &&& 31))), (0, .ref h0), (1, .int x1), (2, .int x2)]) hx hb dX13_lay_35 rfl hl (by decide) rfl (fun ls hl => ?_)
      refine lv_iconst (v := 0) hx hb dX13_lay_36 (by decide) ?_
      refine lv_istore (lv' := [(4, .int 0), (3, .int ((1 : Int32) <<< ((q18 10 x1.toNatClampNeg) &&& 31))), (0, .ref h0), (1, .int x1), (2, .int x2)]) hx hb dX13_lay_37 hl (by decide) rfl (fun ls hl => ?_)
      exact w_X13_lay_39 C  2000000 _ _ _ _ _ _ _ _ _ hf hP hD hS (lv_sub hl [2, 3, 4, 1, 0] rfl)
    · have hf := ite_t hf hc
      refine lv_bipush (v := (-2)) hx hb dX13_lay_14 (by decide) ?_
      obtain rfl := Option.some.inj hf
      exact k_iret hx hb hr hlocks hK hP hD hS dX13_lay_16
/-! MarbleFloorModel.roll(III)I -/
abbrev wlX13_roll : List Cond := Cond.code yX13_roll cX13_roll 7 (some .int) :: tbG
abbrev rmX13_roll : Room := { frames := 2, cells := 0, slots := 0, locals := 45 }
theorem qnX13_roll : yX13_roll.cls = RX13 ∧ yX13_roll.cls ≠ "java/lang/invoke/MethodHandle" ∧ yX13_roll.cls ≠ "java/lang/invoke/VarHandle" ∧ (parseMethodDescriptor yX13_roll.desc).map (fun d => d.parameters.length) = some 3 := by decide +kernel
def f_X13_roll_146 (i0 : Nat → Int32) (l0 : Nat → Nat → Int64) (K109 : (Nat → Nat → Int32) → Int32 → Int32 → Int32 → Int32 → Int32 → Option (Int32 × (Nat → Nat → Int32))) (r0 : Nat → Nat → Int32) (x1 : Int32) (x2 : Int32) (x3 : Int32) (x5 : Int32) (x6 : Int32) : Option (Int32 × (Nat → Nat → Int32)) := K109 r0 x1 x2 x3 x5 (x6 + 1)
set_option maxRecDepth 100000 in
set_option maxHeartbeats 4000000 in
theorem w_X13_roll_146 {p : Program} {l : Launch} {e : Env} {s : State} {m : MethodId} {args : Array Value} {below : List Frame} {meth : Method} {c : Code} {A : Nat → Prop} {D : va_G} {cs zs : Nat → Nat} {h0 : Nat} {a0 : Nat → Nat} {i0 : Nat → Int32} {l0 : Nat → Nat → Int64} {q : Int32 × (Nat → Nat → Int32)} (C : Cx p s m args meth c A D cs zs cX13_roll 7 (some .int) RX13) (K109 : (Nat → Nat → Int32) → Int32 → Int32 → Int32 → Int32 → Int32 → Option (Int32 × (Nat → Nat → Int32))) (hK109 : ∀ (r0 : Nat → Nat → Int32) (x1 : Int32) (x2 : Int32) (x3 : Int32) (x5 : Int32) (x6 : Int32) (H : Heap) (locs : List Loc) (ls : Array Slot), K109 r0 x1 x2 x3 x5 x6 = some q → va_P D vwCl (W13 cs h0 a0 i0 r0 l0) H → va_D A (W13 cs h0 a0 i0 r0 l0) → va_S A s.heap H locs → lv_has ls 7 [(0, .ref h0), (1, .int x1), (2, .int x2), (3, .int x3), (5, .int x5), (6, .int x6)] → W p l e rmX13_roll s m args below meth c H locs 0 0 (MQ below (Qi D cs A q.1 (W13 cs h0 a0 i0 q.2 l0)) args s 0 0 A) (F0 m 109 ls [])) : ∀ (r0 : Nat → Nat → Int32) (x1 : Int32) (x2 : Int32) (x3 : Int32) (x5 : Int32) (x6 : Int32) (H : Heap) (locs : List Loc) (ls : Array Slot), f_X13_roll_146 i0 l0 K109 r0 x1 x2 x3 x5 x6 = some q → va_P D vwCl (W13 cs h0 a0 i0 r0 l0) H → va_D A (W13 cs h0 a0 i0 r0 l0) → va_S A s.heap H locs → lv_has ls 7 [(0, .ref h0), (1, .int x1), (2, .int x2), (3, .int x3), (5, .int x5), (6, .int x6)] → W p l e rmX13_roll s m args below meth c H locs 0 0 (MQ below (Qi D cs A q.1 (W13 cs h0 a0 i0 q.2 l0)) args s 0 0 A) (F0 m 146 ls []) := by
  obtain ⟨hx, hb, hr, hml, hown, hts, hK, hA, hlocks, hZ⟩ := id C
  intro r0 x1 x2 x3 x5 x6 H locs ls hf hP hD hS hl
  rw [f_X13_roll_146] at hf
  refine lv_iinc (v := x6 + 1) (lv' := [(6, .int (x6 + 1)), (0, .ref h0), (1, .int x1), (2, .int x2), (3, .int x3), (5, .int x5)]) hx hb dX13_roll_146 hl (k := 5) rfl rfl (by decide) rfl (fun ls hl => ?_)
  refine lv_goto (tgt := 109) hx hb dX13_roll_149 (by decide) ?_
  exact hK109 _ _ _ _ _ _ _ _ _ hf hP hD hS (lv_sub hl [1, 2, 3, 4, 5, 0] rfl)
def f_X13_roll_162 (i0 : Nat → Int32) (l0 : Nat → Nat → Int64)  : Nat → (Nat → Nat → Int32) → Int32 → Int32 → Int32 → Option (Int32 × (Nat → Nat → Int32))
  | 0, _, _, _, _ => none
  | n + 1, r0, x1, x3, x6 => if x6 < 0 then (bd (f_X13_copyFloor i0 r0 l0 6 x3) (fun q10 => ck (inb x3 8) (some (q10 11 x3.toNatClampNeg, q10)))) else (ck (inb ((40 * x1) + x6) 320) (ck (inb ((40 * x1) + x6) 320) (ck (inb ((40 * x1) + x6) 320) (bd (f_X13_add i0 r0 l0 (r0 12 ((40 * x1) + x6).toNatClampNeg) (r0 13 ((40 * x1) + x6).toNatClampNeg) (r0 14 ((40 * x1) + x6).toNatClampNeg)) (fun q11 => f_X13_roll_162 i0 l0 n q11 x1 x3 (x6 + (-1)))))))
set_option maxRecDepth 100000 in
set_option maxHeartbeats 4000000 in
theorem w_X13_roll_162 {p : Program} {l : Launch} {e : Env} {s : State} {m : MethodId} {args : Array Value} {below : List Frame} {meth : Method} {c : Code} {A : Nat → Prop} {D : va_G} {cs zs : Nat → Nat} {h0 : Nat} {a0 : Nat → Nat} {i0 : Nat → Int32} {l0 : Nat → Nat → Int64} {q : Int32 × (Nat → Nat → Int32)} (C : Cx p s m args meth c A D cs zs cX13_roll 7 (some .int) RX13)  : ∀ (n : Nat), ∀ (r0 : Nat → Nat → Int32) (x1 : Int32) (x3 : Int32) (x6 : Int32) (H : Heap) (locs : List Loc) (ls : Array Slot), f_X13_roll_162 i0 l0 n r0 x1 x3 x6 = some q → va_P D vwCl (W13 cs h0 a0 i0 r0 l0) H → va_D A (W13 cs h0 a0 i0 r0 l0) → va_S A s.heap H locs → lv_has ls 7 [(0, .ref h0), (1, .int x1), (3, .int x3), (6, .int x6)] → W p l e rmX13_roll s m args below meth c H locs 0 0 (MQ below (Qi D cs A q.1 (W13 cs h0 a0 i0 q.2 l0)) args s 0 0 A) (F0 m 162 ls []) := by
  obtain ⟨hx, hb, hr, hml, hown, hts, hK, hA, hlocks, hZ⟩ := id C
  intro n
  induction n with
  | zero =>
    intro r0 x1 x3 x6 H locs ls hf
    rw [f_X13_roll_162] at hf
    cases hf
  | succ n ih =>
    intro r0 x1 x3 x6 H locs ls hf hP hD hS hl
    rw [f_X13_roll_162] at hf
    refine lv_iload hx hb dX13_roll_162 (lv_at hl 3 rfl) ?_
    refine lv_if_lt (tgt := 213) hx hb dX13_roll_164 (by decide) (fun hc => ?_) (fun hc => ?_)
    · have hf := ite_t hf hc
      refine lv_aload_n hx hb dX13_roll_213 rfl (lv_at hl 0 rfl) ?_
      refine lv_bipush (v := 6) hx hb dX13_roll_214 (by decide) ?_
      refine lv_iload_n hx hb dX13_roll_216 rfl (lv_at hl 2 rfl) ?_
      obtain ⟨q10, hq10, hf⟩ := bd_s hf
      refine k_sVv (ws2 := W13 cs h0 a0 i0 q10 l0) (As := [.int 6, .int x3]) (rest := []) hx hb hml hown hts hK hA hZ hl.1 hP hD hS (c_X13_copyFloor (h0 := h0) (a0 := a0) hq10) (gVt mlX13_299 imX13_copyFloor seX13_copyFloor inX13 coX13_copyFloor) rfl qnX13_copyFloor rfl rfl ⟨Nat.le_of_ble_eq_true rfl, Nat.le_of_ble_eq_true rfl⟩ 0 13 rfl rfl rfl rfl rfl (Nat.le_of_ble_eq_true rfl) ⟨Nat.zero_le _, Nat.zero_le _⟩ dX13_roll_217 (fun H locs hP hD hS => ?_)
      refine lv_aload_n hx hb dX13_roll_220 rfl (lv_at hl 0 rfl) ?_
      refine va_get (D := D) (ci := 13) (v := .ref (a0 11)) (C := RX13) (T := TX13) (N := 87) hx hb hts hiX13 hown hK hP 0 rfl rfl 11 (by decide) (hts _ flX13_86) (fun _ h9 => h9) rfl dX13_roll_221 ?_
      refine lv_iload_n hx hb dX13_roll_224 rfl (lv_at hl 2 rfl) ?_
      refine va_iald (f := q10 11) hx hb hK hP 3 0 rfl rfl (ck_in hf) dX13_roll_225 ?_
      have hf := ck_2 hf
      obtain rfl := Option.some.inj hf
      exact k_iret hx hb hr hlocks hK hP hD hS dX13_roll_226
    · have hf := ite_f hf hc
      refine lv_aload_n hx hb dX13_roll_167 rfl (lv_at hl 0 rfl) ?_
      refine lv_aload_n hx hb dX13_roll_168 rfl (lv_at hl 0 rfl) ?_
      refine va_get (D := D) (ci := 13) (v := .ref (a0 12)) (C := RX13) (T := TX13) (N := 87) hx hb hts hiX13 hown hK hP 0 rfl rfl 12 (by decide) (hts _ flX13_90) (fun _ h9 => h9) rfl dX13_roll_169 ?_
      refine lv_bipush (v := 40) hx hb dX13_roll_172 (by decide) ?_
      refine lv_iload_n hx hb dX13_roll_174 rfl (lv_at hl 1 rfl) ?_
      refine lv_imul hx hb dX13_roll_175 ?_
      refine lv_iload hx hb dX13_roll_176 (lv_at hl 3 rfl) ?_
      refine lv_iadd hx hb dX13_roll_178 ?_
      refine va_iald (f := r0 12) hx hb hK hP 4 0 rfl rfl (ck_in hf) dX13_roll_179 ?_
      have hf := ck_2 hf
      refine lv_aload_n hx hb dX13_roll_180 rfl (lv_at hl 0 rfl) ?_
      refine va_get (D := D) (ci := 13) (v := .ref (a0 13)) (C := RX13) (T := TX13) (N := 87) hx hb hts hiX13 hown hK hP 0 rfl rfl 13 (by decide) (hts _ flX13_93) (fun _ h9 => h9) rfl dX13_roll_181 ?_
      refine lv_bipush (v := 40) hx hb dX13_roll_184 (by decide) ?_
      refine lv_iload_n hx hb dX13_roll_186 rfl (lv_at hl 1 rfl) ?_
      refine lv_imul hx hb dX13_roll_187 ?_
      refine lv_iload hx hb dX13_roll_188 (lv_at hl 3 rfl) ?_
      refine lv_iadd hx hb dX13_roll_190 ?_
      refine va_iald (f := r0 13) hx hb hK hP 5 0 rfl rfl (ck_in hf) dX13_roll_191 ?_
      have hf := ck_2 hf
      refine lv_aload_n hx hb dX13_roll_192 rfl (lv_at hl 0 rfl) ?_
      refine va_get (D := D) (ci := 13) (v := .ref (a0 14)) (C := RX13) (T := TX13) (N := 87) hx hb hts hiX13 hown hK hP 0 rfl rfl 14 (by decide) (hts _ flX13_96) (fun _ h9 => h9) rfl dX13_roll_193 ?_
      refine lv_bipush (v := 40) hx hb dX13_roll_196 (by decide) ?_
      refine lv_iload_n hx hb dX13_roll_198 rfl (lv_at hl 1 rfl) ?_
      refine lv_imul hx hb dX13_roll_199 ?_
      refine lv_iload hx hb dX13_roll_200 (lv_at hl 3 rfl) ?_
      refine lv_iadd hx hb dX13_roll_202 ?_
      refine va_iald (f := r0 14) hx hb hK hP 6 0 rfl rfl (ck_in hf) dX13_roll_203 ?_
      have hf := ck_2 hf
      obtain ⟨q11, hq11, hf⟩ := bd_s hf
      refine k_sVv (ws2 := W13 cs h0 a0 i0 q11 l0) (As := [.int (r0 12 ((40 * x1) + x6).toNatClampNeg), .int (r0 13 ((40 * x1) + x6).toNatClampNeg), .int (r0 14 ((40 * x1) + x6).toNatClampNeg)]) (rest := []) hx hb hml hown hts hK hA hZ hl.1 hP hD hS (c_X13_add (h0 := h0) (a0 := a0) hq11) (gVt mlX13_115 imX13_add seX13_add inX13 coX13_add) rfl qnX13_add rfl rfl ⟨Nat.le_of_ble_eq_true rfl, Nat.le_of_ble_eq_true rfl⟩ 0 13 rfl rfl rfl rfl rfl (Nat.le_of_ble_eq_true rfl) ⟨Nat.zero_le _, Nat.zero_le _⟩ dX13_roll_204 (fun H locs hP hD hS => ?_)
      refine lv_iinc (v := x6 + (-1)) (lv' := [(6, .int (x6 + (-1))), (0, .ref h0), (1, .int x1), (3, .int x3)]) hx hb dX13_roll_207 hl (k := 3) rfl rfl (by decide) rfl (fun ls hl => ?_)
      refine lv_goto (tgt := 162) hx hb dX13_roll_210 (by decide) ?_
      exact ih _ _ _ _ _ _ _ hf hP hD hS (lv_sub hl [1, 2, 3, 0] rfl)
def f_X13_roll_109 (i0 : Nat → Int32) (l0 : Nat → Nat → Int64)  : Nat → (Nat → Nat → Int32) → Int32 → Int32 → Int32 → Int32 → Int32 → Option (Int32 × (Nat → Nat → Int32))
  | 0, _, _, _, _, _, _ => none
  | n + 1, r0, x1, x2, x3, x5, x6 => ck (inb x1 8) (if (r0 10 x1.toNatClampNeg) ≤ x6 then (ck (inb x1 8) (f_X13_roll_162 i0 l0 2000000 r0 x1 x3 ((r0 11 x1.toNatClampNeg) - 1))) else (bd (f_X13_bit x2 x6) (fun q12 => if q12 = 0 then (f_X13_roll_146 i0 l0 (f_X13_roll_109 i0 l0 n) r0 x1 x2 x3 x5 x6) else (bd (f_X13_add i0 r0 l0 x5 (-1) ((1 : Int32) <<< (x6 &&& 31))) (fun q13 => f_X13_roll_146 i0 l0 (f_X13_roll_109 i0 l0 n) q13 x1 x2 x3 (x5 + 1) x6)))))
set_option maxRecDepth 100000 in
set_option maxHeartbeats 4000000 in
theorem w_X13_roll_109 {p : Program} {l : Launch} {e : Env} {s : State} {m : MethodId} {args : Array Value} {below : List Frame} {meth : Method} {c : Code} {A : Nat → Prop} {D : va_G} {cs zs : Nat → Nat} {h0 : Nat} {a0 : Nat → Nat} {i0 : Nat → Int32} {l0 : Nat → Nat → Int64} {q : Int32 × (Nat → Nat → Int32)} (C : Cx p s m args meth c A D cs zs cX13_roll 7 (some .int) RX13)  : ∀ (n : Nat), ∀ (r0 : Nat → Nat → Int32) (x1 : Int32) (x2 : Int32) (x3 : Int32) (x5 : Int32) (x6 : Int32) (H : Heap) (locs : List Loc) (ls : Array Slot), f_X13_roll_109 i0 l0 n r0 x1 x2 x3 x5 x6 = some q → va_P D vwCl (W13 cs h0 a0 i0 r0 l0) H → va_D A (W13 cs h0 a0 i0 r0 l0) → va_S A s.heap H locs → lv_has ls 7 [(0, .ref h0), (1, .int x1), (2, .int x2), (3, .int x3), (5, .int x5), (6, .int x6)] → W p l e rmX13_roll s m args below meth c H locs 0 0 (MQ below (Qi D cs A q.1 (W13 cs h0 a0 i0 q.2 l0)) args s 0 0 A) (F0 m 109 ls []) := by
  obtain ⟨hx, hb, hr, hml, hown, hts, hK, hA, hlocks, hZ⟩ := id C
  intro n
  induction n with
  | zero =>
    intro r0 x1 x2 x3 x5 x6 H locs ls hf
    rw [f_X13_roll_109] at hf
    cases hf
  | succ n ih =>
    intro r0 x1 x2 x3 x5 x6 H locs ls hf hP hD hS hl
    rw [f_X13_roll_109] at hf
    refine lv_iload hx hb dX13_roll_109 (lv_at hl 5 rfl) ?_
    refine lv_aload_n hx hb dX13_roll_111 rfl (lv_at hl 0 rfl) ?_
    refine va_get (D := D) (ci := 13) (v := .ref (a0 10)) (C := RX13) (T := TX13) (N := 87) hx hb hts hiX13 hown hK hP 0 rfl rfl 10 (by decide) (hts _ flX13_99) (fun _ h9 => h9) rfl dX13_roll_112 ?_
    refine lv_iload_n hx hb dX13_roll_115 rfl (lv_at hl 1 rfl) ?_
    refine va_iald (f := r0 10) hx hb hK hP 2 0 rfl rfl (ck_in hf) dX13_roll_116 ?_
    have hf := ck_2 hf
    refine lv_icmp_ge (tgt := 152) hx hb dX13_roll_117 (by decide) (fun hc => ?_) (fun hc => ?_)
    · have hf := ite_t hf hc
      refine lv_aload_n hx hb dX13_roll_152 rfl (lv_at hl 0 rfl) ?_
      refine va_get (D := D) (ci := 13) (v := .ref (a0 11)) (C := RX13) (T := TX13) (N := 87) hx hb hts hiX13 hown hK hP 0 rfl rfl 11 (by decide) (hts _ flX13_86) (fun _ h9 => h9) rfl dX13_roll_153 ?_
      refine lv_iload_n hx hb dX13_roll_156 rfl (lv_at hl 1 rfl) ?_
      refine va_iald (f := r0 11) hx hb hK hP 3 0 rfl rfl (ck_in hf) dX13_roll_157 ?_
      have hf := ck_2 hf
      refine lv_iconst (v := 1) hx hb dX13_roll_158 (by decide) ?_
      refine lv_isub hx hb dX13_roll_159 ?_
      refine lv_istore (lv' := [(6, .int ((r0 11 x1.toNatClampNeg) - 1)), (0, .ref h0), (1, .int x1), (2, .int x2), (3, .int x3), (5, .int x5)]) hx hb dX13_roll_160 hl (by decide) rfl (fun ls hl => ?_)
      exact w_X13_roll_162 C  2000000 _ _ _ _ _ _ _ hf hP hD hS (lv_sub hl [1, 2, 4, 0] rfl)
    · have hf := ite_f hf hc
      refine lv_iload_n hx hb dX13_roll_120 rfl (lv_at hl 2 rfl) ?_
      refine lv_iload hx hb dX13_roll_121 (lv_at hl 5 rfl) ?_
      obtain ⟨q12, hq12, hf⟩ := bd_s hf
      refine k_eSi (As := [.int x2, .int x6]) (rest := []) hx hb hml hown hts hK hA hZ hl.1 hP hD hS (c_X13_bit  hq12) (gSt mlX13_303 stX13_bit inX13 coX13_bit) rfl qnX13_bit rfl rfl ⟨Nat.le_of_ble_eq_true rfl, Nat.le_of_ble_eq_true rfl⟩ rfl rfl (Nat.le_of_ble_eq_true rfl) ⟨Nat.zero_le _, Nat.zero_le _⟩ dX13_roll_123 (fun H locs hP hD hS => ?_)
      refine lv_if_ne (tgt := 132) hx hb dX13_roll_126 (by decide) (fun hc => ?_) (fun hc => ?_)
      · have hf := ite_f hf hc
        refine lv_aload_n hx hb dX13_roll_132 rfl (lv_at hl 0 rfl) ?_
        refine lv_iload hx hb dX13_roll_133 (lv_at hl 4 rfl) ?_
        refine lv_iconst (v := (-1)) hx hb dX13_roll_135 (by decide) ?_
        refine lv_iconst (v := 1) hx hb dX13_roll_136 (by decide) ?_
        refine lv_iload hx hb dX13_roll_137 (lv_at hl 5 rfl) ?_
        refine lv_ishl hx hb dX13_roll_139 ?_
        obtain ⟨q13, hq13, hf⟩ := bd_s hf
        refine k_sVv (ws2 := W13 cs h0 a0 i0 q13 l0) (As := [.int x5, .int (-1), .int ((1 : Int32) <<< (x6 &&& 31))]) (rest := []) hx hb hml hown hts hK hA hZ hl.1 hP hD hS (c_X13_add (h0 := h0) (a0 := a0) hq13) (gVt mlX13_115 imX13_add seX13_add inX13 coX13_add) rfl qnX13_add rfl rfl ⟨Nat.le_of_ble_eq_true rfl, Nat.le_of_ble_eq_true rfl⟩ 0 13 rfl rfl rfl rfl rfl (Nat.le_of_ble_eq_true rfl) ⟨Nat.zero_le _, Nat.zero_le _⟩ dX13_roll_140 (fun H locs hP hD hS => ?_)
        refine lv_iinc (v := x5 + 1) (lv' := [(5, .int (x5 + 1)), (0, .ref h0), (1, .int x1), (2, .int x2), (3, .int x3), (6, .int x6)]) hx hb dX13_roll_143 hl (k := 4) rfl rfl (by decide) rfl (fun ls hl => ?_)
        exact w_X13_roll_146 C _ (ih) _ _ _ _ _ _ _ _ _ hf hP hD hS (lv_sub hl [1, 2, 3, 4, 0, 5] rfl)
      · have hf := ite_t hf hc
        refine lv_goto (tgt := 146) hx hb dX13_roll_129 (by decide) ?_
        exact w_X13_roll_146 C _ (ih) _ _ _ _ _ _ _ _ _ hf hP hD hS (lv_sub hl [0, 1, 2, 3, 4, 5] rfl)
def f_X13_roll_98 (i0 : Nat → Int32) (l0 : Nat → Nat → Int64)  (r0 : Nat → Nat → Int32) (x1 : Int32) (x2 : Int32) (x3 : Int32) : Option (Int32 × (Nat → Nat → Int32)) := ck (inb x1 8) (f_X13_roll_109 i0 l0 2000000 r0 x1 x2 x3 (r0 10 x1.toNatClampNeg) 0)
set_option maxRecDepth 100000 in
set_option maxHeartbeats 4000000 in
theorem w_X13_roll_98 {p : Program} {l : Launch} {e : Env} {s : State} {m : MethodId} {args : Array Value} {below : List Frame} {meth : Method} {c : Code} {A : Nat → Prop} {D : va_G} {cs zs : Nat → Nat} {h0 : Nat} {a0 : Nat → Nat} {i0 : Nat → Int32} {l0 : Nat → Nat → Int64} {q : Int32 × (Nat → Nat → Int32)} (C : Cx p s m args meth c A D cs zs cX13_roll 7 (some .int) RX13)  : ∀ (r0 : Nat → Nat → Int32) (x1 : Int32) (x2 : Int32) (x3 : Int32) (H : Heap) (locs : List Loc) (ls : Array Slot), f_X13_roll_98 i0 l0 r0 x1 x2 x3 = some q → va_P D vwCl (W13 cs h0 a0 i0 r0 l0) H → va_D A (W13 cs h0 a0 i0 r0 l0) → va_S A s.heap H locs → lv_has ls 7 [(0, .ref h0), (1, .int x1), (2, .int x2), (3, .int x3)] → W p l e rmX13_roll s m args below meth c H locs 0 0 (MQ below (Qi D cs A q.1 (W13 cs h0 a0 i0 q.2 l0)) args s 0 0 A) (F0 m 98 ls []) := by
  obtain ⟨hx, hb, hr, hml, hown, hts, hK, hA, hlocks, hZ⟩ := id C
  intro r0 x1 x2 x3 H locs ls hf hP hD hS hl
  rw [f_X13_roll_98] at hf
  refine lv_aload_n hx hb dX13_roll_98 rfl (lv_at hl 0 rfl) ?_
  refine va_get (D := D) (ci := 13) (v := .ref (a0 10)) (C := RX13) (T := TX13) (N := 87) hx hb hts hiX13 hown hK hP 0 rfl rfl 10 (by decide) (hts _ flX13_99) (fun _ h9 => h9) rfl dX13_roll_99 ?_
  refine lv_iload_n hx hb dX13_roll_102 rfl (lv_at hl 1 rfl) ?_
  refine va_iald (f := r0 10) hx hb hK hP 2 0 rfl rfl (ck_in hf) dX13_roll_103 ?_
  have hf := ck_2 hf
  refine lv_istore (lv' := [(5, .int (r0 10 x1.toNatClampNeg)), (0, .ref h0), (1, .int x1), (2, .int x2), (3, .int x3)]) hx hb dX13_roll_104 hl (by decide) rfl (fun ls hl => ?_)
  refine lv_iconst (v := 0) hx hb dX13_roll_106 (by decide) ?_
  refine lv_istore (lv' := [(6, .int 0), (5, .int (r0 10 x1.toNatClampNeg)), (0, .ref h0), (1, .int x1), (2, .int x2), (3, .int x3)]) hx hb dX13_roll_107 hl (by decide) rfl (fun ls hl => ?_)
  exact w_X13_roll_109 C  2000000 _ _ _ _ _ _ _ _ _ hf hP hD hS (lv_sub hl [2, 3, 4, 5, 1, 0] rfl)
def f_X13_roll  (i0 : Nat → Int32) (r0 : Nat → Nat → Int32) (l0 : Nat → Nat → Int64) (x1 : Int32) (x2 : Int32) (x3 : Int32) : Option (Int32 × (Nat → Nat → Int32)) := bd (f_X13_isFloor x1) (fun q14 => if q14 = 0 then (some ((-2), r0)) else (bd (f_X13_isFloor x3) (fun q15 => if q15 = 0 then (some ((-2), r0)) else (ck (inb x1 8) (bd (f_X13_in x2.toInt64 1 (((1 : Int64) <<< ((r0 10 x1.toNatClampNeg).toInt64 &&& 63)) - 1)) (fun q16 => if q16 = 0 then (some ((-2), r0)) else (bd (f_X13_bits x2) (fun q17 => ck (inb x1 8) (if 8 < ((r0 10 x1.toNatClampNeg) + q17) then (some ((-3), r0)) else (ck (inb x1 8) (if ((2 * (r0 11 x1.toNatClampNeg)) + q17) ≤ 40 then (bd (f_X13_copyFloor i0 r0 l0 x1 6) (fun q18 => ck (inb x1 8) (ck (inb 6 8) (f_X13_roll_98 i0 l0 (va_up q18 10 (upd (q18 10) (6 : Int32).toNatClampNeg ((q18 10 x1.toNatClampNeg) + q17))) x1 x2 x3)))) else (some ((-3), r0)))))))))))))
set_option maxRecDepth 100000 in
set_option maxHeartbeats 4000000 in
theorem c_X13_roll {l : Launch} {D : va_G} {cs zs : Nat → Nat} {h0 : Nat} {a0 : Nat → Nat} {i0 : Nat → Int32} {r0 : Nat → Nat → Int32} {l0 : Nat → Nat → Int64} {x1 : Int32} {x2 : Int32} {x3 : Int32} {q : Int32 × (Nat → Nat → Int32)} (hf : f_X13_roll i0 r0 l0 x1 x2 x3 = some q) : Mi l yX13_roll wlX13_roll rmX13_roll D cs zs [.ref h0, .int x1, .int x2, .int x3] (W13 cs h0 a0 i0 r0 l0) q.1 (W13 cs h0 a0 i0 q.2 l0) := by
  refine Mi.of RX13 (by decide) rfl (Nat.le_of_ble_eq_true rfl) (fun p e s m below meth c A C hP hD hS ls hl => ?_)
  generalize ([.ref h0, .int x1, .int x2, .int x3] : List Value).toArray = args at C ⊢
  obtain ⟨hx, hb, hr, hml, hown, hts, hK, hA, hlocks, hZ⟩ := id C
  have hl : lv_has ls 7 [(0, .ref h0), (1, .int x1), (2, .int x2), (3, .int x3)] := hl
  rw [f_X13_roll] at hf
  refine lv_iload_n hx hb dX13_roll_0 rfl (lv_at hl 1 rfl) ?_
  obtain ⟨q14, hq14, hf⟩ := bd_s hf
  refine k_eSi (As := [.int x1]) (rest := []) hx hb hml hown hts hK hA hZ hl.1 hP hD hS (c_X13_isFloor  hq14) (gSt mlX13_290 stX13_isFloor inX13 coX13_isFloor) rfl qnX13_isFloor rfl rfl ⟨Nat.le_of_ble_eq_true rfl, Nat.le_of_ble_eq_true rfl⟩ rfl rfl (Nat.le_of_ble_eq_true rfl) ⟨Nat.zero_le _, Nat.zero_le _⟩ dX13_roll_1 (fun H locs hP hD hS => ?_)
  refine lv_if_eq (tgt := 33) hx hb dX13_roll_4 (by decide) (fun hc => ?_) (fun hc => ?_)
  · have hf := ite_t hf hc
    refine lv_bipush (v := (-2)) hx hb dX13_roll_33 (by decide) ?_
    obtain rfl := Option.some.inj hf
    exact k_iret hx hb hr hlocks hK hP hD hS dX13_roll_35
  · have hf := ite_f hf hc
    refine lv_iload_n hx hb dX13_roll_7 rfl (lv_at hl 3 rfl) ?_
    obtain ⟨q15, hq15, hf⟩ := bd_s hf
    refine k_eSi (As := [.int x3]) (rest := []) hx hb hml hown hts hK hA hZ hl.1 hP hD hS (c_X13_isFloor  hq15) (gSt mlX13_290 stX13_isFloor inX13 coX13_isFloor) rfl qnX13_isFloor rfl rfl ⟨Nat.le_of_ble_eq_true rfl, Nat.le_of_ble_eq_true rfl⟩ rfl rfl (Nat.le_of_ble_eq_true rfl) ⟨Nat.zero_le _, Nat.zero_le _⟩ dX13_roll_8 (fun H locs hP hD hS => ?_)
    refine lv_if_eq (tgt := 33) hx hb dX13_roll_11 (by decide) (fun hc => ?_) (fun hc => ?_)
    · have hf := ite_t hf hc
      refine lv_bipush (v := (-2)) hx hb dX13_roll_33 (by decide) ?_
      obtain rfl := Option.some.inj hf
      exact k_iret hx hb hr hlocks hK hP hD hS dX13_roll_35
    · have hf := ite_f hf hc
      refine lv_iload_n hx hb dX13_roll_14 rfl (lv_at hl 2 rfl) ?_
      refine lv_i2l hx hb dX13_roll_15 rfl ?_
      refine lv_lconst (v := 1) hx hb dX13_roll_16 (by decide) ?_
      refine lv_lconst (v := 1) hx hb dX13_roll_17 (by decide) ?_
      refine lv_aload_n hx hb dX13_roll_18 rfl (lv_at hl 0 rfl) ?_
      refine va_get (D := D) (ci := 13) (v := .ref (a0 10)) (C := RX13) (T := TX13) (N := 87) hx hb hts hiX13 hown hK hP 0 rfl rfl 10 (by decide) (hts _ flX13_99) (fun _ h9 => h9) rfl dX13_roll_19 ?_
      refine lv_iload_n hx hb dX13_roll_22 rfl (lv_at hl 1 rfl) ?_
      refine va_iald (f := r0 10) hx hb hK hP 2 0 rfl rfl (ck_in hf) dX13_roll_23 ?_
      have hf := ck_2 hf
      refine lv_lshl hx hb dX13_roll_24 rfl ?_
      refine lv_lconst (v := 1) hx hb dX13_roll_25 (by decide) ?_
      refine lv_lsub hx hb dX13_roll_26 ?_
      obtain ⟨q16, hq16, hf⟩ := bd_s hf
      refine k_eSi (As := [.long x2.toInt64, .long 1, .long (((1 : Int64) <<< ((r0 10 x1.toNatClampNeg).toInt64 &&& 63)) - 1)]) (rest := []) hx hb hml hown hts hK hA hZ hl.1 hP hD hS (c_X13_in  hq16) (gSt mlX13_64 stX13_in inX13 coX13_in) rfl qnX13_in rfl rfl ⟨Nat.le_of_ble_eq_true rfl, Nat.le_of_ble_eq_true rfl⟩ rfl rfl (Nat.le_of_ble_eq_true rfl) ⟨Nat.zero_le _, Nat.zero_le _⟩ dX13_roll_27 (fun H locs hP hD hS => ?_)
      refine lv_if_ne (tgt := 36) hx hb dX13_roll_30 (by decide) (fun hc => ?_) (fun hc => ?_)
      · have hf := ite_f hf hc
        refine lv_iload_n hx hb dX13_roll_36 rfl (lv_at hl 2 rfl) ?_
        obtain ⟨q17, hq17, hf⟩ := bd_s hf
        refine k_eSi (As := [.int x2]) (rest := []) hx hb hml hown hts hK hA hZ hl.1 hP hD hS (c_X13_bits  hq17) (gSt mlX13_333 stX13_bits inX13 coX13_bits) rfl qnX13_bits rfl rfl ⟨Nat.le_of_ble_eq_true rfl, Nat.le_of_ble_eq_true rfl⟩ rfl rfl (Nat.le_of_ble_eq_true rfl) ⟨Nat.zero_le _, Nat.zero_le _⟩ dX13_roll_37 (fun H locs hP hD hS => ?_)
        refine lv_istore (lv' := [(4, .int q17), (0, .ref h0), (1, .int x1), (2, .int x2), (3, .int x3)]) hx hb dX13_roll_40 hl (by decide) rfl (fun ls hl => ?_)
        refine lv_aload_n hx hb dX13_roll_42 rfl (lv_at hl 1 rfl) ?_
        refine va_get (D := D) (ci := 13) (v := .ref (a0 10)) (C := RX13) (T := TX13) (N := 87) hx hb hts hiX13 hown hK hP 0 rfl rfl 10 (by decide) (hts _ flX13_99) (fun _ h9 => h9) rfl dX13_roll_43 ?_
        refine lv_iload_n hx hb dX13_roll_46 rfl (lv_at hl 2 rfl) ?_
        refine va_iald (f := r0 10) hx hb hK hP 2 0 rfl rfl (ck_in hf) dX13_roll_47 ?_
        have hf := ck_2 hf
        refine lv_iload hx hb dX13_roll_48 (lv_at hl 0 rfl) ?_
        refine lv_iadd hx hb dX13_roll_50 ?_
        refine lv_bipush (v := 8) hx hb dX13_roll_51 (by decide) ?_
        refine lv_icmp_gt (tgt := 72) hx hb dX13_roll_53 (by decide) (fun hc => ?_) (fun hc => ?_)
        · have hf := ite_t hf hc
          refine lv_bipush (v := (-3)) hx hb dX13_roll_72 (by decide) ?_
          obtain rfl := Option.some.inj hf
          exact k_iret hx hb hr hlocks hK hP hD hS dX13_roll_74
        · have hf := ite_f hf hc
          refine lv_iconst (v := 2) hx hb dX13_roll_56 (by decide) ?_
          refine lv_aload_n hx hb dX13_roll_57 rfl (lv_at hl 1 rfl) ?_
          refine va_get (D := D) (ci := 13) (v := .ref (a0 11)) (C := RX13) (T := TX13) (N := 87) hx hb hts hiX13 hown hK hP 0 rfl rfl 11 (by decide) (hts _ flX13_86) (fun _ h9 => h9) rfl dX13_roll_58 ?_
          refine lv_iload_n hx hb dX13_roll_61 rfl (lv_at hl 2 rfl) ?_
          refine va_iald (f := r0 11) hx hb hK hP 3 0 rfl rfl (ck_in hf) dX13_roll_62 ?_
          have hf := ck_2 hf
          refine lv_imul hx hb dX13_roll_63 ?_
          refine lv_iload hx hb dX13_roll_64 (lv_at hl 0 rfl) ?_
          refine lv_iadd hx hb dX13_roll_66 ?_
          refine lv_bipush (v := 40) hx hb dX13_roll_67 (by decide) ?_
          refine lv_icmp_le (tgt := 75) hx hb dX13_roll_69 (by decide) (fun hc => ?_) (fun hc => ?_)
          · have hf := ite_t hf hc
            refine lv_aload_n hx hb dX13_roll_75 rfl (lv_at hl 1 rfl) ?_
            refine lv_iload_n hx hb dX13_roll_76 rfl (lv_at hl 2 rfl) ?_
            refine lv_bipush (v := 6) hx hb dX13_roll_77 (by decide) ?_
            obtain ⟨q18, hq18, hf⟩ := bd_s hf
            refine k_sVv (ws2 := W13 cs h0 a0 i0 q18 l0) (As := [.int x1, .int 6]) (rest := []) hx hb hml hown hts hK hA hZ hl.1 hP hD hS (c_X13_copyFloor (h0 := h0) (a0 := a0) hq18) (gVt mlX13_299 imX13_copyFloor seX13_copyFloor inX13 coX13_copyFloor) rfl qnX13_copyFloor rfl rfl ⟨Nat.le_of_ble_eq_true rfl, Nat.le_of_ble_eq_true rfl⟩ 0 13 rfl rfl rfl rfl rfl (Nat.le_of_ble_eq_true rfl) ⟨Nat.zero_le _, Nat.zero_le _⟩ dX13_roll_79 (fun H locs hP hD hS => ?_)
            refine lv_aload_n hx hb dX13_roll_82 rfl (lv_at hl 1 rfl) ?_
            refine va_get (D := D) (ci := 13) (v := .ref (a0 10)) (C := RX13) (T := TX13) (N := 87) hx hb hts hiX13 hown hK hP 0 rfl rfl 10 (by decide) (hts _ flX13_99) (fun _ h9 => h9) rfl dX13_roll_83 ?_
            refine lv_bipush (v := 6) hx hb dX13_roll_86 (by decide) ?_
            refine lv_aload_n hx hb dX13_roll_88 rfl (lv_at hl 1 rfl) ?_
            refine va_get (D := D) (ci := 13) (v := .ref (a0 10)) (C := RX13) (T := TX13) (N := 87) hx hb hts hiX13 hown hK hP 0 rfl rfl 10 (by decide) (hts _ flX13_99) (fun _ h9 => h9) rfl dX13_roll_89 ?_
            refine lv_iload_n hx hb dX13_roll_92 rfl (lv_at hl 2 rfl) ?_
            refine va_iald (f := q18 10) hx hb hK hP 2 0 rfl rfl (ck_in hf) dX13_roll_93 ?_
            have hf := ck_2 hf
            refine lv_iload hx hb dX13_roll_94 (lv_at hl 0 rfl) ?_
            refine lv_iadd hx hb dX13_roll_96 ?_
            refine va_iast (f := q18 10) hx hb hK hP hD hS 2 0 rfl rfl (ck_in hf) dX13_roll_97 (fun H locs hP hD hS => ?_)
            have hf := ck_2 hf
            obtain ⟨hP, hD⟩ := st13_10 hP hD
            exact w_X13_roll_98 C  _ _ _ _ _ _ _ hf hP hD hS (lv_sub hl [1, 2, 3, 4] rfl)
          · have hf := ite_f hf hc
            refine lv_bipush (v := (-3)) hx hb dX13_roll_72 (by decide) ?_
            obtain rfl := Option.some.inj hf
            exact k_iret hx hb hr hlocks hK hP hD hS dX13_roll_74
      · have hf := ite_t hf hc
        refine lv_bipush (v := (-2)) hx hb dX13_roll_33 (by decide) ?_
        obtain rfl := Option.some.inj hf
        exact k_iret hx hb hr hlocks hK hP hD hS dX13_roll_35
/-! MarbleFloorModel.chain(III)I -/
abbrev wlX13_chain : List Cond := Cond.code yX13_chain cX13_chain 5 (some .int) :: tbG
abbrev rmX13_chain : Room := { frames := 2, cells := 0, slots := 0, locals := 45 }
theorem qnX13_chain : yX13_chain.cls = RX13 ∧ yX13_chain.cls ≠ "java/lang/invoke/MethodHandle" ∧ yX13_chain.cls ≠ "java/lang/invoke/VarHandle" ∧ (parseMethodDescriptor yX13_chain.desc).map (fun d => d.parameters.length) = some 3 := by decide +kernel
def f_X13_chain_77 (i0 : Nat → Int32) (l0 : Nat → Nat → Int64)  : Nat → (Nat → Nat → Int32) → Int32 → Int32 → Int32 → Option (Int32 × (Nat → Nat → Int32))
  | 0, _, _, _, _ => none
  | n + 1, r0, x2, x3, x4 => ck (inb x2 8) (if (r0 11 x2.toNatClampNeg) ≤ x4 then (bd (f_X13_copyFloor i0 r0 l0 6 x3) (fun q7 => ck (inb x3 8) (some (q7 11 x3.toNatClampNeg, q7)))) else (ck (inb ((40 * x2) + x4) 320) (ck (inb ((40 * x2) + x4) 320) (ck (inb ((40 * x2) + x4) 320) (bd (f_X13_add i0 r0 l0 (r0 12 ((40 * x2) + x4).toNatClampNeg) (r0 13 ((40 * x2) + x4).toNatClampNeg) (r0 14 ((40 * x2) + x4).toNatClampNeg)) (fun q8 => f_X13_chain_77 i0 l0 n q8 x2 x3 (x4 + 1)))))))
set_option maxRecDepth 100000 in
set_option maxHeartbeats 4000000 in
theorem w_X13_chain_77 {p : Program} {l : Launch} {e : Env} {s : State} {m : MethodId} {args : Array Value} {below : List Frame} {meth : Method} {c : Code} {A : Nat → Prop} {D : va_G} {cs zs : Nat → Nat} {h0 : Nat} {a0 : Nat → Nat} {i0 : Nat → Int32} {l0 : Nat → Nat → Int64} {q : Int32 × (Nat → Nat → Int32)} (C : Cx p s m args meth c A D cs zs cX13_chain 5 (some .int) RX13)  : ∀ (n : Nat), ∀ (r0 : Nat → Nat → Int32) (x2 : Int32) (x3 : Int32) (x4 : Int32) (H : Heap) (locs : List Loc) (ls : Array Slot), f_X13_chain_77 i0 l0 n r0 x2 x3 x4 = some q → va_P D vwCl (W13 cs h0 a0 i0 r0 l0) H → va_D A (W13 cs h0 a0 i0 r0 l0) → va_S A s.heap H locs → lv_has ls 5 [(0, .ref h0), (2, .int x2), (3, .int x3), (4, .int x4)] → W p l e rmX13_chain s m args below meth c H locs 0 0 (MQ below (Qi D cs A q.1 (W13 cs h0 a0 i0 q.2 l0)) args s 0 0 A) (F0 m 77 ls []) := by
  obtain ⟨hx, hb, hr, hml, hown, hts, hK, hA, hlocks, hZ⟩ := id C
  intro n
  induction n with
  | zero =>
    intro r0 x2 x3 x4 H locs ls hf
    rw [f_X13_chain_77] at hf
    cases hf
  | succ n ih =>
    intro r0 x2 x3 x4 H locs ls hf hP hD hS hl
    rw [f_X13_chain_77] at hf
    refine lv_iload hx hb dX13_chain_77 (lv_at hl 3 rfl) ?_
    refine lv_aload_n hx hb dX13_chain_79 rfl (lv_at hl 0 rfl) ?_
    refine va_get (D := D) (ci := 13) (v := .ref (a0 11)) (C := RX13) (T := TX13) (N := 87) hx hb hts hiX13 hown hK hP 0 rfl rfl 11 (by decide) (hts _ flX13_86) (fun _ h9 => h9) rfl dX13_chain_80 ?_
    refine lv_iload_n hx hb dX13_chain_83 rfl (lv_at hl 1 rfl) ?_
    refine va_iald (f := r0 11) hx hb hK hP 3 0 rfl rfl (ck_in hf) dX13_chain_84 ?_
    have hf := ck_2 hf
    refine lv_icmp_ge (tgt := 134) hx hb dX13_chain_85 (by decide) (fun hc => ?_) (fun hc => ?_)
    · have hf := ite_t hf hc
      refine lv_aload_n hx hb dX13_chain_134 rfl (lv_at hl 0 rfl) ?_
      refine lv_bipush (v := 6) hx hb dX13_chain_135 (by decide) ?_
      refine lv_iload_n hx hb dX13_chain_137 rfl (lv_at hl 2 rfl) ?_
      obtain ⟨q7, hq7, hf⟩ := bd_s hf
      refine k_sVv (ws2 := W13 cs h0 a0 i0 q7 l0) (As := [.int 6, .int x3]) (rest := []) hx hb hml hown hts hK hA hZ hl.1 hP hD hS (c_X13_copyFloor (h0 := h0) (a0 := a0) hq7) (gVt mlX13_299 imX13_copyFloor seX13_copyFloor inX13 coX13_copyFloor) rfl qnX13_copyFloor rfl rfl ⟨Nat.le_of_ble_eq_true rfl, Nat.le_of_ble_eq_true rfl⟩ 0 13 rfl rfl rfl rfl rfl (Nat.le_of_ble_eq_true rfl) ⟨Nat.zero_le _, Nat.zero_le _⟩ dX13_chain_138 (fun H locs hP hD hS => ?_)
      refine lv_aload_n hx hb dX13_chain_141 rfl (lv_at hl 0 rfl) ?_
      refine va_get (D := D) (ci := 13) (v := .ref (a0 11)) (C := RX13) (T := TX13) (N := 87) hx hb hts hiX13 hown hK hP 0 rfl rfl 11 (by decide) (hts _ flX13_86) (fun _ h9 => h9) rfl dX13_chain_142 ?_
      refine lv_iload_n hx hb dX13_chain_145 rfl (lv_at hl 2 rfl) ?_
      refine va_iald (f := q7 11) hx hb hK hP 3 0 rfl rfl (ck_in hf) dX13_chain_146 ?_
      have hf := ck_2 hf
      obtain rfl := Option.some.inj hf
      exact k_iret hx hb hr hlocks hK hP hD hS dX13_chain_147
    · have hf := ite_f hf hc
      refine lv_aload_n hx hb dX13_chain_88 rfl (lv_at hl 0 rfl) ?_
      refine lv_aload_n hx hb dX13_chain_89 rfl (lv_at hl 0 rfl) ?_
      refine va_get (D := D) (ci := 13) (v := .ref (a0 12)) (C := RX13) (T := TX13) (N := 87) hx hb hts hiX13 hown hK hP 0 rfl rfl 12 (by decide) (hts _ flX13_90) (fun _ h9 => h9) rfl dX13_chain_90 ?_
      refine lv_bipush (v := 40) hx hb dX13_chain_93 (by decide) ?_
      refine lv_iload_n hx hb dX13_chain_95 rfl (lv_at hl 1 rfl) ?_
      refine lv_imul hx hb dX13_chain_96 ?_
      refine lv_iload hx hb dX13_chain_97 (lv_at hl 3 rfl) ?_
      refine lv_iadd hx hb dX13_chain_99 ?_
      refine va_iald (f := r0 12) hx hb hK hP 4 0 rfl rfl (ck_in hf) dX13_chain_100 ?_
      have hf := ck_2 hf
      refine lv_aload_n hx hb dX13_chain_101 rfl (lv_at hl 0 rfl) ?_
      refine va_get (D := D) (ci := 13) (v := .ref (a0 13)) (C := RX13) (T := TX13) (N := 87) hx hb hts hiX13 hown hK hP 0 rfl rfl 13 (by decide) (hts _ flX13_93) (fun _ h9 => h9) rfl dX13_chain_102 ?_
      refine lv_bipush (v := 40) hx hb dX13_chain_105 (by decide) ?_
      refine lv_iload_n hx hb dX13_chain_107 rfl (lv_at hl 1 rfl) ?_
      refine lv_imul hx hb dX13_chain_108 ?_
      refine lv_iload hx hb dX13_chain_109 (lv_at hl 3 rfl) ?_
      refine lv_iadd hx hb dX13_chain_111 ?_
      refine va_iald (f := r0 13) hx hb hK hP 5 0 rfl rfl (ck_in hf) dX13_chain_112 ?_
      have hf := ck_2 hf
      refine lv_aload_n hx hb dX13_chain_113 rfl (lv_at hl 0 rfl) ?_
      refine va_get (D := D) (ci := 13) (v := .ref (a0 14)) (C := RX13) (T := TX13) (N := 87) hx hb hts hiX13 hown hK hP 0 rfl rfl 14 (by decide) (hts _ flX13_96) (fun _ h9 => h9) rfl dX13_chain_114 ?_
      refine lv_bipush (v := 40) hx hb dX13_chain_117 (by decide) ?_
      refine lv_iload_n hx hb dX13_chain_119 rfl (lv_at hl 1 rfl) ?_
      refine lv_imul hx hb dX13_chain_120 ?_
      refine lv_iload hx hb dX13_chain_121 (lv_at hl 3 rfl) ?_
      refine lv_iadd hx hb dX13_chain_123 ?_
      refine va_iald (f := r0 14) hx hb hK hP 6 0 rfl rfl (ck_in hf) dX13_chain_124 ?_
      have hf := ck_2 hf
      obtain ⟨q8, hq8, hf⟩ := bd_s hf
      refine k_sVv (ws2 := W13 cs h0 a0 i0 q8 l0) (As := [.int (r0 12 ((40 * x2) + x4).toNatClampNeg), .int (r0 13 ((40 * x2) + x4).toNatClampNeg), .int (r0 14 ((40 * x2) + x4).toNatClampNeg)]) (rest := []) hx hb hml hown hts hK hA hZ hl.1 hP hD hS (c_X13_add (h0 := h0) (a0 := a0) hq8) (gVt mlX13_115 imX13_add seX13_add inX13 coX13_add) rfl qnX13_add rfl rfl ⟨Nat.le_of_ble_eq_true rfl, Nat.le_of_ble_eq_true rfl⟩ 0 13 rfl rfl rfl rfl rfl (Nat.le_of_ble_eq_true rfl) ⟨Nat.zero_le _, Nat.zero_le _⟩ dX13_chain_125 (fun H locs hP hD hS => ?_)
      refine lv_iinc (v := x4 + 1) (lv' := [(4, .int (x4 + 1)), (0, .ref h0), (2, .int x2), (3, .int x3)]) hx hb dX13_chain_128 hl (k := 3) rfl rfl (by decide) rfl (fun ls hl => ?_)
      refine lv_goto (tgt := 77) hx hb dX13_chain_131 (by decide) ?_
      exact ih _ _ _ _ _ _ _ hf hP hD hS (lv_sub hl [1, 2, 3, 0] rfl)
def f_X13_chain  (i0 : Nat → Int32) (r0 : Nat → Nat → Int32) (l0 : Nat → Nat → Int64) (x1 : Int32) (x2 : Int32) (x3 : Int32) : Option (Int32 × (Nat → Nat → Int32)) := bd (f_X13_isFloor x1) (fun q9 => if q9 = 0 then (some ((-2), r0)) else (bd (f_X13_isFloor x2) (fun q10 => if q10 = 0 then (some ((-2), r0)) else (bd (f_X13_isFloor x3) (fun q11 => if q11 = 0 then (some ((-2), r0)) else (ck (inb x1 8) (ck (inb x2 8) (if ((r0 11 x1.toNatClampNeg) + (r0 11 x2.toNatClampNeg)) ≤ 40 then (bd (f_X13_copyFloor i0 r0 l0 x1 6) (fun q12 => ck (inb x1 8) (ck (inb x2 8) (ck (inb 6 8) (f_X13_chain_77 i0 l0 2000000 (va_up q12 10 (upd (q12 10) (6 : Int32).toNatClampNeg (if (q12 10 x1.toNatClampNeg) < (q12 10 x2.toNatClampNeg) then (q12 10 x2.toNatClampNeg) else (q12 10 x1.toNatClampNeg)))) x2 x3 0))))) else (some ((-3), r0))))))))))
set_option maxRecDepth 100000 in
set_option maxHeartbeats 4000000 in
theorem c_X13_chain {l : Launch} {D : va_G} {cs zs : Nat → Nat} {h0 : Nat} {a0 : Nat → Nat} {i0 : Nat → Int32} {r0 : Nat → Nat → Int32} {l0 : Nat → Nat → Int64} {x1 : Int32} {x2 : Int32} {x3 : Int32} {q : Int32 × (Nat → Nat → Int32)} (hf : f_X13_chain i0 r0 l0 x1 x2 x3 = some q) : Mi l yX13_chain wlX13_chain rmX13_chain D cs zs [.ref h0, .int x1, .int x2, .int x3] (W13 cs h0 a0 i0 r0 l0) q.1 (W13 cs h0 a0 i0 q.2 l0) := by
  refine Mi.of RX13 (by decide) rfl (Nat.le_of_ble_eq_true rfl) (fun p e s m below meth c A C hP hD hS ls hl => ?_)
  generalize ([.ref h0, .int x1, .int x2, .int x3] : List Value).toArray = args at C ⊢
  obtain ⟨hx, hb, hr, hml, hown, hts, hK, hA, hlocks, hZ⟩ := id C
  have hl : lv_has ls 5 [(0, .ref h0), (1, .int x1), (2, .int x2), (3, .int x3)] := hl
  rw [f_X13_chain] at hf
  refine lv_iload_n hx hb dX13_chain_0 rfl (lv_at hl 1 rfl) ?_
  obtain ⟨q9, hq9, hf⟩ := bd_s hf
  refine k_eSi (As := [.int x1]) (rest := []) hx hb hml hown hts hK hA hZ hl.1 hP hD hS (c_X13_isFloor  hq9) (gSt mlX13_290 stX13_isFloor inX13 coX13_isFloor) rfl qnX13_isFloor rfl rfl ⟨Nat.le_of_ble_eq_true rfl, Nat.le_of_ble_eq_true rfl⟩ rfl rfl (Nat.le_of_ble_eq_true rfl) ⟨Nat.zero_le _, Nat.zero_le _⟩ dX13_chain_1 (fun H locs hP hD hS => ?_)
  refine lv_if_eq (tgt := 21) hx hb dX13_chain_4 (by decide) (fun hc => ?_) (fun hc => ?_)
  · have hf := ite_t hf hc
    refine lv_bipush (v := (-2)) hx hb dX13_chain_21 (by decide) ?_
    obtain rfl := Option.some.inj hf
    exact k_iret hx hb hr hlocks hK hP hD hS dX13_chain_23
  · have hf := ite_f hf hc
    refine lv_iload_n hx hb dX13_chain_7 rfl (lv_at hl 2 rfl) ?_
    obtain ⟨q10, hq10, hf⟩ := bd_s hf
    refine k_eSi (As := [.int x2]) (rest := []) hx hb hml hown hts hK hA hZ hl.1 hP hD hS (c_X13_isFloor  hq10) (gSt mlX13_290 stX13_isFloor inX13 coX13_isFloor) rfl qnX13_isFloor rfl rfl ⟨Nat.le_of_ble_eq_true rfl, Nat.le_of_ble_eq_true rfl⟩ rfl rfl (Nat.le_of_ble_eq_true rfl) ⟨Nat.zero_le _, Nat.zero_le _⟩ dX13_chain_8 (fun H locs hP hD hS => ?_)
    refine lv_if_eq (tgt := 21) hx hb dX13_chain_11 (by decide) (fun hc => ?_) (fun hc => ?_)
    · have hf := ite_t hf hc
      refine lv_bipush (v := (-2)) hx hb dX13_chain_21 (by decide) ?_
      obtain rfl := Option.some.inj hf
      exact k_iret hx hb hr hlocks hK hP hD hS dX13_chain_23
    · have hf := ite_f hf hc
      refine lv_iload_n hx hb dX13_chain_14 rfl (lv_at hl 3 rfl) ?_
      obtain ⟨q11, hq11, hf⟩ := bd_s hf
      refine k_eSi (As := [.int x3]) (rest := []) hx hb hml hown hts hK hA hZ hl.1 hP hD hS (c_X13_isFloor  hq11) (gSt mlX13_290 stX13_isFloor inX13 coX13_isFloor) rfl qnX13_isFloor rfl rfl ⟨Nat.le_of_ble_eq_true rfl, Nat.le_of_ble_eq_true rfl⟩ rfl rfl (Nat.le_of_ble_eq_true rfl) ⟨Nat.zero_le _, Nat.zero_le _⟩ dX13_chain_15 (fun H locs hP hD hS => ?_)
      refine lv_if_ne (tgt := 24) hx hb dX13_chain_18 (by decide) (fun hc => ?_) (fun hc => ?_)
      · have hf := ite_f hf hc
        refine lv_aload_n hx hb dX13_chain_24 rfl (lv_at hl 0 rfl) ?_
        refine va_get (D := D) (ci := 13) (v := .ref (a0 11)) (C := RX13) (T := TX13) (N := 87) hx hb hts hiX13 hown hK hP 0 rfl rfl 11 (by decide) (hts _ flX13_86) (fun _ h9 => h9) rfl dX13_chain_25 ?_
        refine lv_iload_n hx hb dX13_chain_28 rfl (lv_at hl 1 rfl) ?_
        refine va_iald (f := r0 11) hx hb hK hP 3 0 rfl rfl (ck_in hf) dX13_chain_29 ?_
        have hf := ck_2 hf
        refine lv_aload_n hx hb dX13_chain_30 rfl (lv_at hl 0 rfl) ?_
        refine va_get (D := D) (ci := 13) (v := .ref (a0 11)) (C := RX13) (T := TX13) (N := 87) hx hb hts hiX13 hown hK hP 0 rfl rfl 11 (by decide) (hts _ flX13_86) (fun _ h9 => h9) rfl dX13_chain_31 ?_
        refine lv_iload_n hx hb dX13_chain_34 rfl (lv_at hl 2 rfl) ?_
        refine va_iald (f := r0 11) hx hb hK hP 3 0 rfl rfl (ck_in hf) dX13_chain_35 ?_
        have hf := ck_2 hf
        refine lv_iadd hx hb dX13_chain_36 ?_
        refine lv_bipush (v := 40) hx hb dX13_chain_37 (by decide) ?_
        refine lv_icmp_le (tgt := 45) hx hb dX13_chain_39 (by decide) (fun hc => ?_) (fun hc => ?_)
        · have hf := ite_t hf hc
          refine lv_aload_n hx hb dX13_chain_45 rfl (lv_at hl 0 rfl) ?_
          refine lv_iload_n hx hb dX13_chain_46 rfl (lv_at hl 1 rfl) ?_
          refine lv_bipush (v := 6) hx hb dX13_chain_47 (by decide) ?_
          obtain ⟨q12, hq12, hf⟩ := bd_s hf
          refine k_sVv (ws2 := W13 cs h0 a0 i0 q12 l0) (As := [.int x1, .int 6]) (rest := []) hx hb hml hown hts hK hA hZ hl.1 hP hD hS (c_X13_copyFloor (h0 := h0) (a0 := a0) hq12) (gVt mlX13_299 imX13_copyFloor seX13_copyFloor inX13 coX13_copyFloor) rfl qnX13_copyFloor rfl rfl ⟨Nat.le_of_ble_eq_true rfl, Nat.le_of_ble_eq_true rfl⟩ 0 13 rfl rfl rfl rfl rfl (Nat.le_of_ble_eq_true rfl) ⟨Nat.zero_le _, Nat.zero_le _⟩ dX13_chain_49 (fun H locs hP hD hS => ?_)
          refine lv_aload_n hx hb dX13_chain_52 rfl (lv_at hl 0 rfl) ?_
          refine va_get (D := D) (ci := 13) (v := .ref (a0 10)) (C := RX13) (T := TX13) (N := 87) hx hb hts hiX13 hown hK hP 0 rfl rfl 10 (by decide) (hts _ flX13_99) (fun _ h9 => h9) rfl dX13_chain_53 ?_
          refine lv_bipush (v := 6) hx hb dX13_chain_56 (by decide) ?_
          refine lv_aload_n hx hb dX13_chain_58 rfl (lv_at hl 0 rfl) ?_
          refine va_get (D := D) (ci := 13) (v := .ref (a0 10)) (C := RX13) (T := TX13) (N := 87) hx hb hts hiX13 hown hK hP 0 rfl rfl 10 (by decide) (hts _ flX13_99) (fun _ h9 => h9) rfl dX13_chain_59 ?_
          refine lv_iload_n hx hb dX13_chain_62 rfl (lv_at hl 1 rfl) ?_
          refine va_iald (f := q12 10) hx hb hK hP 2 0 rfl rfl (ck_in hf) dX13_chain_63 ?_
          have hf := ck_2 hf
          refine lv_aload_n hx hb dX13_chain_64 rfl (lv_at hl 0 rfl) ?_
          refine va_get (D := D) (ci := 13) (v := .ref (a0 10)) (C := RX13) (T := TX13) (N := 87) hx hb hts hiX13 hown hK hP 0 rfl rfl 10 (by decide) (hts _ flX13_99) (fun _ h9 => h9) rfl dX13_chain_65 ?_
          refine lv_iload_n hx hb dX13_chain_68 rfl (lv_at hl 2 rfl) ?_
          refine va_iald (f := q12 10) hx hb hK hP 2 0 rfl rfl (ck_in hf) dX13_chain_69 ?_
          have hf := ck_2 hf
          refine va_mmax hx hb (hml.trans hl.1.symm) hown (hts _ mlX13_366) (hts _ stJ9_max_7cf53) (hts _ ini_Math) (hts _ coJ9_max_7cf53) (Nat.le_of_ble_eq_true rfl) (Nat.le_of_ble_eq_true rfl) (Nat.zero_le _) (Nat.zero_le _) dX13_chain_70 ?_
          refine va_iast (f := q12 10) hx hb hK hP hD hS 2 0 rfl rfl (ck_in hf) dX13_chain_73 (fun H locs hP hD hS => ?_)
          have hf := ck_2 hf
          obtain ⟨hP, hD⟩ := st13_10 hP hD
          refine lv_iconst (v := 0) hx hb dX13_chain_74 (by decide) ?_
          refine lv_istore (lv' := [(4, .int 0), (0, .ref h0), (1, .int x1), (2, .int x2), (3, .int x3)]) hx hb dX13_chain_75 hl (by decide) rfl (fun ls hl => ?_)
          exact w_X13_chain_77 C  2000000 _ _ _ _ _ _ _ hf hP hD hS (lv_sub hl [1, 3, 4, 0] rfl)
        · have hf := ite_f hf hc
          refine lv_bipush (v := (-3)) hx hb dX13_chain_42 (by decide) ?_
          obtain rfl := Option.some.inj hf
          exact k_iret hx hb hr hlocks hK hP hD hS dX13_chain_44
      · have hf := ite_t hf hc
        refine lv_bipush (v := (-2)) hx hb dX13_chain_21 (by decide) ?_
        obtain rfl := Option.some.inj hf
        exact k_iret hx hb hr hlocks hK hP hD hS dX13_chain_23
/-! MarbleFloorModel.letter(I)I -/
abbrev wlX13_letter : List Cond := Cond.code yX13_letter cX13_letter 1 (some .int) :: tbG
abbrev rmX13_letter : Room := { frames := 0, cells := 0, slots := 0, locals := 0 }
theorem qnX13_letter : yX13_letter.cls ≠ "java/lang/invoke/MethodHandle" ∧ yX13_letter.cls ≠ "java/lang/invoke/VarHandle" ∧ (parseMethodDescriptor yX13_letter.desc).map (fun d => d.parameters.length) = some 1 := by decide +kernel
def f_X13_letter   (x0 : Int32) : Option (Int32) := some (x0 - 97)
set_option maxRecDepth 100000 in
set_option maxHeartbeats 4000000 in
theorem c_X13_letter {l : Launch} {D : va_G} {cs zs : Nat → Nat}   {x0 : Int32} {q : Int32} (hf : f_X13_letter x0 = some q) : Mi l yX13_letter wlX13_letter rmX13_letter D cs zs [.int x0] (([] : va_W)) q (([] : va_W)) := by
  refine Mi.of RX13 (by decide) rfl (Nat.le_of_ble_eq_true rfl) (fun p e s m below meth c A C hP hD hS ls hl => ?_)
  generalize ([.int x0] : List Value).toArray = args at C ⊢
  obtain ⟨hx, hb, hr, hml, hown, hts, hK, hA, hlocks, hZ⟩ := id C
  have hl : lv_has ls 1 [(0, .int x0)] := hl
  rw [f_X13_letter] at hf
  refine lv_iload_n hx hb dX13_letter_0 rfl (lv_at hl 0 rfl) ?_
  refine lv_bipush (v := 97) hx hb dX13_letter_1 (by decide) ?_
  refine lv_isub hx hb dX13_letter_3 ?_
  obtain rfl := Option.some.inj hf
  exact k_iret hx hb hr hlocks hK hP hD hS dX13_letter_4
/-! MarbleFloorModel.isLetter()Z -/
abbrev wlX13_isLetter : List Cond := Cond.code yX13_isLetter cX13_isLetter 1 (some .boolean) :: tbG
abbrev rmX13_isLetter : Room := { frames := 1, cells := 0, slots := 0, locals := 25 }
theorem qnX13_isLetter : yX13_isLetter.cls = RX13 ∧ yX13_isLetter.cls ≠ "java/lang/invoke/MethodHandle" ∧ yX13_isLetter.cls ≠ "java/lang/invoke/VarHandle" ∧ (parseMethodDescriptor yX13_isLetter.desc).map (fun d => d.parameters.length) = some 0 := by decide +kernel
def f_X13_isLetter  (i0 : Nat → Int32) (r0 : Nat → Nat → Int32) (l0 : Nat → Nat → Int64)  : Option (Int32) := if (i0 6) = 1 then (if ((i0 5) - (i0 4)) = 1 then (ck (inb (i0 4) 900) (bd (f_X13_in ((r0 1 (i0 4).toNatClampNeg).toInt64) 97 104) (fun q2 => if q2 = 0 then (some (0)) else (some (1))))) else (some (0))) else (some (0))
set_option maxRecDepth 100000 in
set_option maxHeartbeats 4000000 in
theorem c_X13_isLetter {l : Launch} {D : va_G} {cs zs : Nat → Nat} {h0 : Nat} {a0 : Nat → Nat} {i0 : Nat → Int32} {r0 : Nat → Nat → Int32} {l0 : Nat → Nat → Int64}  {q : Int32} (hf : f_X13_isLetter i0 r0 l0 = some q) : Mi l yX13_isLetter wlX13_isLetter rmX13_isLetter D cs zs [.ref h0] (W13 cs h0 a0 i0 r0 l0) q (W13 cs h0 a0 i0 r0 l0) := by
  refine Mi.of RX13 (by decide) rfl (Nat.le_of_ble_eq_true rfl) (fun p e s m below meth c A C hP hD hS ls hl => ?_)
  generalize ([.ref h0] : List Value).toArray = args at C ⊢
  obtain ⟨hx, hb, hr, hml, hown, hts, hK, hA, hlocks, hZ⟩ := id C
  have hl : lv_has ls 1 [(0, .ref h0)] := hl
  rw [f_X13_isLetter] at hf
  refine lv_aload_n hx hb dX13_isLetter_0 rfl (lv_at hl 0 rfl) ?_
  refine va_get (D := D) (ci := 13) (v := .int (i0 6)) (C := RX13) (T := TX13) (N := 87) hx hb hts hiX13 hown hK hP 0 rfl rfl 6 (by decide) (hts _ flX13_31) (fun _ h9 => h9) rfl dX13_isLetter_1 ?_
  refine lv_iconst (v := 1) hx hb dX13_isLetter_4 (by decide) ?_
  refine lv_icmp_ne (tgt := 47) hx hb dX13_isLetter_5 (by decide) (fun hc => ?_) (fun hc => ?_)
  · have hf := ite_f hf hc
    refine lv_iconst (v := 0) hx hb dX13_isLetter_47 (by decide) ?_
    obtain rfl := Option.some.inj hf
    exact k_zret (r := 0) hx hb hr hlocks rfl hK hP hD hS dX13_isLetter_48
  · have hf := ite_t hf hc
    refine lv_aload_n hx hb dX13_isLetter_8 rfl (lv_at hl 0 rfl) ?_
    refine va_get (D := D) (ci := 13) (v := .int (i0 5)) (C := RX13) (T := TX13) (N := 87) hx hb hts hiX13 hown hK hP 0 rfl rfl 5 (by decide) (hts _ flX13_24) (fun _ h9 => h9) rfl dX13_isLetter_9 ?_
    refine lv_aload_n hx hb dX13_isLetter_12 rfl (lv_at hl 0 rfl) ?_
    refine va_get (D := D) (ci := 13) (v := .int (i0 4)) (C := RX13) (T := TX13) (N := 87) hx hb hts hiX13 hown hK hP 0 rfl rfl 4 (by decide) (hts _ flX13_7) (fun _ h9 => h9) rfl dX13_isLetter_13 ?_
    refine lv_isub hx hb dX13_isLetter_16 ?_
    refine lv_iconst (v := 1) hx hb dX13_isLetter_17 (by decide) ?_
    refine lv_icmp_ne (tgt := 47) hx hb dX13_isLetter_18 (by decide) (fun hc => ?_) (fun hc => ?_)
    · have hf := ite_f hf hc
      refine lv_iconst (v := 0) hx hb dX13_isLetter_47 (by decide) ?_
      obtain rfl := Option.some.inj hf
      exact k_zret (r := 0) hx hb hr hlocks rfl hK hP hD hS dX13_isLetter_48
    · have hf := ite_t hf hc
      refine lv_aload_n hx hb dX13_isLetter_21 rfl (lv_at hl 0 rfl) ?_
      refine va_get (D := D) (ci := 13) (v := .ref (a0 1)) (C := RX13) (T := TX13) (N := 87) hx hb hts hiX13 hown hK hP 0 rfl rfl 1 (by decide) (hts _ flX13_20) (fun _ h9 => h9) rfl dX13_isLetter_22 ?_
      refine lv_aload_n hx hb dX13_isLetter_25 rfl (lv_at hl 0 rfl) ?_
      refine va_get (D := D) (ci := 13) (v := .int (i0 4)) (C := RX13) (T := TX13) (N := 87) hx hb hts hiX13 hown hK hP 0 rfl rfl 4 (by decide) (hts _ flX13_7) (fun _ h9 => h9) rfl dX13_isLetter_26 ?_
      refine va_bald (f := r0 1) hx hb hK hP 1 3 rfl rfl (ck_in hf) dX13_isLetter_29 ?_
      have hf := ck_2 hf
      refine lv_i2l hx hb dX13_isLetter_30 rfl ?_
      refine lv_ldc2 (v := 97) hx hb hown (hts _ kcX13_371) dX13_isLetter_31 ?_
      refine lv_ldc2 (v := 104) hx hb hown (hts _ kcX13_373) dX13_isLetter_34 ?_
      obtain ⟨q2, hq2, hf⟩ := bd_s hf
      refine k_eSi (As := [.long ((r0 1 (i0 4).toNatClampNeg).toInt64), .long 97, .long 104]) (rest := []) hx hb hml hown hts hK hA hZ hl.1 hP hD hS (c_X13_in  hq2) (gSt mlX13_64 stX13_in inX13 coX13_in) rfl qnX13_in rfl rfl ⟨Nat.le_of_ble_eq_true rfl, Nat.le_of_ble_eq_true rfl⟩ rfl rfl (Nat.le_of_ble_eq_true rfl) ⟨Nat.zero_le _, Nat.zero_le _⟩ dX13_isLetter_37 (fun H locs hP hD hS => ?_)
      refine lv_if_eq (tgt := 47) hx hb dX13_isLetter_40 (by decide) (fun hc => ?_) (fun hc => ?_)
      · have hf := ite_t hf hc
        refine lv_iconst (v := 0) hx hb dX13_isLetter_47 (by decide) ?_
        obtain rfl := Option.some.inj hf
        exact k_zret (r := 0) hx hb hr hlocks rfl hK hP hD hS dX13_isLetter_48
      · have hf := ite_f hf hc
        refine lv_iconst (v := 1) hx hb dX13_isLetter_43 (by decide) ?_
        refine lv_goto (tgt := 48) hx hb dX13_isLetter_44 (by decide) ?_
        obtain rfl := Option.some.inj hf
        exact k_zret (r := 1) hx hb hr hlocks rfl hK hP hD hS dX13_isLetter_48
/-! MarbleFloorModel.mark(III)V -/
abbrev wlX13_mark : List Cond := Cond.code yX13_mark cX13_mark 5 none :: tbG
abbrev rmX13_mark : Room := { frames := 0, cells := 0, slots := 0, locals := 0 }
theorem qnX13_mark : yX13_mark.cls = RX13 ∧ yX13_mark.cls ≠ "java/lang/invoke/MethodHandle" ∧ yX13_mark.cls ≠ "java/lang/invoke/VarHandle" ∧ (parseMethodDescriptor yX13_mark.desc).map (fun d => d.parameters.length) = some 3 := by decide +kernel
def f_X13_mark_26 (l0 : Nat → Nat → Int64)  (i0 : Nat → Int32) (r0 : Nat → Nat → Int32) (x3 : Int32) (x4 : Int32) : Option ((Nat → Int32) × (Nat → Nat → Int32)) := ck (inb x4 2000) (some ((upd i0 49 ((i0 49) + 1)), (va_up r0 41 (upd (r0 41) x4.toNatClampNeg x3))))
set_option maxRecDepth 100000 in
set_option maxHeartbeats 4000000 in
theorem w_X13_mark_26 {p : Program} {l : Launch} {e : Env} {s : State} {m : MethodId} {args : Array Value} {below : List Frame} {meth : Method} {c : Code} {A : Nat → Prop} {D : va_G} {cs zs : Nat → Nat} {h0 : Nat} {a0 : Nat → Nat} {l0 : Nat → Nat → Int64} {q : (Nat → Int32) × (Nat → Nat → Int32)} (C : Cx p s m args meth c A D cs zs cX13_mark 5 none RX13)  : ∀ (i0 : Nat → Int32) (r0 : Nat → Nat → Int32) (x3 : Int32) (x4 : Int32) (H : Heap) (locs : List Loc) (ls : Array Slot), f_X13_mark_26 l0 i0 r0 x3 x4 = some q → va_P D vwCl (W13 cs h0 a0 i0 r0 l0) H → va_D A (W13 cs h0 a0 i0 r0 l0) → va_S A s.heap H locs → lv_has ls 5 [(0, .ref h0), (3, .int x3), (4, .int x4)] → W p l e rmX13_mark s m args below meth c H locs 0 0 (MQ below (Qv D cs A (W13 cs h0 a0 q.1 q.2 l0)) args s 0 0 A) (F0 m 26 ls []) := by
  obtain ⟨hx, hb, hr, hml, hown, hts, hK, hA, hlocks, hZ⟩ := id C
  intro i0 r0 x3 x4 H locs ls hf hP hD hS hl
  rw [f_X13_mark_26] at hf
  refine lv_aload_n hx hb dX13_mark_26 rfl (lv_at hl 0 rfl) ?_
  refine va_get (D := D) (ci := 13) (v := .ref (a0 41)) (C := RX13) (T := TX13) (N := 87) hx hb hts hiX13 hown hK hP 0 rfl rfl 41 (by decide) (hts _ flX13_212) (fun _ h9 => h9) rfl dX13_mark_27 ?_
  refine lv_iload hx hb dX13_mark_30 (lv_at hl 2 rfl) ?_
  refine lv_iload_n hx hb dX13_mark_32 rfl (lv_at hl 1 rfl) ?_
  refine va_iast (f := r0 41) hx hb hK hP hD hS 30 0 rfl rfl (ck_in hf) dX13_mark_33 (fun H locs hP hD hS => ?_)
  have hf := ck_2 hf
  obtain ⟨hP, hD⟩ := st13_41 hP hD
  refine lv_aload_n hx hb dX13_mark_34 rfl (lv_at hl 0 rfl) ?_
  refine lv_dup hx hb dX13_mark_35 rfl ?_
  refine va_get (D := D) (ci := 13) (v := .int (i0 49)) (C := RX13) (T := TX13) (N := 87) hx hb hts hiX13 hown hK hP 0 rfl rfl 49 (by decide) (hts _ flX13_393) (fun _ h9 => h9) rfl dX13_mark_36 ?_
  refine lv_iconst (v := 1) hx hb dX13_mark_39 (by decide) ?_
  refine lv_iadd hx hb dX13_mark_40 ?_
  refine va_put (D := D) (ci := 13) (v := .int ((i0 49) + 1)) (ty := .int) (C := RX13) (T := TX13) (N := 87) hx hb hts hiX13 tyX13 tyX13_ok nmX13 hown hK hP hD hS 0 rfl rfl 49 (by decide) (hts _ flX13_393) (fun _ h9 => h9) rfl (tyX13_ok 49 (by decide)) rfl rfl (Nat.le_of_ble_eq_true rfl) dX13_mark_41 (fun H locs hP hD hS => ?_)
  obtain ⟨hP, hD⟩ := st13_49 hP hD
  obtain rfl := Option.some.inj hf
  exact k_vret hx hb hr hlocks hK hP hD hS dX13_mark_44
def f_X13_mark  (i0 : Nat → Int32) (r0 : Nat → Nat → Int32) (l0 : Nat → Nat → Int64) (x1 : Int32) (x2 : Int32) (x3 : Int32) : Option ((Nat → Int32) × (Nat → Nat → Int32)) := ck (inb (1000 + (i0 49)) 2000) (ck (inb (1000 + (i0 49)) 2000) (f_X13_mark_26 l0 i0 (va_up (va_up r0 39 (upd (r0 39) (1000 + (i0 49)).toNatClampNeg x1)) 40 (upd (r0 40) (1000 + (i0 49)).toNatClampNeg x2)) x3 (1000 + (i0 49))))
set_option maxRecDepth 100000 in
set_option maxHeartbeats 4000000 in
theorem c_X13_mark {l : Launch} {D : va_G} {cs zs : Nat → Nat} {h0 : Nat} {a0 : Nat → Nat} {i0 : Nat → Int32} {r0 : Nat → Nat → Int32} {l0 : Nat → Nat → Int64} {x1 : Int32} {x2 : Int32} {x3 : Int32} {q : (Nat → Int32) × (Nat → Nat → Int32)} (hf : f_X13_mark i0 r0 l0 x1 x2 x3 = some q) : Mv l yX13_mark wlX13_mark rmX13_mark D cs zs [.ref h0, .int x1, .int x2, .int x3] (W13 cs h0 a0 i0 r0 l0) (W13 cs h0 a0 q.1 q.2 l0) := by
  refine Mv.of RX13 (by decide) rfl (Nat.le_of_ble_eq_true rfl) (fun p e s m below meth c A C hP hD hS ls hl => ?_)
  generalize ([.ref h0, .int x1, .int x2, .int x3] : List Value).toArray = args at C ⊢
  obtain ⟨hx, hb, hr, hml, hown, hts, hK, hA, hlocks, hZ⟩ := id C
  have hl : lv_has ls 5 [(0, .ref h0), (1, .int x1), (2, .int x2), (3, .int x3)] := hl
  rw [f_X13_mark] at hf
  refine lv_sipush (v := 1000) hx hb dX13_mark_0 (by decide) ?_
  refine lv_aload_n hx hb dX13_mark_3 rfl (lv_at hl 0 rfl) ?_
  refine va_get (D := D) (ci := 13) (v := .int (i0 49)) (C := RX13) (T := TX13) (N := 87) hx hb hts hiX13 hown hK hP 0 rfl rfl 49 (by decide) (hts _ flX13_393) (fun _ h9 => h9) rfl dX13_mark_4 ?_
  refine lv_iadd hx hb dX13_mark_7 ?_
  refine lv_istore (lv' := [(4, .int (1000 + (i0 49))), (0, .ref h0), (1, .int x1), (2, .int x2), (3, .int x3)]) hx hb dX13_mark_8 hl (by decide) rfl (fun ls hl => ?_)
  refine lv_aload_n hx hb dX13_mark_10 rfl (lv_at hl 1 rfl) ?_
  refine va_get (D := D) (ci := 13) (v := .ref (a0 39)) (C := RX13) (T := TX13) (N := 87) hx hb hts hiX13 hown hK hP 0 rfl rfl 39 (by decide) (hts _ flX13_206) (fun _ h9 => h9) rfl dX13_mark_11 ?_
  refine lv_iload hx hb dX13_mark_14 (lv_at hl 0 rfl) ?_
  refine lv_iload_n hx hb dX13_mark_16 rfl (lv_at hl 2 rfl) ?_
  refine va_iast (f := r0 39) hx hb hK hP hD hS 28 0 rfl rfl (ck_in hf) dX13_mark_17 (fun H locs hP hD hS => ?_)
  have hf := ck_2 hf
  obtain ⟨hP, hD⟩ := st13_39 hP hD
  refine lv_aload_n hx hb dX13_mark_18 rfl (lv_at hl 1 rfl) ?_
  refine va_get (D := D) (ci := 13) (v := .ref (a0 40)) (C := RX13) (T := TX13) (N := 87) hx hb hts hiX13 hown hK hP 0 rfl rfl 40 (by decide) (hts _ flX13_209) (fun _ h9 => h9) rfl dX13_mark_19 ?_
  refine lv_iload hx hb dX13_mark_22 (lv_at hl 0 rfl) ?_
  refine lv_iload_n hx hb dX13_mark_24 rfl (lv_at hl 3 rfl) ?_
  refine va_iast (f := r0 40) hx hb hK hP hD hS 29 0 rfl rfl (ck_in hf) dX13_mark_25 (fun H locs hP hD hS => ?_)
  have hf := ck_2 hf
  obtain ⟨hP, hD⟩ := st13_40 hP hD
  exact w_X13_mark_26 C  _ _ _ _ _ _ _ hf hP hD hS (lv_sub hl [1, 4, 0] rfl)
/-! MarbleFloorModel.isOperator()Z -/
abbrev wlX13_isOperator : List Cond := Cond.code yX13_isOperator cX13_isOperator 1 (some .boolean) :: tbG
abbrev rmX13_isOperator : Room := { frames := 1, cells := 0, slots := 0, locals := 21 }
theorem qnX13_isOperator : yX13_isOperator.cls = RX13 ∧ yX13_isOperator.cls ≠ "java/lang/invoke/MethodHandle" ∧ yX13_isOperator.cls ≠ "java/lang/invoke/VarHandle" ∧ (parseMethodDescriptor yX13_isOperator.desc).map (fun d => d.parameters.length) = some 0 := by decide +kernel
def f_X13_isOperator  (i0 : Nat → Int32) (r0 : Nat → Nat → Int32) (l0 : Nat → Nat → Int64)  : Option (Int32) := bd (f_X13_isSign i0 r0 l0 43) (fun q7 => if q7 = 0 then (bd (f_X13_isSign i0 r0 l0 45) (fun q8 => if q8 = 0 then (bd (f_X13_isSign i0 r0 l0 42) (fun q9 => if q9 = 0 then (bd (f_X13_isSign i0 r0 l0 47) (fun q10 => if q10 = 0 then (bd (f_X13_isSign i0 r0 l0 37) (fun q11 => if q11 = 0 then (bd (f_X13_isSign i0 r0 l0 38) (fun q12 => if q12 = 0 then (some (0)) else (some (1)))) else (some (1)))) else (some (1)))) else (some (1)))) else (some (1)))) else (some (1)))
set_option maxRecDepth 100000 in
set_option maxHeartbeats 4000000 in
theorem c_X13_isOperator {l : Launch} {D : va_G} {cs zs : Nat → Nat} {h0 : Nat} {a0 : Nat → Nat} {i0 : Nat → Int32} {r0 : Nat → Nat → Int32} {l0 : Nat → Nat → Int64}  {q : Int32} (hf : f_X13_isOperator i0 r0 l0 = some q) : Mi l yX13_isOperator wlX13_isOperator rmX13_isOperator D cs zs [.ref h0] (W13 cs h0 a0 i0 r0 l0) q (W13 cs h0 a0 i0 r0 l0) := by
  refine Mi.of RX13 (by decide) rfl (Nat.le_of_ble_eq_true rfl) (fun p e s m below meth c A C hP hD hS ls hl => ?_)
  generalize ([.ref h0] : List Value).toArray = args at C ⊢
  obtain ⟨hx, hb, hr, hml, hown, hts, hK, hA, hlocks, hZ⟩ := id C
  have hl : lv_has ls 1 [(0, .ref h0)] := hl
  rw [f_X13_isOperator] at hf
  refine lv_aload_n hx hb dX13_isOperator_0 rfl (lv_at hl 0 rfl) ?_
  refine lv_bipush (v := 43) hx hb dX13_isOperator_1 (by decide) ?_
  obtain ⟨q7, hq7, hf⟩ := bd_s hf
  refine k_sVi (ws2 := W13 cs h0 a0 i0 r0 l0) (As := [.int 43]) (rest := []) hx hb hml hown hts hK hA hZ hl.1 hP hD hS (c_X13_isSign (h0 := h0) (a0 := a0) hq7) (gVt mlX13_80 imX13_isSign seX13_isSign inX13 coX13_isSign) rfl qnX13_isSign rfl rfl ⟨Nat.le_of_ble_eq_true rfl, Nat.le_of_ble_eq_true rfl⟩ 0 13 rfl rfl rfl rfl rfl (Nat.le_of_ble_eq_true rfl) ⟨Nat.zero_le _, Nat.zero_le _⟩ dX13_isOperator_3 (fun H locs hP hD hS => ?_)
  refine lv_if_ne (tgt := 54) hx hb dX13_isOperator_6 (by decide) (fun hc => ?_) (fun hc => ?_)
  · have hf := ite_f hf hc
    refine lv_iconst (v := 1) hx hb dX13_isOperator_54 (by decide) ?_
    refine lv_goto (tgt := 59) hx hb dX13_isOperator_55 (by decide) ?_
    obtain rfl := Option.some.inj hf
    exact k_zret (r := 1) hx hb hr hlocks rfl hK hP hD hS dX13_isOperator_59
  · have hf := ite_t hf hc
    refine lv_aload_n hx hb dX13_isOperator_9 rfl (lv_at hl 0 rfl) ?_
    refine lv_bipush (v := 45) hx hb dX13_isOperator_10 (by decide) ?_
    obtain ⟨q8, hq8, hf⟩ := bd_s hf
    refine k_sVi (ws2 := W13 cs h0 a0 i0 r0 l0) (As := [.int 45]) (rest := []) hx hb hml hown hts hK hA hZ hl.1 hP hD hS (c_X13_isSign (h0 := h0) (a0 := a0) hq8) (gVt mlX13_80 imX13_isSign seX13_isSign inX13 coX13_isSign) rfl qnX13_isSign rfl rfl ⟨Nat.le_of_ble_eq_true rfl, Nat.le_of_ble_eq_true rfl⟩ 0 13 rfl rfl rfl rfl rfl (Nat.le_of_ble_eq_true rfl) ⟨Nat.zero_le _, Nat.zero_le _⟩ dX13_isOperator_12 (fun H locs hP hD hS => ?_)
    refine lv_if_ne (tgt := 54) hx hb dX13_isOperator_15 (by decide) (fun hc => ?_) (fun hc => ?_)
    · have hf := ite_f hf hc
      refine lv_iconst (v := 1) hx hb dX13_isOperator_54 (by decide) ?_
      refine lv_goto (tgt := 59) hx hb dX13_isOperator_55 (by decide) ?_
      obtain rfl := Option.some.inj hf
      exact k_zret (r := 1) hx hb hr hlocks rfl hK hP hD hS dX13_isOperator_59
    · have hf := ite_t hf hc
      refine lv_aload_n hx hb dX13_isOperator_18 rfl (lv_at hl 0 rfl) ?_
      refine lv_bipush (v := 42) hx hb dX13_isOperator_19 (by decide) ?_
      obtain ⟨q9, hq9, hf⟩ := bd_s hf
      refine k_sVi (ws2 := W13 cs h0 a0 i0 r0 l0) (As := [.int 42]) (rest := []) hx hb hml hown hts hK hA hZ hl.1 hP hD hS (c_X13_isSign (h0 := h0) (a0 := a0) hq9) (gVt mlX13_80 imX13_isSign seX13_isSign inX13 coX13_isSign) rfl qnX13_isSign rfl rfl ⟨Nat.le_of_ble_eq_true rfl, Nat.le_of_ble_eq_true rfl⟩ 0 13 rfl rfl rfl rfl rfl (Nat.le_of_ble_eq_true rfl) ⟨Nat.zero_le _, Nat.zero_le _⟩ dX13_isOperator_21 (fun H locs hP hD hS => ?_)
      refine lv_if_ne (tgt := 54) hx hb dX13_isOperator_24 (by decide) (fun hc => ?_) (fun hc => ?_)
      · have hf := ite_f hf hc
        refine lv_iconst (v := 1) hx hb dX13_isOperator_54 (by decide) ?_
        refine lv_goto (tgt := 59) hx hb dX13_isOperator_55 (by decide) ?_
        obtain rfl := Option.some.inj hf
        exact k_zret (r := 1) hx hb hr hlocks rfl hK hP hD hS dX13_isOperator_59
      · have hf := ite_t hf hc
        refine lv_aload_n hx hb dX13_isOperator_27 rfl (lv_at hl 0 rfl) ?_
        refine lv_bipush (v := 47) hx hb dX13_isOperator_28 (by decide) ?_
        obtain ⟨q10, hq10, hf⟩ := bd_s hf
        refine k_sVi (ws2 := W13 cs h0 a0 i0 r0 l0) (As := [.int 47]) (rest := []) hx hb hml hown hts hK hA hZ hl.1 hP hD hS (c_X13_isSign (h0 := h0) (a0 := a0) hq10) (gVt mlX13_80 imX13_isSign seX13_isSign inX13 coX13_isSign) rfl qnX13_isSign rfl rfl ⟨Nat.le_of_ble_eq_true rfl, Nat.le_of_ble_eq_true rfl⟩ 0 13 rfl rfl rfl rfl rfl (Nat.le_of_ble_eq_true rfl) ⟨Nat.zero_le _, Nat.zero_le _⟩ dX13_isOperator_30 (fun H locs hP hD hS => ?_)
        refine lv_if_ne (tgt := 54) hx hb dX13_isOperator_33 (by decide) (fun hc => ?_) (fun hc => ?_)
        · have hf := ite_f hf hc
          refine lv_iconst (v := 1) hx hb dX13_isOperator_54 (by decide) ?_
          refine lv_goto (tgt := 59) hx hb dX13_isOperator_55 (by decide) ?_
          obtain rfl := Option.some.inj hf
          exact k_zret (r := 1) hx hb hr hlocks rfl hK hP hD hS dX13_isOperator_59
        · have hf := ite_t hf hc
          refine lv_aload_n hx hb dX13_isOperator_36 rfl (lv_at hl 0 rfl) ?_
          refine lv_bipush (v := 37) hx hb dX13_isOperator_37 (by decide) ?_
          obtain ⟨q11, hq11, hf⟩ := bd_s hf
          refine k_sVi (ws2 := W13 cs h0 a0 i0 r0 l0) (As := [.int 37]) (rest := []) hx hb hml hown hts hK hA hZ hl.1 hP hD hS (c_X13_isSign (h0 := h0) (a0 := a0) hq11) (gVt mlX13_80 imX13_isSign seX13_isSign inX13 coX13_isSign) rfl qnX13_isSign rfl rfl ⟨Nat.le_of_ble_eq_true rfl, Nat.le_of_ble_eq_true rfl⟩ 0 13 rfl rfl rfl rfl rfl (Nat.le_of_ble_eq_true rfl) ⟨Nat.zero_le _, Nat.zero_le _⟩ dX13_isOperator_39 (fun H locs hP hD hS => ?_)
          refine lv_if_ne (tgt := 54) hx hb dX13_isOperator_42 (by decide) (fun hc => ?_) (fun hc => ?_)
          · have hf := ite_f hf hc
            refine lv_iconst (v := 1) hx hb dX13_isOperator_54 (by decide) ?_
            refine lv_goto (tgt := 59) hx hb dX13_isOperator_55 (by decide) ?_
            obtain rfl := Option.some.inj hf
            exact k_zret (r := 1) hx hb hr hlocks rfl hK hP hD hS dX13_isOperator_59
          · have hf := ite_t hf hc
            refine lv_aload_n hx hb dX13_isOperator_45 rfl (lv_at hl 0 rfl) ?_
            refine lv_bipush (v := 38) hx hb dX13_isOperator_46 (by decide) ?_
            obtain ⟨q12, hq12, hf⟩ := bd_s hf
            refine k_sVi (ws2 := W13 cs h0 a0 i0 r0 l0) (As := [.int 38]) (rest := []) hx hb hml hown hts hK hA hZ hl.1 hP hD hS (c_X13_isSign (h0 := h0) (a0 := a0) hq12) (gVt mlX13_80 imX13_isSign seX13_isSign inX13 coX13_isSign) rfl qnX13_isSign rfl rfl ⟨Nat.le_of_ble_eq_true rfl, Nat.le_of_ble_eq_true rfl⟩ 0 13 rfl rfl rfl rfl rfl (Nat.le_of_ble_eq_true rfl) ⟨Nat.zero_le _, Nat.zero_le _⟩ dX13_isOperator_48 (fun H locs hP hD hS => ?_)
            refine lv_if_eq (tgt := 58) hx hb dX13_isOperator_51 (by decide) (fun hc => ?_) (fun hc => ?_)
            · have hf := ite_t hf hc
              refine lv_iconst (v := 0) hx hb dX13_isOperator_58 (by decide) ?_
              obtain rfl := Option.some.inj hf
              exact k_zret (r := 0) hx hb hr hlocks rfl hK hP hD hS dX13_isOperator_59
            · have hf := ite_f hf hc
              refine lv_iconst (v := 1) hx hb dX13_isOperator_54 (by decide) ?_
              refine lv_goto (tgt := 59) hx hb dX13_isOperator_55 (by decide) ?_
              obtain rfl := Option.some.inj hf
              exact k_zret (r := 1) hx hb hr hlocks rfl hK hP hD hS dX13_isOperator_59
/-! MarbleFloorModel.keepBody(II)V -/
abbrev wlX13_keepBody : List Cond := Cond.code yX13_keepBody cX13_keepBody 3 none :: tbG
abbrev rmX13_keepBody : Room := { frames := 0, cells := 0, slots := 0, locals := 0 }
theorem qnX13_keepBody : yX13_keepBody.cls = RX13 ∧ yX13_keepBody.cls ≠ "java/lang/invoke/MethodHandle" ∧ yX13_keepBody.cls ≠ "java/lang/invoke/VarHandle" ∧ (parseMethodDescriptor yX13_keepBody.desc).map (fun d => d.parameters.length) = some 2 := by decide +kernel
def f_X13_keepBody  (i0 : Nat → Int32) (r0 : Nat → Nat → Int32) (l0 : Nat → Nat → Int64) (x1 : Int32) (x2 : Int32) : Option ((Nat → Nat → Int32)) := ck (inb ((2 * x1) + x2) 240) (ck (inb ((2 * x1) + x2) 240) (some ((va_up (va_up r0 37 (upd (r0 37) ((2 * x1) + x2).toNatClampNeg (i0 51))) 38 (upd (r0 38) ((2 * x1) + x2).toNatClampNeg (i0 52))))))
set_option maxRecDepth 100000 in
set_option maxHeartbeats 4000000 in
theorem c_X13_keepBody {l : Launch} {D : va_G} {cs zs : Nat → Nat} {h0 : Nat} {a0 : Nat → Nat} {i0 : Nat → Int32} {r0 : Nat → Nat → Int32} {l0 : Nat → Nat → Int64} {x1 : Int32} {x2 : Int32} {q : (Nat → Nat → Int32)} (hf : f_X13_keepBody i0 r0 l0 x1 x2 = some q) : Mv l yX13_keepBody wlX13_keepBody rmX13_keepBody D cs zs [.ref h0, .int x1, .int x2] (W13 cs h0 a0 i0 r0 l0) (W13 cs h0 a0 i0 q l0) := by
  refine Mv.of RX13 (by decide) rfl (Nat.le_of_ble_eq_true rfl) (fun p e s m below meth c A C hP hD hS ls hl => ?_)
  generalize ([.ref h0, .int x1, .int x2] : List Value).toArray = args at C ⊢
  obtain ⟨hx, hb, hr, hml, hown, hts, hK, hA, hlocks, hZ⟩ := id C
  have hl : lv_has ls 3 [(0, .ref h0), (1, .int x1), (2, .int x2)] := hl
  rw [f_X13_keepBody] at hf
  refine lv_aload_n hx hb dX13_keepBody_0 rfl (lv_at hl 0 rfl) ?_
  refine va_get (D := D) (ci := 13) (v := .ref (a0 37)) (C := RX13) (T := TX13) (N := 87) hx hb hts hiX13 hown hK hP 0 rfl rfl 37 (by decide) (hts _ flX13_200) (fun _ h9 => h9) rfl dX13_keepBody_1 ?_
  refine lv_iconst (v := 2) hx hb dX13_keepBody_4 (by decide) ?_
  refine lv_iload_n hx hb dX13_keepBody_5 rfl (lv_at hl 1 rfl) ?_
  refine lv_imul hx hb dX13_keepBody_6 ?_
  refine lv_iload_n hx hb dX13_keepBody_7 rfl (lv_at hl 2 rfl) ?_
  refine lv_iadd hx hb dX13_keepBody_8 ?_
  refine lv_aload_n hx hb dX13_keepBody_9 rfl (lv_at hl 0 rfl) ?_
  refine va_get (D := D) (ci := 13) (v := .int (i0 51)) (C := RX13) (T := TX13) (N := 87) hx hb hts hiX13 hown hK hP 0 rfl rfl 51 (by decide) (hts _ flX13_459) (fun _ h9 => h9) rfl dX13_keepBody_10 ?_
  refine va_iast (f := r0 37) hx hb hK hP hD hS 26 0 rfl rfl (ck_in hf) dX13_keepBody_13 (fun H locs hP hD hS => ?_)
  have hf := ck_2 hf
  obtain ⟨hP, hD⟩ := st13_37 hP hD
  refine lv_aload_n hx hb dX13_keepBody_14 rfl (lv_at hl 0 rfl) ?_
  refine va_get (D := D) (ci := 13) (v := .ref (a0 38)) (C := RX13) (T := TX13) (N := 87) hx hb hts hiX13 hown hK hP 0 rfl rfl 38 (by decide) (hts _ flX13_203) (fun _ h9 => h9) rfl dX13_keepBody_15 ?_
  refine lv_iconst (v := 2) hx hb dX13_keepBody_18 (by decide) ?_
  refine lv_iload_n hx hb dX13_keepBody_19 rfl (lv_at hl 1 rfl) ?_
  refine lv_imul hx hb dX13_keepBody_20 ?_
  refine lv_iload_n hx hb dX13_keepBody_21 rfl (lv_at hl 2 rfl) ?_
  refine lv_iadd hx hb dX13_keepBody_22 ?_
  refine lv_aload_n hx hb dX13_keepBody_23 rfl (lv_at hl 0 rfl) ?_
  refine va_get (D := D) (ci := 13) (v := .int (i0 52)) (C := RX13) (T := TX13) (N := 87) hx hb hts hiX13 hown hK hP 0 rfl rfl 52 (by decide) (hts _ flX13_462) (fun _ h9 => h9) rfl dX13_keepBody_24 ?_
  refine va_iast (f := r0 38) hx hb hK hP hD hS 27 0 rfl rfl (ck_in hf) dX13_keepBody_27 (fun H locs hP hD hS => ?_)
  have hf := ck_2 hf
  obtain ⟨hP, hD⟩ := st13_38 hP hD
  obtain rfl := Option.some.inj hf
  exact k_vret hx hb hr hlocks hK hP hD hS dX13_keepBody_28
/-! MarbleFloorModel.procOf(J)I -/
abbrev wlX13_procOf : List Cond := Cond.code yX13_procOf cX13_procOf 4 (some .int) :: tbG
abbrev rmX13_procOf : Room := { frames := 0, cells := 0, slots := 0, locals := 0 }
theorem qnX13_procOf : yX13_procOf.cls = RX13 ∧ yX13_procOf.cls ≠ "java/lang/invoke/MethodHandle" ∧ yX13_procOf.cls ≠ "java/lang/invoke/VarHandle" ∧ (parseMethodDescriptor yX13_procOf.desc).map (fun d => d.parameters.length) = some 1 := by decide +kernel
def f_X13_procOf_2 (i0 : Nat → Int32) (r0 : Nat → Nat → Int32) (l0 : Nat → Nat → Int64)  : Nat → Int64 → Int32 → Option (Int32)
  | 0, _, _ => none
  | n + 1, x1, x3 => if (i0 47) ≤ x3 then (some ((-1))) else (ck (inb x3 6) (if (lg_cmp (l0 44 x3.toNatClampNeg) x1) = 0 then (some (x3)) else (f_X13_procOf_2 i0 r0 l0 n x1 (x3 + 1))))
set_option maxRecDepth 100000 in
set_option maxHeartbeats 4000000 in
theorem w_X13_procOf_2 {p : Program} {l : Launch} {e : Env} {s : State} {m : MethodId} {args : Array Value} {below : List Frame} {meth : Method} {c : Code} {A : Nat → Prop} {D : va_G} {cs zs : Nat → Nat} {h0 : Nat} {a0 : Nat → Nat} {i0 : Nat → Int32} {r0 : Nat → Nat → Int32} {l0 : Nat → Nat → Int64} {q : Int32} (C : Cx p s m args meth c A D cs zs cX13_procOf 4 (some .int) RX13)  : ∀ (n : Nat), ∀ (x1 : Int64) (x3 : Int32) (H : Heap) (locs : List Loc) (ls : Array Slot), f_X13_procOf_2 i0 r0 l0 n x1 x3 = some q → va_P D vwCl (W13 cs h0 a0 i0 r0 l0) H → va_D A (W13 cs h0 a0 i0 r0 l0) → va_S A s.heap H locs → lv_has ls 4 [(0, .ref h0), (1, .long x1), (3, .int x3)] → W p l e rmX13_procOf s m args below meth c H locs 0 0 (MQ below (Qi D cs A q (W13 cs h0 a0 i0 r0 l0)) args s 0 0 A) (F0 m 2 ls []) := by
  obtain ⟨hx, hb, hr, hml, hown, hts, hK, hA, hlocks, hZ⟩ := id C
  intro n
  induction n with
  | zero =>
    intro x1 x3 H locs ls hf
    rw [f_X13_procOf_2] at hf
    cases hf
  | succ n ih =>
    intro x1 x3 H locs ls hf hP hD hS hl
    rw [f_X13_procOf_2] at hf
    refine lv_iload_n hx hb dX13_procOf_2 rfl (lv_at hl 2 rfl) ?_
    refine lv_aload_n hx hb dX13_procOf_3 rfl (lv_at hl 0 rfl) ?_
    refine va_get (D := D) (ci := 13) (v := .int (i0 47)) (C := RX13) (T := TX13) (N := 87) hx hb hts hiX13 hown hK hP 0 rfl rfl 47 (by decide) (hts _ flX13_490) (fun _ h9 => h9) rfl dX13_procOf_4 ?_
    refine lv_icmp_ge (tgt := 29) hx hb dX13_procOf_7 (by decide) (fun hc => ?_) (fun hc => ?_)
    · have hf := ite_t hf hc
      refine lv_iconst (v := (-1)) hx hb dX13_procOf_29 (by decide) ?_
      obtain rfl := Option.some.inj hf
      exact k_iret hx hb hr hlocks hK hP hD hS dX13_procOf_30
    · have hf := ite_f hf hc
      refine lv_aload_n hx hb dX13_procOf_10 rfl (lv_at hl 0 rfl) ?_
      refine va_get (D := D) (ci := 13) (v := .ref (a0 44)) (C := RX13) (T := TX13) (N := 87) hx hb hts hiX13 hown hK hP 0 rfl rfl 44 (by decide) (hts _ flX13_221) (fun _ h9 => h9) rfl dX13_procOf_11 ?_
      refine lv_iload_n hx hb dX13_procOf_14 rfl (lv_at hl 2 rfl) ?_
      refine va_lald (f := l0 44) hx hb hK hP 33 1 rfl rfl (ck_in hf) dX13_procOf_15 ?_
      have hf := ck_2 hf
      refine lv_lload_n hx hb dX13_procOf_16 rfl (lv_at hl 1 rfl) ?_
      refine W.lcmp hx hb dX13_procOf_17 ?_
      refine lv_if_ne (tgt := 23) hx hb dX13_procOf_18 (by decide) (fun hc => ?_) (fun hc => ?_)
      · have hf := ite_f hf hc
        refine lv_iinc (v := x3 + 1) (lv' := [(3, .int (x3 + 1)), (0, .ref h0), (1, .long x1)]) hx hb dX13_procOf_23 hl (k := 2) rfl rfl (by decide) rfl (fun ls hl => ?_)
        refine lv_goto (tgt := 2) hx hb dX13_procOf_26 (by decide) ?_
        exact ih _ _ _ _ _ hf hP hD hS (lv_sub hl [1, 2, 0] rfl)
      · have hf := ite_t hf hc
        refine lv_iload_n hx hb dX13_procOf_21 rfl (lv_at hl 2 rfl) ?_
        obtain rfl := Option.some.inj hf
        exact k_iret hx hb hr hlocks hK hP hD hS dX13_procOf_22
def f_X13_procOf  (i0 : Nat → Int32) (r0 : Nat → Nat → Int32) (l0 : Nat → Nat → Int64) (x1 : Int64) : Option (Int32) := f_X13_procOf_2 i0 r0 l0 2000000 x1 0
set_option maxRecDepth 100000 in
set_option maxHeartbeats 4000000 in
theorem c_X13_procOf {l : Launch} {D : va_G} {cs zs : Nat → Nat} {h0 : Nat} {a0 : Nat → Nat} {i0 : Nat → Int32} {r0 : Nat → Nat → Int32} {l0 : Nat → Nat → Int64} {x1 : Int64} {q : Int32} (hf : f_X13_procOf i0 r0 l0 x1 = some q) : Mi l yX13_procOf wlX13_procOf rmX13_procOf D cs zs [.ref h0, .long x1] (W13 cs h0 a0 i0 r0 l0) q (W13 cs h0 a0 i0 r0 l0) := by
  refine Mi.of RX13 (by decide) rfl (Nat.le_of_ble_eq_true rfl) (fun p e s m below meth c A C hP hD hS ls hl => ?_)
  generalize ([.ref h0, .long x1] : List Value).toArray = args at C ⊢
  obtain ⟨hx, hb, hr, hml, hown, hts, hK, hA, hlocks, hZ⟩ := id C
  have hl : lv_has ls 4 [(0, .ref h0), (1, .long x1)] := hl
  rw [f_X13_procOf] at hf
  refine lv_iconst (v := 0) hx hb dX13_procOf_0 (by decide) ?_
  refine lv_istore_n (lv' := [(3, .int 0), (0, .ref h0), (1, .long x1)]) hx hb dX13_procOf_1 rfl hl (by decide) rfl (fun ls hl => ?_)
  exact w_X13_procOf_2 C  2000000 _ _ _ _ _ hf hP hD hS (lv_sub hl [1, 2, 0] rfl)
/-! MarbleFloorModel.front(I)I -/
abbrev wlX13_front : List Cond := Cond.code yX13_front cX13_front 1 (some .int) :: tbG
abbrev rmX13_front : Room := { frames := 0, cells := 0, slots := 0, locals := 0 }
theorem qnX13_front : yX13_front.cls ≠ "java/lang/invoke/MethodHandle" ∧ yX13_front.cls ≠ "java/lang/invoke/VarHandle" ∧ (parseMethodDescriptor yX13_front.desc).map (fun d => d.parameters.length) = some 1 := by decide +kernel
def f_X13_front   (x0 : Int32) : Option (Int32) := if x0 = (-1) then (some ((-1))) else (some (x0 - 60))
set_option maxRecDepth 100000 in
set_option maxHeartbeats 4000000 in
theorem c_X13_front {l : Launch} {D : va_G} {cs zs : Nat → Nat}   {x0 : Int32} {q : Int32} (hf : f_X13_front x0 = some q) : Mi l yX13_front wlX13_front rmX13_front D cs zs [.int x0] (([] : va_W)) q (([] : va_W)) := by
  refine Mi.of RX13 (by decide) rfl (Nat.le_of_ble_eq_true rfl) (fun p e s m below meth c A C hP hD hS ls hl => ?_)
  generalize ([.int x0] : List Value).toArray = args at C ⊢
  obtain ⟨hx, hb, hr, hml, hown, hts, hK, hA, hlocks, hZ⟩ := id C
  have hl : lv_has ls 1 [(0, .int x0)] := hl
  rw [f_X13_front] at hf
  refine lv_iload_n hx hb dX13_front_0 rfl (lv_at hl 0 rfl) ?_
  refine lv_iconst (v := (-1)) hx hb dX13_front_1 (by decide) ?_
  refine lv_icmp_ne (tgt := 9) hx hb dX13_front_2 (by decide) (fun hc => ?_) (fun hc => ?_)
  · have hf := ite_f hf hc
    refine lv_iload_n hx hb dX13_front_9 rfl (lv_at hl 0 rfl) ?_
    refine lv_bipush (v := 60) hx hb dX13_front_10 (by decide) ?_
    refine lv_isub hx hb dX13_front_12 ?_
    obtain rfl := Option.some.inj hf
    exact k_iret hx hb hr hlocks hK hP hD hS dX13_front_13
  · have hf := ite_t hf hc
    refine lv_iconst (v := (-1)) hx hb dX13_front_5 (by decide) ?_
    refine lv_goto (tgt := 13) hx hb dX13_front_6 (by decide) ?_
    obtain rfl := Option.some.inj hf
    exact k_iret hx hb hr hlocks hK hP hD hS dX13_front_13
/-! MarbleFloorModel.takeProgram()V -/
abbrev wlX13_takeProgram : List Cond := Cond.code yX13_takeProgram cX13_takeProgram 4 none :: tbG
abbrev rmX13_takeProgram : Room := { frames := 1, cells := 0, slots := 0, locals := 20 }
theorem qnX13_takeProgram : yX13_takeProgram.cls = RX13 ∧ yX13_takeProgram.cls ≠ "java/lang/invoke/MethodHandle" ∧ yX13_takeProgram.cls ≠ "java/lang/invoke/VarHandle" ∧ (parseMethodDescriptor yX13_takeProgram.desc).map (fun d => d.parameters.length) = some 0 := by decide +kernel
def f_X13_takeProgram_54 (l0 : Nat → Nat → Int64) (K10 : (Nat → Int32) → (Nat → Nat → Int32) → Int32 → Option ((Nat → Int32) × (Nat → Nat → Int32))) (i0 : Nat → Int32) (r0 : Nat → Nat → Int32) (x1 : Int32) : Option ((Nat → Int32) × (Nat → Nat → Int32)) := K10 i0 r0 (x1 + 1)
set_option maxRecDepth 100000 in
set_option maxHeartbeats 4000000 in
theorem w_X13_takeProgram_54 {p : Program} {l : Launch} {e : Env} {s : State} {m : MethodId} {args : Array Value} {below : List Frame} {meth : Method} {c : Code} {A : Nat → Prop} {D : va_G} {cs zs : Nat → Nat} {h0 : Nat} {a0 : Nat → Nat} {l0 : Nat → Nat → Int64} {q : (Nat → Int32) × (Nat → Nat → Int32)} (C : Cx p s m args meth c A D cs zs cX13_takeProgram 4 none RX13) (K10 : (Nat → Int32) → (Nat → Nat → Int32) → Int32 → Option ((Nat → Int32) × (Nat → Nat → Int32))) (hK10 : ∀ (i0 : Nat → Int32) (r0 : Nat → Nat → Int32) (x1 : Int32) (H : Heap) (locs : List Loc) (ls : Array Slot), K10 i0 r0 x1 = some q → va_P D vwCl (W13 cs h0 a0 i0 r0 l0) H → va_D A (W13 cs h0 a0 i0 r0 l0) → va_S A s.heap H locs → lv_has ls 4 [(0, .ref h0), (1, .int x1)] → W p l e rmX13_takeProgram s m args below meth c H locs 0 0 (MQ below (Qv D cs A (W13 cs h0 a0 q.1 q.2 l0)) args s 0 0 A) (F0 m 10 ls [])) : ∀ (i0 : Nat → Int32) (r0 : Nat → Nat → Int32) (x1 : Int32) (H : Heap) (locs : List Loc) (ls : Array Slot), f_X13_takeProgram_54 l0 K10 i0 r0 x1 = some q → va_P D vwCl (W13 cs h0 a0 i0 r0 l0) H → va_D A (W13 cs h0 a0 i0 r0 l0) → va_S A s.heap H locs → lv_has ls 4 [(0, .ref h0), (1, .int x1)] → W p l e rmX13_takeProgram s m args below meth c H locs 0 0 (MQ below (Qv D cs A (W13 cs h0 a0 q.1 q.2 l0)) args s 0 0 A) (F0 m 54 ls []) := by
  obtain ⟨hx, hb, hr, hml, hown, hts, hK, hA, hlocks, hZ⟩ := id C
  intro i0 r0 x1 H locs ls hf hP hD hS hl
  rw [f_X13_takeProgram_54] at hf
  refine lv_iinc (v := x1 + 1) (lv' := [(1, .int (x1 + 1)), (0, .ref h0)]) hx hb dX13_takeProgram_54 hl (k := 1) rfl rfl (by decide) rfl (fun ls hl => ?_)
  refine lv_goto (tgt := 10) hx hb dX13_takeProgram_57 (by decide) ?_
  exact hK10 _ _ _ _ _ _ hf hP hD hS (lv_sub hl [1, 0] rfl)
def f_X13_takeProgram_289 (l0 : Nat → Nat → Int64) (K62 : (Nat → Int32) → (Nat → Nat → Int32) → Int32 → Option ((Nat → Int32) × (Nat → Nat → Int32))) (K131 : (Nat → Int32) → (Nat → Nat → Int32) → Int32 → Int32 → Int32 → Option ((Nat → Int32) × (Nat → Nat → Int32))) (i0 : Nat → Int32) (r0 : Nat → Nat → Int32) (x1 : Int32) (x2 : Int32) (x3 : Int32) (y0 : Int32) (y1 : Int32) : Option ((Nat → Int32) × (Nat → Nat → Int32)) := ck (inb y1 240) (K131 i0 (va_up r0 38 (upd (r0 38) y1.toNatClampNeg y0)) x1 x2 (x3 + 1))
set_option maxRecDepth 100000 in
set_option maxHeartbeats 4000000 in
theorem w_X13_takeProgram_289 {p : Program} {l : Launch} {e : Env} {s : State} {m : MethodId} {args : Array Value} {below : List Frame} {meth : Method} {c : Code} {A : Nat → Prop} {D : va_G} {cs zs : Nat → Nat} {h0 : Nat} {a0 : Nat → Nat} {l0 : Nat → Nat → Int64} {q : (Nat → Int32) × (Nat → Nat → Int32)} (C : Cx p s m args meth c A D cs zs cX13_takeProgram 4 none RX13) (K62 : (Nat → Int32) → (Nat → Nat → Int32) → Int32 → Option ((Nat → Int32) × (Nat → Nat → Int32))) (hK62 : ∀ (i0 : Nat → Int32) (r0 : Nat → Nat → Int32) (x1 : Int32) (H : Heap) (locs : List Loc) (ls : Array Slot), K62 i0 r0 x1 = some q → va_P D vwCl (W13 cs h0 a0 i0 r0 l0) H → va_D A (W13 cs h0 a0 i0 r0 l0) → va_S A s.heap H locs → lv_has ls 4 [(0, .ref h0), (1, .int x1)] → W p l e rmX13_takeProgram s m args below meth c H locs 0 0 (MQ below (Qv D cs A (W13 cs h0 a0 q.1 q.2 l0)) args s 0 0 A) (F0 m 62 ls [])) (K131 : (Nat → Int32) → (Nat → Nat → Int32) → Int32 → Int32 → Int32 → Option ((Nat → Int32) × (Nat → Nat → Int32))) (hK131 : ∀ (i0 : Nat → Int32) (r0 : Nat → Nat → Int32) (x1 : Int32) (x2 : Int32) (x3 : Int32) (H : Heap) (locs : List Loc) (ls : Array Slot), K131 i0 r0 x1 x2 x3 = some q → va_P D vwCl (W13 cs h0 a0 i0 r0 l0) H → va_D A (W13 cs h0 a0 i0 r0 l0) → va_S A s.heap H locs → lv_has ls 4 [(0, .ref h0), (1, .int x1), (2, .int x2), (3, .int x3)] → W p l e rmX13_takeProgram s m args below meth c H locs 0 0 (MQ below (Qv D cs A (W13 cs h0 a0 q.1 q.2 l0)) args s 0 0 A) (F0 m 131 ls [])) : ∀ (i0 : Nat → Int32) (r0 : Nat → Nat → Int32) (x1 : Int32) (x2 : Int32) (x3 : Int32) (y0 : Int32) (y1 : Int32) (H : Heap) (locs : List Loc) (ls : Array Slot), f_X13_takeProgram_289 l0 K62 K131 i0 r0 x1 x2 x3 y0 y1 = some q → va_P D vwCl (W13 cs h0 a0 i0 r0 l0) H → va_D A (W13 cs h0 a0 i0 r0 l0) → va_S A s.heap H locs → lv_has ls 4 [(0, .ref h0), (1, .int x1), (2, .int x2), (3, .int x3)] → W p l e rmX13_takeProgram s m args below meth c H locs 0 0 (MQ below (Qv D cs A (W13 cs h0 a0 q.1 q.2 l0)) args s 0 0 A) (F0 m 289 ls [.int y0, .int y1, .ref (a0 38)]) := by
  obtain ⟨hx, hb, hr, hml, hown, hts, hK, hA, hlocks, hZ⟩ := id C
  intro i0 r0 x1 x2 x3 y0 y1 H locs ls hf hP hD hS hl
  rw [f_X13_takeProgram_289] at hf
  refine va_iast (f := r0 38) hx hb hK hP hD hS 27 0 rfl rfl (ck_in hf) dX13_takeProgram_289 (fun H locs hP hD hS => ?_)
  have hf := ck_2 hf
  obtain ⟨hP, hD⟩ := st13_38 hP hD
  refine lv_iinc (v := x3 + 1) (lv' := [(3, .int (x3 + 1)), (0, .ref h0), (1, .int x1), (2, .int x2)]) hx hb dX13_takeProgram_290 hl (k := 3) rfl rfl (by decide) rfl (fun ls hl => ?_)
  refine lv_goto (tgt := 131) hx hb dX13_takeProgram_293 (by decide) ?_
  exact hK131 _ _ _ _ _ _ _ _ hf hP hD hS (lv_sub hl [1, 2, 3, 0] rfl)
def f_X13_takeProgram_272 (l0 : Nat → Nat → Int64) (K62 : (Nat → Int32) → (Nat → Nat → Int32) → Int32 → Option ((Nat → Int32) × (Nat → Nat → Int32))) (K131 : (Nat → Int32) → (Nat → Nat → Int32) → Int32 → Int32 → Int32 → Option ((Nat → Int32) × (Nat → Nat → Int32))) (i0 : Nat → Int32) (r0 : Nat → Nat → Int32) (x1 : Int32) (x2 : Int32) (x3 : Int32) (y0 : Int32) : Option ((Nat → Int32) × (Nat → Nat → Int32)) := ck (inb ((2 * x2) + x3) 240) (bd (f_X13_front (r0 38 ((2 * x2) + x3).toNatClampNeg)) (fun q7 => f_X13_takeProgram_289 l0 K62 K131 i0 r0 x1 x2 x3 q7 y0))
set_option maxRecDepth 100000 in
set_option maxHeartbeats 4000000 in
theorem w_X13_takeProgram_272 {p : Program} {l : Launch} {e : Env} {s : State} {m : MethodId} {args : Array Value} {below : List Frame} {meth : Method} {c : Code} {A : Nat → Prop} {D : va_G} {cs zs : Nat → Nat} {h0 : Nat} {a0 : Nat → Nat} {l0 : Nat → Nat → Int64} {q : (Nat → Int32) × (Nat → Nat → Int32)} (C : Cx p s m args meth c A D cs zs cX13_takeProgram 4 none RX13) (K62 : (Nat → Int32) → (Nat → Nat → Int32) → Int32 → Option ((Nat → Int32) × (Nat → Nat → Int32))) (hK62 : ∀ (i0 : Nat → Int32) (r0 : Nat → Nat → Int32) (x1 : Int32) (H : Heap) (locs : List Loc) (ls : Array Slot), K62 i0 r0 x1 = some q → va_P D vwCl (W13 cs h0 a0 i0 r0 l0) H → va_D A (W13 cs h0 a0 i0 r0 l0) → va_S A s.heap H locs → lv_has ls 4 [(0, .ref h0), (1, .int x1)] → W p l e rmX13_takeProgram s m args below meth c H locs 0 0 (MQ below (Qv D cs A (W13 cs h0 a0 q.1 q.2 l0)) args s 0 0 A) (F0 m 62 ls [])) (K131 : (Nat → Int32) → (Nat → Nat → Int32) → Int32 → Int32 → Int32 → Option ((Nat → Int32) × (Nat → Nat → Int32))) (hK131 : ∀ (i0 : Nat → Int32) (r0 : Nat → Nat → Int32) (x1 : Int32) (x2 : Int32) (x3 : Int32) (H : Heap) (locs : List Loc) (ls : Array Slot), K131 i0 r0 x1 x2 x3 = some q → va_P D vwCl (W13 cs h0 a0 i0 r0 l0) H → va_D A (W13 cs h0 a0 i0 r0 l0) → va_S A s.heap H locs → lv_has ls 4 [(0, .ref h0), (1, .int x1), (2, .int x2), (3, .int x3)] → W p l e rmX13_takeProgram s m args below meth c H locs 0 0 (MQ below (Qv D cs A (W13 cs h0 a0 q.1 q.2 l0)) args s 0 0 A) (F0 m 131 ls [])) : ∀ (i0 : Nat → Int32) (r0 : Nat → Nat → Int32) (x1 : Int32) (x2 : Int32) (x3 : Int32) (y0 : Int32) (H : Heap) (locs : List Loc) (ls : Array Slot), f_X13_takeProgram_272 l0 K62 K131 i0 r0 x1 x2 x3 y0 = some q → va_P D vwCl (W13 cs h0 a0 i0 r0 l0) H → va_D A (W13 cs h0 a0 i0 r0 l0) → va_S A s.heap H locs → lv_has ls 4 [(0, .ref h0), (1, .int x1), (2, .int x2), (3, .int x3)] → W p l e rmX13_takeProgram s m args below meth c H locs 0 0 (MQ below (Qv D cs A (W13 cs h0 a0 q.1 q.2 l0)) args s 0 0 A) (F0 m 272 ls [.int y0, .ref (a0 38)]) := by
  obtain ⟨hx, hb, hr, hml, hown, hts, hK, hA, hlocks, hZ⟩ := id C
  intro i0 r0 x1 x2 x3 y0 H locs ls hf hP hD hS hl
  rw [f_X13_takeProgram_272] at hf
  refine lv_aload_n hx hb dX13_takeProgram_272 rfl (lv_at hl 0 rfl) ?_
  refine va_get (D := D) (ci := 13) (v := .ref (a0 38)) (C := RX13) (T := TX13) (N := 87) hx hb hts hiX13 hown hK hP 0 rfl rfl 38 (by decide) (hts _ flX13_203) (fun _ h9 => h9) rfl dX13_takeProgram_273 ?_
  refine lv_iconst (v := 2) hx hb dX13_takeProgram_276 (by decide) ?_
  refine lv_iload_n hx hb dX13_takeProgram_277 rfl (lv_at hl 2 rfl) ?_
  refine lv_imul hx hb dX13_takeProgram_278 ?_
  refine lv_iload_n hx hb dX13_takeProgram_279 rfl (lv_at hl 3 rfl) ?_
  refine lv_iadd hx hb dX13_takeProgram_280 ?_
  refine va_iald (f := r0 38) hx hb hK hP 27 0 rfl rfl (ck_in hf) dX13_takeProgram_281 ?_
  have hf := ck_2 hf
  obtain ⟨q7, hq7, hf⟩ := bd_s hf
  refine k_eSi (As := [.int (r0 38 ((2 * x2) + x3).toNatClampNeg)]) (rest := [.int y0, .ref (a0 38)]) hx hb hml hown hts hK hA hZ hl.1 hP hD hS (c_X13_front  hq7) (gSt mlX13_500 stX13_front inX13 coX13_front) rfl qnX13_front rfl rfl ⟨Nat.le_of_ble_eq_true rfl, Nat.le_of_ble_eq_true rfl⟩ rfl rfl (Nat.le_of_ble_eq_true rfl) ⟨Nat.zero_le _, Nat.zero_le _⟩ dX13_takeProgram_282 (fun H locs hP hD hS => ?_)
  refine lv_goto (tgt := 289) hx hb dX13_takeProgram_285 (by decide) ?_
  exact w_X13_takeProgram_289 C _ (hK62) _ (hK131) _ _ _ _ _ _ _ _ _ _ hf hP hD hS (lv_sub hl [0, 1, 2, 3] rfl)
def f_X13_takeProgram_242 (l0 : Nat → Nat → Int64) (K62 : (Nat → Int32) → (Nat → Nat → Int32) → Int32 → Option ((Nat → Int32) × (Nat → Nat → Int32))) (K131 : (Nat → Int32) → (Nat → Nat → Int32) → Int32 → Int32 → Int32 → Option ((Nat → Int32) × (Nat → Nat → Int32))) (i0 : Nat → Int32) (r0 : Nat → Nat → Int32) (x1 : Int32) (x2 : Int32) (x3 : Int32) (y0 : Int32) (y1 : Int32) : Option ((Nat → Int32) × (Nat → Nat → Int32)) := ck (inb y1 240) (ck (inb x1 120) (if (r0 28 x1.toNatClampNeg) = 4 then (f_X13_takeProgram_272 l0 K62 K131 i0 (va_up r0 37 (upd (r0 37) y1.toNatClampNeg y0)) x1 x2 x3 ((2 * x1) + x3)) else (ck (inb x1 120) (if (r0 28 x1.toNatClampNeg) = 5 then (f_X13_takeProgram_272 l0 K62 K131 i0 (va_up r0 37 (upd (r0 37) y1.toNatClampNeg y0)) x1 x2 x3 ((2 * x1) + x3)) else (f_X13_takeProgram_289 l0 K62 K131 i0 (va_up r0 37 (upd (r0 37) y1.toNatClampNeg y0)) x1 x2 x3 (-1) ((2 * x1) + x3))))))
set_option maxRecDepth 100000 in
set_option maxHeartbeats 4000000 in
theorem w_X13_takeProgram_242 {p : Program} {l : Launch} {e : Env} {s : State} {m : MethodId} {args : Array Value} {below : List Frame} {meth : Method} {c : Code} {A : Nat → Prop} {D : va_G} {cs zs : Nat → Nat} {h0 : Nat} {a0 : Nat → Nat} {l0 : Nat → Nat → Int64} {q : (Nat → Int32) × (Nat → Nat → Int32)} (C : Cx p s m args meth c A D cs zs cX13_takeProgram 4 none RX13) (K62 : (Nat → Int32) → (Nat → Nat → Int32) → Int32 → Option ((Nat → Int32) × (Nat → Nat → Int32))) (hK62 : ∀ (i0 : Nat → Int32) (r0 : Nat → Nat → Int32) (x1 : Int32) (H : Heap) (locs : List Loc) (ls : Array Slot), K62 i0 r0 x1 = some q → va_P D vwCl (W13 cs h0 a0 i0 r0 l0) H → va_D A (W13 cs h0 a0 i0 r0 l0) → va_S A s.heap H locs → lv_has ls 4 [(0, .ref h0), (1, .int x1)] → W p l e rmX13_takeProgram s m args below meth c H locs 0 0 (MQ below (Qv D cs A (W13 cs h0 a0 q.1 q.2 l0)) args s 0 0 A) (F0 m 62 ls [])) (K131 : (Nat → Int32) → (Nat → Nat → Int32) → Int32 → Int32 → Int32 → Option ((Nat → Int32) × (Nat → Nat → Int32))) (hK131 : ∀ (i0 : Nat → Int32) (r0 : Nat → Nat → Int32) (x1 : Int32) (x2 : Int32) (x3 : Int32) (H : Heap) (locs : List Loc) (ls : Array Slot), K131 i0 r0 x1 x2 x3 = some q → va_P D vwCl (W13 cs h0 a0 i0 r0 l0) H → va_D A (W13 cs h0 a0 i0 r0 l0) → va_S A s.heap H locs → lv_has ls 4 [(0, .ref h0), (1, .int x1), (2, .int x2), (3, .int x3)] → W p l e rmX13_takeProgram s m args below meth c H locs 0 0 (MQ below (Qv D cs A (W13 cs h0 a0 q.1 q.2 l0)) args s 0 0 A) (F0 m 131 ls [])) : ∀ (i0 : Nat → Int32) (r0 : Nat → Nat → Int32) (x1 : Int32) (x2 : Int32) (x3 : Int32) (y0 : Int32) (y1 : Int32) (H : Heap) (locs : List Loc) (ls : Array Slot), f_X13_takeProgram_242 l0 K62 K131 i0 r0 x1 x2 x3 y0 y1 = some q → va_P D vwCl (W13 cs h0 a0 i0 r0 l0) H → va_D A (W13 cs h0 a0 i0 r0 l0) → va_S A s.heap H locs → lv_has ls 4 [(0, .ref h0), (1, .int x1), (2, .int x2), (3, .int x3)] → W p l e rmX13_takeProgram s m args below meth c H locs 0 0 (MQ below (Qv D cs A (W13 cs h0 a0 q.1 q.2 l0)) args s 0 0 A) (F0 m 242 ls [.int y0, .int y1, .ref (a0 37)]) := by
  obtain ⟨hx, hb, hr, hml, hown, hts, hK, hA, hlocks, hZ⟩ := id C
  intro i0 r0 x1 x2 x3 y0 y1 H locs ls hf hP hD hS hl
  rw [f_X13_takeProgram_242] at hf
  refine va_iast (f := r0 37) hx hb hK hP hD hS 26 0 rfl rfl (ck_in hf) dX13_takeProgram_242 (fun H locs hP hD hS => ?_)
  have hf := ck_2 hf
  obtain ⟨hP, hD⟩ := st13_37 hP hD
  refine lv_aload_n hx hb dX13_takeProgram_243 rfl (lv_at hl 0 rfl) ?_
  refine va_get (D := D) (ci := 13) (v := .ref (a0 38)) (C := RX13) (T := TX13) (N := 87) hx hb hts hiX13 hown hK hP 0 rfl rfl 38 (by decide) (hts _ flX13_203) (fun _ h9 => h9) rfl dX13_takeProgram_244 ?_
  refine lv_iconst (v := 2) hx hb dX13_takeProgram_247 (by decide) ?_
  refine lv_iload_n hx hb dX13_takeProgram_248 rfl (lv_at hl 1 rfl) ?_
  refine lv_imul hx hb dX13_takeProgram_249 ?_
  refine lv_iload_n hx hb dX13_takeProgram_250 rfl (lv_at hl 3 rfl) ?_
  refine lv_iadd hx hb dX13_takeProgram_251 ?_
  refine lv_aload_n hx hb dX13_takeProgram_252 rfl (lv_at hl 0 rfl) ?_
  refine va_get (D := D) (ci := 13) (v := .ref (a0 28)) (C := RX13) (T := TX13) (N := 87) hx hb hts hiX13 hown hK hP 0 rfl rfl 28 (by decide) (hts _ flX13_173) (fun _ h9 => h9) rfl dX13_takeProgram_253 ?_
  refine lv_iload_n hx hb dX13_takeProgram_256 rfl (lv_at hl 1 rfl) ?_
  refine va_iald (f := r0 28) hx hb hK hP 17 0 rfl rfl (ck_in hf) dX13_takeProgram_257 ?_
  have hf := ck_2 hf
  refine lv_iconst (v := 4) hx hb dX13_takeProgram_258 (by decide) ?_
  refine lv_icmp_eq (tgt := 272) hx hb dX13_takeProgram_259 (by decide) (fun hc => ?_) (fun hc => ?_)
  · have hf := ite_t hf hc
    exact w_X13_takeProgram_272 C _ (hK62) _ (hK131) _ _ _ _ _ _ _ _ _ hf hP hD hS (lv_sub hl [0, 1, 2, 3] rfl)
  · have hf := ite_f hf hc
    refine lv_aload_n hx hb dX13_takeProgram_262 rfl (lv_at hl 0 rfl) ?_
    refine va_get (D := D) (ci := 13) (v := .ref (a0 28)) (C := RX13) (T := TX13) (N := 87) hx hb hts hiX13 hown hK hP 0 rfl rfl 28 (by decide) (hts _ flX13_173) (fun _ h9 => h9) rfl dX13_takeProgram_263 ?_
    refine lv_iload_n hx hb dX13_takeProgram_266 rfl (lv_at hl 1 rfl) ?_
    refine va_iald (f := r0 28) hx hb hK hP 17 0 rfl rfl (ck_in hf) dX13_takeProgram_267 ?_
    have hf := ck_2 hf
    refine lv_iconst (v := 5) hx hb dX13_takeProgram_268 (by decide) ?_
    refine lv_icmp_ne (tgt := 288) hx hb dX13_takeProgram_269 (by decide) (fun hc => ?_) (fun hc => ?_)
    · have hf := ite_f hf hc
      refine lv_iconst (v := (-1)) hx hb dX13_takeProgram_288 (by decide) ?_
      exact w_X13_takeProgram_289 C _ (hK62) _ (hK131) _ _ _ _ _ _ _ _ _ _ hf hP hD hS (lv_sub hl [0, 1, 2, 3] rfl)
    · have hf := ite_t hf hc
      exact w_X13_takeProgram_272 C _ (hK62) _ (hK131) _ _ _ _ _ _ _ _ _ hf hP hD hS (lv_sub hl [0, 1, 2, 3] rfl)
def f_X13_takeProgram_225 (l0 : Nat → Nat → Int64) (K62 : (Nat → Int32) → (Nat → Nat → Int32) → Int32 → Option ((Nat → Int32) × (Nat → Nat → Int32))) (K131 : (Nat → Int32) → (Nat → Nat → Int32) → Int32 → Int32 → Int32 → Option ((Nat → Int32) × (Nat → Nat → Int32))) (i0 : Nat → Int32) (r0 : Nat → Nat → Int32) (x1 : Int32) (x2 : Int32) (x3 : Int32) (y0 : Int32) : Option ((Nat → Int32) × (Nat → Nat → Int32)) := ck (inb ((2 * x2) + x3) 240) (bd (f_X13_front (r0 37 ((2 * x2) + x3).toNatClampNeg)) (fun q8 => f_X13_takeProgram_242 l0 K62 K131 i0 r0 x1 x2 x3 q8 y0))
set_option maxRecDepth 100000 in
set_option maxHeartbeats 4000000 in
theorem w_X13_takeProgram_225 {p : Program} {l : Launch} {e : Env} {s : State} {m : MethodId} {args : Array Value} {below : List Frame} {meth : Method} {c : Code} {A : Nat → Prop} {D : va_G} {cs zs : Nat → Nat} {h0 : Nat} {a0 : Nat → Nat} {l0 : Nat → Nat → Int64} {q : (Nat → Int32) × (Nat → Nat → Int32)} (C : Cx p s m args meth c A D cs zs cX13_takeProgram 4 none RX13) (K62 : (Nat → Int32) → (Nat → Nat → Int32) → Int32 → Option ((Nat → Int32) × (Nat → Nat → Int32))) (hK62 : ∀ (i0 : Nat → Int32) (r0 : Nat → Nat → Int32) (x1 : Int32) (H : Heap) (locs : List Loc) (ls : Array Slot), K62 i0 r0 x1 = some q → va_P D vwCl (W13 cs h0 a0 i0 r0 l0) H → va_D A (W13 cs h0 a0 i0 r0 l0) → va_S A s.heap H locs → lv_has ls 4 [(0, .ref h0), (1, .int x1)] → W p l e rmX13_takeProgram s m args below meth c H locs 0 0 (MQ below (Qv D cs A (W13 cs h0 a0 q.1 q.2 l0)) args s 0 0 A) (F0 m 62 ls [])) (K131 : (Nat → Int32) → (Nat → Nat → Int32) → Int32 → Int32 → Int32 → Option ((Nat → Int32) × (Nat → Nat → Int32))) (hK131 : ∀ (i0 : Nat → Int32) (r0 : Nat → Nat → Int32) (x1 : Int32) (x2 : Int32) (x3 : Int32) (H : Heap) (locs : List Loc) (ls : Array Slot), K131 i0 r0 x1 x2 x3 = some q → va_P D vwCl (W13 cs h0 a0 i0 r0 l0) H → va_D A (W13 cs h0 a0 i0 r0 l0) → va_S A s.heap H locs → lv_has ls 4 [(0, .ref h0), (1, .int x1), (2, .int x2), (3, .int x3)] → W p l e rmX13_takeProgram s m args below meth c H locs 0 0 (MQ below (Qv D cs A (W13 cs h0 a0 q.1 q.2 l0)) args s 0 0 A) (F0 m 131 ls [])) : ∀ (i0 : Nat → Int32) (r0 : Nat → Nat → Int32) (x1 : Int32) (x2 : Int32) (x3 : Int32) (y0 : Int32) (H : Heap) (locs : List Loc) (ls : Array Slot), f_X13_takeProgram_225 l0 K62 K131 i0 r0 x1 x2 x3 y0 = some q → va_P D vwCl (W13 cs h0 a0 i0 r0 l0) H → va_D A (W13 cs h0 a0 i0 r0 l0) → va_S A s.heap H locs → lv_has ls 4 [(0, .ref h0), (1, .int x1), (2, .int x2), (3, .int x3)] → W p l e rmX13_takeProgram s m args below meth c H locs 0 0 (MQ below (Qv D cs A (W13 cs h0 a0 q.1 q.2 l0)) args s 0 0 A) (F0 m 225 ls [.int y0, .ref (a0 37)]) := by
  obtain ⟨hx, hb, hr, hml, hown, hts, hK, hA, hlocks, hZ⟩ := id C
  intro i0 r0 x1 x2 x3 y0 H locs ls hf hP hD hS hl
  rw [f_X13_takeProgram_225] at hf
  refine lv_aload_n hx hb dX13_takeProgram_225 rfl (lv_at hl 0 rfl) ?_
  refine va_get (D := D) (ci := 13) (v := .ref (a0 37)) (C := RX13) (T := TX13) (N := 87) hx hb hts hiX13 hown hK hP 0 rfl rfl 37 (by decide) (hts _ flX13_200) (fun _ h9 => h9) rfl dX13_takeProgram_226 ?_
  refine lv_iconst (v := 2) hx hb dX13_takeProgram_229 (by decide) ?_
  refine lv_iload_n hx hb dX13_takeProgram_230 rfl (lv_at hl 2 rfl) ?_
  refine lv_imul hx hb dX13_takeProgram_231 ?_
  refine lv_iload_n hx hb dX13_takeProgram_232 rfl (lv_at hl 3 rfl) ?_
  refine lv_iadd hx hb dX13_takeProgram_233 ?_
  refine va_iald (f := r0 37) hx hb hK hP 26 0 rfl rfl (ck_in hf) dX13_takeProgram_234 ?_
  have hf := ck_2 hf
  obtain ⟨q8, hq8, hf⟩ := bd_s hf
  refine k_eSi (As := [.int (r0 37 ((2 * x2) + x3).toNatClampNeg)]) (rest := [.int y0, .ref (a0 37)]) hx hb hml hown hts hK hA hZ hl.1 hP hD hS (c_X13_front  hq8) (gSt mlX13_500 stX13_front inX13 coX13_front) rfl qnX13_front rfl rfl ⟨Nat.le_of_ble_eq_true rfl, Nat.le_of_ble_eq_true rfl⟩ rfl rfl (Nat.le_of_ble_eq_true rfl) ⟨Nat.zero_le _, Nat.zero_le _⟩ dX13_takeProgram_235 (fun H locs hP hD hS => ?_)
  refine lv_goto (tgt := 242) hx hb dX13_takeProgram_238 (by decide) ?_
  exact w_X13_takeProgram_242 C _ (hK62) _ (hK131) _ _ _ _ _ _ _ _ _ _ hf hP hD hS (lv_sub hl [0, 1, 2, 3] rfl)
def f_X13_takeProgram_176 (l0 : Nat → Nat → Int64) (K62 : (Nat → Int32) → (Nat → Nat → Int32) → Int32 → Option ((Nat → Int32) × (Nat → Nat → Int32))) (K131 : (Nat → Int32) → (Nat → Nat → Int32) → Int32 → Int32 → Int32 → Option ((Nat → Int32) × (Nat → Nat → Int32))) (i0 : Nat → Int32) (r0 : Nat → Nat → Int32) (x1 : Int32) (x2 : Int32) (x3 : Int32) : Option ((Nat → Int32) × (Nat → Nat → Int32)) := ck (inb ((2 * x2) + x3) 240) (ck (inb ((2 * x1) + x3) 240) (ck (inb x1 120) (if (r0 28 x1.toNatClampNeg) = 4 then (f_X13_takeProgram_225 l0 K62 K131 i0 (va_up r0 36 (upd (r0 36) ((2 * x1) + x3).toNatClampNeg (r0 36 ((2 * x2) + x3).toNatClampNeg))) x1 x2 x3 ((2 * x1) + x3)) else (ck (inb x1 120) (if (r0 28 x1.toNatClampNeg) = 5 then (f_X13_takeProgram_225 l0 K62 K131 i0 (va_up r0 36 (upd (r0 36) ((2 * x1) + x3).toNatClampNeg (r0 36 ((2 * x2) + x3).toNatClampNeg))) x1 x2 x3 ((2 * x1) + x3)) else (f_X13_takeProgram_242 l0 K62 K131 i0 (va_up r0 36 (upd (r0 36) ((2 * x1) + x3).toNatClampNeg (r0 36 ((2 * x2) + x3).toNatClampNeg))) x1 x2 x3 (-1) ((2 * x1) + x3)))))))
set_option maxRecDepth 100000 in
set_option maxHeartbeats 4000000 in
theorem w_X13_takeProgram_176 {p : Program} {l : Launch} {e : Env} {s : State} {m : MethodId} {args : Array Value} {below : List Frame} {meth : Method} {c : Code} {A : Nat → Prop} {D : va_G} {cs zs : Nat → Nat} {h0 : Nat} {a0 : Nat → Nat} {l0 : Nat → Nat → Int64} {q : (Nat → Int32) × (Nat → Nat → Int32)} (C : Cx p s m args meth c A D cs zs cX13_takeProgram 4 none RX13) (K62 : (Nat → Int32) → (Nat → Nat → Int32) → Int32 → Option ((Nat → Int32) × (Nat → Nat → Int32))) (hK62 : ∀ (i0 : Nat → Int32) (r0 : Nat → Nat → Int32) (x1 : Int32) (H : Heap) (locs : List Loc) (ls : Array Slot), K62 i0 r0 x1 = some q → va_P D vwCl (W13 cs h0 a0 i0 r0 l0) H → va_D A (W13 cs h0 a0 i0 r0 l0) → va_S A s.heap H locs → lv_has ls 4 [(0, .ref h0), (1, .int x1)] → W p l e rmX13_takeProgram s m args below meth c H locs 0 0 (MQ below (Qv D cs A (W13 cs h0 a0 q.1 q.2 l0)) args s 0 0 A) (F0 m 62 ls [])) (K131 : (Nat → Int32) → (Nat → Nat → Int32) → Int32 → Int32 → Int32 → Option ((Nat → Int32) × (Nat → Nat → Int32))) (hK131 : ∀ (i0 : Nat → Int32) (r0 : Nat → Nat → Int32) (x1 : Int32) (x2 : Int32) (x3 : Int32) (H : Heap) (locs : List Loc) (ls : Array Slot), K131 i0 r0 x1 x2 x3 = some q → va_P D vwCl (W13 cs h0 a0 i0 r0 l0) H → va_D A (W13 cs h0 a0 i0 r0 l0) → va_S A s.heap H locs → lv_has ls 4 [(0, .ref h0), (1, .int x1), (2, .int x2), (3, .int x3)] → W p l e rmX13_takeProgram s m args below meth c H locs 0 0 (MQ below (Qv D cs A (W13 cs h0 a0 q.1 q.2 l0)) args s 0 0 A) (F0 m 131 ls [])) : ∀ (i0 : Nat → Int32) (r0 : Nat → Nat → Int32) (x1 : Int32) (x2 : Int32) (x3 : Int32) (H : Heap) (locs : List Loc) (ls : Array Slot), f_X13_takeProgram_176 l0 K62 K131 i0 r0 x1 x2 x3 = some q → va_P D vwCl (W13 cs h0 a0 i0 r0 l0) H → va_D A (W13 cs h0 a0 i0 r0 l0) → va_S A s.heap H locs → lv_has ls 4 [(0, .ref h0), (1, .int x1), (2, .int x2), (3, .int x3)] → W p l e rmX13_takeProgram s m args below meth c H locs 0 0 (MQ below (Qv D cs A (W13 cs h0 a0 q.1 q.2 l0)) args s 0 0 A) (F0 m 176 ls []) := by
  obtain ⟨hx, hb, hr, hml, hown, hts, hK, hA, hlocks, hZ⟩ := id C
  intro i0 r0 x1 x2 x3 H locs ls hf hP hD hS hl
  rw [f_X13_takeProgram_176] at hf
  refine lv_aload_n hx hb dX13_takeProgram_176 rfl (lv_at hl 0 rfl) ?_
  refine va_get (D := D) (ci := 13) (v := .ref (a0 36)) (C := RX13) (T := TX13) (N := 87) hx hb hts hiX13 hown hK hP 0 rfl rfl 36 (by decide) (hts _ flX13_197) (fun _ h9 => h9) rfl dX13_takeProgram_177 ?_
  refine lv_iconst (v := 2) hx hb dX13_takeProgram_180 (by decide) ?_
  refine lv_iload_n hx hb dX13_takeProgram_181 rfl (lv_at hl 1 rfl) ?_
  refine lv_imul hx hb dX13_takeProgram_182 ?_
  refine lv_iload_n hx hb dX13_takeProgram_183 rfl (lv_at hl 3 rfl) ?_
  refine lv_iadd hx hb dX13_takeProgram_184 ?_
  refine lv_aload_n hx hb dX13_takeProgram_185 rfl (lv_at hl 0 rfl) ?_
  refine va_get (D := D) (ci := 13) (v := .ref (a0 36)) (C := RX13) (T := TX13) (N := 87) hx hb hts hiX13 hown hK hP 0 rfl rfl 36 (by decide) (hts _ flX13_197) (fun _ h9 => h9) rfl dX13_takeProgram_186 ?_
  refine lv_iconst (v := 2) hx hb dX13_takeProgram_189 (by decide) ?_
  refine lv_iload_n hx hb dX13_takeProgram_190 rfl (lv_at hl 2 rfl) ?_
  refine lv_imul hx hb dX13_takeProgram_191 ?_
  refine lv_iload_n hx hb dX13_takeProgram_192 rfl (lv_at hl 3 rfl) ?_
  refine lv_iadd hx hb dX13_takeProgram_193 ?_
  refine va_iald (f := r0 36) hx hb hK hP 25 0 rfl rfl (ck_in hf) dX13_takeProgram_194 ?_
  have hf := ck_2 hf
  refine va_iast (f := r0 36) hx hb hK hP hD hS 25 0 rfl rfl (ck_in hf) dX13_takeProgram_195 (fun H locs hP hD hS => ?_)
  have hf := ck_2 hf
  obtain ⟨hP, hD⟩ := st13_36 hP hD
  refine lv_aload_n hx hb dX13_takeProgram_196 rfl (lv_at hl 0 rfl) ?_
  refine va_get (D := D) (ci := 13) (v := .ref (a0 37)) (C := RX13) (T := TX13) (N := 87) hx hb hts hiX13 hown hK hP 0 rfl rfl 37 (by decide) (hts _ flX13_200) (fun _ h9 => h9) rfl dX13_takeProgram_197 ?_
  refine lv_iconst (v := 2) hx hb dX13_takeProgram_200 (by decide) ?_
  refine lv_iload_n hx hb dX13_takeProgram_201 rfl (lv_at hl 1 rfl) ?_
  refine lv_imul hx hb dX13_takeProgram_202 ?_
  refine lv_iload_n hx hb dX13_takeProgram_203 rfl (lv_at hl 3 rfl) ?_
  refine lv_iadd hx hb dX13_takeProgram_204 ?_
  refine lv_aload_n hx hb dX13_takeProgram_205 rfl (lv_at hl 0 rfl) ?_
  refine va_get (D := D) (ci := 13) (v := .ref (a0 28)) (C := RX13) (T := TX13) (N := 87) hx hb hts hiX13 hown hK hP 0 rfl rfl 28 (by decide) (hts _ flX13_173) (fun _ h9 => h9) rfl dX13_takeProgram_206 ?_
  refine lv_iload_n hx hb dX13_takeProgram_209 rfl (lv_at hl 1 rfl) ?_
  refine va_iald (f := r0 28) hx hb hK hP 17 0 rfl rfl (ck_in hf) dX13_takeProgram_210 ?_
  have hf := ck_2 hf
  refine lv_iconst (v := 4) hx hb dX13_takeProgram_211 (by decide) ?_
  refine lv_icmp_eq (tgt := 225) hx hb dX13_takeProgram_212 (by decide) (fun hc => ?_) (fun hc => ?_)
  · have hf := ite_t hf hc
    exact w_X13_takeProgram_225 C _ (hK62) _ (hK131) _ _ _ _ _ _ _ _ _ hf hP hD hS (lv_sub hl [0, 1, 2, 3] rfl)
  · have hf := ite_f hf hc
    refine lv_aload_n hx hb dX13_takeProgram_215 rfl (lv_at hl 0 rfl) ?_
    refine va_get (D := D) (ci := 13) (v := .ref (a0 28)) (C := RX13) (T := TX13) (N := 87) hx hb hts hiX13 hown hK hP 0 rfl rfl 28 (by decide) (hts _ flX13_173) (fun _ h9 => h9) rfl dX13_takeProgram_216 ?_
    refine lv_iload_n hx hb dX13_takeProgram_219 rfl (lv_at hl 1 rfl) ?_
    refine va_iald (f := r0 28) hx hb hK hP 17 0 rfl rfl (ck_in hf) dX13_takeProgram_220 ?_
    have hf := ck_2 hf
    refine lv_iconst (v := 5) hx hb dX13_takeProgram_221 (by decide) ?_
    refine lv_icmp_ne (tgt := 241) hx hb dX13_takeProgram_222 (by decide) (fun hc => ?_) (fun hc => ?_)
    · have hf := ite_f hf hc
      refine lv_iconst (v := (-1)) hx hb dX13_takeProgram_241 (by decide) ?_
      exact w_X13_takeProgram_242 C _ (hK62) _ (hK131) _ _ _ _ _ _ _ _ _ _ hf hP hD hS (lv_sub hl [0, 1, 2, 3] rfl)
    · have hf := ite_t hf hc
      exact w_X13_takeProgram_225 C _ (hK62) _ (hK131) _ _ _ _ _ _ _ _ _ hf hP hD hS (lv_sub hl [0, 1, 2, 3] rfl)
def f_X13_takeProgram_351 (l0 : Nat → Nat → Int64) (K62 : (Nat → Int32) → (Nat → Nat → Int32) → Int32 → Option ((Nat → Int32) × (Nat → Nat → Int32))) (K298 : (Nat → Int32) → (Nat → Nat → Int32) → Int32 → Int32 → Int32 → Option ((Nat → Int32) × (Nat → Nat → Int32))) (i0 : Nat → Int32) (r0 : Nat → Nat → Int32) (x1 : Int32) (x2 : Int32) (x3 : Int32) : Option ((Nat → Int32) × (Nat → Nat → Int32)) := K298 i0 r0 x1 x2 (x3 + 1)
set_option maxRecDepth 100000 in
set_option maxHeartbeats 4000000 in
theorem w_X13_takeProgram_351 {p : Program} {l : Launch} {e : Env} {s : State} {m : MethodId} {args : Array Value} {below : List Frame} {meth : Method} {c : Code} {A : Nat → Prop} {D : va_G} {cs zs : Nat → Nat} {h0 : Nat} {a0 : Nat → Nat} {l0 : Nat → Nat → Int64} {q : (Nat → Int32) × (Nat → Nat → Int32)} (C : Cx p s m args meth c A D cs zs cX13_takeProgram 4 none RX13) (K62 : (Nat → Int32) → (Nat → Nat → Int32) → Int32 → Option ((Nat → Int32) × (Nat → Nat → Int32))) (hK62 : ∀ (i0 : Nat → Int32) (r0 : Nat → Nat → Int32) (x1 : Int32) (H : Heap) (locs : List Loc) (ls : Array Slot), K62 i0 r0 x1 = some q → va_P D vwCl (W13 cs h0 a0 i0 r0 l0) H → va_D A (W13 cs h0 a0 i0 r0 l0) → va_S A s.heap H locs → lv_has ls 4 [(0, .ref h0), (1, .int x1)] → W p l e rmX13_takeProgram s m args below meth c H locs 0 0 (MQ below (Qv D cs A (W13 cs h0 a0 q.1 q.2 l0)) args s 0 0 A) (F0 m 62 ls [])) (K298 : (Nat → Int32) → (Nat → Nat → Int32) → Int32 → Int32 → Int32 → Option ((Nat → Int32) × (Nat → Nat → Int32))) (hK298 : ∀ (i0 : Nat → Int32) (r0 : Nat → Nat → Int32) (x1 : Int32) (x2 : Int32) (x3 : Int32) (H : Heap) (locs : List Loc) (ls : Array Slot), K298 i0 r0 x1 x2 x3 = some q → va_P D vwCl (W13 cs h0 a0 i0 r0 l0) H → va_D A (W13 cs h0 a0 i0 r0 l0) → va_S A s.heap H locs → lv_has ls 4 [(0, .ref h0), (1, .int x1), (2, .int x2), (3, .int x3)] → W p l e rmX13_takeProgram s m args below meth c H locs 0 0 (MQ below (Qv D cs A (W13 cs h0 a0 q.1 q.2 l0)) args s 0 0 A) (F0 m 298 ls [])) : ∀ (i0 : Nat → Int32) (r0 : Nat → Nat → Int32) (x1 : Int32) (x2 : Int32) (x3 : Int32) (H : Heap) (locs : List Loc) (ls : Array Slot), f_X13_takeProgram_351 l0 K62 K298 i0 r0 x1 x2 x3 = some q → va_P D vwCl (W13 cs h0 a0 i0 r0 l0) H → va_D A (W13 cs h0 a0 i0 r0 l0) → va_S A s.heap H locs → lv_has ls 4 [(0, .ref h0), (1, .int x1), (2, .int x2), (3, .int x3)] → W p l e rmX13_takeProgram s m args below meth c H locs 0 0 (MQ below (Qv D cs A (W13 cs h0 a0 q.1 q.2 l0)) args s 0 0 A) (F0 m 351 ls []) := by
  obtain ⟨hx, hb, hr, hml, hown, hts, hK, hA, hlocks, hZ⟩ := id C
  intro i0 r0 x1 x2 x3 H locs ls hf hP hD hS hl
  rw [f_X13_takeProgram_351] at hf
  refine lv_iinc (v := x3 + 1) (lv' := [(3, .int (x3 + 1)), (0, .ref h0), (1, .int x1), (2, .int x2)]) hx hb dX13_takeProgram_351 hl (k := 3) rfl rfl (by decide) rfl (fun ls hl => ?_)
  refine lv_goto (tgt := 298) hx hb dX13_takeProgram_354 (by decide) ?_
  exact hK298 _ _ _ _ _ _ _ _ hf hP hD hS (lv_sub hl [1, 2, 3, 0] rfl)
def f_X13_takeProgram_298 (l0 : Nat → Nat → Int64) (K62 : (Nat → Int32) → (Nat → Nat → Int32) → Int32 → Option ((Nat → Int32) × (Nat → Nat → Int32))) : Nat → (Nat → Int32) → (Nat → Nat → Int32) → Int32 → Int32 → Int32 → Option ((Nat → Int32) × (Nat → Nat → Int32))
  | 0, _, _, _, _, _ => none
  | n + 1, i0, r0, x1, x2, x3 => if 4 ≤ x3 then (K62 i0 r0 (x1 + 1)) else (ck (inb ((4 * x2) + x3) 480) (ck (inb ((4 * x1) + x3) 480) (ck (inb ((4 * x2) + x3) 480) (ck (inb ((4 * x1) + x3) 480) (f_X13_takeProgram_351 l0 K62 (f_X13_takeProgram_298 l0 K62 n) i0 (va_up (va_up r0 34 (upd (r0 34) ((4 * x1) + x3).toNatClampNeg ((r0 34 ((4 * x2) + x3).toNatClampNeg) - 1000))) 35 (upd (r0 35) ((4 * x1) + x3).toNatClampNeg ((r0 35 ((4 * x2) + x3).toNatClampNeg) - 1000))) x1 x2 x3)))))
set_option maxRecDepth 100000 in
set_option maxHeartbeats 4000000 in
theorem w_X13_takeProgram_298 {p : Program} {l : Launch} {e : Env} {s : State} {m : MethodId} {args : Array Value} {below : List Frame} {meth : Method} {c : Code} {A : Nat → Prop} {D : va_G} {cs zs : Nat → Nat} {h0 : Nat} {a0 : Nat → Nat} {l0 : Nat → Nat → Int64} {q : (Nat → Int32) × (Nat → Nat → Int32)} (C : Cx p s m args meth c A D cs zs cX13_takeProgram 4 none RX13) (K62 : (Nat → Int32) → (Nat → Nat → Int32) → Int32 → Option ((Nat → Int32) × (Nat → Nat → Int32))) (hK62 : ∀ (i0 : Nat → Int32) (r0 : Nat → Nat → Int32) (x1 : Int32) (H : Heap) (locs : List Loc) (ls : Array Slot), K62 i0 r0 x1 = some q → va_P D vwCl (W13 cs h0 a0 i0 r0 l0) H → va_D A (W13 cs h0 a0 i0 r0 l0) → va_S A s.heap H locs → lv_has ls 4 [(0, .ref h0), (1, .int x1)] → W p l e rmX13_takeProgram s m args below meth c H locs 0 0 (MQ below (Qv D cs A (W13 cs h0 a0 q.1 q.2 l0)) args s 0 0 A) (F0 m 62 ls [])) : ∀ (n : Nat), ∀ (i0 : Nat → Int32) (r0 : Nat → Nat → Int32) (x1 : Int32) (x2 : Int32) (x3 : Int32) (H : Heap) (locs : List Loc) (ls : Array Slot), f_X13_takeProgram_298 l0 K62 n i0 r0 x1 x2 x3 = some q → va_P D vwCl (W13 cs h0 a0 i0 r0 l0) H → va_D A (W13 cs h0 a0 i0 r0 l0) → va_S A s.heap H locs → lv_has ls 4 [(0, .ref h0), (1, .int x1), (2, .int x2), (3, .int x3)] → W p l e rmX13_takeProgram s m args below meth c H locs 0 0 (MQ below (Qv D cs A (W13 cs h0 a0 q.1 q.2 l0)) args s 0 0 A) (F0 m 298 ls []) := by
  obtain ⟨hx, hb, hr, hml, hown, hts, hK, hA, hlocks, hZ⟩ := id C
  intro n
  induction n with
  | zero =>
    intro i0 r0 x1 x2 x3 H locs ls hf
    rw [f_X13_takeProgram_298] at hf
    cases hf
  | succ n ih =>
    intro i0 r0 x1 x2 x3 H locs ls hf hP hD hS hl
    rw [f_X13_takeProgram_298] at hf
    refine lv_iload_n hx hb dX13_takeProgram_298 rfl (lv_at hl 3 rfl) ?_
    refine lv_iconst (v := 4) hx hb dX13_takeProgram_299 (by decide) ?_
    refine lv_icmp_ge (tgt := 357) hx hb dX13_takeProgram_300 (by decide) (fun hc => ?_) (fun hc => ?_)
    · have hf := ite_t hf hc
      refine lv_iinc (v := x1 + 1) (lv' := [(1, .int (x1 + 1)), (0, .ref h0), (2, .int x2), (3, .int x3)]) hx hb dX13_takeProgram_357 hl (k := 1) rfl rfl (by decide) rfl (fun ls hl => ?_)
      refine lv_goto (tgt := 62) hx hb dX13_takeProgram_360 (by decide) ?_
      exact hK62 _ _ _ _ _ _ hf hP hD hS (lv_sub hl [1, 0] rfl)
    · have hf := ite_f hf hc
      refine lv_aload_n hx hb dX13_takeProgram_303 rfl (lv_at hl 0 rfl) ?_
      refine va_get (D := D) (ci := 13) (v := .ref (a0 34)) (C := RX13) (T := TX13) (N := 87) hx hb hts hiX13 hown hK hP 0 rfl rfl 34 (by decide) (hts _ flX13_191) (fun _ h9 => h9) rfl dX13_takeProgram_304 ?_
      refine lv_iconst (v := 4) hx hb dX13_takeProgram_307 (by decide) ?_
      refine lv_iload_n hx hb dX13_takeProgram_308 rfl (lv_at hl 1 rfl) ?_
      refine lv_imul hx hb dX13_takeProgram_309 ?_
      refine lv_iload_n hx hb dX13_takeProgram_310 rfl (lv_at hl 3 rfl) ?_
      refine lv_iadd hx hb dX13_takeProgram_311 ?_
      refine lv_aload_n hx hb dX13_takeProgram_312 rfl (lv_at hl 0 rfl) ?_
      refine va_get (D := D) (ci := 13) (v := .ref (a0 34)) (C := RX13) (T := TX13) (N := 87) hx hb hts hiX13 hown hK hP 0 rfl rfl 34 (by decide) (hts _ flX13_191) (fun _ h9 => h9) rfl dX13_takeProgram_313 ?_
      refine lv_iconst (v := 4) hx hb dX13_takeProgram_316 (by decide) ?_
      refine lv_iload_n hx hb dX13_takeProgram_317 rfl (lv_at hl 2 rfl) ?_
      refine lv_imul hx hb dX13_takeProgram_318 ?_
      refine lv_iload_n hx hb dX13_takeProgram_319 rfl (lv_at hl 3 rfl) ?_
      refine lv_iadd hx hb dX13_takeProgram_320 ?_
      refine va_iald (f := r0 34) hx hb hK hP 23 0 rfl rfl (ck_in hf) dX13_takeProgram_321 ?_
      have hf := ck_2 hf
      refine lv_sipush (v := 1000) hx hb dX13_takeProgram_322 (by decide) ?_
      refine lv_isub hx hb dX13_takeProgram_325 ?_
      refine va_iast (f := r0 34) hx hb hK hP hD hS 23 0 rfl rfl (ck_in hf) dX13_takeProgram_326 (fun H locs hP hD hS => ?_)
      have hf := ck_2 hf
      obtain ⟨hP, hD⟩ := st13_34 hP hD
      refine lv_aload_n hx hb dX13_takeProgram_327 rfl (lv_at hl 0 rfl) ?_
      refine va_get (D := D) (ci := 13) (v := .ref (a0 35)) (C := RX13) (T := TX13) (N := 87) hx hb hts hiX13 hown hK hP 0 rfl rfl 35 (by decide) (hts _ flX13_194) (fun _ h9 => h9) rfl dX13_takeProgram_328 ?_
      refine lv_iconst (v := 4) hx hb dX13_takeProgram_331 (by decide) ?_
      refine lv_iload_n hx hb dX13_takeProgram_332 rfl (lv_at hl 1 rfl) ?_
      refine lv_imul hx hb dX13_takeProgram_333 ?_
      refine lv_iload_n hx hb dX13_takeProgram_334 rfl (lv_at hl 3 rfl) ?_
      refine lv_iadd hx hb dX13_takeProgram_335 ?_
      refine lv_aload_n hx hb dX13_takeProgram_336 rfl (lv_at hl 0 rfl) ?_
      refine va_get (D := D) (ci := 13) (v := .ref (a0 35)) (C := RX13) (T := TX13) (N := 87) hx hb hts hiX13 hown hK hP 0 rfl rfl 35 (by decide) (hts _ flX13_194) (fun _ h9 => h9) rfl dX13_takeProgram_337 ?_
      refine lv_iconst (v := 4) hx hb dX13_takeProgram_340 (by decide) ?_
      refine lv_iload_n hx hb dX13_takeProgram_341 rfl (lv_at hl 2 rfl) ?_
      refine lv_imul hx hb dX13_takeProgram_342 ?_
      refine lv_iload_n hx hb dX13_takeProgram_343 rfl (lv_at hl 3 rfl) ?_
      refine lv_iadd hx hb dX13_takeProgram_344 ?_
      refine va_iald (f := r0 35) hx hb hK hP 24 0 rfl rfl (ck_in hf) dX13_takeProgram_345 ?_
      have hf := ck_2 hf
      refine lv_sipush (v := 1000) hx hb dX13_takeProgram_346 (by decide) ?_
      refine lv_isub hx hb dX13_takeProgram_349 ?_
      refine va_iast (f := r0 35) hx hb hK hP hD hS 24 0 rfl rfl (ck_in hf) dX13_takeProgram_350 (fun H locs hP hD hS => ?_)
      have hf := ck_2 hf
      obtain ⟨hP, hD⟩ := st13_35 hP hD
      exact w_X13_takeProgram_351 C _ (hK62) _ (ih) _ _ _ _ _ _ _ _ hf hP hD hS (lv_sub hl [0, 1, 2, 3] rfl)
def f_X13_takeProgram_131 (l0 : Nat → Nat → Int64) (K62 : (Nat → Int32) → (Nat → Nat → Int32) → Int32 → Option ((Nat → Int32) × (Nat → Nat → Int32))) : Nat → (Nat → Int32) → (Nat → Nat → Int32) → Int32 → Int32 → Int32 → Option ((Nat → Int32) × (Nat → Nat → Int32))
  | 0, _, _, _, _, _ => none
  | n + 1, i0, r0, x1, x2, x3 => if 2 ≤ x3 then (f_X13_takeProgram_298 l0 K62 2000000 i0 r0 x1 x2 0) else (ck (inb ((2 * x2) + x3) 240) (ck (inb ((2 * x1) + x3) 240) (ck (inb ((2 * x2) + x3) 240) (ck (inb ((2 * x1) + x3) 240) (f_X13_takeProgram_176 l0 K62 (f_X13_takeProgram_131 l0 K62 n) i0 (va_up (va_up r0 32 (upd (r0 32) ((2 * x1) + x3).toNatClampNeg (r0 32 ((2 * x2) + x3).toNatClampNeg))) 33 (upd (r0 33) ((2 * x1) + x3).toNatClampNeg (r0 33 ((2 * x2) + x3).toNatClampNeg))) x1 x2 x3)))))
set_option maxRecDepth 100000 in
set_option maxHeartbeats 4000000 in
theorem w_X13_takeProgram_131 {p : Program} {l : Launch} {e : Env} {s : State} {m : MethodId} {args : Array Value} {below : List Frame} {meth : Method} {c : Code} {A : Nat → Prop} {D : va_G} {cs zs : Nat → Nat} {h0 : Nat} {a0 : Nat → Nat} {l0 : Nat → Nat → Int64} {q : (Nat → Int32) × (Nat → Nat → Int32)} (C : Cx p s m args meth c A D cs zs cX13_takeProgram 4 none RX13) (K62 : (Nat → Int32) → (Nat → Nat → Int32) → Int32 → Option ((Nat → Int32) × (Nat → Nat → Int32))) (hK62 : ∀ (i0 : Nat → Int32) (r0 : Nat → Nat → Int32) (x1 : Int32) (H : Heap) (locs : List Loc) (ls : Array Slot), K62 i0 r0 x1 = some q → va_P D vwCl (W13 cs h0 a0 i0 r0 l0) H → va_D A (W13 cs h0 a0 i0 r0 l0) → va_S A s.heap H locs → lv_has ls 4 [(0, .ref h0), (1, .int x1)] → W p l e rmX13_takeProgram s m args below meth c H locs 0 0 (MQ below (Qv D cs A (W13 cs h0 a0 q.1 q.2 l0)) args s 0 0 A) (F0 m 62 ls [])) : ∀ (n : Nat), ∀ (i0 : Nat → Int32) (r0 : Nat → Nat → Int32) (x1 : Int32) (x2 : Int32) (x3 : Int32) (H : Heap) (locs : List Loc) (ls : Array Slot), f_X13_takeProgram_131 l0 K62 n i0 r0 x1 x2 x3 = some q → va_P D vwCl (W13 cs h0 a0 i0 r0 l0) H → va_D A (W13 cs h0 a0 i0 r0 l0) → va_S A s.heap H locs → lv_has ls 4 [(0, .ref h0), (1, .int x1), (2, .int x2), (3, .int x3)] → W p l e rmX13_takeProgram s m args below meth c H locs 0 0 (MQ below (Qv D cs A (W13 cs h0 a0 q.1 q.2 l0)) args s 0 0 A) (F0 m 131 ls []) := by
  obtain ⟨hx, hb, hr, hml, hown, hts, hK, hA, hlocks, hZ⟩ := id C
  intro n
  induction n with
  | zero =>
    intro i0 r0 x1 x2 x3 H locs ls hf
    rw [f_X13_takeProgram_131] at hf
    cases hf
  | succ n ih =>
    intro i0 r0 x1 x2 x3 H locs ls hf hP hD hS hl
    rw [f_X13_takeProgram_131] at hf
    refine lv_iload_n hx hb dX13_takeProgram_131 rfl (lv_at hl 3 rfl) ?_
    refine lv_iconst (v := 2) hx hb dX13_takeProgram_132 (by decide) ?_
    refine lv_icmp_ge (tgt := 296) hx hb dX13_takeProgram_133 (by decide) (fun hc => ?_) (fun hc => ?_)
    · have hf := ite_t hf hc
      refine lv_iconst (v := 0) hx hb dX13_takeProgram_296 (by decide) ?_
      refine lv_istore_n (lv' := [(3, .int 0), (0, .ref h0), (1, .int x1), (2, .int x2)]) hx hb dX13_takeProgram_297 rfl hl (by decide) rfl (fun ls hl => ?_)
      exact w_X13_takeProgram_298 C _ (hK62) 2000000 _ _ _ _ _ _ _ _ hf hP hD hS (lv_sub hl [1, 2, 3, 0] rfl)
    · have hf := ite_f hf hc
      refine lv_aload_n hx hb dX13_takeProgram_136 rfl (lv_at hl 0 rfl) ?_
      refine va_get (D := D) (ci := 13) (v := .ref (a0 32)) (C := RX13) (T := TX13) (N := 87) hx hb hts hiX13 hown hK hP 0 rfl rfl 32 (by decide) (hts _ flX13_185) (fun _ h9 => h9) rfl dX13_takeProgram_137 ?_
      refine lv_iconst (v := 2) hx hb dX13_takeProgram_140 (by decide) ?_
      refine lv_iload_n hx hb dX13_takeProgram_141 rfl (lv_at hl 1 rfl) ?_
      refine lv_imul hx hb dX13_takeProgram_142 ?_
      refine lv_iload_n hx hb dX13_takeProgram_143 rfl (lv_at hl 3 rfl) ?_
      refine lv_iadd hx hb dX13_takeProgram_144 ?_
      refine lv_aload_n hx hb dX13_takeProgram_145 rfl (lv_at hl 0 rfl) ?_
      refine va_get (D := D) (ci := 13) (v := .ref (a0 32)) (C := RX13) (T := TX13) (N := 87) hx hb hts hiX13 hown hK hP 0 rfl rfl 32 (by decide) (hts _ flX13_185) (fun _ h9 => h9) rfl dX13_takeProgram_146 ?_
      refine lv_iconst (v := 2) hx hb dX13_takeProgram_149 (by decide) ?_
      refine lv_iload_n hx hb dX13_takeProgram_150 rfl (lv_at hl 2 rfl) ?_
      refine lv_imul hx hb dX13_takeProgram_151 ?_
      refine lv_iload_n hx hb dX13_takeProgram_152 rfl (lv_at hl 3 rfl) ?_
      refine lv_iadd hx hb dX13_takeProgram_153 ?_
      refine va_iald (f := r0 32) hx hb hK hP 21 0 rfl rfl (ck_in hf) dX13_takeProgram_154 ?_
      have hf := ck_2 hf
      refine va_iast (f := r0 32) hx hb hK hP hD hS 21 0 rfl rfl (ck_in hf) dX13_takeProgram_155 (fun H locs hP hD hS => ?_)
      have hf := ck_2 hf
      obtain ⟨hP, hD⟩ := st13_32 hP hD
      refine lv_aload_n hx hb dX13_takeProgram_156 rfl (lv_at hl 0 rfl) ?_
      refine va_get (D := D) (ci := 13) (v := .ref (a0 33)) (C := RX13) (T := TX13) (N := 87) hx hb hts hiX13 hown hK hP 0 rfl rfl 33 (by decide) (hts _ flX13_188) (fun _ h9 => h9) rfl dX13_takeProgram_157 ?_
      refine lv_iconst (v := 2) hx hb dX13_takeProgram_160 (by decide) ?_
      refine lv_iload_n hx hb dX13_takeProgram_161 rfl (lv_at hl 1 rfl) ?_
      refine lv_imul hx hb dX13_takeProgram_162 ?_
      refine lv_iload_n hx hb dX13_takeProgram_163 rfl (lv_at hl 3 rfl) ?_
      refine lv_iadd hx hb dX13_takeProgram_164 ?_
      refine lv_aload_n hx hb dX13_takeProgram_165 rfl (lv_at hl 0 rfl) ?_
      refine va_get (D := D) (ci := 13) (v := .ref (a0 33)) (C := RX13) (T := TX13) (N := 87) hx hb hts hiX13 hown hK hP 0 rfl rfl 33 (by decide) (hts _ flX13_188) (fun _ h9 => h9) rfl dX13_takeProgram_166 ?_
      refine lv_iconst (v := 2) hx hb dX13_takeProgram_169 (by decide) ?_
      refine lv_iload_n hx hb dX13_takeProgram_170 rfl (lv_at hl 2 rfl) ?_
      refine lv_imul hx hb dX13_takeProgram_171 ?_
      refine lv_iload_n hx hb dX13_takeProgram_172 rfl (lv_at hl 3 rfl) ?_
      refine lv_iadd hx hb dX13_takeProgram_173 ?_
      refine va_iald (f := r0 33) hx hb hK hP 22 0 rfl rfl (ck_in hf) dX13_takeProgram_174 ?_
      have hf := ck_2 hf
      refine va_iast (f := r0 33) hx hb hK hP hD hS 22 0 rfl rfl (ck_in hf) dX13_takeProgram_175 (fun H locs hP hD hS => ?_)
      have hf := ck_2 hf
      obtain ⟨hP, hD⟩ := st13_33 hP hD
      exact w_X13_takeProgram_176 C _ (hK62) _ (ih) _ _ _ _ _ _ _ _ hf hP hD hS (lv_sub hl [0, 1, 2, 3] rfl)
def f_X13_takeProgram_129 (l0 : Nat → Nat → Int64) (K62 : (Nat → Int32) → (Nat → Nat → Int32) → Int32 → Option ((Nat → Int32) × (Nat → Nat → Int32))) (i0 : Nat → Int32) (r0 : Nat → Nat → Int32) (x1 : Int32) (x2 : Int32) : Option ((Nat → Int32) × (Nat → Nat → Int32)) := f_X13_takeProgram_131 l0 K62 2000000 i0 r0 x1 x2 0
set_option maxRecDepth 100000 in
set_option maxHeartbeats 4000000 in
theorem w_X13_takeProgram_129 {p : Program} {l : Launch} {e : Env} {s : State} {m : MethodId} {args : Array Value} {below : List Frame} {meth : Method} {c : Code} {A : Nat → Prop} {D : va_G} {cs zs : Nat → Nat} {h0 : Nat} {a0 : Nat → Nat} {l0 : Nat → Nat → Int64} {q : (Nat → Int32) × (Nat → Nat → Int32)} (C : Cx p s m args meth c A D cs zs cX13_takeProgram 4 none RX13) (K62 : (Nat → Int32) → (Nat → Nat → Int32) → Int32 → Option ((Nat → Int32) × (Nat → Nat → Int32))) (hK62 : ∀ (i0 : Nat → Int32) (r0 : Nat → Nat → Int32) (x1 : Int32) (H : Heap) (locs : List Loc) (ls : Array Slot), K62 i0 r0 x1 = some q → va_P D vwCl (W13 cs h0 a0 i0 r0 l0) H → va_D A (W13 cs h0 a0 i0 r0 l0) → va_S A s.heap H locs → lv_has ls 4 [(0, .ref h0), (1, .int x1)] → W p l e rmX13_takeProgram s m args below meth c H locs 0 0 (MQ below (Qv D cs A (W13 cs h0 a0 q.1 q.2 l0)) args s 0 0 A) (F0 m 62 ls [])) : ∀ (i0 : Nat → Int32) (r0 : Nat → Nat → Int32) (x1 : Int32) (x2 : Int32) (H : Heap) (locs : List Loc) (ls : Array Slot), f_X13_takeProgram_129 l0 K62 i0 r0 x1 x2 = some q → va_P D vwCl (W13 cs h0 a0 i0 r0 l0) H → va_D A (W13 cs h0 a0 i0 r0 l0) → va_S A s.heap H locs → lv_has ls 4 [(0, .ref h0), (1, .int x1), (2, .int x2)] → W p l e rmX13_takeProgram s m args below meth c H locs 0 0 (MQ below (Qv D cs A (W13 cs h0 a0 q.1 q.2 l0)) args s 0 0 A) (F0 m 129 ls []) := by
  obtain ⟨hx, hb, hr, hml, hown, hts, hK, hA, hlocks, hZ⟩ := id C
  intro i0 r0 x1 x2 H locs ls hf hP hD hS hl
  rw [f_X13_takeProgram_129] at hf
  refine lv_iconst (v := 0) hx hb dX13_takeProgram_129 (by decide) ?_
  refine lv_istore_n (lv' := [(3, .int 0), (0, .ref h0), (1, .int x1), (2, .int x2)]) hx hb dX13_takeProgram_130 rfl hl (by decide) rfl (fun ls hl => ?_)
  exact w_X13_takeProgram_131 C _ (hK62) 2000000 _ _ _ _ _ _ _ _ hf hP hD hS (lv_sub hl [1, 2, 3, 0] rfl)
def f_X13_takeProgram_102 (l0 : Nat → Nat → Int64) (K62 : (Nat → Int32) → (Nat → Nat → Int32) → Int32 → Option ((Nat → Int32) × (Nat → Nat → Int32))) (i0 : Nat → Int32) (r0 : Nat → Nat → Int32) (x1 : Int32) (x2 : Int32) : Option ((Nat → Int32) × (Nat → Nat → Int32)) := ck (inb x2 120) (bd (f_X13_front (r0 30 x2.toNatClampNeg)) (fun q9 => ck (inb x1 120) (ck (inb x2 120) (ck (inb x1 120) (f_X13_takeProgram_129 l0 K62 i0 (va_up (va_up r0 30 (upd (r0 30) x1.toNatClampNeg q9)) 31 (upd (r0 31) x1.toNatClampNeg (r0 31 x2.toNatClampNeg))) x1 x2)))))
set_option maxRecDepth 100000 in
set_option maxHeartbeats 4000000 in
theorem w_X13_takeProgram_102 {p : Program} {l : Launch} {e : Env} {s : State} {m : MethodId} {args : Array Value} {below : List Frame} {meth : Method} {c : Code} {A : Nat → Prop} {D : va_G} {cs zs : Nat → Nat} {h0 : Nat} {a0 : Nat → Nat} {l0 : Nat → Nat → Int64} {q : (Nat → Int32) × (Nat → Nat → Int32)} (C : Cx p s m args meth c A D cs zs cX13_takeProgram 4 none RX13) (K62 : (Nat → Int32) → (Nat → Nat → Int32) → Int32 → Option ((Nat → Int32) × (Nat → Nat → Int32))) (hK62 : ∀ (i0 : Nat → Int32) (r0 : Nat → Nat → Int32) (x1 : Int32) (H : Heap) (locs : List Loc) (ls : Array Slot), K62 i0 r0 x1 = some q → va_P D vwCl (W13 cs h0 a0 i0 r0 l0) H → va_D A (W13 cs h0 a0 i0 r0 l0) → va_S A s.heap H locs → lv_has ls 4 [(0, .ref h0), (1, .int x1)] → W p l e rmX13_takeProgram s m args below meth c H locs 0 0 (MQ below (Qv D cs A (W13 cs h0 a0 q.1 q.2 l0)) args s 0 0 A) (F0 m 62 ls [])) : ∀ (i0 : Nat → Int32) (r0 : Nat → Nat → Int32) (x1 : Int32) (x2 : Int32) (H : Heap) (locs : List Loc) (ls : Array Slot), f_X13_takeProgram_102 l0 K62 i0 r0 x1 x2 = some q → va_P D vwCl (W13 cs h0 a0 i0 r0 l0) H → va_D A (W13 cs h0 a0 i0 r0 l0) → va_S A s.heap H locs → lv_has ls 4 [(0, .ref h0), (1, .int x1), (2, .int x2)] → W p l e rmX13_takeProgram s m args below meth c H locs 0 0 (MQ below (Qv D cs A (W13 cs h0 a0 q.1 q.2 l0)) args s 0 0 A) (F0 m 102 ls []) := by
  obtain ⟨hx, hb, hr, hml, hown, hts, hK, hA, hlocks, hZ⟩ := id C
  intro i0 r0 x1 x2 H locs ls hf hP hD hS hl
  rw [f_X13_takeProgram_102] at hf
  refine lv_aload_n hx hb dX13_takeProgram_102 rfl (lv_at hl 0 rfl) ?_
  refine va_get (D := D) (ci := 13) (v := .ref (a0 30)) (C := RX13) (T := TX13) (N := 87) hx hb hts hiX13 hown hK hP 0 rfl rfl 30 (by decide) (hts _ flX13_179) (fun _ h9 => h9) rfl dX13_takeProgram_103 ?_
  refine lv_iload_n hx hb dX13_takeProgram_106 rfl (lv_at hl 1 rfl) ?_
  refine lv_aload_n hx hb dX13_takeProgram_107 rfl (lv_at hl 0 rfl) ?_
  refine va_get (D := D) (ci := 13) (v := .ref (a0 30)) (C := RX13) (T := TX13) (N := 87) hx hb hts hiX13 hown hK hP 0 rfl rfl 30 (by decide) (hts _ flX13_179) (fun _ h9 => h9) rfl dX13_takeProgram_108 ?_
  refine lv_iload_n hx hb dX13_takeProgram_111 rfl (lv_at hl 2 rfl) ?_
  refine va_iald (f := r0 30) hx hb hK hP 19 0 rfl rfl (ck_in hf) dX13_takeProgram_112 ?_
  have hf := ck_2 hf
  obtain ⟨q9, hq9, hf⟩ := bd_s hf
  refine k_eSi (As := [.int (r0 30 x2.toNatClampNeg)]) (rest := [.int x1, .ref (a0 30)]) hx hb hml hown hts hK hA hZ hl.1 hP hD hS (c_X13_front  hq9) (gSt mlX13_500 stX13_front inX13 coX13_front) rfl qnX13_front rfl rfl ⟨Nat.le_of_ble_eq_true rfl, Nat.le_of_ble_eq_true rfl⟩ rfl rfl (Nat.le_of_ble_eq_true rfl) ⟨Nat.zero_le _, Nat.zero_le _⟩ dX13_takeProgram_113 (fun H locs hP hD hS => ?_)
  refine va_iast (f := r0 30) hx hb hK hP hD hS 19 0 rfl rfl (ck_in hf) dX13_takeProgram_116 (fun H locs hP hD hS => ?_)
  have hf := ck_2 hf
  obtain ⟨hP, hD⟩ := st13_30 hP hD
  refine lv_aload_n hx hb dX13_takeProgram_117 rfl (lv_at hl 0 rfl) ?_
  refine va_get (D := D) (ci := 13) (v := .ref (a0 31)) (C := RX13) (T := TX13) (N := 87) hx hb hts hiX13 hown hK hP 0 rfl rfl 31 (by decide) (hts _ flX13_182) (fun _ h9 => h9) rfl dX13_takeProgram_118 ?_
  refine lv_iload_n hx hb dX13_takeProgram_121 rfl (lv_at hl 1 rfl) ?_
  refine lv_aload_n hx hb dX13_takeProgram_122 rfl (lv_at hl 0 rfl) ?_
  refine va_get (D := D) (ci := 13) (v := .ref (a0 31)) (C := RX13) (T := TX13) (N := 87) hx hb hts hiX13 hown hK hP 0 rfl rfl 31 (by decide) (hts _ flX13_182) (fun _ h9 => h9) rfl dX13_takeProgram_123 ?_
  refine lv_iload_n hx hb dX13_takeProgram_126 rfl (lv_at hl 2 rfl) ?_
  refine va_iald (f := r0 31) hx hb hK hP 20 0 rfl rfl (ck_in hf) dX13_takeProgram_127 ?_
  have hf := ck_2 hf
  refine va_iast (f := r0 31) hx hb hK hP hD hS 20 0 rfl rfl (ck_in hf) dX13_takeProgram_128 (fun H locs hP hD hS => ?_)
  have hf := ck_2 hf
  obtain ⟨hP, hD⟩ := st13_31 hP hD
  exact w_X13_takeProgram_129 C _ (hK62) _ _ _ _ _ _ _ hf hP hD hS (lv_sub hl [0, 1, 2] rfl)
def f_X13_takeProgram_405 (l0 : Nat → Nat → Int64) (K365 : (Nat → Int32) → (Nat → Nat → Int32) → Int32 → Option ((Nat → Int32) × (Nat → Nat → Int32))) (i0 : Nat → Int32) (r0 : Nat → Nat → Int32) (x1 : Int32) : Option ((Nat → Int32) × (Nat → Nat → Int32)) := ck (inb (1000 + x1) 2000) (ck (inb x1 2000) (K365 i0 (va_up r0 41 (upd (r0 41) x1.toNatClampNeg (r0 41 (1000 + x1).toNatClampNeg))) (x1 + 1)))
set_option maxRecDepth 100000 in
set_option maxHeartbeats 4000000 in
theorem w_X13_takeProgram_405 {p : Program} {l : Launch} {e : Env} {s : State} {m : MethodId} {args : Array Value} {below : List Frame} {meth : Method} {c : Code} {A : Nat → Prop} {D : va_G} {cs zs : Nat → Nat} {h0 : Nat} {a0 : Nat → Nat} {l0 : Nat → Nat → Int64} {q : (Nat → Int32) × (Nat → Nat → Int32)} (C : Cx p s m args meth c A D cs zs cX13_takeProgram 4 none RX13) (K365 : (Nat → Int32) → (Nat → Nat → Int32) → Int32 → Option ((Nat → Int32) × (Nat → Nat → Int32))) (hK365 : ∀ (i0 : Nat → Int32) (r0 : Nat → Nat → Int32) (x1 : Int32) (H : Heap) (locs : List Loc) (ls : Array Slot), K365 i0 r0 x1 = some q → va_P D vwCl (W13 cs h0 a0 i0 r0 l0) H → va_D A (W13 cs h0 a0 i0 r0 l0) → va_S A s.heap H locs → lv_has ls 4 [(0, .ref h0), (1, .int x1)] → W p l e rmX13_takeProgram s m args below meth c H locs 0 0 (MQ below (Qv D cs A (W13 cs h0 a0 q.1 q.2 l0)) args s 0 0 A) (F0 m 365 ls [])) : ∀ (i0 : Nat → Int32) (r0 : Nat → Nat → Int32) (x1 : Int32) (H : Heap) (locs : List Loc) (ls : Array Slot), f_X13_takeProgram_405 l0 K365 i0 r0 x1 = some q → va_P D vwCl (W13 cs h0 a0 i0 r0 l0) H → va_D A (W13 cs h0 a0 i0 r0 l0) → va_S A s.heap H locs → lv_has ls 4 [(0, .ref h0), (1, .int x1)] → W p l e rmX13_takeProgram s m args below meth c H locs 0 0 (MQ below (Qv D cs A (W13 cs h0 a0 q.1 q.2 l0)) args s 0 0 A) (F0 m 405 ls []) := by
  obtain ⟨hx, hb, hr, hml, hown, hts, hK, hA, hlocks, hZ⟩ := id C
  intro i0 r0 x1 H locs ls hf hP hD hS hl
  rw [f_X13_takeProgram_405] at hf
  refine lv_aload_n hx hb dX13_takeProgram_405 rfl (lv_at hl 0 rfl) ?_
  refine va_get (D := D) (ci := 13) (v := .ref (a0 41)) (C := RX13) (T := TX13) (N := 87) hx hb hts hiX13 hown hK hP 0 rfl rfl 41 (by decide) (hts _ flX13_212) (fun _ h9 => h9) rfl dX13_takeProgram_406 ?_
  refine lv_iload_n hx hb dX13_takeProgram_409 rfl (lv_at hl 1 rfl) ?_
  refine lv_aload_n hx hb dX13_takeProgram_410 rfl (lv_at hl 0 rfl) ?_
  refine va_get (D := D) (ci := 13) (v := .ref (a0 41)) (C := RX13) (T := TX13) (N := 87) hx hb hts hiX13 hown hK hP 0 rfl rfl 41 (by decide) (hts _ flX13_212) (fun _ h9 => h9) rfl dX13_takeProgram_411 ?_
  refine lv_sipush (v := 1000) hx hb dX13_takeProgram_414 (by decide) ?_
  refine lv_iload_n hx hb dX13_takeProgram_417 rfl (lv_at hl 1 rfl) ?_
  refine lv_iadd hx hb dX13_takeProgram_418 ?_
  refine va_iald (f := r0 41) hx hb hK hP 30 0 rfl rfl (ck_in hf) dX13_takeProgram_419 ?_
  have hf := ck_2 hf
  refine va_iast (f := r0 41) hx hb hK hP hD hS 30 0 rfl rfl (ck_in hf) dX13_takeProgram_420 (fun H locs hP hD hS => ?_)
  have hf := ck_2 hf
  obtain ⟨hP, hD⟩ := st13_41 hP hD
  refine lv_iinc (v := x1 + 1) (lv' := [(1, .int (x1 + 1)), (0, .ref h0)]) hx hb dX13_takeProgram_421 hl (k := 1) rfl rfl (by decide) rfl (fun ls hl => ?_)
  refine lv_goto (tgt := 365) hx hb dX13_takeProgram_424 (by decide) ?_
  exact hK365 _ _ _ _ _ _ hf hP hD hS (lv_sub hl [1, 0] rfl)
def f_X13_takeProgram_365 (l0 : Nat → Nat → Int64)  : Nat → (Nat → Int32) → (Nat → Nat → Int32) → Int32 → Option ((Nat → Int32) × (Nat → Nat → Int32))
  | 0, _, _, _ => none
  | n + 1, i0, r0, x1 => if (i0 49) ≤ x1 then (some (i0, r0)) else (ck (inb (1000 + x1) 2000) (ck (inb x1 2000) (ck (inb (1000 + x1) 2000) (ck (inb x1 2000) (f_X13_takeProgram_405 l0 (f_X13_takeProgram_365 l0 n) i0 (va_up (va_up r0 39 (upd (r0 39) x1.toNatClampNeg (r0 39 (1000 + x1).toNatClampNeg))) 40 (upd (r0 40) x1.toNatClampNeg (r0 40 (1000 + x1).toNatClampNeg))) x1)))))
set_option maxRecDepth 100000 in
set_option maxHeartbeats 4000000 in
theorem w_X13_takeProgram_365 {p : Program} {l : Launch} {e : Env} {s : State} {m : MethodId} {args : Array Value} {below : List Frame} {meth : Method} {c : Code} {A : Nat → Prop} {D : va_G} {cs zs : Nat → Nat} {h0 : Nat} {a0 : Nat → Nat} {l0 : Nat → Nat → Int64} {q : (Nat → Int32) × (Nat → Nat → Int32)} (C : Cx p s m args meth c A D cs zs cX13_takeProgram 4 none RX13)  : ∀ (n : Nat), ∀ (i0 : Nat → Int32) (r0 : Nat → Nat → Int32) (x1 : Int32) (H : Heap) (locs : List Loc) (ls : Array Slot), f_X13_takeProgram_365 l0 n i0 r0 x1 = some q → va_P D vwCl (W13 cs h0 a0 i0 r0 l0) H → va_D A (W13 cs h0 a0 i0 r0 l0) → va_S A s.heap H locs → lv_has ls 4 [(0, .ref h0), (1, .int x1)] → W p l e rmX13_takeProgram s m args below meth c H locs 0 0 (MQ below (Qv D cs A (W13 cs h0 a0 q.1 q.2 l0)) args s 0 0 A) (F0 m 365 ls []) := by
  obtain ⟨hx, hb, hr, hml, hown, hts, hK, hA, hlocks, hZ⟩ := id C
  intro n
  induction n with
  | zero =>
    intro i0 r0 x1 H locs ls hf
    rw [f_X13_takeProgram_365] at hf
    cases hf
  | succ n ih =>
    intro i0 r0 x1 H locs ls hf hP hD hS hl
    rw [f_X13_takeProgram_365] at hf
    refine lv_iload_n hx hb dX13_takeProgram_365 rfl (lv_at hl 1 rfl) ?_
    refine lv_aload_n hx hb dX13_takeProgram_366 rfl (lv_at hl 0 rfl) ?_
    refine va_get (D := D) (ci := 13) (v := .int (i0 49)) (C := RX13) (T := TX13) (N := 87) hx hb hts hiX13 hown hK hP 0 rfl rfl 49 (by decide) (hts _ flX13_393) (fun _ h9 => h9) rfl dX13_takeProgram_367 ?_
    refine lv_icmp_ge (tgt := 427) hx hb dX13_takeProgram_370 (by decide) (fun hc => ?_) (fun hc => ?_)
    · have hf := ite_t hf hc
      obtain rfl := Option.some.inj hf
      exact k_vret hx hb hr hlocks hK hP hD hS dX13_takeProgram_427
    · have hf := ite_f hf hc
      refine lv_aload_n hx hb dX13_takeProgram_373 rfl (lv_at hl 0 rfl) ?_
      refine va_get (D := D) (ci := 13) (v := .ref (a0 39)) (C := RX13) (T := TX13) (N := 87) hx hb hts hiX13 hown hK hP 0 rfl rfl 39 (by decide) (hts _ flX13_206) (fun _ h9 => h9) rfl dX13_takeProgram_374 ?_
      refine lv_iload_n hx hb dX13_takeProgram_377 rfl (lv_at hl 1 rfl) ?_
      refine lv_aload_n hx hb dX13_takeProgram_378 rfl (lv_at hl 0 rfl) ?_
      refine va_get (D := D) (ci := 13) (v := .ref (a0 39)) (C := RX13) (T := TX13) (N := 87) hx hb hts hiX13 hown hK hP 0 rfl rfl 39 (by decide) (hts _ flX13_206) (fun _ h9 => h9) rfl dX13_takeProgram_379 ?_
      refine lv_sipush (v := 1000) hx hb dX13_takeProgram_382 (by decide) ?_
      refine lv_iload_n hx hb dX13_takeProgram_385 rfl (lv_at hl 1 rfl) ?_
      refine lv_iadd hx hb dX13_takeProgram_386 ?_
      refine va_iald (f := r0 39) hx hb hK hP 28 0 rfl rfl (ck_in hf) dX13_takeProgram_387 ?_
      have hf := ck_2 hf
      refine va_iast (f := r0 39) hx hb hK hP hD hS 28 0 rfl rfl (ck_in hf) dX13_takeProgram_388 (fun H locs hP hD hS => ?_)
      have hf := ck_2 hf
      obtain ⟨hP, hD⟩ := st13_39 hP hD
      refine lv_aload_n hx hb dX13_takeProgram_389 rfl (lv_at hl 0 rfl) ?_
      refine va_get (D := D) (ci := 13) (v := .ref (a0 40)) (C := RX13) (T := TX13) (N := 87) hx hb hts hiX13 hown hK hP 0 rfl rfl 40 (by decide) (hts _ flX13_209) (fun _ h9 => h9) rfl dX13_takeProgram_390 ?_
      refine lv_iload_n hx hb dX13_takeProgram_393 rfl (lv_at hl 1 rfl) ?_
      refine lv_aload_n hx hb dX13_takeProgram_394 rfl (lv_at hl 0 rfl) ?_
      refine va_get (D := D) (ci := 13) (v := .ref (a0 40)) (C := RX13) (T := TX13) (N := 87) hx hb hts hiX13 hown hK hP 0 rfl rfl 40 (by decide) (hts _ flX13_209) (fun _ h9 => h9) rfl dX13_takeProgram_395 ?_
      refine lv_sipush (v := 1000) hx hb dX13_takeProgram_398 (by decide) ?_
      refine lv_iload_n hx hb dX13_takeProgram_401 rfl (lv_at hl 1 rfl) ?_
      refine lv_iadd hx hb dX13_takeProgram_402 ?_
      refine va_iald (f := r0 40) hx hb hK hP 29 0 rfl rfl (ck_in hf) dX13_takeProgram_403 ?_
      have hf := ck_2 hf
      refine va_iast (f := r0 40) hx hb hK hP hD hS 29 0 rfl rfl (ck_in hf) dX13_takeProgram_404 (fun H locs hP hD hS => ?_)
      have hf := ck_2 hf
      obtain ⟨hP, hD⟩ := st13_40 hP hD
      exact w_X13_takeProgram_405 C _ (ih) _ _ _ _ _ _ hf hP hD hS (lv_sub hl [0, 1] rfl)
def f_X13_takeProgram_62 (l0 : Nat → Nat → Int64)  : Nat → (Nat → Int32) → (Nat → Nat → Int32) → Int32 → Option ((Nat → Int32) × (Nat → Nat → Int32))
  | 0, _, _, _ => none
  | n + 1, i0, r0, x1 => if (i0 48) ≤ x1 then (f_X13_takeProgram_365 l0 2000000 i0 r0 0) else (ck (inb (60 + x1) 120) (ck (inb x1 120) (ck (inb (60 + x1) 120) (bd (f_X13_front (r0 29 (60 + x1).toNatClampNeg)) (fun q10 => ck (inb x1 120) (f_X13_takeProgram_102 l0 (f_X13_takeProgram_62 l0 n) i0 (va_up (va_up r0 28 (upd (r0 28) x1.toNatClampNeg (r0 28 (60 + x1).toNatClampNeg))) 29 (upd (r0 29) x1.toNatClampNeg q10)) x1 (60 + x1)))))))
set_option maxRecDepth 100000 in
set_option maxHeartbeats 4000000 in
theorem w_X13_takeProgram_62 {p : Program} {l : Launch} {e : Env} {s : State} {m : MethodId} {args : Array Value} {below : List Frame} {meth : Method} {c : Code} {A : Nat → Prop} {D : va_G} {cs zs : Nat → Nat} {h0 : Nat} {a0 : Nat → Nat} {l0 : Nat → Nat → Int64} {q : (Nat → Int32) × (Nat → Nat → Int32)} (C : Cx p s m args meth c A D cs zs cX13_takeProgram 4 none RX13)  : ∀ (n : Nat), ∀ (i0 : Nat → Int32) (r0 : Nat → Nat → Int32) (x1 : Int32) (H : Heap) (locs : List Loc) (ls : Array Slot), f_X13_takeProgram_62 l0 n i0 r0 x1 = some q → va_P D vwCl (W13 cs h0 a0 i0 r0 l0) H → va_D A (W13 cs h0 a0 i0 r0 l0) → va_S A s.heap H locs → lv_has ls 4 [(0, .ref h0), (1, .int x1)] → W p l e rmX13_takeProgram s m args below meth c H locs 0 0 (MQ below (Qv D cs A (W13 cs h0 a0 q.1 q.2 l0)) args s 0 0 A) (F0 m 62 ls []) := by
  obtain ⟨hx, hb, hr, hml, hown, hts, hK, hA, hlocks, hZ⟩ := id C
  intro n
  induction n with
  | zero =>
    intro i0 r0 x1 H locs ls hf
    rw [f_X13_takeProgram_62] at hf
    cases hf
  | succ n ih =>
    intro i0 r0 x1 H locs ls hf hP hD hS hl
    rw [f_X13_takeProgram_62] at hf
    refine lv_iload_n hx hb dX13_takeProgram_62 rfl (lv_at hl 1 rfl) ?_
    refine lv_aload_n hx hb dX13_takeProgram_63 rfl (lv_at hl 0 rfl) ?_
    refine va_get (D := D) (ci := 13) (v := .int (i0 48)) (C := RX13) (T := TX13) (N := 87) hx hb hts hiX13 hown hK hP 0 rfl rfl 48 (by decide) (hts _ flX13_465) (fun _ h9 => h9) rfl dX13_takeProgram_64 ?_
    refine lv_icmp_ge (tgt := 363) hx hb dX13_takeProgram_67 (by decide) (fun hc => ?_) (fun hc => ?_)
    · have hf := ite_t hf hc
      refine lv_iconst (v := 0) hx hb dX13_takeProgram_363 (by decide) ?_
      refine lv_istore_n (lv' := [(1, .int 0), (0, .ref h0)]) hx hb dX13_takeProgram_364 rfl hl (by decide) rfl (fun ls hl => ?_)
      exact w_X13_takeProgram_365 C  2000000 _ _ _ _ _ _ hf hP hD hS (lv_sub hl [1, 0] rfl)
    · have hf := ite_f hf hc
      refine lv_bipush (v := 60) hx hb dX13_takeProgram_70 (by decide) ?_
      refine lv_iload_n hx hb dX13_takeProgram_72 rfl (lv_at hl 1 rfl) ?_
      refine lv_iadd hx hb dX13_takeProgram_73 ?_
      refine lv_istore_n (lv' := [(2, .int (60 + x1)), (0, .ref h0), (1, .int x1)]) hx hb dX13_takeProgram_74 rfl hl (by decide) rfl (fun ls hl => ?_)
      refine lv_aload_n hx hb dX13_takeProgram_75 rfl (lv_at hl 1 rfl) ?_
      refine va_get (D := D) (ci := 13) (v := .ref (a0 28)) (C := RX13) (T := TX13) (N := 87) hx hb hts hiX13 hown hK hP 0 rfl rfl 28 (by decide) (hts _ flX13_173) (fun _ h9 => h9) rfl dX13_takeProgram_76 ?_
      refine lv_iload_n hx hb dX13_takeProgram_79 rfl (lv_at hl 2 rfl) ?_
      refine lv_aload_n hx hb dX13_takeProgram_80 rfl (lv_at hl 1 rfl) ?_
      refine va_get (D := D) (ci := 13) (v := .ref (a0 28)) (C := RX13) (T := TX13) (N := 87) hx hb hts hiX13 hown hK hP 0 rfl rfl 28 (by decide) (hts _ flX13_173) (fun _ h9 => h9) rfl dX13_takeProgram_81 ?_
      refine lv_iload_n hx hb dX13_takeProgram_84 rfl (lv_at hl 0 rfl) ?_
      refine va_iald (f := r0 28) hx hb hK hP 17 0 rfl rfl (ck_in hf) dX13_takeProgram_85 ?_
      have hf := ck_2 hf
      refine va_iast (f := r0 28) hx hb hK hP hD hS 17 0 rfl rfl (ck_in hf) dX13_takeProgram_86 (fun H locs hP hD hS => ?_)
      have hf := ck_2 hf
      obtain ⟨hP, hD⟩ := st13_28 hP hD
      refine lv_aload_n hx hb dX13_takeProgram_87 rfl (lv_at hl 1 rfl) ?_
      refine va_get (D := D) (ci := 13) (v := .ref (a0 29)) (C := RX13) (T := TX13) (N := 87) hx hb hts hiX13 hown hK hP 0 rfl rfl 29 (by decide) (hts _ flX13_176) (fun _ h9 => h9) rfl dX13_takeProgram_88 ?_
      refine lv_iload_n hx hb dX13_takeProgram_91 rfl (lv_at hl 2 rfl) ?_
      refine lv_aload_n hx hb dX13_takeProgram_92 rfl (lv_at hl 1 rfl) ?_
      refine va_get (D := D) (ci := 13) (v := .ref (a0 29)) (C := RX13) (T := TX13) (N := 87) hx hb hts hiX13 hown hK hP 0 rfl rfl 29 (by decide) (hts _ flX13_176) (fun _ h9 => h9) rfl dX13_takeProgram_93 ?_
      refine lv_iload_n hx hb dX13_takeProgram_96 rfl (lv_at hl 0 rfl) ?_
      refine va_iald (f := r0 29) hx hb hK hP 18 0 rfl rfl (ck_in hf) dX13_takeProgram_97 ?_
      have hf := ck_2 hf
      obtain ⟨q10, hq10, hf⟩ := bd_s hf
      refine k_eSi (As := [.int (r0 29 (60 + x1).toNatClampNeg)]) (rest := [.int x1, .ref (a0 29)]) hx hb hml hown hts hK hA hZ hl.1 hP hD hS (c_X13_front  hq10) (gSt mlX13_500 stX13_front inX13 coX13_front) rfl qnX13_front rfl rfl ⟨Nat.le_of_ble_eq_true rfl, Nat.le_of_ble_eq_true rfl⟩ rfl rfl (Nat.le_of_ble_eq_true rfl) ⟨Nat.zero_le _, Nat.zero_le _⟩ dX13_takeProgram_98 (fun H locs hP hD hS => ?_)
      refine va_iast (f := r0 29) hx hb hK hP hD hS 18 0 rfl rfl (ck_in hf) dX13_takeProgram_101 (fun H locs hP hD hS => ?_)
      have hf := ck_2 hf
      obtain ⟨hP, hD⟩ := st13_29 hP hD
      exact w_X13_takeProgram_102 C _ (ih) _ _ _ _ _ _ _ hf hP hD hS (lv_sub hl [1, 2, 0] rfl)
def f_X13_takeProgram_10 (l0 : Nat → Nat → Int64)  : Nat → (Nat → Int32) → (Nat → Nat → Int32) → Int32 → Option ((Nat → Int32) × (Nat → Nat → Int32))
  | 0, _, _, _ => none
  | n + 1, i0, r0, x1 => if (i0 46) ≤ x1 then (f_X13_takeProgram_62 l0 2000000 i0 r0 0) else (ck (inb (6 + x1) 12) (bd (f_X13_front (r0 42 (6 + x1).toNatClampNeg)) (fun q11 => ck (inb x1 12) (ck (inb (6 + x1) 12) (bd (f_X13_front (r0 43 (6 + x1).toNatClampNeg)) (fun q12 => ck (inb x1 12) (f_X13_takeProgram_54 l0 (f_X13_takeProgram_10 l0 n) i0 (va_up (va_up r0 42 (upd (r0 42) x1.toNatClampNeg q11)) 43 (upd (r0 43) x1.toNatClampNeg q12)) x1)))))))
set_option maxRecDepth 100000 in
set_option maxHeartbeats 4000000 in
theorem w_X13_takeProgram_10 {p : Program} {l : Launch} {e : Env} {s : State} {m : MethodId} {args : Array Value} {below : List Frame} {meth : Method} {c : Code} {A : Nat → Prop} {D : va_G} {cs zs : Nat → Nat} {h0 : Nat} {a0 : Nat → Nat} {l0 : Nat → Nat → Int64} {q : (Nat → Int32) × (Nat → Nat → Int32)} (C : Cx p s m args meth c A D cs zs cX13_takeProgram 4 none RX13)  : ∀ (n : Nat), ∀ (i0 : Nat → Int32) (r0 : Nat → Nat → Int32) (x1 : Int32) (H : Heap) (locs : List Loc) (ls : Array Slot), f_X13_takeProgram_10 l0 n i0 r0 x1 = some q → va_P D vwCl (W13 cs h0 a0 i0 r0 l0) H → va_D A (W13 cs h0 a0 i0 r0 l0) → va_S A s.heap H locs → lv_has ls 4 [(0, .ref h0), (1, .int x1)] → W p l e rmX13_takeProgram s m args below meth c H locs 0 0 (MQ below (Qv D cs A (W13 cs h0 a0 q.1 q.2 l0)) args s 0 0 A) (F0 m 10 ls []) := by
  obtain ⟨hx, hb, hr, hml, hown, hts, hK, hA, hlocks, hZ⟩ := id C
  intro n
  induction n with
  | zero =>
    intro i0 r0 x1 H locs ls hf
    rw [f_X13_takeProgram_10] at hf
    cases hf
  | succ n ih =>
    intro i0 r0 x1 H locs ls hf hP hD hS hl
    rw [f_X13_takeProgram_10] at hf
    refine lv_iload_n hx hb dX13_takeProgram_10 rfl (lv_at hl 1 rfl) ?_
    refine lv_aload_n hx hb dX13_takeProgram_11 rfl (lv_at hl 0 rfl) ?_
    refine va_get (D := D) (ci := 13) (v := .int (i0 46)) (C := RX13) (T := TX13) (N := 87) hx hb hts hiX13 hown hK hP 0 rfl rfl 46 (by decide) (hts _ flX13_497) (fun _ h9 => h9) rfl dX13_takeProgram_12 ?_
    refine lv_icmp_ge (tgt := 60) hx hb dX13_takeProgram_15 (by decide) (fun hc => ?_) (fun hc => ?_)
    · have hf := ite_t hf hc
      refine lv_iconst (v := 0) hx hb dX13_takeProgram_60 (by decide) ?_
      refine lv_istore_n (lv' := [(1, .int 0), (0, .ref h0)]) hx hb dX13_takeProgram_61 rfl hl (by decide) rfl (fun ls hl => ?_)
      exact w_X13_takeProgram_62 C  2000000 _ _ _ _ _ _ hf hP hD hS (lv_sub hl [1, 0] rfl)
    · have hf := ite_f hf hc
      refine lv_aload_n hx hb dX13_takeProgram_18 rfl (lv_at hl 0 rfl) ?_
      refine va_get (D := D) (ci := 13) (v := .ref (a0 42)) (C := RX13) (T := TX13) (N := 87) hx hb hts hiX13 hown hK hP 0 rfl rfl 42 (by decide) (hts _ flX13_215) (fun _ h9 => h9) rfl dX13_takeProgram_19 ?_
      refine lv_iload_n hx hb dX13_takeProgram_22 rfl (lv_at hl 1 rfl) ?_
      refine lv_aload_n hx hb dX13_takeProgram_23 rfl (lv_at hl 0 rfl) ?_
      refine va_get (D := D) (ci := 13) (v := .ref (a0 42)) (C := RX13) (T := TX13) (N := 87) hx hb hts hiX13 hown hK hP 0 rfl rfl 42 (by decide) (hts _ flX13_215) (fun _ h9 => h9) rfl dX13_takeProgram_24 ?_
      refine lv_bipush (v := 6) hx hb dX13_takeProgram_27 (by decide) ?_
      refine lv_iload_n hx hb dX13_takeProgram_29 rfl (lv_at hl 1 rfl) ?_
      refine lv_iadd hx hb dX13_takeProgram_30 ?_
      refine va_iald (f := r0 42) hx hb hK hP 31 0 rfl rfl (ck_in hf) dX13_takeProgram_31 ?_
      have hf := ck_2 hf
      obtain ⟨q11, hq11, hf⟩ := bd_s hf
      refine k_eSi (As := [.int (r0 42 (6 + x1).toNatClampNeg)]) (rest := [.int x1, .ref (a0 42)]) hx hb hml hown hts hK hA hZ hl.1 hP hD hS (c_X13_front  hq11) (gSt mlX13_500 stX13_front inX13 coX13_front) rfl qnX13_front rfl rfl ⟨Nat.le_of_ble_eq_true rfl, Nat.le_of_ble_eq_true rfl⟩ rfl rfl (Nat.le_of_ble_eq_true rfl) ⟨Nat.zero_le _, Nat.zero_le _⟩ dX13_takeProgram_32 (fun H locs hP hD hS => ?_)
      refine va_iast (f := r0 42) hx hb hK hP hD hS 31 0 rfl rfl (ck_in hf) dX13_takeProgram_35 (fun H locs hP hD hS => ?_)
      have hf := ck_2 hf
      obtain ⟨hP, hD⟩ := st13_42 hP hD
      refine lv_aload_n hx hb dX13_takeProgram_36 rfl (lv_at hl 0 rfl) ?_
      refine va_get (D := D) (ci := 13) (v := .ref (a0 43)) (C := RX13) (T := TX13) (N := 87) hx hb hts hiX13 hown hK hP 0 rfl rfl 43 (by decide) (hts _ flX13_218) (fun _ h9 => h9) rfl dX13_takeProgram_37 ?_
      refine lv_iload_n hx hb dX13_takeProgram_40 rfl (lv_at hl 1 rfl) ?_
      refine lv_aload_n hx hb dX13_takeProgram_41 rfl (lv_at hl 0 rfl) ?_
      refine va_get (D := D) (ci := 13) (v := .ref (a0 43)) (C := RX13) (T := TX13) (N := 87) hx hb hts hiX13 hown hK hP 0 rfl rfl 43 (by decide) (hts _ flX13_218) (fun _ h9 => h9) rfl dX13_takeProgram_42 ?_
      refine lv_bipush (v := 6) hx hb dX13_takeProgram_45 (by decide) ?_
      refine lv_iload_n hx hb dX13_takeProgram_47 rfl (lv_at hl 1 rfl) ?_
      refine lv_iadd hx hb dX13_takeProgram_48 ?_
      refine va_iald (f := r0 43) hx hb hK hP 32 0 rfl rfl (ck_in hf) dX13_takeProgram_49 ?_
      have hf := ck_2 hf
      obtain ⟨q12, hq12, hf⟩ := bd_s hf
      refine k_eSi (As := [.int (r0 43 (6 + x1).toNatClampNeg)]) (rest := [.int x1, .ref (a0 43)]) hx hb hml hown hts hK hA hZ hl.1 hP hD hS (c_X13_front  hq12) (gSt mlX13_500 stX13_front inX13 coX13_front) rfl qnX13_front rfl rfl ⟨Nat.le_of_ble_eq_true rfl, Nat.le_of_ble_eq_true rfl⟩ rfl rfl (Nat.le_of_ble_eq_true rfl) ⟨Nat.zero_le _, Nat.zero_le _⟩ dX13_takeProgram_50 (fun H locs hP hD hS => ?_)
      refine va_iast (f := r0 43) hx hb hK hP hD hS 32 0 rfl rfl (ck_in hf) dX13_takeProgram_53 (fun H locs hP hD hS => ?_)
      have hf := ck_2 hf
      obtain ⟨hP, hD⟩ := st13_43 hP hD
      exact w_X13_takeProgram_54 C _ (ih) _ _ _ _ _ _ hf hP hD hS (lv_sub hl [0, 1] rfl)
def f_X13_takeProgram  (i0 : Nat → Int32) (r0 : Nat → Nat → Int32) (l0 : Nat → Nat → Int64)  : Option ((Nat → Int32) × (Nat → Nat → Int32)) := f_X13_takeProgram_10 l0 2000000 (upd i0 46 (i0 47)) r0 0
set_option maxRecDepth 100000 in
set_option maxHeartbeats 4000000 in
theorem c_X13_takeProgram {l : Launch} {D : va_G} {cs zs : Nat → Nat} {h0 : Nat} {a0 : Nat → Nat} {i0 : Nat → Int32} {r0 : Nat → Nat → Int32} {l0 : Nat → Nat → Int64}  {q : (Nat → Int32) × (Nat → Nat → Int32)} (hf : f_X13_takeProgram i0 r0 l0 = some q) : Mv l yX13_takeProgram wlX13_takeProgram rmX13_takeProgram D cs zs [.ref h0] (W13 cs h0 a0 i0 r0 l0) (W13 cs h0 a0 q.1 q.2 l0) := by
  refine Mv.of RX13 (by decide) rfl (Nat.le_of_ble_eq_true rfl) (fun p e s m below meth c A C hP hD hS ls hl => ?_)
  generalize ([.ref h0] : List Value).toArray = args at C ⊢
  obtain ⟨hx, hb, hr, hml, hown, hts, hK, hA, hlocks, hZ⟩ := id C
  have hl : lv_has ls 4 [(0, .ref h0)] := hl
  rw [f_X13_takeProgram] at hf
  refine lv_aload_n hx hb dX13_takeProgram_0 rfl (lv_at hl 0 rfl) ?_
  refine lv_aload_n hx hb dX13_takeProgram_1 rfl (lv_at hl 0 rfl) ?_
  refine va_get (D := D) (ci := 13) (v := .int (i0 47)) (C := RX13) (T := TX13) (N := 87) hx hb hts hiX13 hown hK hP 0 rfl rfl 47 (by decide) (hts _ flX13_490) (fun _ h9 => h9) rfl dX13_takeProgram_2 ?_
  refine va_put (D := D) (ci := 13) (v := .int (i0 47)) (ty := .int) (C := RX13) (T := TX13) (N := 87) hx hb hts hiX13 tyX13 tyX13_ok nmX13 hown hK hP hD hS 0 rfl rfl 46 (by decide) (hts _ flX13_497) (fun _ h9 => h9) rfl (tyX13_ok 46 (by decide)) rfl rfl (Nat.le_of_ble_eq_true rfl) dX13_takeProgram_5 (fun H locs hP hD hS => ?_)
  obtain ⟨hP, hD⟩ := st13_46 hP hD
  refine lv_iconst (v := 0) hx hb dX13_takeProgram_8 (by decide) ?_
  refine lv_istore_n (lv' := [(1, .int 0), (0, .ref h0)]) hx hb dX13_takeProgram_9 rfl hl (by decide) rfl (fun ls hl => ?_)
  exact w_X13_takeProgram_10 C  2000000 _ _ _ _ _ _ hf hP hD hS (lv_sub hl [1, 0] rfl)
/-! MarbleFloorModel.placeOf(II)I -/
abbrev wlX13_placeOf : List Cond := Cond.code yX13_placeOf cX13_placeOf 4 (some .int) :: tbG
abbrev rmX13_placeOf : Room := { frames := 1, cells := 0, slots := 0, locals := 25 }
theorem qnX13_placeOf : yX13_placeOf.cls = RX13 ∧ yX13_placeOf.cls ≠ "java/lang/invoke/MethodHandle" ∧ yX13_placeOf.cls ≠ "java/lang/invoke/VarHandle" ∧ (parseMethodDescriptor yX13_placeOf.desc).map (fun d => d.parameters.length) = some 2 := by decide +kernel
def f_X13_placeOf_24 (r0 : Nat → Nat → Int32) (l0 : Nat → Nat → Int64)  (i0 : Nat → Int32) (y0 : Int32) : Option (Int32 × (Nat → Int32)) := bd (f_X13_in y0.toInt64 0 9) (fun q2 => if q2 = 0 then (some ((-1), (upd i0 61 2))) else (some (8 + y0, i0)))
set_option maxRecDepth 100000 in
set_option maxHeartbeats 4000000 in
theorem w_X13_placeOf_24 {p : Program} {l : Launch} {e : Env} {s : State} {m : MethodId} {args : Array Value} {below : List Frame} {meth : Method} {c : Code} {A : Nat → Prop} {D : va_G} {cs zs : Nat → Nat} {h0 : Nat} {a0 : Nat → Nat} {r0 : Nat → Nat → Int32} {l0 : Nat → Nat → Int64} {q : Int32 × (Nat → Int32)} (C : Cx p s m args meth c A D cs zs cX13_placeOf 4 (some .int) RX13)  : ∀ (i0 : Nat → Int32) (y0 : Int32) (H : Heap) (locs : List Loc) (ls : Array Slot), f_X13_placeOf_24 r0 l0 i0 y0 = some q → va_P D vwCl (W13 cs h0 a0 i0 r0 l0) H → va_D A (W13 cs h0 a0 i0 r0 l0) → va_S A s.heap H locs → lv_has ls 4 [(0, .ref h0)] → W p l e rmX13_placeOf s m args below meth c H locs 0 0 (MQ below (Qi D cs A q.1 (W13 cs h0 a0 q.2 r0 l0)) args s 0 0 A) (F0 m 24 ls [.int y0]) := by
  obtain ⟨hx, hb, hr, hml, hown, hts, hK, hA, hlocks, hZ⟩ := id C
  intro i0 y0 H locs ls hf hP hD hS hl
  rw [f_X13_placeOf_24] at hf
  refine lv_istore_n (lv' := [(3, .int y0), (0, .ref h0)]) hx hb dX13_placeOf_24 rfl hl (by decide) rfl (fun ls hl => ?_)
  refine lv_iload_n hx hb dX13_placeOf_25 rfl (lv_at hl 0 rfl) ?_
  refine lv_i2l hx hb dX13_placeOf_26 rfl ?_
  refine lv_lconst (v := 0) hx hb dX13_placeOf_27 (by decide) ?_
  refine lv_ldc2 (v := 9) hx hb hown (hts _ kcX13_509) dX13_placeOf_28 ?_
  obtain ⟨q2, hq2, hf⟩ := bd_s hf
  refine k_eSi (As := [.long y0.toInt64, .long 0, .long 9]) (rest := []) hx hb hml hown hts hK hA hZ hl.1 hP hD hS (c_X13_in  hq2) (gSt mlX13_64 stX13_in inX13 coX13_in) rfl qnX13_in rfl rfl ⟨Nat.le_of_ble_eq_true rfl, Nat.le_of_ble_eq_true rfl⟩ rfl rfl (Nat.le_of_ble_eq_true rfl) ⟨Nat.zero_le _, Nat.zero_le _⟩ dX13_placeOf_31 (fun H locs hP hD hS => ?_)
  refine lv_if_eq (tgt := 42) hx hb dX13_placeOf_34 (by decide) (fun hc => ?_) (fun hc => ?_)
  · have hf := ite_t hf hc
    refine lv_aload_n hx hb dX13_placeOf_42 rfl (lv_at hl 1 rfl) ?_
    refine lv_iconst (v := 2) hx hb dX13_placeOf_43 (by decide) ?_
    refine va_put (D := D) (ci := 13) (v := .int 2) (ty := .int) (C := RX13) (T := TX13) (N := 87) hx hb hts hiX13 tyX13 tyX13_ok nmX13 hown hK hP hD hS 0 rfl rfl 61 (by decide) (hts _ flX13_511) (fun _ h9 => h9) rfl (tyX13_ok 61 (by decide)) rfl rfl (Nat.le_of_ble_eq_true rfl) dX13_placeOf_44 (fun H locs hP hD hS => ?_)
    obtain ⟨hP, hD⟩ := st13_61 hP hD
    refine lv_iconst (v := (-1)) hx hb dX13_placeOf_47 (by decide) ?_
    obtain rfl := Option.some.inj hf
    exact k_iret hx hb hr hlocks hK hP hD hS dX13_placeOf_48
  · have hf := ite_f hf hc
    refine lv_bipush (v := 8) hx hb dX13_placeOf_37 (by decide) ?_
    refine lv_iload_n hx hb dX13_placeOf_39 rfl (lv_at hl 0 rfl) ?_
    refine lv_iadd hx hb dX13_placeOf_40 ?_
    obtain rfl := Option.some.inj hf
    exact k_iret hx hb hr hlocks hK hP hD hS dX13_placeOf_41
def f_X13_placeOf  (i0 : Nat → Int32) (r0 : Nat → Nat → Int32) (l0 : Nat → Nat → Int64) (x1 : Int32) (x2 : Int32) : Option (Int32 × (Nat → Int32)) := if 8 ≤ x1 then (if x1 = 8 then (f_X13_placeOf_24 r0 l0 i0 x2) else (ck (inb x2 18) (f_X13_placeOf_24 r0 l0 i0 (r0 58 x2.toNatClampNeg)))) else (some (x1, i0))
set_option maxRecDepth 100000 in
set_option maxHeartbeats 4000000 in
theorem c_X13_placeOf {l : Launch} {D : va_G} {cs zs : Nat → Nat} {h0 : Nat} {a0 : Nat → Nat} {i0 : Nat → Int32} {r0 : Nat → Nat → Int32} {l0 : Nat → Nat → Int64} {x1 : Int32} {x2 : Int32} {q : Int32 × (Nat → Int32)} (hf : f_X13_placeOf i0 r0 l0 x1 x2 = some q) : Mi l yX13_placeOf wlX13_placeOf rmX13_placeOf D cs zs [.ref h0, .int x1, .int x2] (W13 cs h0 a0 i0 r0 l0) q.1 (W13 cs h0 a0 q.2 r0 l0) := by
  refine Mi.of RX13 (by decide) rfl (Nat.le_of_ble_eq_true rfl) (fun p e s m below meth c A C hP hD hS ls hl => ?_)
  generalize ([.ref h0, .int x1, .int x2] : List Value).toArray = args at C ⊢
  obtain ⟨hx, hb, hr, hml, hown, hts, hK, hA, hlocks, hZ⟩ := id C
  have hl : lv_has ls 4 [(0, .ref h0), (1, .int x1), (2, .int x2)] := hl
  rw [f_X13_placeOf] at hf
  refine lv_iload_n hx hb dX13_placeOf_0 rfl (lv_at hl 1 rfl) ?_
  refine lv_bipush (v := 8) hx hb dX13_placeOf_1 (by decide) ?_
  refine lv_icmp_ge (tgt := 8) hx hb dX13_placeOf_3 (by decide) (fun hc => ?_) (fun hc => ?_)
  · have hf := ite_t hf hc
    refine lv_iload_n hx hb dX13_placeOf_8 rfl (lv_at hl 1 rfl) ?_
    refine lv_bipush (v := 8) hx hb dX13_placeOf_9 (by decide) ?_
    refine lv_icmp_ne (tgt := 18) hx hb dX13_placeOf_11 (by decide) (fun hc => ?_) (fun hc => ?_)
    · have hf := ite_f hf hc
      refine lv_aload_n hx hb dX13_placeOf_18 rfl (lv_at hl 0 rfl) ?_
      refine va_get (D := D) (ci := 13) (v := .ref (a0 58)) (C := RX13) (T := TX13) (N := 87) hx hb hts hiX13 hown hK hP 0 rfl rfl 58 (by decide) (hts _ flX13_228) (fun _ h9 => h9) rfl dX13_placeOf_19 ?_
      refine lv_iload_n hx hb dX13_placeOf_22 rfl (lv_at hl 2 rfl) ?_
      refine va_iald (f := r0 58) hx hb hK hP 35 0 rfl rfl (ck_in hf) dX13_placeOf_23 ?_
      have hf := ck_2 hf
      exact w_X13_placeOf_24 C  _ _ _ _ _ hf hP hD hS (lv_sub hl [0] rfl)
    · have hf := ite_t hf hc
      refine lv_iload_n hx hb dX13_placeOf_14 rfl (lv_at hl 2 rfl) ?_
      refine lv_goto (tgt := 24) hx hb dX13_placeOf_15 (by decide) ?_
      exact w_X13_placeOf_24 C  _ _ _ _ _ hf hP hD hS (lv_sub hl [0] rfl)
  · have hf := ite_f hf hc
    refine lv_iload_n hx hb dX13_placeOf_6 rfl (lv_at hl 1 rfl) ?_
    obtain rfl := Option.some.inj hf
    exact k_iret hx hb hr hlocks hK hP hD hS dX13_placeOf_7
/-! MarbleFloorModel.two(III)I -/
abbrev wlX13_two : List Cond := Cond.code yX13_two cX13_two 3 (some .int) :: tbG
abbrev rmX13_two : Room := { frames := 0, cells := 0, slots := 0, locals := 0 }
theorem qnX13_two : yX13_two.cls ≠ "java/lang/invoke/MethodHandle" ∧ yX13_two.cls ≠ "java/lang/invoke/VarHandle" ∧ (parseMethodDescriptor yX13_two.desc).map (fun d => d.parameters.length) = some 3 := by decide +kernel
def f_X13_two   (x0 : Int32) (x1 : Int32) (x2 : Int32) : Option (Int32) := if x0 = 37 then (if x2 = 0 then (some (0)) else (ck (nz x2) (some (x1 - x1 / x2 * x2)))) else (if x0 = 42 then (some (x1 * x2)) else (if x0 = 43 then (some (x1 + x2)) else (if x0 = 45 then (some (x1 - x2)) else (if x0 = 47 then (if x2 = 0 then (some (0)) else (ck (nz x2) (some (x1 / x2)))) else (some (x1 &&& x2))))))
set_option maxRecDepth 100000 in
set_option maxHeartbeats 4000000 in
theorem c_X13_two {l : Launch} {D : va_G} {cs zs : Nat → Nat}   {x0 : Int32} {x1 : Int32} {x2 : Int32} {q : Int32} (hf : f_X13_two x0 x1 x2 = some q) : Mi l yX13_two wlX13_two rmX13_two D cs zs [.int x0, .int x1, .int x2] (([] : va_W)) q (([] : va_W)) := by
  refine Mi.of RX13 (by decide) rfl (Nat.le_of_ble_eq_true rfl) (fun p e s m below meth c A C hP hD hS ls hl => ?_)
  generalize ([.int x0, .int x1, .int x2] : List Value).toArray = args at C ⊢
  obtain ⟨hx, hb, hr, hml, hown, hts, hK, hA, hlocks, hZ⟩ := id C
  have hl : lv_has ls 3 [(0, .int x0), (1, .int x1), (2, .int x2)] := hl
  rw [f_X13_two] at hf
  refine lv_iload_n hx hb dX13_two_0 rfl (lv_at hl 0 rfl) ?_
  by_cases hc37 : x0 = 37
  · have hf := ite_t hf hc37
    refine lv_tableIn (off := 83) (tgt := 84) hx hb dX13_two_1 (by rw [hc37]; decide) (by rw [hc37]; decide) (by rw [hc37]; rfl) (by decide) ?_
    refine lv_iload_n hx hb dX13_two_84 rfl (lv_at hl 2 rfl) ?_
    refine lv_if_ne (tgt := 92) hx hb dX13_two_85 (by decide) (fun hc => ?_) (fun hc => ?_)
    · have hf := ite_f hf hc
      refine lv_iload_n hx hb dX13_two_92 rfl (lv_at hl 1 rfl) ?_
      refine lv_iload_n hx hb dX13_two_93 rfl (lv_at hl 2 rfl) ?_
      refine lv_irem hx hb dX13_two_94 (ck_nz hf) ?_
      have hf := ck_2 hf
      obtain rfl := Option.some.inj hf
      exact k_iret hx hb hr hlocks hK hP hD hS dX13_two_95
    · have hf := ite_t hf hc
      refine lv_iconst (v := 0) hx hb dX13_two_88 (by decide) ?_
      refine lv_goto (tgt := 95) hx hb dX13_two_89 (by decide) ?_
      obtain rfl := Option.some.inj hf
      exact k_iret hx hb hr hlocks hK hP hD hS dX13_two_95
  · have hf := ite_f hf hc37
    by_cases hc42 : x0 = 42
    · have hf := ite_t hf hc42
      refine lv_tableIn (off := 67) (tgt := 68) hx hb dX13_two_1 (by rw [hc42]; decide) (by rw [hc42]; decide) (by rw [hc42]; rfl) (by decide) ?_
      refine lv_iload_n hx hb dX13_two_68 rfl (lv_at hl 1 rfl) ?_
      refine lv_iload_n hx hb dX13_two_69 rfl (lv_at hl 2 rfl) ?_
      refine lv_imul hx hb dX13_two_70 ?_
      obtain rfl := Option.some.inj hf
      exact k_iret hx hb hr hlocks hK hP hD hS dX13_two_71
    · have hf := ite_f hf hc42
      by_cases hc43 : x0 = 43
      · have hf := ite_t hf hc43
        refine lv_tableIn (off := 59) (tgt := 60) hx hb dX13_two_1 (by rw [hc43]; decide) (by rw [hc43]; decide) (by rw [hc43]; rfl) (by decide) ?_
        refine lv_iload_n hx hb dX13_two_60 rfl (lv_at hl 1 rfl) ?_
        refine lv_iload_n hx hb dX13_two_61 rfl (lv_at hl 2 rfl) ?_
        refine lv_iadd hx hb dX13_two_62 ?_
        obtain rfl := Option.some.inj hf
        exact k_iret hx hb hr hlocks hK hP hD hS dX13_two_63
      · have hf := ite_f hf hc43
        by_cases hc45 : x0 = 45
        · have hf := ite_t hf hc45
          refine lv_tableIn (off := 63) (tgt := 64) hx hb dX13_two_1 (by rw [hc45]; decide) (by rw [hc45]; decide) (by rw [hc45]; rfl) (by decide) ?_
          refine lv_iload_n hx hb dX13_two_64 rfl (lv_at hl 1 rfl) ?_
          refine lv_iload_n hx hb dX13_two_65 rfl (lv_at hl 2 rfl) ?_
          refine lv_isub hx hb dX13_two_66 ?_
          obtain rfl := Option.some.inj hf
          exact k_iret hx hb hr hlocks hK hP hD hS dX13_two_67
        · have hf := ite_f hf hc45
          by_cases hc47 : x0 = 47
          · have hf := ite_t hf hc47
            refine lv_tableIn (off := 71) (tgt := 72) hx hb dX13_two_1 (by rw [hc47]; decide) (by rw [hc47]; decide) (by rw [hc47]; rfl) (by decide) ?_
            refine lv_iload_n hx hb dX13_two_72 rfl (lv_at hl 2 rfl) ?_
            refine lv_if_ne (tgt := 80) hx hb dX13_two_73 (by decide) (fun hc => ?_) (fun hc => ?_)
            · have hf := ite_f hf hc
              refine lv_iload_n hx hb dX13_two_80 rfl (lv_at hl 1 rfl) ?_
              refine lv_iload_n hx hb dX13_two_81 rfl (lv_at hl 2 rfl) ?_
              refine lv_idiv hx hb dX13_two_82 (ck_nz hf) ?_
              have hf := ck_2 hf
              obtain rfl := Option.some.inj hf
              exact k_iret hx hb hr hlocks hK hP hD hS dX13_two_83
            · have hf := ite_t hf hc
              refine lv_iconst (v := 0) hx hb dX13_two_76 (by decide) ?_
              refine lv_goto (tgt := 83) hx hb dX13_two_77 (by decide) ?_
              obtain rfl := Option.some.inj hf
              exact k_iret hx hb hr hlocks hK hP hD hS dX13_two_83
          · have hf := ite_f hf hc47
            by_cases hc38 : x0 = 38
            · refine lv_tableIn (off := 95) (tgt := 96) hx hb dX13_two_1 (by rw [hc38]; decide) (by rw [hc38]; decide) (by rw [hc38]; rfl) (by decide) ?_
              refine lv_iload_n hx hb dX13_two_96 rfl (lv_at hl 1 rfl) ?_
              refine lv_iload_n hx hb dX13_two_97 rfl (lv_at hl 2 rfl) ?_
              refine lv_iand hx hb dX13_two_98 ?_
              obtain rfl := Option.some.inj hf
              exact k_iret hx hb hr hlocks hK hP hD hS dX13_two_99
            · by_cases hc39 : x0 = 39
              · refine lv_tableIn (off := 95) (tgt := 96) hx hb dX13_two_1 (by rw [hc39]; decide) (by rw [hc39]; decide) (by rw [hc39]; rfl) (by decide) ?_
                refine lv_iload_n hx hb dX13_two_96 rfl (lv_at hl 1 rfl) ?_
                refine lv_iload_n hx hb dX13_two_97 rfl (lv_at hl 2 rfl) ?_
                refine lv_iand hx hb dX13_two_98 ?_
                obtain rfl := Option.some.inj hf
                exact k_iret hx hb hr hlocks hK hP hD hS dX13_two_99
              · by_cases hc40 : x0 = 40
                · refine lv_tableIn (off := 95) (tgt := 96) hx hb dX13_two_1 (by rw [hc40]; decide) (by rw [hc40]; decide) (by rw [hc40]; rfl) (by decide) ?_
                  refine lv_iload_n hx hb dX13_two_96 rfl (lv_at hl 1 rfl) ?_
                  refine lv_iload_n hx hb dX13_two_97 rfl (lv_at hl 2 rfl) ?_
                  refine lv_iand hx hb dX13_two_98 ?_
                  obtain rfl := Option.some.inj hf
                  exact k_iret hx hb hr hlocks hK hP hD hS dX13_two_99
                · by_cases hc41 : x0 = 41
                  · refine lv_tableIn (off := 95) (tgt := 96) hx hb dX13_two_1 (by rw [hc41]; decide) (by rw [hc41]; decide) (by rw [hc41]; rfl) (by decide) ?_
                    refine lv_iload_n hx hb dX13_two_96 rfl (lv_at hl 1 rfl) ?_
                    refine lv_iload_n hx hb dX13_two_97 rfl (lv_at hl 2 rfl) ?_
                    refine lv_iand hx hb dX13_two_98 ?_
                    obtain rfl := Option.some.inj hf
                    exact k_iret hx hb hr hlocks hK hP hD hS dX13_two_99
                  · by_cases hc44 : x0 = 44
                    · refine lv_tableIn (off := 95) (tgt := 96) hx hb dX13_two_1 (by rw [hc44]; decide) (by rw [hc44]; decide) (by rw [hc44]; rfl) (by decide) ?_
                      refine lv_iload_n hx hb dX13_two_96 rfl (lv_at hl 1 rfl) ?_
                      refine lv_iload_n hx hb dX13_two_97 rfl (lv_at hl 2 rfl) ?_
                      refine lv_iand hx hb dX13_two_98 ?_
                      obtain rfl := Option.some.inj hf
                      exact k_iret hx hb hr hlocks hK hP hD hS dX13_two_99
                    · by_cases hc46 : x0 = 46
                      · refine lv_tableIn (off := 95) (tgt := 96) hx hb dX13_two_1 (by rw [hc46]; decide) (by rw [hc46]; decide) (by rw [hc46]; rfl) (by decide) ?_
                        refine lv_iload_n hx hb dX13_two_96 rfl (lv_at hl 1 rfl) ?_
                        refine lv_iload_n hx hb dX13_two_97 rfl (lv_at hl 2 rfl) ?_
                        refine lv_iand hx hb dX13_two_98 ?_
                        obtain rfl := Option.some.inj hf
                        exact k_iret hx hb hr hlocks hK hP hD hS dX13_two_99
                      · have z37 := sw_ne (k := 37) (by decide) hc37
                        have z38 := sw_ne (k := 38) (by decide) hc38
                        have z39 := sw_ne (k := 39) (by decide) hc39
                        have z40 := sw_ne (k := 40) (by decide) hc40
                        have z41 := sw_ne (k := 41) (by decide) hc41
                        have z42 := sw_ne (k := 42) (by decide) hc42
                        have z43 := sw_ne (k := 43) (by decide) hc43
                        have z44 := sw_ne (k := 44) (by decide) hc44
                        have z45 := sw_ne (k := 45) (by decide) hc45
                        have z46 := sw_ne (k := 46) (by decide) hc46
                        have z47 := sw_ne (k := 47) (by decide) hc47
                        refine lv_tableOut (tgt := 96) hx hb dX13_two_1 (by omega) (by decide) ?_
                        refine lv_iload_n hx hb dX13_two_96 rfl (lv_at hl 1 rfl) ?_
                        refine lv_iload_n hx hb dX13_two_97 rfl (lv_at hl 2 rfl) ?_
                        refine lv_iand hx hb dX13_two_98 ?_
                        obtain rfl := Option.some.inj hf
                        exact k_iret hx hb hr hlocks hK hP hD hS dX13_two_99
/-! MarbleFloorModel.sumOf(I)I -/
abbrev wlX13_sumOf : List Cond := Cond.code yX13_sumOf cX13_sumOf 6 (some .int) :: tbG
abbrev rmX13_sumOf : Room := { frames := 2, cells := 0, slots := 0, locals := 48 }
theorem qnX13_sumOf : yX13_sumOf.cls = RX13 ∧ yX13_sumOf.cls ≠ "java/lang/invoke/MethodHandle" ∧ yX13_sumOf.cls ≠ "java/lang/invoke/VarHandle" ∧ (parseMethodDescriptor yX13_sumOf.desc).map (fun d => d.parameters.length) = some 1 := by decide +kernel
def f_X13_sumOf_126 (l0 : Nat → Nat → Int64) (K9 : (Nat → Int32) → (Nat → Nat → Int32) → Int32 → Int32 → Int32 → Option (Int32 × (Nat → Int32) × (Nat → Nat → Int32))) (i0 : Nat → Int32) (r0 : Nat → Nat → Int32) (x1 : Int32) (x2 : Int32) (x3 : Int32) : Option (Int32 × (Nat → Int32) × (Nat → Nat → Int32)) := K9 i0 r0 x1 x2 (x3 + 1)
set_option maxRecDepth 100000 in
set_option maxHeartbeats 4000000 in
theorem w_X13_sumOf_126 {p : Program} {l : Launch} {e : Env} {s : State} {m : MethodId} {args : Array Value} {below : List Frame} {meth : Method} {c : Code} {A : Nat → Prop} {D : va_G} {cs zs : Nat → Nat} {h0 : Nat} {a0 : Nat → Nat} {l0 : Nat → Nat → Int64} {q : Int32 × (Nat → Int32) × (Nat → Nat → Int32)} (C : Cx p s m args meth c A D cs zs cX13_sumOf 6 (some .int) RX13) (K9 : (Nat → Int32) → (Nat → Nat → Int32) → Int32 → Int32 → Int32 → Option (Int32 × (Nat → Int32) × (Nat → Nat → Int32))) (hK9 : ∀ (i0 : Nat → Int32) (r0 : Nat → Nat → Int32) (x1 : Int32) (x2 : Int32) (x3 : Int32) (H : Heap) (locs : List Loc) (ls : Array Slot), K9 i0 r0 x1 x2 x3 = some q → va_P D vwCl (W13 cs h0 a0 i0 r0 l0) H → va_D A (W13 cs h0 a0 i0 r0 l0) → va_S A s.heap H locs → lv_has ls 6 [(0, .ref h0), (1, .int x1), (2, .int x2), (3, .int x3)] → W p l e rmX13_sumOf s m args below meth c H locs 0 0 (MQ below (Qi D cs A q.1 (W13 cs h0 a0 q.2.1 q.2.2 l0)) args s 0 0 A) (F0 m 9 ls [])) : ∀ (i0 : Nat → Int32) (r0 : Nat → Nat → Int32) (x1 : Int32) (x2 : Int32) (x3 : Int32) (H : Heap) (locs : List Loc) (ls : Array Slot), f_X13_sumOf_126 l0 K9 i0 r0 x1 x2 x3 = some q → va_P D vwCl (W13 cs h0 a0 i0 r0 l0) H → va_D A (W13 cs h0 a0 i0 r0 l0) → va_S A s.heap H locs → lv_has ls 6 [(0, .ref h0), (1, .int x1), (2, .int x2), (3, .int x3)] → W p l e rmX13_sumOf s m args below meth c H locs 0 0 (MQ below (Qi D cs A q.1 (W13 cs h0 a0 q.2.1 q.2.2 l0)) args s 0 0 A) (F0 m 126 ls []) := by
  obtain ⟨hx, hb, hr, hml, hown, hts, hK, hA, hlocks, hZ⟩ := id C
  intro i0 r0 x1 x2 x3 H locs ls hf hP hD hS hl
  rw [f_X13_sumOf_126] at hf
  refine lv_iinc (v := x3 + 1) (lv' := [(3, .int (x3 + 1)), (0, .ref h0), (1, .int x1), (2, .int x2)]) hx hb dX13_sumOf_126 hl (k := 3) rfl rfl (by decide) rfl (fun ls hl => ?_)
  refine lv_goto (tgt := 9) hx hb dX13_sumOf_129 (by decide) ?_
  exact hK9 _ _ _ _ _ _ _ _ hf hP hD hS (lv_sub hl [1, 2, 3, 0] rfl)
def f_X13_sumOf_115 (l0 : Nat → Nat → Int64) (K9 : (Nat → Int32) → (Nat → Nat → Int32) → Int32 → Int32 → Int32 → Option (Int32 × (Nat → Int32) × (Nat → Nat → Int32))) (i0 : Nat → Int32) (r0 : Nat → Nat → Int32) (x1 : Int32) (x2 : Int32) (x3 : Int32) (x4 : Int32) : Option (Int32 × (Nat → Int32) × (Nat → Nat → Int32)) := ck (inb x2 64) (f_X13_sumOf_126 l0 K9 i0 (va_up r0 60 (upd (r0 60) x2.toNatClampNeg x4)) x1 (x2 + 1) x3)
set_option maxRecDepth 100000 in
set_option maxHeartbeats 4000000 in
theorem w_X13_sumOf_115 {p : Program} {l : Launch} {e : Env} {s : State} {m : MethodId} {args : Array Value} {below : List Frame} {meth : Method} {c : Code} {A : Nat → Prop} {D : va_G} {cs zs : Nat → Nat} {h0 : Nat} {a0 : Nat → Nat} {l0 : Nat → Nat → Int64} {q : Int32 × (Nat → Int32) × (Nat → Nat → Int32)} (C : Cx p s m args meth c A D cs zs cX13_sumOf 6 (some .int) RX13) (K9 : (Nat → Int32) → (Nat → Nat → Int32) → Int32 → Int32 → Int32 → Option (Int32 × (Nat → Int32) × (Nat → Nat → Int32))) (hK9 : ∀ (i0 : Nat → Int32) (r0 : Nat → Nat → Int32) (x1 : Int32) (x2 : Int32) (x3 : Int32) (H : Heap) (locs : List Loc) (ls : Array Slot), K9 i0 r0 x1 x2 x3 = some q → va_P D vwCl (W13 cs h0 a0 i0 r0 l0) H → va_D A (W13 cs h0 a0 i0 r0 l0) → va_S A s.heap H locs → lv_has ls 6 [(0, .ref h0), (1, .int x1), (2, .int x2), (3, .int x3)] → W p l e rmX13_sumOf s m args below meth c H locs 0 0 (MQ below (Qi D cs A q.1 (W13 cs h0 a0 q.2.1 q.2.2 l0)) args s 0 0 A) (F0 m 9 ls [])) : ∀ (i0 : Nat → Int32) (r0 : Nat → Nat → Int32) (x1 : Int32) (x2 : Int32) (x3 : Int32) (x4 : Int32) (H : Heap) (locs : List Loc) (ls : Array Slot), f_X13_sumOf_115 l0 K9 i0 r0 x1 x2 x3 x4 = some q → va_P D vwCl (W13 cs h0 a0 i0 r0 l0) H → va_D A (W13 cs h0 a0 i0 r0 l0) → va_S A s.heap H locs → lv_has ls 6 [(0, .ref h0), (1, .int x1), (2, .int x2), (3, .int x3), (4, .int x4)] → W p l e rmX13_sumOf s m args below meth c H locs 0 0 (MQ below (Qi D cs A q.1 (W13 cs h0 a0 q.2.1 q.2.2 l0)) args s 0 0 A) (F0 m 115 ls []) := by
  obtain ⟨hx, hb, hr, hml, hown, hts, hK, hA, hlocks, hZ⟩ := id C
  intro i0 r0 x1 x2 x3 x4 H locs ls hf hP hD hS hl
  rw [f_X13_sumOf_115] at hf
  refine lv_aload_n hx hb dX13_sumOf_115 rfl (lv_at hl 0 rfl) ?_
  refine va_get (D := D) (ci := 13) (v := .ref (a0 60)) (C := RX13) (T := TX13) (N := 87) hx hb hts hiX13 hown hK hP 0 rfl rfl 60 (by decide) (hts _ flX13_234) (fun _ h9 => h9) rfl dX13_sumOf_116 ?_
  refine lv_iload_n hx hb dX13_sumOf_119 rfl (lv_at hl 2 rfl) ?_
  refine lv_iload hx hb dX13_sumOf_120 (lv_at hl 4 rfl) ?_
  refine va_iast (f := r0 60) hx hb hK hP hD hS 37 0 rfl rfl (ck_in hf) dX13_sumOf_122 (fun H locs hP hD hS => ?_)
  have hf := ck_2 hf
  obtain ⟨hP, hD⟩ := st13_60 hP hD
  refine lv_iinc (v := x2 + 1) (lv' := [(2, .int (x2 + 1)), (0, .ref h0), (1, .int x1), (3, .int x3), (4, .int x4)]) hx hb dX13_sumOf_123 hl (k := 2) rfl rfl (by decide) rfl (fun ls hl => ?_)
  exact w_X13_sumOf_126 C _ (hK9) _ _ _ _ _ _ _ _ hf hP hD hS (lv_sub hl [1, 2, 0, 3] rfl)
def f_X13_sumOf_9 (l0 : Nat → Nat → Int64)  : Nat → (Nat → Int32) → (Nat → Nat → Int32) → Int32 → Int32 → Int32 → Option (Int32 × (Nat → Int32) × (Nat → Nat → Int32))
  | 0, _, _, _, _, _ => none
  | n + 1, i0, r0, x1, x2, x3 => ck (inb x1 480) (if (r0 35 x1.toNatClampNeg) ≤ x3 then (ck (inb 0 64) (some (r0 60 (0 : Int32).toNatClampNeg, i0, r0))) else (ck (inb x3 2000) (if (r0 39 x3.toNatClampNeg) = 2 then (ck (inb x3 2000) (ck (inb ((x2 + (-1)) - 1) 64) (ck (inb (x2 + (-1)) 64) (bd (f_X13_two (r0 40 x3.toNatClampNeg) (r0 60 ((x2 + (-1)) - 1).toNatClampNeg) (r0 60 (x2 + (-1)).toNatClampNeg)) (fun q4 => ck (inb ((x2 + (-1)) - 1) 64) (f_X13_sumOf_126 l0 (f_X13_sumOf_9 l0 n) i0 (va_up r0 60 (upd (r0 60) ((x2 + (-1)) - 1).toNatClampNeg q4)) x1 (x2 + (-1)) x3)))))) else (ck (inb x3 2000) (ck (inb x3 2000) (if (r0 39 x3.toNatClampNeg) = 1 then (ck (inb x3 2000) (bd (f_X13_placeOf i0 r0 l0 (r0 40 x3.toNatClampNeg) (r0 41 x3.toNatClampNeg)) (fun q3 => if q3.1 = (-1) then (some (0, q3.2, r0)) else (ck (inb q3.1 18) (f_X13_sumOf_115 l0 (f_X13_sumOf_9 l0 n) q3.2 r0 x1 x2 x3 (r0 58 q3.1.toNatClampNeg)))))) else (f_X13_sumOf_115 l0 (f_X13_sumOf_9 l0 n) i0 r0 x1 x2 x3 (r0 40 x3.toNatClampNeg))))))))
set_option maxRecDepth 100000 in
set_option maxHeartbeats 4000000 in
theorem w_X13_sumOf_9 {p : Program} {l : Launch} {e : Env} {s : State} {m : MethodId} {args : Array Value} {below : List Frame} {meth : Method} {c : Code} {A : Nat → Prop} {D : va_G} {cs zs : Nat → Nat} {h0 : Nat} {a0 : Nat → Nat} {l0 : Nat → Nat → Int64} {q : Int32 × (Nat → Int32) × (Nat → Nat → Int32)} (C : Cx p s m args meth c A D cs zs cX13_sumOf 6 (some .int) RX13)  : ∀ (n : Nat), ∀ (i0 : Nat → Int32) (r0 : Nat → Nat → Int32) (x1 : Int32) (x2 : Int32) (x3 : Int32) (H : Heap) (locs : List Loc) (ls : Array Slot), f_X13_sumOf_9 l0 n i0 r0 x1 x2 x3 = some q → va_P D vwCl (W13 cs h0 a0 i0 r0 l0) H → va_D A (W13 cs h0 a0 i0 r0 l0) → va_S A s.heap H locs → lv_has ls 6 [(0, .ref h0), (1, .int x1), (2, .int x2), (3, .int x3)] → W p l e rmX13_sumOf s m args below meth c H locs 0 0 (MQ below (Qi D cs A q.1 (W13 cs h0 a0 q.2.1 q.2.2 l0)) args s 0 0 A) (F0 m 9 ls []) := by
  obtain ⟨hx, hb, hr, hml, hown, hts, hK, hA, hlocks, hZ⟩ := id C
  intro n
  induction n with
  | zero =>
    intro i0 r0 x1 x2 x3 H locs ls hf
    rw [f_X13_sumOf_9] at hf
    cases hf
  | succ n ih =>
    intro i0 r0 x1 x2 x3 H locs ls hf hP hD hS hl
    rw [f_X13_sumOf_9] at hf
    refine lv_iload_n hx hb dX13_sumOf_9 rfl (lv_at hl 3 rfl) ?_
    refine lv_aload_n hx hb dX13_sumOf_10 rfl (lv_at hl 0 rfl) ?_
    refine va_get (D := D) (ci := 13) (v := .ref (a0 35)) (C := RX13) (T := TX13) (N := 87) hx hb hts hiX13 hown hK hP 0 rfl rfl 35 (by decide) (hts _ flX13_194) (fun _ h9 => h9) rfl dX13_sumOf_11 ?_
    refine lv_iload_n hx hb dX13_sumOf_14 rfl (lv_at hl 1 rfl) ?_
    refine va_iald (f := r0 35) hx hb hK hP 24 0 rfl rfl (ck_in hf) dX13_sumOf_15 ?_
    have hf := ck_2 hf
    refine lv_icmp_ge (tgt := 132) hx hb dX13_sumOf_16 (by decide) (fun hc => ?_) (fun hc => ?_)
    · have hf := ite_t hf hc
      refine lv_aload_n hx hb dX13_sumOf_132 rfl (lv_at hl 0 rfl) ?_
      refine va_get (D := D) (ci := 13) (v := .ref (a0 60)) (C := RX13) (T := TX13) (N := 87) hx hb hts hiX13 hown hK hP 0 rfl rfl 60 (by decide) (hts _ flX13_234) (fun _ h9 => h9) rfl dX13_sumOf_133 ?_
      refine lv_iconst (v := 0) hx hb dX13_sumOf_136 (by decide) ?_
      refine va_iald (f := r0 60) hx hb hK hP 37 0 rfl rfl (ck_in hf) dX13_sumOf_137 ?_
      have hf := ck_2 hf
      obtain rfl := Option.some.inj hf
      exact k_iret hx hb hr hlocks hK hP hD hS dX13_sumOf_138
    · have hf := ite_f hf hc
      refine lv_aload_n hx hb dX13_sumOf_19 rfl (lv_at hl 0 rfl) ?_
      refine va_get (D := D) (ci := 13) (v := .ref (a0 39)) (C := RX13) (T := TX13) (N := 87) hx hb hts hiX13 hown hK hP 0 rfl rfl 39 (by decide) (hts _ flX13_206) (fun _ h9 => h9) rfl dX13_sumOf_20 ?_
      refine lv_iload_n hx hb dX13_sumOf_23 rfl (lv_at hl 3 rfl) ?_
      refine va_iald (f := r0 39) hx hb hK hP 28 0 rfl rfl (ck_in hf) dX13_sumOf_24 ?_
      have hf := ck_2 hf
      refine lv_iconst (v := 2) hx hb dX13_sumOf_25 (by decide) ?_
      refine lv_icmp_ne (tgt := 66) hx hb dX13_sumOf_26 (by decide) (fun hc => ?_) (fun hc => ?_)
      · have hf := ite_f hf hc
        refine lv_aload_n hx hb dX13_sumOf_66 rfl (lv_at hl 0 rfl) ?_
        refine va_get (D := D) (ci := 13) (v := .ref (a0 40)) (C := RX13) (T := TX13) (N := 87) hx hb hts hiX13 hown hK hP 0 rfl rfl 40 (by decide) (hts _ flX13_209) (fun _ h9 => h9) rfl dX13_sumOf_67 ?_
        refine lv_iload_n hx hb dX13_sumOf_70 rfl (lv_at hl 3 rfl) ?_
        refine va_iald (f := r0 40) hx hb hK hP 29 0 rfl rfl (ck_in hf) dX13_sumOf_71 ?_
        have hf := ck_2 hf
        refine lv_istore (lv' := [(4, .int (r0 40 x3.toNatClampNeg)), (0, .ref h0), (1, .int x1), (2, .int x2), (3, .int x3)]) hx hb dX13_sumOf_72 hl (by decide) rfl (fun ls hl => ?_)
        refine lv_aload_n hx hb dX13_sumOf_74 rfl (lv_at hl 1 rfl) ?_
        refine va_get (D := D) (ci := 13) (v := .ref (a0 39)) (C := RX13) (T := TX13) (N := 87) hx hb hts hiX13 hown hK hP 0 rfl rfl 39 (by decide) (hts _ flX13_206) (fun _ h9 => h9) rfl dX13_sumOf_75 ?_
        refine lv_iload_n hx hb dX13_sumOf_78 rfl (lv_at hl 4 rfl) ?_
        refine va_iald (f := r0 39) hx hb hK hP 28 0 rfl rfl (ck_in hf) dX13_sumOf_79 ?_
        have hf := ck_2 hf
        refine lv_iconst (v := 1) hx hb dX13_sumOf_80 (by decide) ?_
        refine lv_icmp_ne (tgt := 115) hx hb dX13_sumOf_81 (by decide) (fun hc => ?_) (fun hc => ?_)
        · have hf := ite_f hf hc
          exact w_X13_sumOf_115 C _ (ih) _ _ _ _ _ _ _ _ _ hf hP hD hS (lv_sub hl [1, 2, 3, 4, 0] rfl)
        · have hf := ite_t hf hc
          refine lv_aload_n hx hb dX13_sumOf_84 rfl (lv_at hl 1 rfl) ?_
          refine lv_iload hx hb dX13_sumOf_85 (lv_at hl 0 rfl) ?_
          refine lv_aload_n hx hb dX13_sumOf_87 rfl (lv_at hl 1 rfl) ?_
          refine va_get (D := D) (ci := 13) (v := .ref (a0 41)) (C := RX13) (T := TX13) (N := 87) hx hb hts hiX13 hown hK hP 0 rfl rfl 41 (by decide) (hts _ flX13_212) (fun _ h9 => h9) rfl dX13_sumOf_88 ?_
          refine lv_iload_n hx hb dX13_sumOf_91 rfl (lv_at hl 4 rfl) ?_
          refine va_iald (f := r0 41) hx hb hK hP 30 0 rfl rfl (ck_in hf) dX13_sumOf_92 ?_
          have hf := ck_2 hf
          obtain ⟨q3, hq3, hf⟩ := bd_s hf
          refine k_sVi (ws2 := W13 cs h0 a0 q3.2 r0 l0) (As := [.int (r0 40 x3.toNatClampNeg), .int (r0 41 x3.toNatClampNeg)]) (rest := []) hx hb hml hown hts hK hA hZ hl.1 hP hD hS (c_X13_placeOf (h0 := h0) (a0 := a0) hq3) (gVt mlX13_518 imX13_placeOf seX13_placeOf inX13 coX13_placeOf) rfl qnX13_placeOf rfl rfl ⟨Nat.le_of_ble_eq_true rfl, Nat.le_of_ble_eq_true rfl⟩ 0 13 rfl rfl rfl rfl rfl (Nat.le_of_ble_eq_true rfl) ⟨Nat.zero_le _, Nat.zero_le _⟩ dX13_sumOf_93 (fun H locs hP hD hS => ?_)
          refine lv_istore (lv' := [(5, .int q3.1), (4, .int (r0 40 x3.toNatClampNeg)), (0, .ref h0), (1, .int x1), (2, .int x2), (3, .int x3)]) hx hb dX13_sumOf_96 hl (by decide) rfl (fun ls hl => ?_)
          refine lv_iload hx hb dX13_sumOf_98 (lv_at hl 0 rfl) ?_
          refine lv_iconst (v := (-1)) hx hb dX13_sumOf_100 (by decide) ?_
          refine lv_icmp_ne (tgt := 106) hx hb dX13_sumOf_101 (by decide) (fun hc => ?_) (fun hc => ?_)
          · have hf := ite_f hf hc
            refine lv_aload_n hx hb dX13_sumOf_106 rfl (lv_at hl 2 rfl) ?_
            refine va_get (D := D) (ci := 13) (v := .ref (a0 58)) (C := RX13) (T := TX13) (N := 87) hx hb hts hiX13 hown hK hP 0 rfl rfl 58 (by decide) (hts _ flX13_228) (fun _ h9 => h9) rfl dX13_sumOf_107 ?_
            refine lv_iload hx hb dX13_sumOf_110 (lv_at hl 0 rfl) ?_
            refine va_iald (f := r0 58) hx hb hK hP 35 0 rfl rfl (ck_in hf) dX13_sumOf_112 ?_
            have hf := ck_2 hf
            refine lv_istore (lv' := [(4, .int (r0 58 q3.1.toNatClampNeg)), (5, .int q3.1), (0, .ref h0), (1, .int x1), (2, .int x2), (3, .int x3)]) hx hb dX13_sumOf_113 hl (by decide) rfl (fun ls hl => ?_)
            exact w_X13_sumOf_115 C _ (ih) _ _ _ _ _ _ _ _ _ hf hP hD hS (lv_sub hl [2, 3, 4, 5, 0] rfl)
          · have hf := ite_t hf hc
            refine lv_iconst (v := 0) hx hb dX13_sumOf_104 (by decide) ?_
            obtain rfl := Option.some.inj hf
            exact k_iret hx hb hr hlocks hK hP hD hS dX13_sumOf_105
      · have hf := ite_t hf hc
        refine lv_iinc (v := x2 + (-1)) (lv' := [(2, .int (x2 + (-1))), (0, .ref h0), (1, .int x1), (3, .int x3)]) hx hb dX13_sumOf_29 hl (k := 2) rfl rfl (by decide) rfl (fun ls hl => ?_)
        refine lv_aload_n hx hb dX13_sumOf_32 rfl (lv_at hl 1 rfl) ?_
        refine va_get (D := D) (ci := 13) (v := .ref (a0 60)) (C := RX13) (T := TX13) (N := 87) hx hb hts hiX13 hown hK hP 0 rfl rfl 60 (by decide) (hts _ flX13_234) (fun _ h9 => h9) rfl dX13_sumOf_33 ?_
        refine lv_iload_n hx hb dX13_sumOf_36 rfl (lv_at hl 0 rfl) ?_
        refine lv_iconst (v := 1) hx hb dX13_sumOf_37 (by decide) ?_
        refine lv_isub hx hb dX13_sumOf_38 ?_
        refine lv_aload_n hx hb dX13_sumOf_39 rfl (lv_at hl 1 rfl) ?_
        refine va_get (D := D) (ci := 13) (v := .ref (a0 40)) (C := RX13) (T := TX13) (N := 87) hx hb hts hiX13 hown hK hP 0 rfl rfl 40 (by decide) (hts _ flX13_209) (fun _ h9 => h9) rfl dX13_sumOf_40 ?_
        refine lv_iload_n hx hb dX13_sumOf_43 rfl (lv_at hl 3 rfl) ?_
        refine va_iald (f := r0 40) hx hb hK hP 29 0 rfl rfl (ck_in hf) dX13_sumOf_44 ?_
        have hf := ck_2 hf
        refine lv_aload_n hx hb dX13_sumOf_45 rfl (lv_at hl 1 rfl) ?_
        refine va_get (D := D) (ci := 13) (v := .ref (a0 60)) (C := RX13) (T := TX13) (N := 87) hx hb hts hiX13 hown hK hP 0 rfl rfl 60 (by decide) (hts _ flX13_234) (fun _ h9 => h9) rfl dX13_sumOf_46 ?_
        refine lv_iload_n hx hb dX13_sumOf_49 rfl (lv_at hl 0 rfl) ?_
        refine lv_iconst (v := 1) hx hb dX13_sumOf_50 (by decide) ?_
        refine lv_isub hx hb dX13_sumOf_51 ?_
        refine va_iald (f := r0 60) hx hb hK hP 37 0 rfl rfl (ck_in hf) dX13_sumOf_52 ?_
        have hf := ck_2 hf
        refine lv_aload_n hx hb dX13_sumOf_53 rfl (lv_at hl 1 rfl) ?_
        refine va_get (D := D) (ci := 13) (v := .ref (a0 60)) (C := RX13) (T := TX13) (N := 87) hx hb hts hiX13 hown hK hP 0 rfl rfl 60 (by decide) (hts _ flX13_234) (fun _ h9 => h9) rfl dX13_sumOf_54 ?_
        refine lv_iload_n hx hb dX13_sumOf_57 rfl (lv_at hl 0 rfl) ?_
        refine va_iald (f := r0 60) hx hb hK hP 37 0 rfl rfl (ck_in hf) dX13_sumOf_58 ?_
        have hf := ck_2 hf
        obtain ⟨q4, hq4, hf⟩ := bd_s hf
        refine k_eSi (As := [.int (r0 40 x3.toNatClampNeg), .int (r0 60 ((x2 + (-1)) - 1).toNatClampNeg), .int (r0 60 (x2 + (-1)).toNatClampNeg)]) (rest := [.int ((x2 + (-1)) - 1), .ref (a0 60)]) hx hb hml hown hts hK hA hZ hl.1 hP hD hS (c_X13_two  hq4) (gSt mlX13_514 stX13_two inX13 coX13_two) rfl qnX13_two rfl rfl ⟨Nat.le_of_ble_eq_true rfl, Nat.le_of_ble_eq_true rfl⟩ rfl rfl (Nat.le_of_ble_eq_true rfl) ⟨Nat.zero_le _, Nat.zero_le _⟩ dX13_sumOf_59 (fun H locs hP hD hS => ?_)
        refine va_iast (f := r0 60) hx hb hK hP hD hS 37 0 rfl rfl (ck_in hf) dX13_sumOf_62 (fun H locs hP hD hS => ?_)
        have hf := ck_2 hf
        obtain ⟨hP, hD⟩ := st13_60 hP hD
        refine lv_goto (tgt := 126) hx hb dX13_sumOf_63 (by decide) ?_
        exact w_X13_sumOf_126 C _ (ih) _ _ _ _ _ _ _ _ hf hP hD hS (lv_sub hl [1, 2, 0, 3] rfl)
def f_X13_sumOf  (i0 : Nat → Int32) (r0 : Nat → Nat → Int32) (l0 : Nat → Nat → Int64) (x1 : Int32) : Option (Int32 × (Nat → Int32) × (Nat → Nat → Int32)) := ck (inb x1 480) (f_X13_sumOf_9 l0 2000000 i0 r0 x1 0 (r0 34 x1.toNatClampNeg))
set_option maxRecDepth 100000 in
set_option maxHeartbeats 4000000 in
theorem c_X13_sumOf {l : Launch} {D : va_G} {cs zs : Nat → Nat} {h0 : Nat} {a0 : Nat → Nat} {i0 : Nat → Int32} {r0 : Nat → Nat → Int32} {l0 : Nat → Nat → Int64} {x1 : Int32} {q : Int32 × (Nat → Int32) × (Nat → Nat → Int32)} (hf : f_X13_sumOf i0 r0 l0 x1 = some q) : Mi l yX13_sumOf wlX13_sumOf rmX13_sumOf D cs zs [.ref h0, .int x1] (W13 cs h0 a0 i0 r0 l0) q.1 (W13 cs h0 a0 q.2.1 q.2.2 l0) := by
  refine Mi.of RX13 (by decide) rfl (Nat.le_of_ble_eq_true rfl) (fun p e s m below meth c A C hP hD hS ls hl => ?_)
  generalize ([.ref h0, .int x1] : List Value).toArray = args at C ⊢
  obtain ⟨hx, hb, hr, hml, hown, hts, hK, hA, hlocks, hZ⟩ := id C
  have hl : lv_has ls 6 [(0, .ref h0), (1, .int x1)] := hl
  rw [f_X13_sumOf] at hf
  refine lv_iconst (v := 0) hx hb dX13_sumOf_0 (by decide) ?_
  refine lv_istore_n (lv' := [(2, .int 0), (0, .ref h0), (1, .int x1)]) hx hb dX13_sumOf_1 rfl hl (by decide) rfl (fun ls hl => ?_)
  refine lv_aload_n hx hb dX13_sumOf_2 rfl (lv_at hl 1 rfl) ?_
  refine va_get (D := D) (ci := 13) (v := .ref (a0 34)) (C := RX13) (T := TX13) (N := 87) hx hb hts hiX13 hown hK hP 0 rfl rfl 34 (by decide) (hts _ flX13_191) (fun _ h9 => h9) rfl dX13_sumOf_3 ?_
  refine lv_iload_n hx hb dX13_sumOf_6 rfl (lv_at hl 2 rfl) ?_
  refine va_iald (f := r0 34) hx hb hK hP 23 0 rfl rfl (ck_in hf) dX13_sumOf_7 ?_
  have hf := ck_2 hf
  refine lv_istore_n (lv' := [(3, .int (r0 34 x1.toNatClampNeg)), (2, .int 0), (0, .ref h0), (1, .int x1)]) hx hb dX13_sumOf_8 rfl hl (by decide) rfl (fun ls hl => ?_)
  exact w_X13_sumOf_9 C  2000000 _ _ _ _ _ _ _ _ hf hP hD hS (lv_sub hl [2, 3, 1, 0] rfl)
/-! MarbleFloorModel.isSo(II)Z -/
abbrev wlX13_isSo : List Cond := Cond.code yX13_isSo cX13_isSo 7 (some .boolean) :: tbG
abbrev rmX13_isSo : Room := { frames := 3, cells := 0, slots := 0, locals := 73 }
theorem qnX13_isSo : yX13_isSo.cls = RX13 ∧ yX13_isSo.cls ≠ "java/lang/invoke/MethodHandle" ∧ yX13_isSo.cls ≠ "java/lang/invoke/VarHandle" ∧ (parseMethodDescriptor yX13_isSo.desc).map (fun d => d.parameters.length) = some 2 := by decide +kernel
def f_X13_isSo  (i0 : Nat → Int32) (r0 : Nat → Nat → Int32) (l0 : Nat → Nat → Int64) (x1 : Int32) (x2 : Int32) : Option (Int32 × (Nat → Int32) × (Nat → Nat → Int32)) := bd (f_X13_sumOf i0 r0 l0 ((4 * x1) + (2 * x2))) (fun q3 => if (q3.2.1 61) ≤ 0 then (bd (f_X13_sumOf q3.2.1 q3.2.2 l0 (((4 * x1) + (2 * x2)) + 1)) (fun q4 => ck (inb ((2 * x1) + x2) 240) (if (q4.2.2 36 ((2 * x1) + x2).toNatClampNeg) = 61 then (if q3.1 = q4.1 then (some (1, q4.2.1, q4.2.2)) else (some (0, q4.2.1, q4.2.2))) else (if (q4.2.2 36 ((2 * x1) + x2).toNatClampNeg) = 60 then (if q4.1 ≤ q3.1 then (some (0, q4.2.1, q4.2.2)) else (some (1, q4.2.1, q4.2.2))) else (if (q4.2.2 36 ((2 * x1) + x2).toNatClampNeg) = 62 then (if q3.1 ≤ q4.1 then (some (0, q4.2.1, q4.2.2)) else (some (1, q4.2.1, q4.2.2))) else (if q3.1 = q4.1 then (some (0, q4.2.1, q4.2.2)) else (some (1, q4.2.1, q4.2.2)))))))) else (some (0, q3.2.1, q3.2.2)))
set_option maxRecDepth 100000 in
set_option maxHeartbeats 4000000 in
theorem c_X13_isSo {l : Launch} {D : va_G} {cs zs : Nat → Nat} {h0 : Nat} {a0 : Nat → Nat} {i0 : Nat → Int32} {r0 : Nat → Nat → Int32} {l0 : Nat → Nat → Int64} {x1 : Int32} {x2 : Int32} {q : Int32 × (Nat → Int32) × (Nat → Nat → Int32)} (hf : f_X13_isSo i0 r0 l0 x1 x2 = some q) : Mi l yX13_isSo wlX13_isSo rmX13_isSo D cs zs [.ref h0, .int x1, .int x2] (W13 cs h0 a0 i0 r0 l0) q.1 (W13 cs h0 a0 q.2.1 q.2.2 l0) := by
  refine Mi.of RX13 (by decide) rfl (Nat.le_of_ble_eq_true rfl) (fun p e s m below meth c A C hP hD hS ls hl => ?_)
  generalize ([.ref h0, .int x1, .int x2] : List Value).toArray = args at C ⊢
  obtain ⟨hx, hb, hr, hml, hown, hts, hK, hA, hlocks, hZ⟩ := id C
  have hl : lv_has ls 7 [(0, .ref h0), (1, .int x1), (2, .int x2)] := hl
  rw [f_X13_isSo] at hf
  refine lv_iconst (v := 4) hx hb dX13_isSo_0 (by decide) ?_
  refine lv_iload_n hx hb dX13_isSo_1 rfl (lv_at hl 1 rfl) ?_
  refine lv_imul hx hb dX13_isSo_2 ?_
  refine lv_iconst (v := 2) hx hb dX13_isSo_3 (by decide) ?_
  refine lv_iload_n hx hb dX13_isSo_4 rfl (lv_at hl 2 rfl) ?_
  refine lv_imul hx hb dX13_isSo_5 ?_
  refine lv_iadd hx hb dX13_isSo_6 ?_
  refine lv_istore_n (lv' := [(3, .int ((4 * x1) + (2 * x2))), (0, .ref h0), (1, .int x1), (2, .int x2)]) hx hb dX13_isSo_7 rfl hl (by decide) rfl (fun ls hl => ?_)
  refine lv_aload_n hx hb dX13_isSo_8 rfl (lv_at hl 1 rfl) ?_
  refine lv_iload_n hx hb dX13_isSo_9 rfl (lv_at hl 0 rfl) ?_
  obtain ⟨q3, hq3, hf⟩ := bd_s hf
  refine k_sVi (ws2 := W13 cs h0 a0 q3.2.1 q3.2.2 l0) (As := [.int ((4 * x1) + (2 * x2))]) (rest := []) hx hb hml hown hts hK hA hZ hl.1 hP hD hS (c_X13_sumOf (h0 := h0) (a0 := a0) hq3) (gVt mlX13_521 imX13_sumOf seX13_sumOf inX13 coX13_sumOf) rfl qnX13_sumOf rfl rfl ⟨Nat.le_of_ble_eq_true rfl, Nat.le_of_ble_eq_true rfl⟩ 0 13 rfl rfl rfl rfl rfl (Nat.le_of_ble_eq_true rfl) ⟨Nat.zero_le _, Nat.zero_le _⟩ dX13_isSo_10 (fun H locs hP hD hS => ?_)
  refine lv_istore (lv' := [(4, .int q3.1), (3, .int ((4 * x1) + (2 * x2))), (0, .ref h0), (1, .int x1), (2, .int x2)]) hx hb dX13_isSo_13 hl (by decide) rfl (fun ls hl => ?_)
  refine lv_aload_n hx hb dX13_isSo_15 rfl (lv_at hl 2 rfl) ?_
  refine va_get (D := D) (ci := 13) (v := .int (q3.2.1 61)) (C := RX13) (T := TX13) (N := 87) hx hb hts hiX13 hown hK hP 0 rfl rfl 61 (by decide) (hts _ flX13_511) (fun _ h9 => h9) rfl dX13_isSo_16 ?_
  refine lv_if_le (tgt := 24) hx hb dX13_isSo_19 (by decide) (fun hc => ?_) (fun hc => ?_)
  · have hf := ite_t hf hc
    refine lv_aload_n hx hb dX13_isSo_24 rfl (lv_at hl 2 rfl) ?_
    refine lv_iload_n hx hb dX13_isSo_25 rfl (lv_at hl 1 rfl) ?_
    refine lv_iconst (v := 1) hx hb dX13_isSo_26 (by decide) ?_
    refine lv_iadd hx hb dX13_isSo_27 ?_
    obtain ⟨q4, hq4, hf⟩ := bd_s hf
    refine k_sVi (ws2 := W13 cs h0 a0 q4.2.1 q4.2.2 l0) (As := [.int (((4 * x1) + (2 * x2)) + 1)]) (rest := []) hx hb hml hown hts hK hA hZ hl.1 hP hD hS (c_X13_sumOf (h0 := h0) (a0 := a0) hq4) (gVt mlX13_521 imX13_sumOf seX13_sumOf inX13 coX13_sumOf) rfl qnX13_sumOf rfl rfl ⟨Nat.le_of_ble_eq_true rfl, Nat.le_of_ble_eq_true rfl⟩ 0 13 rfl rfl rfl rfl rfl (Nat.le_of_ble_eq_true rfl) ⟨Nat.zero_le _, Nat.zero_le _⟩ dX13_isSo_28 (fun H locs hP hD hS => ?_)
    refine lv_istore (lv' := [(5, .int q4.1), (4, .int q3.1), (3, .int ((4 * x1) + (2 * x2))), (0, .ref h0), (1, .int x1), (2, .int x2)]) hx hb dX13_isSo_31 hl (by decide) rfl (fun ls hl => ?_)
    refine lv_aload_n hx hb dX13_isSo_33 rfl (lv_at hl 3 rfl) ?_
    refine va_get (D := D) (ci := 13) (v := .ref (a0 36)) (C := RX13) (T := TX13) (N := 87) hx hb hts hiX13 hown hK hP 0 rfl rfl 36 (by decide) (hts _ flX13_197) (fun _ h9 => h9) rfl dX13_isSo_34 ?_
    refine lv_iconst (v := 2) hx hb dX13_isSo_37 (by decide) ?_
    refine lv_iload_n hx hb dX13_isSo_38 rfl (lv_at hl 4 rfl) ?_
    refine lv_imul hx hb dX13_isSo_39 ?_
    refine lv_iload_n hx hb dX13_isSo_40 rfl (lv_at hl 5 rfl) ?_
    refine lv_iadd hx hb dX13_isSo_41 ?_
    refine va_iald (f := q4.2.2 36) hx hb hK hP 25 0 rfl rfl (ck_in hf) dX13_isSo_42 ?_
    have hf := ck_2 hf
    refine lv_istore (lv' := [(6, .int (q4.2.2 36 ((2 * x1) + x2).toNatClampNeg)), (5, .int q4.1), (4, .int q3.1), (3, .int ((4 * x1) + (2 * x2))), (0, .ref h0), (1, .int x1), (2, .int x2)]) hx hb dX13_isSo_43 hl (by decide) rfl (fun ls hl => ?_)
    refine lv_iload hx hb dX13_isSo_45 (lv_at hl 0 rfl) ?_
    refine lv_bipush (v := 61) hx hb dX13_isSo_47 (by decide) ?_
    refine lv_icmp_ne (tgt := 67) hx hb dX13_isSo_49 (by decide) (fun hc => ?_) (fun hc => ?_)
    · have hf := ite_f hf hc
      refine lv_iload hx hb dX13_isSo_67 (lv_at hl 0 rfl) ?_
      refine lv_bipush (v := 60) hx hb dX13_isSo_69 (by decide) ?_
      refine lv_icmp_ne (tgt := 89) hx hb dX13_isSo_71 (by decide) (fun hc => ?_) (fun hc => ?_)
      · have hf := ite_f hf hc
        refine lv_iload hx hb dX13_isSo_89 (lv_at hl 0 rfl) ?_
        refine lv_bipush (v := 62) hx hb dX13_isSo_91 (by decide) ?_
        refine lv_icmp_ne (tgt := 111) hx hb dX13_isSo_93 (by decide) (fun hc => ?_) (fun hc => ?_)
        · have hf := ite_f hf hc
          refine lv_iload hx hb dX13_isSo_111 (lv_at hl 2 rfl) ?_
          refine lv_iload hx hb dX13_isSo_113 (lv_at hl 1 rfl) ?_
          refine lv_icmp_eq (tgt := 122) hx hb dX13_isSo_115 (by decide) (fun hc => ?_) (fun hc => ?_)
          · have hf := ite_t hf hc
            refine lv_iconst (v := 0) hx hb dX13_isSo_122 (by decide) ?_
            obtain rfl := Option.some.inj hf
            exact k_zret (r := 0) hx hb hr hlocks rfl hK hP hD hS dX13_isSo_123
          · have hf := ite_f hf hc
            refine lv_iconst (v := 1) hx hb dX13_isSo_118 (by decide) ?_
            refine lv_goto (tgt := 123) hx hb dX13_isSo_119 (by decide) ?_
            obtain rfl := Option.some.inj hf
            exact k_zret (r := 1) hx hb hr hlocks rfl hK hP hD hS dX13_isSo_123
        · have hf := ite_t hf hc
          refine lv_iload hx hb dX13_isSo_96 (lv_at hl 2 rfl) ?_
          refine lv_iload hx hb dX13_isSo_98 (lv_at hl 1 rfl) ?_
          refine lv_icmp_le (tgt := 107) hx hb dX13_isSo_100 (by decide) (fun hc => ?_) (fun hc => ?_)
          · have hf := ite_t hf hc
            refine lv_iconst (v := 0) hx hb dX13_isSo_107 (by decide) ?_
            refine lv_goto (tgt := 123) hx hb dX13_isSo_108 (by decide) ?_
            obtain rfl := Option.some.inj hf
            exact k_zret (r := 0) hx hb hr hlocks rfl hK hP hD hS dX13_isSo_123
          · have hf := ite_f hf hc
            refine lv_iconst (v := 1) hx hb dX13_isSo_103 (by decide) ?_
            refine lv_goto (tgt := 123) hx hb dX13_isSo_104 (by decide) ?_
            obtain rfl := Option.some.inj hf
            exact k_zret (r := 1) hx hb hr hlocks rfl hK hP hD hS dX13_isSo_123
      · have hf := ite_t hf hc
        refine lv_iload hx hb dX13_isSo_74 (lv_at hl 2 rfl) ?_
        refine lv_iload hx hb dX13_isSo_76 (lv_at hl 1 rfl) ?_
        refine lv_icmp_ge (tgt := 85) hx hb dX13_isSo_78 (by decide) (fun hc => ?_) (fun hc => ?_)
        · have hf := ite_t hf hc
          refine lv_iconst (v := 0) hx hb dX13_isSo_85 (by decide) ?_
          refine lv_goto (tgt := 123) hx hb dX13_isSo_86 (by decide) ?_
          obtain rfl := Option.some.inj hf
          exact k_zret (r := 0) hx hb hr hlocks rfl hK hP hD hS dX13_isSo_123
        · have hf := ite_f hf hc
          refine lv_iconst (v := 1) hx hb dX13_isSo_81 (by decide) ?_
          refine lv_goto (tgt := 123) hx hb dX13_isSo_82 (by decide) ?_
          obtain rfl := Option.some.inj hf
          exact k_zret (r := 1) hx hb hr hlocks rfl hK hP hD hS dX13_isSo_123
    · have hf := ite_t hf hc
      refine lv_iload hx hb dX13_isSo_52 (lv_at hl 2 rfl) ?_
      refine lv_iload hx hb dX13_isSo_54 (lv_at hl 1 rfl) ?_
      refine lv_icmp_ne (tgt := 63) hx hb dX13_isSo_56 (by decide) (fun hc => ?_) (fun hc => ?_)
      · have hf := ite_f hf hc
        refine lv_iconst (v := 0) hx hb dX13_isSo_63 (by decide) ?_
        refine lv_goto (tgt := 123) hx hb dX13_isSo_64 (by decide) ?_
        obtain rfl := Option.some.inj hf
        exact k_zret (r := 0) hx hb hr hlocks rfl hK hP hD hS dX13_isSo_123
      · have hf := ite_t hf hc
        refine lv_iconst (v := 1) hx hb dX13_isSo_59 (by decide) ?_
        refine lv_goto (tgt := 123) hx hb dX13_isSo_60 (by decide) ?_
        obtain rfl := Option.some.inj hf
        exact k_zret (r := 1) hx hb hr hlocks rfl hK hP hD hS dX13_isSo_123
  · have hf := ite_f hf hc
    refine lv_iconst (v := 0) hx hb dX13_isSo_22 (by decide) ?_
    obtain rfl := Option.some.inj hf
    exact k_zret (r := 0) hx hb hr hlocks rfl hK hP hD hS dX13_isSo_23
