def fs9 (a : Nat → Nat) (i : Nat → Int32) : List Value := [.ref (a 0), .ref (a 1), .ref (a 2), .ref (a 3), .ref (a 4), .int (i 5), .int (i 6), .int (i 7), .int (i 8), .int (i 9), .int (i 10), .int (i 11)]
def W9 (cs : Nat → ClassId) (h : Nat) (a : Nat → Nat) (i : Nat → Int32) (r : Nat → Nat → Int32) (l : Nat → Nat → Int64) : va_W := [(h, .inr (9, fs9 a i)), (a 0, .inl (cs 0, 900, .inl (r 0))), (a 1, .inl (cs 0, 901, .inl (r 1))), (a 2, .inl (cs 0, 901, .inl (r 2))), (a 3, .inl (cs 0, 901, .inl (r 3))), (a 4, .inl (cs 1, 901, .inr (.inl (l 4))))]
theorem st9_0 {D : va_G} {A : Nat → Prop} {H : Heap} {cs : Nat → ClassId} {h : Nat} {a : Nat → Nat} {i : Nat → Int32} {r : Nat → Nat → Int32} {l : Nat → Nat → Int64} {f : Nat → Int32} (hP : va_P D vwCl ((W9 cs h a i r l).set 1 (a 0, .inl (cs 0, 900, .inl f))) H) (hD : va_D A ((W9 cs h a i r l).set 1 (a 0, .inl (cs 0, 900, .inl f)))) : va_P D vwCl (W9 cs h a i (va_up r 0 f) l) H ∧ va_D A (W9 cs h a i (va_up r 0 f) l) := ⟨hP, hD⟩
theorem st9_1 {D : va_G} {A : Nat → Prop} {H : Heap} {cs : Nat → ClassId} {h : Nat} {a : Nat → Nat} {i : Nat → Int32} {r : Nat → Nat → Int32} {l : Nat → Nat → Int64} {f : Nat → Int32} (hP : va_P D vwCl ((W9 cs h a i r l).set 2 (a 1, .inl (cs 0, 901, .inl f))) H) (hD : va_D A ((W9 cs h a i r l).set 2 (a 1, .inl (cs 0, 901, .inl f)))) : va_P D vwCl (W9 cs h a i (va_up r 1 f) l) H ∧ va_D A (W9 cs h a i (va_up r 1 f) l) := ⟨hP, hD⟩
theorem st9_2 {D : va_G} {A : Nat → Prop} {H : Heap} {cs : Nat → ClassId} {h : Nat} {a : Nat → Nat} {i : Nat → Int32} {r : Nat → Nat → Int32} {l : Nat → Nat → Int64} {f : Nat → Int32} (hP : va_P D vwCl ((W9 cs h a i r l).set 3 (a 2, .inl (cs 0, 901, .inl f))) H) (hD : va_D A ((W9 cs h a i r l).set 3 (a 2, .inl (cs 0, 901, .inl f)))) : va_P D vwCl (W9 cs h a i (va_up r 2 f) l) H ∧ va_D A (W9 cs h a i (va_up r 2 f) l) := ⟨hP, hD⟩
theorem st9_3 {D : va_G} {A : Nat → Prop} {H : Heap} {cs : Nat → ClassId} {h : Nat} {a : Nat → Nat} {i : Nat → Int32} {r : Nat → Nat → Int32} {l : Nat → Nat → Int64} {f : Nat → Int32} (hP : va_P D vwCl ((W9 cs h a i r l).set 4 (a 3, .inl (cs 0, 901, .inl f))) H) (hD : va_D A ((W9 cs h a i r l).set 4 (a 3, .inl (cs 0, 901, .inl f)))) : va_P D vwCl (W9 cs h a i (va_up r 3 f) l) H ∧ va_D A (W9 cs h a i (va_up r 3 f) l) := ⟨hP, hD⟩
theorem st9_4 {D : va_G} {A : Nat → Prop} {H : Heap} {cs : Nat → ClassId} {h : Nat} {a : Nat → Nat} {i : Nat → Int32} {r : Nat → Nat → Int32} {l : Nat → Nat → Int64} {f : Nat → Int64} (hP : va_P D vwCl ((W9 cs h a i r l).set 5 (a 4, .inl (cs 1, 901, .inr (.inl f)))) H) (hD : va_D A ((W9 cs h a i r l).set 5 (a 4, .inl (cs 1, 901, .inr (.inl f))))) : va_P D vwCl (W9 cs h a i r (va_up l 4 f)) H ∧ va_D A (W9 cs h a i r (va_up l 4 f)) := ⟨hP, hD⟩
theorem st9_5 {D : va_G} {A : Nat → Prop} {H : Heap} {cs : Nat → ClassId} {h : Nat} {a : Nat → Nat} {i : Nat → Int32} {r : Nat → Nat → Int32} {l : Nat → Nat → Int64} {v : Int32} (hP : va_P D vwCl ((W9 cs h a i r l).set 0 (h, .inr (9, (fs9 a i).set 5 (.int v)))) H) (hD : va_D A ((W9 cs h a i r l).set 0 (h, .inr (9, (fs9 a i).set 5 (.int v))))) : va_P D vwCl (W9 cs h a (upd i 5 v) r l) H ∧ va_D A (W9 cs h a (upd i 5 v) r l) := ⟨hP, hD⟩
theorem st9_6 {D : va_G} {A : Nat → Prop} {H : Heap} {cs : Nat → ClassId} {h : Nat} {a : Nat → Nat} {i : Nat → Int32} {r : Nat → Nat → Int32} {l : Nat → Nat → Int64} {v : Int32} (hP : va_P D vwCl ((W9 cs h a i r l).set 0 (h, .inr (9, (fs9 a i).set 6 (.int v)))) H) (hD : va_D A ((W9 cs h a i r l).set 0 (h, .inr (9, (fs9 a i).set 6 (.int v))))) : va_P D vwCl (W9 cs h a (upd i 6 v) r l) H ∧ va_D A (W9 cs h a (upd i 6 v) r l) := ⟨hP, hD⟩
theorem st9_7 {D : va_G} {A : Nat → Prop} {H : Heap} {cs : Nat → ClassId} {h : Nat} {a : Nat → Nat} {i : Nat → Int32} {r : Nat → Nat → Int32} {l : Nat → Nat → Int64} {v : Int32} (hP : va_P D vwCl ((W9 cs h a i r l).set 0 (h, .inr (9, (fs9 a i).set 7 (.int v)))) H) (hD : va_D A ((W9 cs h a i r l).set 0 (h, .inr (9, (fs9 a i).set 7 (.int v))))) : va_P D vwCl (W9 cs h a (upd i 7 v) r l) H ∧ va_D A (W9 cs h a (upd i 7 v) r l) := ⟨hP, hD⟩
theorem st9_8 {D : va_G} {A : Nat → Prop} {H : Heap} {cs : Nat → ClassId} {h : Nat} {a : Nat → Nat} {i : Nat → Int32} {r : Nat → Nat → Int32} {l : Nat → Nat → Int64} {v : Int32} (hP : va_P D vwCl ((W9 cs h a i r l).set 0 (h, .inr (9, (fs9 a i).set 8 (.int v)))) H) (hD : va_D A ((W9 cs h a i r l).set 0 (h, .inr (9, (fs9 a i).set 8 (.int v))))) : va_P D vwCl (W9 cs h a (upd i 8 v) r l) H ∧ va_D A (W9 cs h a (upd i 8 v) r l) := ⟨hP, hD⟩
theorem st9_9 {D : va_G} {A : Nat → Prop} {H : Heap} {cs : Nat → ClassId} {h : Nat} {a : Nat → Nat} {i : Nat → Int32} {r : Nat → Nat → Int32} {l : Nat → Nat → Int64} {v : Int32} (hP : va_P D vwCl ((W9 cs h a i r l).set 0 (h, .inr (9, (fs9 a i).set 9 (.int v)))) H) (hD : va_D A ((W9 cs h a i r l).set 0 (h, .inr (9, (fs9 a i).set 9 (.int v))))) : va_P D vwCl (W9 cs h a (upd i 9 v) r l) H ∧ va_D A (W9 cs h a (upd i 9 v) r l) := ⟨hP, hD⟩
theorem st9_10 {D : va_G} {A : Nat → Prop} {H : Heap} {cs : Nat → ClassId} {h : Nat} {a : Nat → Nat} {i : Nat → Int32} {r : Nat → Nat → Int32} {l : Nat → Nat → Int64} {v : Int32} (hP : va_P D vwCl ((W9 cs h a i r l).set 0 (h, .inr (9, (fs9 a i).set 10 (.int v)))) H) (hD : va_D A ((W9 cs h a i r l).set 0 (h, .inr (9, (fs9 a i).set 10 (.int v))))) : va_P D vwCl (W9 cs h a (upd i 10 v) r l) H ∧ va_D A (W9 cs h a (upd i 10 v) r l) := ⟨hP, hD⟩
theorem st9_11 {D : va_G} {A : Nat → Prop} {H : Heap} {cs : Nat → ClassId} {h : Nat} {a : Nat → Nat} {i : Nat → Int32} {r : Nat → Nat → Int32} {l : Nat → Nat → Int64} {v : Int32} (hP : va_P D vwCl ((W9 cs h a i r l).set 0 (h, .inr (9, (fs9 a i).set 11 (.int v)))) H) (hD : va_D A ((W9 cs h a i r l).set 0 (h, .inr (9, (fs9 a i).set 11 (.int v))))) : va_P D vwCl (W9 cs h a (upd i 11 v) r l) H ∧ va_D A (W9 cs h a (upd i 11 v) r l) := ⟨hP, hD⟩
/-! MarbleFloor$Tape.takeFour(I)V -/
abbrev wlX9_takeFour : List Cond := Cond.code yX9_takeFour cX9_takeFour 3 none :: tbG
abbrev rmX9_takeFour : Room := { frames := 0, cells := 0, slots := 0, locals := 0 }
theorem qnX9_takeFour : yX9_takeFour.cls = RX9 ∧ yX9_takeFour.cls ≠ "java/lang/invoke/MethodHandle" ∧ yX9_takeFour.cls ≠ "java/lang/invoke/VarHandle" ∧ (parseMethodDescriptor yX9_takeFour.desc).map (fun d => d.parameters.length) = some 1 := by decide +kernel
def f_X9_takeFour_3 (l0 : Nat → Nat → Int64)  : Nat → (Nat → Int32) → (Nat → Nat → Int32) → Int32 → Int32 → Option ((Nat → Int32) × (Nat → Nat → Int32))
  | 0, _, _, _, _ => none
  | n + 1, i0, r0, x1, x2 => if x2 < 0 then (some (i0, r0)) else (if 900 ≤ (i0 5) then (some (i0, r0)) else (ck (inb (i0 5) 900) (f_X9_takeFour_3 l0 n (upd i0 5 ((i0 5) + 1)) (va_up r0 0 (upd (r0 0) (i0 5).toNatClampNeg (((x1.toUInt32 >>> (x2.toUInt32 &&& Int32.toUInt32 31)).toInt32) &&& 255))) x1 (x2 + (-8)))))
set_option maxRecDepth 100000 in
set_option maxHeartbeats 4000000 in
theorem w_X9_takeFour_3 {p : Program} {l : Launch} {e : Env} {s : State} {m : MethodId} {args : Array Value} {below : List Frame} {meth : Method} {c : Code} {A : Nat → Prop} {D : va_G} {cs zs : Nat → Nat} {h0 : Nat} {a0 : Nat → Nat} {l0 : Nat → Nat → Int64} {q : (Nat → Int32) × (Nat → Nat → Int32)} (C : Cx p s m args meth c A D cs zs cX9_takeFour 3 none RX9)  : ∀ (n : Nat), ∀ (i0 : Nat → Int32) (r0 : Nat → Nat → Int32) (x1 : Int32) (x2 : Int32) (H : Heap) (locs : List Loc) (ls : Array Slot), f_X9_takeFour_3 l0 n i0 r0 x1 x2 = some q → va_P D vwCl (W9 cs h0 a0 i0 r0 l0) H → va_D A (W9 cs h0 a0 i0 r0 l0) → va_S A s.heap H locs → lv_has ls 3 [(0, .ref h0), (1, .int x1), (2, .int x2)] → W p l e rmX9_takeFour s m args below meth c H locs 0 0 (MQ below (Qv D cs A (W9 cs h0 a0 q.1 q.2 l0)) args s 0 0 A) (F0 m 3 ls []) := by
  obtain ⟨hx, hb, hr, hml, hown, hts, hK, hA, hlocks, hZ⟩ := id C
  intro n
  induction n with
  | zero =>
    intro i0 r0 x1 x2 H locs ls hf
    rw [f_X9_takeFour_3] at hf
    cases hf
  | succ n ih =>
    intro i0 r0 x1 x2 H locs ls hf hP hD hS hl
    rw [f_X9_takeFour_3] at hf
    refine lv_iload_n hx hb dX9_takeFour_3 rfl (lv_at hl 2 rfl) ?_
    refine lv_if_lt (tgt := 49) hx hb dX9_takeFour_4 (by decide) (fun hc => ?_) (fun hc => ?_)
    · have hf := ite_t hf hc
      obtain rfl := Option.some.inj hf
      exact k_vret hx hb hr hlocks hK hP hD hS dX9_takeFour_49
    · have hf := ite_f hf hc
      refine lv_aload_n hx hb dX9_takeFour_7 rfl (lv_at hl 0 rfl) ?_
      refine va_get (D := D) (ci := 9) (v := .int (i0 5)) (C := RX9) (T := TX9) (N := 12) hx hb hts hiX9 hown hK hP 0 rfl rfl 5 (by decide) (hts _ flX9_32) (fun _ h9 => h9) rfl dX9_takeFour_8 ?_
      refine lv_sipush (v := 900) hx hb dX9_takeFour_11 (by decide) ?_
      refine lv_icmp_ge (tgt := 49) hx hb dX9_takeFour_14 (by decide) (fun hc => ?_) (fun hc => ?_)
      · have hf := ite_t hf hc
        obtain rfl := Option.some.inj hf
        exact k_vret hx hb hr hlocks hK hP hD hS dX9_takeFour_49
      · have hf := ite_f hf hc
        refine lv_aload_n hx hb dX9_takeFour_17 rfl (lv_at hl 0 rfl) ?_
        refine va_get (D := D) (ci := 9) (v := .ref (a0 0)) (C := RX9) (T := TX9) (N := 12) hx hb hts hiX9 hown hK hP 0 rfl rfl 0 (by decide) (hts _ flX9_11) (fun _ h9 => h9) rfl dX9_takeFour_18 ?_
        refine lv_aload_n hx hb dX9_takeFour_21 rfl (lv_at hl 0 rfl) ?_
        refine va_get (D := D) (ci := 9) (v := .int (i0 5)) (C := RX9) (T := TX9) (N := 12) hx hb hts hiX9 hown hK hP 0 rfl rfl 5 (by decide) (hts _ flX9_32) (fun _ h9 => h9) rfl dX9_takeFour_22 ?_
        refine lv_iload_n hx hb dX9_takeFour_25 rfl (lv_at hl 1 rfl) ?_
        refine lv_iload_n hx hb dX9_takeFour_26 rfl (lv_at hl 2 rfl) ?_
        refine lv_iushr hx hb dX9_takeFour_27 rfl ?_
        refine lv_sipush (v := 255) hx hb dX9_takeFour_28 (by decide) ?_
        refine lv_iand hx hb dX9_takeFour_31 ?_
        refine va_iast (f := r0 0) hx hb hK hP hD hS 1 0 rfl rfl (ck_in hf) dX9_takeFour_32 (fun H locs hP hD hS => ?_)
        have hf := ck_2 hf
        obtain ⟨hP, hD⟩ := st9_0 hP hD
        refine lv_aload_n hx hb dX9_takeFour_33 rfl (lv_at hl 0 rfl) ?_
        refine lv_dup hx hb dX9_takeFour_34 rfl ?_
        refine va_get (D := D) (ci := 9) (v := .int (i0 5)) (C := RX9) (T := TX9) (N := 12) hx hb hts hiX9 hown hK hP 0 rfl rfl 5 (by decide) (hts _ flX9_32) (fun _ h9 => h9) rfl dX9_takeFour_35 ?_
        refine lv_iconst (v := 1) hx hb dX9_takeFour_38 (by decide) ?_
        refine lv_iadd hx hb dX9_takeFour_39 ?_
        refine va_put (D := D) (ci := 9) (v := .int ((i0 5) + 1)) (ty := .int) (C := RX9) (T := TX9) (N := 12) hx hb hts hiX9 tyX9 tyX9_ok nmX9 hown hK hP hD hS 0 rfl rfl 5 (by decide) (hts _ flX9_32) (fun _ h9 => h9) rfl (tyX9_ok 5 (by decide)) rfl rfl (Nat.le_of_ble_eq_true rfl) dX9_takeFour_40 (fun H locs hP hD hS => ?_)
        obtain ⟨hP, hD⟩ := st9_5 hP hD
        refine lv_iinc (v := x2 + (-8)) (lv' := [(2, .int (x2 + (-8))), (0, .ref h0), (1, .int x1)]) hx hb dX9_takeFour_43 hl (k := 2) rfl rfl (by decide) rfl (fun ls hl => ?_)
        refine lv_goto (tgt := 3) hx hb dX9_takeFour_46 (by decide) ?_
        exact ih _ _ _ _ _ _ _ hf hP hD hS (lv_sub hl [1, 2, 0] rfl)
def f_X9_takeFour  (i0 : Nat → Int32) (r0 : Nat → Nat → Int32) (l0 : Nat → Nat → Int64) (x1 : Int32) : Option ((Nat → Int32) × (Nat → Nat → Int32)) := f_X9_takeFour_3 l0 2000000 i0 r0 x1 24
set_option maxRecDepth 100000 in
set_option maxHeartbeats 4000000 in
theorem c_X9_takeFour {l : Launch} {D : va_G} {cs zs : Nat → Nat} {h0 : Nat} {a0 : Nat → Nat} {i0 : Nat → Int32} {r0 : Nat → Nat → Int32} {l0 : Nat → Nat → Int64} {x1 : Int32} {q : (Nat → Int32) × (Nat → Nat → Int32)} (hf : f_X9_takeFour i0 r0 l0 x1 = some q) : Mv l yX9_takeFour wlX9_takeFour rmX9_takeFour D cs zs [.ref h0, .int x1] (W9 cs h0 a0 i0 r0 l0) (W9 cs h0 a0 q.1 q.2 l0) := by
  refine Mv.of RX9 (by decide) rfl (Nat.le_of_ble_eq_true rfl) (fun p e s m below meth c A C hP hD hS ls hl => ?_)
  generalize ([.ref h0, .int x1] : List Value).toArray = args at C ⊢
  obtain ⟨hx, hb, hr, hml, hown, hts, hK, hA, hlocks, hZ⟩ := id C
  have hl : lv_has ls 3 [(0, .ref h0), (1, .int x1)] := hl
  rw [f_X9_takeFour] at hf
  refine lv_bipush (v := 24) hx hb dX9_takeFour_0 (by decide) ?_
  refine lv_istore_n (lv' := [(2, .int 24), (0, .ref h0), (1, .int x1)]) hx hb dX9_takeFour_2 rfl hl (by decide) rfl (fun ls hl => ?_)
  exact w_X9_takeFour_3 C  2000000 _ _ _ _ _ _ _ hf hP hD hS (lv_sub hl [1, 2, 0] rfl)
/-! MarbleFloor$Tape.take(IIIII)I -/
abbrev wlX9_take : List Cond := Cond.code yX9_take cX9_take 6 (some .int) :: tbG
abbrev rmX9_take : Room := { frames := 1, cells := 0, slots := 0, locals := 22 }
theorem qnX9_take : yX9_take.cls = RX9 ∧ yX9_take.cls ≠ "java/lang/invoke/MethodHandle" ∧ yX9_take.cls ≠ "java/lang/invoke/VarHandle" ∧ (parseMethodDescriptor yX9_take.desc).map (fun d => d.parameters.length) = some 5 := by decide +kernel
def f_X9_take  (i0 : Nat → Int32) (r0 : Nat → Nat → Int32) (l0 : Nat → Nat → Int64) (x1 : Int32) (x2 : Int32) (x3 : Int32) (x4 : Int32) (x5 : Int32) : Option (Int32 × (Nat → Int32) × (Nat → Nat → Int32)) := if ((i0 5) + 20) ≤ 900 then (bd (f_X9_takeFour i0 r0 l0 x1) (fun q6 => bd (f_X9_takeFour q6.1 q6.2 l0 x2) (fun q7 => bd (f_X9_takeFour q7.1 q7.2 l0 x3) (fun q8 => bd (f_X9_takeFour q8.1 q8.2 l0 x4) (fun q9 => bd (f_X9_takeFour q9.1 q9.2 l0 x5) (fun q10 => some (q10.1 5, q10.1, q10.2))))))) else (some ((-3), i0, r0))
set_option maxRecDepth 100000 in
set_option maxHeartbeats 4000000 in
theorem c_X9_take {l : Launch} {D : va_G} {cs zs : Nat → Nat} {h0 : Nat} {a0 : Nat → Nat} {i0 : Nat → Int32} {r0 : Nat → Nat → Int32} {l0 : Nat → Nat → Int64} {x1 : Int32} {x2 : Int32} {x3 : Int32} {x4 : Int32} {x5 : Int32} {q : Int32 × (Nat → Int32) × (Nat → Nat → Int32)} (hf : f_X9_take i0 r0 l0 x1 x2 x3 x4 x5 = some q) : Mi l yX9_take wlX9_take rmX9_take D cs zs [.ref h0, .int x1, .int x2, .int x3, .int x4, .int x5] (W9 cs h0 a0 i0 r0 l0) q.1 (W9 cs h0 a0 q.2.1 q.2.2 l0) := by
  refine Mi.of RX9 (by decide) rfl (Nat.le_of_ble_eq_true rfl) (fun p e s m below meth c A C hP hD hS ls hl => ?_)
  generalize ([.ref h0, .int x1, .int x2, .int x3, .int x4, .int x5] : List Value).toArray = args at C ⊢
  obtain ⟨hx, hb, hr, hml, hown, hts, hK, hA, hlocks, hZ⟩ := id C
  have hl : lv_has ls 6 [(0, .ref h0), (1, .int x1), (2, .int x2), (3, .int x3), (4, .int x4), (5, .int x5)] := hl
  rw [f_X9_take] at hf
  refine lv_aload_n hx hb dX9_take_0 rfl (lv_at hl 0 rfl) ?_
  refine va_get (D := D) (ci := 9) (v := .int (i0 5)) (C := RX9) (T := TX9) (N := 12) hx hb hts hiX9 hown hK hP 0 rfl rfl 5 (by decide) (hts _ flX9_32) (fun _ h9 => h9) rfl dX9_take_1 ?_
  refine lv_bipush (v := 20) hx hb dX9_take_4 (by decide) ?_
  refine lv_iadd hx hb dX9_take_6 ?_
  refine lv_sipush (v := 900) hx hb dX9_take_7 (by decide) ?_
  refine lv_icmp_le (tgt := 16) hx hb dX9_take_10 (by decide) (fun hc => ?_) (fun hc => ?_)
  · have hf := ite_t hf hc
    refine lv_aload_n hx hb dX9_take_16 rfl (lv_at hl 0 rfl) ?_
    refine lv_iload_n hx hb dX9_take_17 rfl (lv_at hl 1 rfl) ?_
    obtain ⟨q6, hq6, hf⟩ := bd_s hf
    refine k_sVv (ws2 := W9 cs h0 a0 q6.1 q6.2 l0) (As := [.int x1]) (rest := []) hx hb hml hown hts hK hA hZ hl.1 hP hD hS (c_X9_takeFour (h0 := h0) (a0 := a0) hq6) (gVt mlX9_35 imX9_takeFour seX9_takeFour inX9 coX9_takeFour) rfl qnX9_takeFour rfl rfl ⟨Nat.le_of_ble_eq_true rfl, Nat.le_of_ble_eq_true rfl⟩ 0 9 rfl rfl rfl rfl rfl (Nat.le_of_ble_eq_true rfl) ⟨Nat.zero_le _, Nat.zero_le _⟩ dX9_take_18 (fun H locs hP hD hS => ?_)
    refine lv_aload_n hx hb dX9_take_21 rfl (lv_at hl 0 rfl) ?_
    refine lv_iload_n hx hb dX9_take_22 rfl (lv_at hl 2 rfl) ?_
    obtain ⟨q7, hq7, hf⟩ := bd_s hf
    refine k_sVv (ws2 := W9 cs h0 a0 q7.1 q7.2 l0) (As := [.int x2]) (rest := []) hx hb hml hown hts hK hA hZ hl.1 hP hD hS (c_X9_takeFour (h0 := h0) (a0 := a0) hq7) (gVt mlX9_35 imX9_takeFour seX9_takeFour inX9 coX9_takeFour) rfl qnX9_takeFour rfl rfl ⟨Nat.le_of_ble_eq_true rfl, Nat.le_of_ble_eq_true rfl⟩ 0 9 rfl rfl rfl rfl rfl (Nat.le_of_ble_eq_true rfl) ⟨Nat.zero_le _, Nat.zero_le _⟩ dX9_take_23 (fun H locs hP hD hS => ?_)
    refine lv_aload_n hx hb dX9_take_26 rfl (lv_at hl 0 rfl) ?_
    refine lv_iload_n hx hb dX9_take_27 rfl (lv_at hl 3 rfl) ?_
    obtain ⟨q8, hq8, hf⟩ := bd_s hf
    refine k_sVv (ws2 := W9 cs h0 a0 q8.1 q8.2 l0) (As := [.int x3]) (rest := []) hx hb hml hown hts hK hA hZ hl.1 hP hD hS (c_X9_takeFour (h0 := h0) (a0 := a0) hq8) (gVt mlX9_35 imX9_takeFour seX9_takeFour inX9 coX9_takeFour) rfl qnX9_takeFour rfl rfl ⟨Nat.le_of_ble_eq_true rfl, Nat.le_of_ble_eq_true rfl⟩ 0 9 rfl rfl rfl rfl rfl (Nat.le_of_ble_eq_true rfl) ⟨Nat.zero_le _, Nat.zero_le _⟩ dX9_take_28 (fun H locs hP hD hS => ?_)
    refine lv_aload_n hx hb dX9_take_31 rfl (lv_at hl 0 rfl) ?_
    refine lv_iload hx hb dX9_take_32 (lv_at hl 4 rfl) ?_
    obtain ⟨q9, hq9, hf⟩ := bd_s hf
    refine k_sVv (ws2 := W9 cs h0 a0 q9.1 q9.2 l0) (As := [.int x4]) (rest := []) hx hb hml hown hts hK hA hZ hl.1 hP hD hS (c_X9_takeFour (h0 := h0) (a0 := a0) hq9) (gVt mlX9_35 imX9_takeFour seX9_takeFour inX9 coX9_takeFour) rfl qnX9_takeFour rfl rfl ⟨Nat.le_of_ble_eq_true rfl, Nat.le_of_ble_eq_true rfl⟩ 0 9 rfl rfl rfl rfl rfl (Nat.le_of_ble_eq_true rfl) ⟨Nat.zero_le _, Nat.zero_le _⟩ dX9_take_34 (fun H locs hP hD hS => ?_)
    refine lv_aload_n hx hb dX9_take_37 rfl (lv_at hl 0 rfl) ?_
    refine lv_iload hx hb dX9_take_38 (lv_at hl 5 rfl) ?_
    obtain ⟨q10, hq10, hf⟩ := bd_s hf
    refine k_sVv (ws2 := W9 cs h0 a0 q10.1 q10.2 l0) (As := [.int x5]) (rest := []) hx hb hml hown hts hK hA hZ hl.1 hP hD hS (c_X9_takeFour (h0 := h0) (a0 := a0) hq10) (gVt mlX9_35 imX9_takeFour seX9_takeFour inX9 coX9_takeFour) rfl qnX9_takeFour rfl rfl ⟨Nat.le_of_ble_eq_true rfl, Nat.le_of_ble_eq_true rfl⟩ 0 9 rfl rfl rfl rfl rfl (Nat.le_of_ble_eq_true rfl) ⟨Nat.zero_le _, Nat.zero_le _⟩ dX9_take_40 (fun H locs hP hD hS => ?_)
    refine lv_aload_n hx hb dX9_take_43 rfl (lv_at hl 0 rfl) ?_
    refine va_get (D := D) (ci := 9) (v := .int (q10.1 5)) (C := RX9) (T := TX9) (N := 12) hx hb hts hiX9 hown hK hP 0 rfl rfl 5 (by decide) (hts _ flX9_32) (fun _ h9 => h9) rfl dX9_take_44 ?_
    obtain rfl := Option.some.inj hf
    exact k_iret hx hb hr hlocks hK hP hD hS dX9_take_47
  · have hf := ite_f hf hc
    refine lv_bipush (v := (-3)) hx hb dX9_take_13 (by decide) ?_
    obtain rfl := Option.some.inj hf
    exact k_iret hx hb hr hlocks hK hP hD hS dX9_take_15
/-! MarbleFloor$Tape.cutTo(I)I -/
abbrev wlX9_cutTo : List Cond := Cond.code yX9_cutTo cX9_cutTo 2 (some .int) :: tbG
abbrev rmX9_cutTo : Room := { frames := 0, cells := 0, slots := 0, locals := 0 }
theorem qnX9_cutTo : yX9_cutTo.cls = RX9 ∧ yX9_cutTo.cls ≠ "java/lang/invoke/MethodHandle" ∧ yX9_cutTo.cls ≠ "java/lang/invoke/VarHandle" ∧ (parseMethodDescriptor yX9_cutTo.desc).map (fun d => d.parameters.length) = some 1 := by decide +kernel
def f_X9_cutTo  (i0 : Nat → Int32) (r0 : Nat → Nat → Int32) (l0 : Nat → Nat → Int64) (x1 : Int32) : Option (Int32 × (Nat → Int32)) := if x1 < 0 then (some ((-1), i0)) else (if x1 ≤ (i0 5) then (some (x1, (upd i0 5 x1))) else (some ((-1), i0)))
set_option maxRecDepth 100000 in
set_option maxHeartbeats 4000000 in
theorem c_X9_cutTo {l : Launch} {D : va_G} {cs zs : Nat → Nat} {h0 : Nat} {a0 : Nat → Nat} {i0 : Nat → Int32} {r0 : Nat → Nat → Int32} {l0 : Nat → Nat → Int64} {x1 : Int32} {q : Int32 × (Nat → Int32)} (hf : f_X9_cutTo i0 r0 l0 x1 = some q) : Mi l yX9_cutTo wlX9_cutTo rmX9_cutTo D cs zs [.ref h0, .int x1] (W9 cs h0 a0 i0 r0 l0) q.1 (W9 cs h0 a0 q.2 r0 l0) := by
  refine Mi.of RX9 (by decide) rfl (Nat.le_of_ble_eq_true rfl) (fun p e s m below meth c A C hP hD hS ls hl => ?_)
  generalize ([.ref h0, .int x1] : List Value).toArray = args at C ⊢
  obtain ⟨hx, hb, hr, hml, hown, hts, hK, hA, hlocks, hZ⟩ := id C
  have hl : lv_has ls 2 [(0, .ref h0), (1, .int x1)] := hl
  rw [f_X9_cutTo] at hf
  refine lv_iload_n hx hb dX9_cutTo_0 rfl (lv_at hl 1 rfl) ?_
  refine lv_if_lt (tgt := 12) hx hb dX9_cutTo_1 (by decide) (fun hc => ?_) (fun hc => ?_)
  · have hf := ite_t hf hc
    refine lv_iconst (v := (-1)) hx hb dX9_cutTo_12 (by decide) ?_
    obtain rfl := Option.some.inj hf
    exact k_iret hx hb hr hlocks hK hP hD hS dX9_cutTo_13
  · have hf := ite_f hf hc
    refine lv_iload_n hx hb dX9_cutTo_4 rfl (lv_at hl 1 rfl) ?_
    refine lv_aload_n hx hb dX9_cutTo_5 rfl (lv_at hl 0 rfl) ?_
    refine va_get (D := D) (ci := 9) (v := .int (i0 5)) (C := RX9) (T := TX9) (N := 12) hx hb hts hiX9 hown hK hP 0 rfl rfl 5 (by decide) (hts _ flX9_32) (fun _ h9 => h9) rfl dX9_cutTo_6 ?_
    refine lv_icmp_le (tgt := 14) hx hb dX9_cutTo_9 (by decide) (fun hc => ?_) (fun hc => ?_)
    · have hf := ite_t hf hc
      refine lv_aload_n hx hb dX9_cutTo_14 rfl (lv_at hl 0 rfl) ?_
      refine lv_iload_n hx hb dX9_cutTo_15 rfl (lv_at hl 1 rfl) ?_
      refine va_put (D := D) (ci := 9) (v := .int x1) (ty := .int) (C := RX9) (T := TX9) (N := 12) hx hb hts hiX9 tyX9 tyX9_ok nmX9 hown hK hP hD hS 0 rfl rfl 5 (by decide) (hts _ flX9_32) (fun _ h9 => h9) rfl (tyX9_ok 5 (by decide)) rfl rfl (Nat.le_of_ble_eq_true rfl) dX9_cutTo_16 (fun H locs hP hD hS => ?_)
      obtain ⟨hP, hD⟩ := st9_5 hP hD
      refine lv_iload_n hx hb dX9_cutTo_19 rfl (lv_at hl 1 rfl) ?_
      obtain rfl := Option.some.inj hf
      exact k_iret hx hb hr hlocks hK hP hD hS dX9_cutTo_20
    · have hf := ite_f hf hc
      refine lv_iconst (v := (-1)) hx hb dX9_cutTo_12 (by decide) ?_
      obtain rfl := Option.some.inj hf
      exact k_iret hx hb hr hlocks hK hP hD hS dX9_cutTo_13
/-! MarbleFloor$Tape.empty()V -/
abbrev wlX9_empty : List Cond := Cond.code yX9_empty cX9_empty 1 none :: tbG
abbrev rmX9_empty : Room := { frames := 0, cells := 0, slots := 0, locals := 0 }
theorem qnX9_empty : yX9_empty.cls = RX9 ∧ yX9_empty.cls ≠ "java/lang/invoke/MethodHandle" ∧ yX9_empty.cls ≠ "java/lang/invoke/VarHandle" ∧ (parseMethodDescriptor yX9_empty.desc).map (fun d => d.parameters.length) = some 0 := by decide +kernel
def f_X9_empty  (i0 : Nat → Int32) (r0 : Nat → Nat → Int32) (l0 : Nat → Nat → Int64)  : Option ((Nat → Int32)) := some ((upd i0 5 0))
set_option maxRecDepth 100000 in
set_option maxHeartbeats 4000000 in
theorem c_X9_empty {l : Launch} {D : va_G} {cs zs : Nat → Nat} {h0 : Nat} {a0 : Nat → Nat} {i0 : Nat → Int32} {r0 : Nat → Nat → Int32} {l0 : Nat → Nat → Int64}  {q : (Nat → Int32)} (hf : f_X9_empty i0 r0 l0 = some q) : Mv l yX9_empty wlX9_empty rmX9_empty D cs zs [.ref h0] (W9 cs h0 a0 i0 r0 l0) (W9 cs h0 a0 q r0 l0) := by
  refine Mv.of RX9 (by decide) rfl (Nat.le_of_ble_eq_true rfl) (fun p e s m below meth c A C hP hD hS ls hl => ?_)
  generalize ([.ref h0] : List Value).toArray = args at C ⊢
  obtain ⟨hx, hb, hr, hml, hown, hts, hK, hA, hlocks, hZ⟩ := id C
  have hl : lv_has ls 1 [(0, .ref h0)] := hl
  rw [f_X9_empty] at hf
  refine lv_aload_n hx hb dX9_empty_0 rfl (lv_at hl 0 rfl) ?_
  refine lv_iconst (v := 0) hx hb dX9_empty_1 (by decide) ?_
  refine va_put (D := D) (ci := 9) (v := .int 0) (ty := .int) (C := RX9) (T := TX9) (N := 12) hx hb hts hiX9 tyX9 tyX9_ok nmX9 hown hK hP hD hS 0 rfl rfl 5 (by decide) (hts _ flX9_32) (fun _ h9 => h9) rfl (tyX9_ok 5 (by decide)) rfl rfl (Nat.le_of_ble_eq_true rfl) dX9_empty_2 (fun H locs hP hD hS => ?_)
  obtain ⟨hP, hD⟩ := st9_5 hP hD
  obtain rfl := Option.some.inj hf
  exact k_vret hx hb hr hlocks hK hP hD hS dX9_empty_5
/-! MarbleFloor$Tape.length()I -/
abbrev wlX9_length : List Cond := Cond.code yX9_length cX9_length 1 (some .int) :: tbG
abbrev rmX9_length : Room := { frames := 0, cells := 0, slots := 0, locals := 0 }
theorem qnX9_length : yX9_length.cls = RX9 ∧ yX9_length.cls ≠ "java/lang/invoke/MethodHandle" ∧ yX9_length.cls ≠ "java/lang/invoke/VarHandle" ∧ (parseMethodDescriptor yX9_length.desc).map (fun d => d.parameters.length) = some 0 := by decide +kernel
def f_X9_length  (i0 : Nat → Int32) (r0 : Nat → Nat → Int32) (l0 : Nat → Nat → Int64)  : Option (Int32) := some (i0 5)
set_option maxRecDepth 100000 in
set_option maxHeartbeats 4000000 in
theorem c_X9_length {l : Launch} {D : va_G} {cs zs : Nat → Nat} {h0 : Nat} {a0 : Nat → Nat} {i0 : Nat → Int32} {r0 : Nat → Nat → Int32} {l0 : Nat → Nat → Int64}  {q : Int32} (hf : f_X9_length i0 r0 l0 = some q) : Mi l yX9_length wlX9_length rmX9_length D cs zs [.ref h0] (W9 cs h0 a0 i0 r0 l0) q (W9 cs h0 a0 i0 r0 l0) := by
  refine Mi.of RX9 (by decide) rfl (Nat.le_of_ble_eq_true rfl) (fun p e s m below meth c A C hP hD hS ls hl => ?_)
  generalize ([.ref h0] : List Value).toArray = args at C ⊢
  obtain ⟨hx, hb, hr, hml, hown, hts, hK, hA, hlocks, hZ⟩ := id C
  have hl : lv_has ls 1 [(0, .ref h0)] := hl
  rw [f_X9_length] at hf
  refine lv_aload_n hx hb dX9_length_0 rfl (lv_at hl 0 rfl) ?_
  refine va_get (D := D) (ci := 9) (v := .int (i0 5)) (C := RX9) (T := TX9) (N := 12) hx hb hts hiX9 hown hK hP 0 rfl rfl 5 (by decide) (hts _ flX9_32) (fun _ h9 => h9) rfl dX9_length_1 ?_
  obtain rfl := Option.some.inj hf
  exact k_iret hx hb hr hlocks hK hP hD hS dX9_length_4
/-! MarbleFloor$Tape.faultKind()I -/
abbrev wlX9_faultKind : List Cond := Cond.code yX9_faultKind cX9_faultKind 1 (some .int) :: tbG
abbrev rmX9_faultKind : Room := { frames := 0, cells := 0, slots := 0, locals := 0 }
theorem qnX9_faultKind : yX9_faultKind.cls = RX9 ∧ yX9_faultKind.cls ≠ "java/lang/invoke/MethodHandle" ∧ yX9_faultKind.cls ≠ "java/lang/invoke/VarHandle" ∧ (parseMethodDescriptor yX9_faultKind.desc).map (fun d => d.parameters.length) = some 0 := by decide +kernel
def f_X9_faultKind  (i0 : Nat → Int32) (r0 : Nat → Nat → Int32) (l0 : Nat → Nat → Int64)  : Option (Int32) := some (i0 10)
set_option maxRecDepth 100000 in
set_option maxHeartbeats 4000000 in
theorem c_X9_faultKind {l : Launch} {D : va_G} {cs zs : Nat → Nat} {h0 : Nat} {a0 : Nat → Nat} {i0 : Nat → Int32} {r0 : Nat → Nat → Int32} {l0 : Nat → Nat → Int64}  {q : Int32} (hf : f_X9_faultKind i0 r0 l0 = some q) : Mi l yX9_faultKind wlX9_faultKind rmX9_faultKind D cs zs [.ref h0] (W9 cs h0 a0 i0 r0 l0) q (W9 cs h0 a0 i0 r0 l0) := by
  refine Mi.of RX9 (by decide) rfl (Nat.le_of_ble_eq_true rfl) (fun p e s m below meth c A C hP hD hS ls hl => ?_)
  generalize ([.ref h0] : List Value).toArray = args at C ⊢
  obtain ⟨hx, hb, hr, hml, hown, hts, hK, hA, hlocks, hZ⟩ := id C
  have hl : lv_has ls 1 [(0, .ref h0)] := hl
  rw [f_X9_faultKind] at hf
  refine lv_aload_n hx hb dX9_faultKind_0 rfl (lv_at hl 0 rfl) ?_
  refine va_get (D := D) (ci := 9) (v := .int (i0 10)) (C := RX9) (T := TX9) (N := 12) hx hb hts hiX9 hown hK hP 0 rfl rfl 10 (by decide) (hts _ flX9_39) (fun _ h9 => h9) rfl dX9_faultKind_1 ?_
  obtain rfl := Option.some.inj hf
  exact k_iret hx hb hr hlocks hK hP hD hS dX9_faultKind_4
/-! MarbleFloor$Tape.faultPlace()I -/
abbrev wlX9_faultPlace : List Cond := Cond.code yX9_faultPlace cX9_faultPlace 1 (some .int) :: tbG
abbrev rmX9_faultPlace : Room := { frames := 0, cells := 0, slots := 0, locals := 0 }
theorem qnX9_faultPlace : yX9_faultPlace.cls = RX9 ∧ yX9_faultPlace.cls ≠ "java/lang/invoke/MethodHandle" ∧ yX9_faultPlace.cls ≠ "java/lang/invoke/VarHandle" ∧ (parseMethodDescriptor yX9_faultPlace.desc).map (fun d => d.parameters.length) = some 0 := by decide +kernel
def f_X9_faultPlace  (i0 : Nat → Int32) (r0 : Nat → Nat → Int32) (l0 : Nat → Nat → Int64)  : Option (Int32) := some (i0 11)
set_option maxRecDepth 100000 in
set_option maxHeartbeats 4000000 in
theorem c_X9_faultPlace {l : Launch} {D : va_G} {cs zs : Nat → Nat} {h0 : Nat} {a0 : Nat → Nat} {i0 : Nat → Int32} {r0 : Nat → Nat → Int32} {l0 : Nat → Nat → Int64}  {q : Int32} (hf : f_X9_faultPlace i0 r0 l0 = some q) : Mi l yX9_faultPlace wlX9_faultPlace rmX9_faultPlace D cs zs [.ref h0] (W9 cs h0 a0 i0 r0 l0) q (W9 cs h0 a0 i0 r0 l0) := by
  refine Mi.of RX9 (by decide) rfl (Nat.le_of_ble_eq_true rfl) (fun p e s m below meth c A C hP hD hS ls hl => ?_)
  generalize ([.ref h0] : List Value).toArray = args at C ⊢
  obtain ⟨hx, hb, hr, hml, hown, hts, hK, hA, hlocks, hZ⟩ := id C
  have hl : lv_has ls 1 [(0, .ref h0)] := hl
  rw [f_X9_faultPlace] at hf
  refine lv_aload_n hx hb dX9_faultPlace_0 rfl (lv_at hl 0 rfl) ?_
  refine va_get (D := D) (ci := 9) (v := .int (i0 11)) (C := RX9) (T := TX9) (N := 12) hx hb hts hiX9 hown hK hP 0 rfl rfl 11 (by decide) (hts _ flX9_28) (fun _ h9 => h9) rfl dX9_faultPlace_1 ?_
  obtain rfl := Option.some.inj hf
  exact k_iret hx hb hr hlocks hK hP hD hS dX9_faultPlace_4
/-! MarbleFloor$Tape.isSmall(I)Z -/
abbrev wlX9_isSmall : List Cond := Cond.code yX9_isSmall cX9_isSmall 1 (some .boolean) :: tbG
abbrev rmX9_isSmall : Room := { frames := 0, cells := 0, slots := 0, locals := 0 }
theorem qnX9_isSmall : yX9_isSmall.cls ≠ "java/lang/invoke/MethodHandle" ∧ yX9_isSmall.cls ≠ "java/lang/invoke/VarHandle" ∧ (parseMethodDescriptor yX9_isSmall.desc).map (fun d => d.parameters.length) = some 1 := by decide +kernel
def f_X9_isSmall   (x0 : Int32) : Option (Int32) := if x0 < 97 then (some (0)) else (if 122 < x0 then (some (0)) else (some (1)))
set_option maxRecDepth 100000 in
set_option maxHeartbeats 4000000 in
theorem c_X9_isSmall {l : Launch} {D : va_G} {cs zs : Nat → Nat}   {x0 : Int32} {q : Int32} (hf : f_X9_isSmall x0 = some q) : Mi l yX9_isSmall wlX9_isSmall rmX9_isSmall D cs zs [.int x0] (([] : va_W)) q (([] : va_W)) := by
  refine Mi.of RX9 (by decide) rfl (Nat.le_of_ble_eq_true rfl) (fun p e s m below meth c A C hP hD hS ls hl => ?_)
  generalize ([.int x0] : List Value).toArray = args at C ⊢
  obtain ⟨hx, hb, hr, hml, hown, hts, hK, hA, hlocks, hZ⟩ := id C
  have hl : lv_has ls 1 [(0, .int x0)] := hl
  rw [f_X9_isSmall] at hf
  refine lv_iload_n hx hb dX9_isSmall_0 rfl (lv_at hl 0 rfl) ?_
  refine lv_bipush (v := 97) hx hb dX9_isSmall_1 (by decide) ?_
  refine lv_icmp_lt (tgt := 16) hx hb dX9_isSmall_3 (by decide) (fun hc => ?_) (fun hc => ?_)
  · have hf := ite_t hf hc
    refine lv_iconst (v := 0) hx hb dX9_isSmall_16 (by decide) ?_
    obtain rfl := Option.some.inj hf
    exact k_zret (r := 0) hx hb hr hlocks rfl hK hP hD hS dX9_isSmall_17
  · have hf := ite_f hf hc
    refine lv_iload_n hx hb dX9_isSmall_6 rfl (lv_at hl 0 rfl) ?_
    refine lv_bipush (v := 122) hx hb dX9_isSmall_7 (by decide) ?_
    refine lv_icmp_gt (tgt := 16) hx hb dX9_isSmall_9 (by decide) (fun hc => ?_) (fun hc => ?_)
    · have hf := ite_t hf hc
      refine lv_iconst (v := 0) hx hb dX9_isSmall_16 (by decide) ?_
      obtain rfl := Option.some.inj hf
      exact k_zret (r := 0) hx hb hr hlocks rfl hK hP hD hS dX9_isSmall_17
    · have hf := ite_f hf hc
      refine lv_iconst (v := 1) hx hb dX9_isSmall_12 (by decide) ?_
      refine lv_goto (tgt := 17) hx hb dX9_isSmall_13 (by decide) ?_
      obtain rfl := Option.some.inj hf
      exact k_zret (r := 1) hx hb hr hlocks rfl hK hP hD hS dX9_isSmall_17
/-! MarbleFloor$Tape.addToken(IIJ)V -/
abbrev wlX9_addToken : List Cond := Cond.code yX9_addToken cX9_addToken 6 none :: tbG
abbrev rmX9_addToken : Room := { frames := 0, cells := 0, slots := 0, locals := 0 }
theorem qnX9_addToken : yX9_addToken.cls = RX9 ∧ yX9_addToken.cls ≠ "java/lang/invoke/MethodHandle" ∧ yX9_addToken.cls ≠ "java/lang/invoke/VarHandle" ∧ (parseMethodDescriptor yX9_addToken.desc).map (fun d => d.parameters.length) = some 3 := by decide +kernel
def f_X9_addToken_90  (K54 : (Nat → Int32) → (Nat → Nat → Int64) → (Nat → Nat → Int32) → Int32 → Int64 → Int32 → Option ((Nat → Int32) × (Nat → Nat → Int64) × (Nat → Nat → Int32))) (i0 : Nat → Int32) (l0 : Nat → Nat → Int64) (r0 : Nat → Nat → Int32) (x1 : Int32) (x3 : Int64) (x5 : Int32) : Option ((Nat → Int32) × (Nat → Nat → Int64) × (Nat → Nat → Int32)) := K54 i0 l0 r0 x1 x3 (x5 + 1)
set_option maxRecDepth 100000 in
set_option maxHeartbeats 4000000 in
theorem w_X9_addToken_90 {p : Program} {l : Launch} {e : Env} {s : State} {m : MethodId} {args : Array Value} {below : List Frame} {meth : Method} {c : Code} {A : Nat → Prop} {D : va_G} {cs zs : Nat → Nat} {h0 : Nat} {a0 : Nat → Nat}  {q : (Nat → Int32) × (Nat → Nat → Int64) × (Nat → Nat → Int32)} (C : Cx p s m args meth c A D cs zs cX9_addToken 6 none RX9) (K54 : (Nat → Int32) → (Nat → Nat → Int64) → (Nat → Nat → Int32) → Int32 → Int64 → Int32 → Option ((Nat → Int32) × (Nat → Nat → Int64) × (Nat → Nat → Int32))) (hK54 : ∀ (i0 : Nat → Int32) (l0 : Nat → Nat → Int64) (r0 : Nat → Nat → Int32) (x1 : Int32) (x3 : Int64) (x5 : Int32) (H : Heap) (locs : List Loc) (ls : Array Slot), K54 i0 l0 r0 x1 x3 x5 = some q → va_P D vwCl (W9 cs h0 a0 i0 r0 l0) H → va_D A (W9 cs h0 a0 i0 r0 l0) → va_S A s.heap H locs → lv_has ls 6 [(0, .ref h0), (1, .int x1), (3, .long x3), (5, .int x5)] → W p l e rmX9_addToken s m args below meth c H locs 0 0 (MQ below (Qv D cs A (W9 cs h0 a0 q.1 q.2.2 q.2.1)) args s 0 0 A) (F0 m 54 ls [])) : ∀ (i0 : Nat → Int32) (l0 : Nat → Nat → Int64) (r0 : Nat → Nat → Int32) (x1 : Int32) (x3 : Int64) (x5 : Int32) (H : Heap) (locs : List Loc) (ls : Array Slot), f_X9_addToken_90 K54 i0 l0 r0 x1 x3 x5 = some q → va_P D vwCl (W9 cs h0 a0 i0 r0 l0) H → va_D A (W9 cs h0 a0 i0 r0 l0) → va_S A s.heap H locs → lv_has ls 6 [(0, .ref h0), (1, .int x1), (3, .long x3), (5, .int x5)] → W p l e rmX9_addToken s m args below meth c H locs 0 0 (MQ below (Qv D cs A (W9 cs h0 a0 q.1 q.2.2 q.2.1)) args s 0 0 A) (F0 m 90 ls []) := by
  obtain ⟨hx, hb, hr, hml, hown, hts, hK, hA, hlocks, hZ⟩ := id C
  intro i0 l0 r0 x1 x3 x5 H locs ls hf hP hD hS hl
  rw [f_X9_addToken_90] at hf
  refine lv_iinc (v := x5 + 1) (lv' := [(5, .int (x5 + 1)), (0, .ref h0), (1, .int x1), (3, .long x3)]) hx hb dX9_addToken_90 hl (k := 3) rfl rfl (by decide) rfl (fun ls hl => ?_)
  refine lv_goto (tgt := 54) hx hb dX9_addToken_93 (by decide) ?_
  exact hK54 _ _ _ _ _ _ _ _ _ hf hP hD hS (lv_sub hl [1, 2, 3, 0] rfl)
def f_X9_addToken_54   : Nat → (Nat → Int32) → (Nat → Nat → Int64) → (Nat → Nat → Int32) → Int32 → Int64 → Int32 → Option ((Nat → Int32) × (Nat → Nat → Int64) × (Nat → Nat → Int32))
  | 0, _, _, _, _, _, _ => none
  | n + 1, i0, l0, r0, x1, x3, x5 => if 19 ≤ x5 then (some ((upd i0 6 ((i0 6) + 1)), l0, r0)) else (if x1 = 1 then (ck (inb x5 19) (if (lg_cmp (zWords.getD x5.toNatClampNeg 0) x3) = 0 then (ck (inb (i0 6) 901) (f_X9_addToken_90 (f_X9_addToken_54 n) i0 l0 (va_up r0 2 (upd (r0 2) (i0 6).toNatClampNeg x5)) x1 x3 x5)) else (f_X9_addToken_90 (f_X9_addToken_54 n) i0 l0 r0 x1 x3 x5))) else (some ((upd i0 6 ((i0 6) + 1)), l0, r0)))
set_option maxRecDepth 100000 in
set_option maxHeartbeats 4000000 in
theorem w_X9_addToken_54 {p : Program} {l : Launch} {e : Env} {s : State} {m : MethodId} {args : Array Value} {below : List Frame} {meth : Method} {c : Code} {A : Nat → Prop} {D : va_G} {cs zs : Nat → Nat} {h0 : Nat} {a0 : Nat → Nat}  {q : (Nat → Int32) × (Nat → Nat → Int64) × (Nat → Nat → Int32)} (C : Cx p s m args meth c A D cs zs cX9_addToken 6 none RX9)  : ∀ (n : Nat), ∀ (i0 : Nat → Int32) (l0 : Nat → Nat → Int64) (r0 : Nat → Nat → Int32) (x1 : Int32) (x3 : Int64) (x5 : Int32) (H : Heap) (locs : List Loc) (ls : Array Slot), f_X9_addToken_54 n i0 l0 r0 x1 x3 x5 = some q → va_P D vwCl (W9 cs h0 a0 i0 r0 l0) H → va_D A (W9 cs h0 a0 i0 r0 l0) → va_S A s.heap H locs → lv_has ls 6 [(0, .ref h0), (1, .int x1), (3, .long x3), (5, .int x5)] → W p l e rmX9_addToken s m args below meth c H locs 0 0 (MQ below (Qv D cs A (W9 cs h0 a0 q.1 q.2.2 q.2.1)) args s 0 0 A) (F0 m 54 ls []) := by
  obtain ⟨hx, hb, hr, hml, hown, hts, hK, hA, hlocks, hZ⟩ := id C
  intro n
  induction n with
  | zero =>
    intro i0 l0 r0 x1 x3 x5 H locs ls hf
    rw [f_X9_addToken_54] at hf
    cases hf
  | succ n ih =>
    intro i0 l0 r0 x1 x3 x5 H locs ls hf hP hD hS hl
    rw [f_X9_addToken_54] at hf
    refine lv_iload hx hb dX9_addToken_54 (lv_at hl 3 rfl) ?_
    refine va_gets hx hb hZ.2.2.1 hS hown (hts _ flX9_82) (fun _ h9 => h9) dX9_addToken_56 ?_
    refine va_tlen (v := 19) hx hb hZ.2.2.2.1 hS rfl dX9_addToken_59 ?_
    refine lv_icmp_ge (tgt := 96) hx hb dX9_addToken_60 (by decide) (fun hc => ?_) (fun hc => ?_)
    · have hf := ite_t hf hc
      refine lv_aload_n hx hb dX9_addToken_96 rfl (lv_at hl 0 rfl) ?_
      refine lv_dup hx hb dX9_addToken_97 rfl ?_
      refine va_get (D := D) (ci := 9) (v := .int (i0 6)) (C := RX9) (T := TX9) (N := 12) hx hb hts hiX9 hown hK hP 0 rfl rfl 6 (by decide) (hts _ flX9_54) (fun _ h9 => h9) rfl dX9_addToken_98 ?_
      refine lv_iconst (v := 1) hx hb dX9_addToken_101 (by decide) ?_
      refine lv_iadd hx hb dX9_addToken_102 ?_
      refine va_put (D := D) (ci := 9) (v := .int ((i0 6) + 1)) (ty := .int) (C := RX9) (T := TX9) (N := 12) hx hb hts hiX9 tyX9 tyX9_ok nmX9 hown hK hP hD hS 0 rfl rfl 6 (by decide) (hts _ flX9_54) (fun _ h9 => h9) rfl (tyX9_ok 6 (by decide)) rfl rfl (Nat.le_of_ble_eq_true rfl) dX9_addToken_103 (fun H locs hP hD hS => ?_)
      obtain ⟨hP, hD⟩ := st9_6 hP hD
      obtain rfl := Option.some.inj hf
      exact k_vret hx hb hr hlocks hK hP hD hS dX9_addToken_106
    · have hf := ite_f hf hc
      refine lv_iload_n hx hb dX9_addToken_63 rfl (lv_at hl 1 rfl) ?_
      refine lv_iconst (v := 1) hx hb dX9_addToken_64 (by decide) ?_
      refine lv_icmp_ne (tgt := 96) hx hb dX9_addToken_65 (by decide) (fun hc => ?_) (fun hc => ?_)
      · have hf := ite_f hf hc
        refine lv_aload_n hx hb dX9_addToken_96 rfl (lv_at hl 0 rfl) ?_
        refine lv_dup hx hb dX9_addToken_97 rfl ?_
        refine va_get (D := D) (ci := 9) (v := .int (i0 6)) (C := RX9) (T := TX9) (N := 12) hx hb hts hiX9 hown hK hP 0 rfl rfl 6 (by decide) (hts _ flX9_54) (fun _ h9 => h9) rfl dX9_addToken_98 ?_
        refine lv_iconst (v := 1) hx hb dX9_addToken_101 (by decide) ?_
        refine lv_iadd hx hb dX9_addToken_102 ?_
        refine va_put (D := D) (ci := 9) (v := .int ((i0 6) + 1)) (ty := .int) (C := RX9) (T := TX9) (N := 12) hx hb hts hiX9 tyX9 tyX9_ok nmX9 hown hK hP hD hS 0 rfl rfl 6 (by decide) (hts _ flX9_54) (fun _ h9 => h9) rfl (tyX9_ok 6 (by decide)) rfl rfl (Nat.le_of_ble_eq_true rfl) dX9_addToken_103 (fun H locs hP hD hS => ?_)
        obtain ⟨hP, hD⟩ := st9_6 hP hD
        obtain rfl := Option.some.inj hf
        exact k_vret hx hb hr hlocks hK hP hD hS dX9_addToken_106
      · have hf := ite_t hf hc
        refine va_gets hx hb hZ.2.2.1 hS hown (hts _ flX9_82) (fun _ h9 => h9) dX9_addToken_68 ?_
        refine lv_iload hx hb dX9_addToken_71 (lv_at hl 3 rfl) ?_
        refine va_tl hx hb hZ.2.2.2.1 hS (ck_in hf) rfl dX9_addToken_73 ?_
        have hf := ck_2 hf
        refine lv_lload_n hx hb dX9_addToken_74 rfl (lv_at hl 2 rfl) ?_
        refine W.lcmp hx hb dX9_addToken_75 ?_
        refine lv_if_ne (tgt := 90) hx hb dX9_addToken_76 (by decide) (fun hc => ?_) (fun hc => ?_)
        · have hf := ite_f hf hc
          exact w_X9_addToken_90 C _ (ih) _ _ _ _ _ _ _ _ _ hf hP hD hS (lv_sub hl [0, 1, 2, 3] rfl)
        · have hf := ite_t hf hc
          refine lv_aload_n hx hb dX9_addToken_79 rfl (lv_at hl 0 rfl) ?_
          refine va_get (D := D) (ci := 9) (v := .ref (a0 2)) (C := RX9) (T := TX9) (N := 12) hx hb hts hiX9 hown hK hP 0 rfl rfl 2 (by decide) (hts _ flX9_18) (fun _ h9 => h9) rfl dX9_addToken_80 ?_
          refine lv_aload_n hx hb dX9_addToken_83 rfl (lv_at hl 0 rfl) ?_
          refine va_get (D := D) (ci := 9) (v := .int (i0 6)) (C := RX9) (T := TX9) (N := 12) hx hb hts hiX9 hown hK hP 0 rfl rfl 6 (by decide) (hts _ flX9_54) (fun _ h9 => h9) rfl dX9_addToken_84 ?_
          refine lv_iload hx hb dX9_addToken_87 (lv_at hl 3 rfl) ?_
          refine va_iast (f := r0 2) hx hb hK hP hD hS 3 0 rfl rfl (ck_in hf) dX9_addToken_89 (fun H locs hP hD hS => ?_)
          have hf := ck_2 hf
          obtain ⟨hP, hD⟩ := st9_2 hP hD
          exact w_X9_addToken_90 C _ (ih) _ _ _ _ _ _ _ _ _ hf hP hD hS (lv_sub hl [0, 1, 2, 3] rfl)
def f_X9_addToken_51   (i0 : Nat → Int32) (l0 : Nat → Nat → Int64) (r0 : Nat → Nat → Int32) (x1 : Int32) (x3 : Int64) : Option ((Nat → Int32) × (Nat → Nat → Int64) × (Nat → Nat → Int32)) := f_X9_addToken_54 2000000 i0 l0 r0 x1 x3 0
set_option maxRecDepth 100000 in
set_option maxHeartbeats 4000000 in
theorem w_X9_addToken_51 {p : Program} {l : Launch} {e : Env} {s : State} {m : MethodId} {args : Array Value} {below : List Frame} {meth : Method} {c : Code} {A : Nat → Prop} {D : va_G} {cs zs : Nat → Nat} {h0 : Nat} {a0 : Nat → Nat}  {q : (Nat → Int32) × (Nat → Nat → Int64) × (Nat → Nat → Int32)} (C : Cx p s m args meth c A D cs zs cX9_addToken 6 none RX9)  : ∀ (i0 : Nat → Int32) (l0 : Nat → Nat → Int64) (r0 : Nat → Nat → Int32) (x1 : Int32) (x3 : Int64) (H : Heap) (locs : List Loc) (ls : Array Slot), f_X9_addToken_51 i0 l0 r0 x1 x3 = some q → va_P D vwCl (W9 cs h0 a0 i0 r0 l0) H → va_D A (W9 cs h0 a0 i0 r0 l0) → va_S A s.heap H locs → lv_has ls 6 [(0, .ref h0), (1, .int x1), (3, .long x3)] → W p l e rmX9_addToken s m args below meth c H locs 0 0 (MQ below (Qv D cs A (W9 cs h0 a0 q.1 q.2.2 q.2.1)) args s 0 0 A) (F0 m 51 ls []) := by
  obtain ⟨hx, hb, hr, hml, hown, hts, hK, hA, hlocks, hZ⟩ := id C
  intro i0 l0 r0 x1 x3 H locs ls hf hP hD hS hl
  rw [f_X9_addToken_51] at hf
  refine lv_iconst (v := 0) hx hb dX9_addToken_51 (by decide) ?_
  refine lv_istore (lv' := [(5, .int 0), (0, .ref h0), (1, .int x1), (3, .long x3)]) hx hb dX9_addToken_52 hl (by decide) rfl (fun ls hl => ?_)
  exact w_X9_addToken_54 C  2000000 _ _ _ _ _ _ _ _ _ hf hP hD hS (lv_sub hl [1, 2, 3, 0] rfl)
def f_X9_addToken_31   (i0 : Nat → Int32) (l0 : Nat → Nat → Int64) (r0 : Nat → Nat → Int32) (x1 : Int32) (x2 : Int32) (x3 : Int64) : Option ((Nat → Int32) × (Nat → Nat → Int64) × (Nat → Nat → Int32)) := ck (inb (i0 6) 901) (ck (inb (i0 6) 901) (f_X9_addToken_51 i0 (va_up l0 4 (vp_updL (l0 4) (i0 6).toNatClampNeg x3)) (va_up r0 3 (upd (r0 3) (i0 6).toNatClampNeg x2)) x1 x3))
set_option maxRecDepth 100000 in
set_option maxHeartbeats 4000000 in
theorem w_X9_addToken_31 {p : Program} {l : Launch} {e : Env} {s : State} {m : MethodId} {args : Array Value} {below : List Frame} {meth : Method} {c : Code} {A : Nat → Prop} {D : va_G} {cs zs : Nat → Nat} {h0 : Nat} {a0 : Nat → Nat}  {q : (Nat → Int32) × (Nat → Nat → Int64) × (Nat → Nat → Int32)} (C : Cx p s m args meth c A D cs zs cX9_addToken 6 none RX9)  : ∀ (i0 : Nat → Int32) (l0 : Nat → Nat → Int64) (r0 : Nat → Nat → Int32) (x1 : Int32) (x2 : Int32) (x3 : Int64) (H : Heap) (locs : List Loc) (ls : Array Slot), f_X9_addToken_31 i0 l0 r0 x1 x2 x3 = some q → va_P D vwCl (W9 cs h0 a0 i0 r0 l0) H → va_D A (W9 cs h0 a0 i0 r0 l0) → va_S A s.heap H locs → lv_has ls 6 [(0, .ref h0), (1, .int x1), (2, .int x2), (3, .long x3)] → W p l e rmX9_addToken s m args below meth c H locs 0 0 (MQ below (Qv D cs A (W9 cs h0 a0 q.1 q.2.2 q.2.1)) args s 0 0 A) (F0 m 31 ls []) := by
  obtain ⟨hx, hb, hr, hml, hown, hts, hK, hA, hlocks, hZ⟩ := id C
  intro i0 l0 r0 x1 x2 x3 H locs ls hf hP hD hS hl
  rw [f_X9_addToken_31] at hf
  refine lv_aload_n hx hb dX9_addToken_31 rfl (lv_at hl 0 rfl) ?_
  refine va_get (D := D) (ci := 9) (v := .ref (a0 3)) (C := RX9) (T := TX9) (N := 12) hx hb hts hiX9 hown hK hP 0 rfl rfl 3 (by decide) (hts _ flX9_21) (fun _ h9 => h9) rfl dX9_addToken_32 ?_
  refine lv_aload_n hx hb dX9_addToken_35 rfl (lv_at hl 0 rfl) ?_
  refine va_get (D := D) (ci := 9) (v := .int (i0 6)) (C := RX9) (T := TX9) (N := 12) hx hb hts hiX9 hown hK hP 0 rfl rfl 6 (by decide) (hts _ flX9_54) (fun _ h9 => h9) rfl dX9_addToken_36 ?_
  refine lv_iload_n hx hb dX9_addToken_39 rfl (lv_at hl 2 rfl) ?_
  refine va_iast (f := r0 3) hx hb hK hP hD hS 4 0 rfl rfl (ck_in hf) dX9_addToken_40 (fun H locs hP hD hS => ?_)
  have hf := ck_2 hf
  obtain ⟨hP, hD⟩ := st9_3 hP hD
  refine lv_aload_n hx hb dX9_addToken_41 rfl (lv_at hl 0 rfl) ?_
  refine va_get (D := D) (ci := 9) (v := .ref (a0 4)) (C := RX9) (T := TX9) (N := 12) hx hb hts hiX9 hown hK hP 0 rfl rfl 4 (by decide) (hts _ flX9_24) (fun _ h9 => h9) rfl dX9_addToken_42 ?_
  refine lv_aload_n hx hb dX9_addToken_45 rfl (lv_at hl 0 rfl) ?_
  refine va_get (D := D) (ci := 9) (v := .int (i0 6)) (C := RX9) (T := TX9) (N := 12) hx hb hts hiX9 hown hK hP 0 rfl rfl 6 (by decide) (hts _ flX9_54) (fun _ h9 => h9) rfl dX9_addToken_46 ?_
  refine lv_lload_n hx hb dX9_addToken_49 rfl (lv_at hl 3 rfl) ?_
  refine va_last (f := l0 4) hx hb hK hP hD hS 5 1 rfl rfl (ck_in hf) dX9_addToken_50 (fun H locs hP hD hS => ?_)
  have hf := ck_2 hf
  obtain ⟨hP, hD⟩ := st9_4 hP hD
  exact w_X9_addToken_51 C  _ _ _ _ _ _ _ _ hf hP hD hS (lv_sub hl [0, 1, 3] rfl)
def f_X9_addToken  (i0 : Nat → Int32) (r0 : Nat → Nat → Int32) (l0 : Nat → Nat → Int64) (x1 : Int32) (x2 : Int32) (x3 : Int64) : Option ((Nat → Int32) × (Nat → Nat → Int64) × (Nat → Nat → Int32)) := if (i0 6) < 901 then (ck (inb (i0 6) 901) (ck (inb (i0 6) 901) (f_X9_addToken_31 i0 l0 (va_up (va_up r0 1 (upd (r0 1) (i0 6).toNatClampNeg x1)) 2 (upd (r0 2) (i0 6).toNatClampNeg (-1))) x1 x2 x3))) else (some (i0, l0, r0))
set_option maxRecDepth 100000 in
set_option maxHeartbeats 4000000 in
theorem c_X9_addToken {l : Launch} {D : va_G} {cs zs : Nat → Nat} {h0 : Nat} {a0 : Nat → Nat} {i0 : Nat → Int32} {r0 : Nat → Nat → Int32} {l0 : Nat → Nat → Int64} {x1 : Int32} {x2 : Int32} {x3 : Int64} {q : (Nat → Int32) × (Nat → Nat → Int64) × (Nat → Nat → Int32)} (hf : f_X9_addToken i0 r0 l0 x1 x2 x3 = some q) : Mv l yX9_addToken wlX9_addToken rmX9_addToken D cs zs [.ref h0, .int x1, .int x2, .long x3] (W9 cs h0 a0 i0 r0 l0) (W9 cs h0 a0 q.1 q.2.2 q.2.1) := by
  refine Mv.of RX9 (by decide) rfl (Nat.le_of_ble_eq_true rfl) (fun p e s m below meth c A C hP hD hS ls hl => ?_)
  generalize ([.ref h0, .int x1, .int x2, .long x3] : List Value).toArray = args at C ⊢
  obtain ⟨hx, hb, hr, hml, hown, hts, hK, hA, hlocks, hZ⟩ := id C
  have hl : lv_has ls 6 [(0, .ref h0), (1, .int x1), (2, .int x2), (3, .long x3)] := hl
  rw [f_X9_addToken] at hf
  refine lv_aload_n hx hb dX9_addToken_0 rfl (lv_at hl 0 rfl) ?_
  refine va_get (D := D) (ci := 9) (v := .int (i0 6)) (C := RX9) (T := TX9) (N := 12) hx hb hts hiX9 hown hK hP 0 rfl rfl 6 (by decide) (hts _ flX9_54) (fun _ h9 => h9) rfl dX9_addToken_1 ?_
  refine lv_sipush (v := 901) hx hb dX9_addToken_4 (by decide) ?_
  refine lv_icmp_lt (tgt := 11) hx hb dX9_addToken_7 (by decide) (fun hc => ?_) (fun hc => ?_)
  · have hf := ite_t hf hc
    refine lv_aload_n hx hb dX9_addToken_11 rfl (lv_at hl 0 rfl) ?_
    refine va_get (D := D) (ci := 9) (v := .ref (a0 1)) (C := RX9) (T := TX9) (N := 12) hx hb hts hiX9 hown hK hP 0 rfl rfl 1 (by decide) (hts _ flX9_15) (fun _ h9 => h9) rfl dX9_addToken_12 ?_
    refine lv_aload_n hx hb dX9_addToken_15 rfl (lv_at hl 0 rfl) ?_
    refine va_get (D := D) (ci := 9) (v := .int (i0 6)) (C := RX9) (T := TX9) (N := 12) hx hb hts hiX9 hown hK hP 0 rfl rfl 6 (by decide) (hts _ flX9_54) (fun _ h9 => h9) rfl dX9_addToken_16 ?_
    refine lv_iload_n hx hb dX9_addToken_19 rfl (lv_at hl 1 rfl) ?_
    refine va_iast (f := r0 1) hx hb hK hP hD hS 2 0 rfl rfl (ck_in hf) dX9_addToken_20 (fun H locs hP hD hS => ?_)
    have hf := ck_2 hf
    obtain ⟨hP, hD⟩ := st9_1 hP hD
    refine lv_aload_n hx hb dX9_addToken_21 rfl (lv_at hl 0 rfl) ?_
    refine va_get (D := D) (ci := 9) (v := .ref (a0 2)) (C := RX9) (T := TX9) (N := 12) hx hb hts hiX9 hown hK hP 0 rfl rfl 2 (by decide) (hts _ flX9_18) (fun _ h9 => h9) rfl dX9_addToken_22 ?_
    refine lv_aload_n hx hb dX9_addToken_25 rfl (lv_at hl 0 rfl) ?_
    refine va_get (D := D) (ci := 9) (v := .int (i0 6)) (C := RX9) (T := TX9) (N := 12) hx hb hts hiX9 hown hK hP 0 rfl rfl 6 (by decide) (hts _ flX9_54) (fun _ h9 => h9) rfl dX9_addToken_26 ?_
    refine lv_iconst (v := (-1)) hx hb dX9_addToken_29 (by decide) ?_
    refine va_iast (f := r0 2) hx hb hK hP hD hS 3 0 rfl rfl (ck_in hf) dX9_addToken_30 (fun H locs hP hD hS => ?_)
    have hf := ck_2 hf
    obtain ⟨hP, hD⟩ := st9_2 hP hD
    exact w_X9_addToken_31 C  _ _ _ _ _ _ _ _ _ hf hP hD hS (lv_sub hl [0, 1, 2, 3] rfl)
  · have hf := ite_f hf hc
    obtain rfl := Option.some.inj hf
    exact k_vret hx hb hr hlocks hK hP hD hS dX9_addToken_10
/-! MarbleFloor$Tape.scanWord(I)I -/
abbrev wlX9_scanWord : List Cond := Cond.code yX9_scanWord cX9_scanWord 5 (some .int) :: tbG
abbrev rmX9_scanWord : Room := { frames := 1, cells := 0, slots := 0, locals := 25 }
theorem qnX9_scanWord : yX9_scanWord.cls = RX9 ∧ yX9_scanWord.cls ≠ "java/lang/invoke/MethodHandle" ∧ yX9_scanWord.cls ≠ "java/lang/invoke/VarHandle" ∧ (parseMethodDescriptor yX9_scanWord.desc).map (fun d => d.parameters.length) = some 1 := by decide +kernel
def f_X9_scanWord_62   (i0 : Nat → Int32) (l0 : Nat → Nat → Int64) (r0 : Nat → Nat → Int32) (x1 : Int32) (x2 : Int64) (x4 : Int32) (y0 : Int32) : Option (Int32 × (Nat → Int32) × (Nat → Nat → Int64) × (Nat → Nat → Int32)) := bd (f_X9_addToken i0 r0 l0 y0 x1 x2) (fun q3 => some (x4, q3.1, q3.2.1, q3.2.2))
set_option maxRecDepth 100000 in
set_option maxHeartbeats 4000000 in
theorem w_X9_scanWord_62 {p : Program} {l : Launch} {e : Env} {s : State} {m : MethodId} {args : Array Value} {below : List Frame} {meth : Method} {c : Code} {A : Nat → Prop} {D : va_G} {cs zs : Nat → Nat} {h0 : Nat} {a0 : Nat → Nat}  {q : Int32 × (Nat → Int32) × (Nat → Nat → Int64) × (Nat → Nat → Int32)} (C : Cx p s m args meth c A D cs zs cX9_scanWord 5 (some .int) RX9)  : ∀ (i0 : Nat → Int32) (l0 : Nat → Nat → Int64) (r0 : Nat → Nat → Int32) (x1 : Int32) (x2 : Int64) (x4 : Int32) (y0 : Int32) (H : Heap) (locs : List Loc) (ls : Array Slot), f_X9_scanWord_62 i0 l0 r0 x1 x2 x4 y0 = some q → va_P D vwCl (W9 cs h0 a0 i0 r0 l0) H → va_D A (W9 cs h0 a0 i0 r0 l0) → va_S A s.heap H locs → lv_has ls 5 [(1, .int x1), (2, .long x2), (4, .int x4)] → W p l e rmX9_scanWord s m args below meth c H locs 0 0 (MQ below (Qi D cs A q.1 (W9 cs h0 a0 q.2.1 q.2.2.2 q.2.2.1)) args s 0 0 A) (F0 m 62 ls [.int y0, .ref h0]) := by
  obtain ⟨hx, hb, hr, hml, hown, hts, hK, hA, hlocks, hZ⟩ := id C
  intro i0 l0 r0 x1 x2 x4 y0 H locs ls hf hP hD hS hl
  rw [f_X9_scanWord_62] at hf
  refine lv_iload_n hx hb dX9_scanWord_62 rfl (lv_at hl 0 rfl) ?_
  refine lv_lload_n hx hb dX9_scanWord_63 rfl (lv_at hl 1 rfl) ?_
  obtain ⟨q3, hq3, hf⟩ := bd_s hf
  refine k_sVv (ws2 := W9 cs h0 a0 q3.1 q3.2.2 q3.2.1) (As := [.int y0, .int x1, .long x2]) (rest := []) hx hb hml hown hts hK hA hZ hl.1 hP hD hS (c_X9_addToken (h0 := h0) (a0 := a0) hq3) (gVt mlX9_74 imX9_addToken seX9_addToken inX9 coX9_addToken) rfl qnX9_addToken rfl rfl ⟨Nat.le_of_ble_eq_true rfl, Nat.le_of_ble_eq_true rfl⟩ 0 9 rfl rfl rfl rfl rfl (Nat.le_of_ble_eq_true rfl) ⟨Nat.zero_le _, Nat.zero_le _⟩ dX9_scanWord_64 (fun H locs hP hD hS => ?_)
  refine lv_iload hx hb dX9_scanWord_67 (lv_at hl 2 rfl) ?_
  obtain rfl := Option.some.inj hf
  exact k_iret hx hb hr hlocks hK hP hD hS dX9_scanWord_69
def f_X9_scanWord_47   (i0 : Nat → Int32) (l0 : Nat → Nat → Int64) (r0 : Nat → Nat → Int32) (x1 : Int32) (x2 : Int64) (x4 : Int32) : Option (Int32 × (Nat → Int32) × (Nat → Nat → Int64) × (Nat → Nat → Int32)) := if (x4 - x1) ≤ 8 then (f_X9_scanWord_62 i0 l0 r0 x1 x2 x4 1) else (f_X9_scanWord_62 i0 l0 r0 x1 x2 x4 3)
set_option maxRecDepth 100000 in
set_option maxHeartbeats 4000000 in
theorem w_X9_scanWord_47 {p : Program} {l : Launch} {e : Env} {s : State} {m : MethodId} {args : Array Value} {below : List Frame} {meth : Method} {c : Code} {A : Nat → Prop} {D : va_G} {cs zs : Nat → Nat} {h0 : Nat} {a0 : Nat → Nat}  {q : Int32 × (Nat → Int32) × (Nat → Nat → Int64) × (Nat → Nat → Int32)} (C : Cx p s m args meth c A D cs zs cX9_scanWord 5 (some .int) RX9)  : ∀ (i0 : Nat → Int32) (l0 : Nat → Nat → Int64) (r0 : Nat → Nat → Int32) (x1 : Int32) (x2 : Int64) (x4 : Int32) (H : Heap) (locs : List Loc) (ls : Array Slot), f_X9_scanWord_47 i0 l0 r0 x1 x2 x4 = some q → va_P D vwCl (W9 cs h0 a0 i0 r0 l0) H → va_D A (W9 cs h0 a0 i0 r0 l0) → va_S A s.heap H locs → lv_has ls 5 [(0, .ref h0), (1, .int x1), (2, .long x2), (4, .int x4)] → W p l e rmX9_scanWord s m args below meth c H locs 0 0 (MQ below (Qi D cs A q.1 (W9 cs h0 a0 q.2.1 q.2.2.2 q.2.2.1)) args s 0 0 A) (F0 m 47 ls []) := by
  obtain ⟨hx, hb, hr, hml, hown, hts, hK, hA, hlocks, hZ⟩ := id C
  intro i0 l0 r0 x1 x2 x4 H locs ls hf hP hD hS hl
  rw [f_X9_scanWord_47] at hf
  refine lv_aload_n hx hb dX9_scanWord_47 rfl (lv_at hl 0 rfl) ?_
  refine lv_iload hx hb dX9_scanWord_48 (lv_at hl 3 rfl) ?_
  refine lv_iload_n hx hb dX9_scanWord_50 rfl (lv_at hl 1 rfl) ?_
  refine lv_isub hx hb dX9_scanWord_51 ?_
  refine lv_bipush (v := 8) hx hb dX9_scanWord_52 (by decide) ?_
  refine lv_icmp_le (tgt := 61) hx hb dX9_scanWord_54 (by decide) (fun hc => ?_) (fun hc => ?_)
  · have hf := ite_t hf hc
    refine lv_iconst (v := 1) hx hb dX9_scanWord_61 (by decide) ?_
    exact w_X9_scanWord_62 C  _ _ _ _ _ _ _ _ _ _ hf hP hD hS (lv_sub hl [1, 2, 3] rfl)
  · have hf := ite_f hf hc
    refine lv_iconst (v := 3) hx hb dX9_scanWord_57 (by decide) ?_
    refine lv_goto (tgt := 62) hx hb dX9_scanWord_58 (by decide) ?_
    exact w_X9_scanWord_62 C  _ _ _ _ _ _ _ _ _ _ hf hP hD hS (lv_sub hl [1, 2, 3] rfl)
def f_X9_scanWord_5   : Nat → (Nat → Int32) → (Nat → Nat → Int64) → (Nat → Nat → Int32) → Int32 → Int64 → Int32 → Option (Int32 × (Nat → Int32) × (Nat → Nat → Int64) × (Nat → Nat → Int32))
  | 0, _, _, _, _, _, _ => none
  | n + 1, i0, l0, r0, x1, x2, x4 => if (i0 5) ≤ x4 then (f_X9_scanWord_47 i0 l0 r0 x1 x2 x4) else (ck (inb x4 900) (bd (f_X9_isSmall (r0 0 x4.toNatClampNeg)) (fun q4 => if q4 = 0 then (f_X9_scanWord_47 i0 l0 r0 x1 x2 x4) else (ck (inb x4 900) (f_X9_scanWord_5 n i0 l0 r0 x1 ((x2 <<< ((8 : Int32).toInt64 &&& 63)) ||| ((r0 0 x4.toNatClampNeg).toInt64)) (x4 + 1))))))
set_option maxRecDepth 100000 in
set_option maxHeartbeats 4000000 in
theorem w_X9_scanWord_5 {p : Program} {l : Launch} {e : Env} {s : State} {m : MethodId} {args : Array Value} {below : List Frame} {meth : Method} {c : Code} {A : Nat → Prop} {D : va_G} {cs zs : Nat → Nat} {h0 : Nat} {a0 : Nat → Nat}  {q : Int32 × (Nat → Int32) × (Nat → Nat → Int64) × (Nat → Nat → Int32)} (C : Cx p s m args meth c A D cs zs cX9_scanWord 5 (some .int) RX9)  : ∀ (n : Nat), ∀ (i0 : Nat → Int32) (l0 : Nat → Nat → Int64) (r0 : Nat → Nat → Int32) (x1 : Int32) (x2 : Int64) (x4 : Int32) (H : Heap) (locs : List Loc) (ls : Array Slot), f_X9_scanWord_5 n i0 l0 r0 x1 x2 x4 = some q → va_P D vwCl (W9 cs h0 a0 i0 r0 l0) H → va_D A (W9 cs h0 a0 i0 r0 l0) → va_S A s.heap H locs → lv_has ls 5 [(0, .ref h0), (1, .int x1), (2, .long x2), (4, .int x4)] → W p l e rmX9_scanWord s m args below meth c H locs 0 0 (MQ below (Qi D cs A q.1 (W9 cs h0 a0 q.2.1 q.2.2.2 q.2.2.1)) args s 0 0 A) (F0 m 5 ls []) := by
  obtain ⟨hx, hb, hr, hml, hown, hts, hK, hA, hlocks, hZ⟩ := id C
  intro n
  induction n with
  | zero =>
    intro i0 l0 r0 x1 x2 x4 H locs ls hf
    rw [f_X9_scanWord_5] at hf
    cases hf
  | succ n ih =>
    intro i0 l0 r0 x1 x2 x4 H locs ls hf hP hD hS hl
    rw [f_X9_scanWord_5] at hf
    refine lv_iload hx hb dX9_scanWord_5 (lv_at hl 3 rfl) ?_
    refine lv_aload_n hx hb dX9_scanWord_7 rfl (lv_at hl 0 rfl) ?_
    refine va_get (D := D) (ci := 9) (v := .int (i0 5)) (C := RX9) (T := TX9) (N := 12) hx hb hts hiX9 hown hK hP 0 rfl rfl 5 (by decide) (hts _ flX9_32) (fun _ h9 => h9) rfl dX9_scanWord_8 ?_
    refine lv_icmp_ge (tgt := 47) hx hb dX9_scanWord_11 (by decide) (fun hc => ?_) (fun hc => ?_)
    · have hf := ite_t hf hc
      exact w_X9_scanWord_47 C  _ _ _ _ _ _ _ _ _ hf hP hD hS (lv_sub hl [0, 1, 2, 3] rfl)
    · have hf := ite_f hf hc
      refine lv_aload_n hx hb dX9_scanWord_14 rfl (lv_at hl 0 rfl) ?_
      refine va_get (D := D) (ci := 9) (v := .ref (a0 0)) (C := RX9) (T := TX9) (N := 12) hx hb hts hiX9 hown hK hP 0 rfl rfl 0 (by decide) (hts _ flX9_11) (fun _ h9 => h9) rfl dX9_scanWord_15 ?_
      refine lv_iload hx hb dX9_scanWord_18 (lv_at hl 3 rfl) ?_
      refine va_iald (f := r0 0) hx hb hK hP 1 0 rfl rfl (ck_in hf) dX9_scanWord_20 ?_
      have hf := ck_2 hf
      obtain ⟨q4, hq4, hf⟩ := bd_s hf
      refine k_eSi (As := [.int (r0 0 x4.toNatClampNeg)]) (rest := []) hx hb hml hown hts hK hA hZ hl.1 hP hD hS (c_X9_isSmall  hq4) (gSt mlX9_57 stX9_isSmall inX9 coX9_isSmall) rfl qnX9_isSmall rfl rfl ⟨Nat.le_of_ble_eq_true rfl, Nat.le_of_ble_eq_true rfl⟩ rfl rfl (Nat.le_of_ble_eq_true rfl) ⟨Nat.zero_le _, Nat.zero_le _⟩ dX9_scanWord_21 (fun H locs hP hD hS => ?_)
      refine lv_if_eq (tgt := 47) hx hb dX9_scanWord_24 (by decide) (fun hc => ?_) (fun hc => ?_)
      · have hf := ite_t hf hc
        exact w_X9_scanWord_47 C  _ _ _ _ _ _ _ _ _ hf hP hD hS (lv_sub hl [0, 1, 2, 3] rfl)
      · have hf := ite_f hf hc
        refine lv_lload_n hx hb dX9_scanWord_27 rfl (lv_at hl 2 rfl) ?_
        refine lv_bipush (v := 8) hx hb dX9_scanWord_28 (by decide) ?_
        refine lv_lshl hx hb dX9_scanWord_30 rfl ?_
        refine lv_aload_n hx hb dX9_scanWord_31 rfl (lv_at hl 0 rfl) ?_
        refine va_get (D := D) (ci := 9) (v := .ref (a0 0)) (C := RX9) (T := TX9) (N := 12) hx hb hts hiX9 hown hK hP 0 rfl rfl 0 (by decide) (hts _ flX9_11) (fun _ h9 => h9) rfl dX9_scanWord_32 ?_
        refine lv_iload hx hb dX9_scanWord_35 (lv_at hl 3 rfl) ?_
        refine va_iald (f := r0 0) hx hb hK hP 1 0 rfl rfl (ck_in hf) dX9_scanWord_37 ?_
        have hf := ck_2 hf
        refine lv_i2l hx hb dX9_scanWord_38 rfl ?_
        refine lv_lor hx hb dX9_scanWord_39 ?_
        refine lv_lstore_n (lv' := [(2, .long ((x2 <<< ((8 : Int32).toInt64 &&& 63)) ||| ((r0 0 x4.toNatClampNeg).toInt64))), (0, .ref h0), (1, .int x1), (4, .int x4)]) hx hb dX9_scanWord_40 rfl hl (by decide) rfl (fun ls hl => ?_)
        refine lv_iinc (v := x4 + 1) (lv' := [(4, .int (x4 + 1)), (2, .long ((x2 <<< ((8 : Int32).toInt64 &&& 63)) ||| ((r0 0 x4.toNatClampNeg).toInt64))), (0, .ref h0), (1, .int x1)]) hx hb dX9_scanWord_41 hl (k := 3) rfl rfl (by decide) rfl (fun ls hl => ?_)
        refine lv_goto (tgt := 5) hx hb dX9_scanWord_44 (by decide) ?_
        exact ih _ _ _ _ _ _ _ _ _ hf hP hD hS (lv_sub hl [2, 3, 1, 0] rfl)
def f_X9_scanWord  (i0 : Nat → Int32) (r0 : Nat → Nat → Int32) (l0 : Nat → Nat → Int64) (x1 : Int32) : Option (Int32 × (Nat → Int32) × (Nat → Nat → Int64) × (Nat → Nat → Int32)) := f_X9_scanWord_5 2000000 i0 l0 r0 x1 0 x1
set_option maxRecDepth 100000 in
set_option maxHeartbeats 4000000 in
theorem c_X9_scanWord {l : Launch} {D : va_G} {cs zs : Nat → Nat} {h0 : Nat} {a0 : Nat → Nat} {i0 : Nat → Int32} {r0 : Nat → Nat → Int32} {l0 : Nat → Nat → Int64} {x1 : Int32} {q : Int32 × (Nat → Int32) × (Nat → Nat → Int64) × (Nat → Nat → Int32)} (hf : f_X9_scanWord i0 r0 l0 x1 = some q) : Mi l yX9_scanWord wlX9_scanWord rmX9_scanWord D cs zs [.ref h0, .int x1] (W9 cs h0 a0 i0 r0 l0) q.1 (W9 cs h0 a0 q.2.1 q.2.2.2 q.2.2.1) := by
  refine Mi.of RX9 (by decide) rfl (Nat.le_of_ble_eq_true rfl) (fun p e s m below meth c A C hP hD hS ls hl => ?_)
  generalize ([.ref h0, .int x1] : List Value).toArray = args at C ⊢
  obtain ⟨hx, hb, hr, hml, hown, hts, hK, hA, hlocks, hZ⟩ := id C
  have hl : lv_has ls 5 [(0, .ref h0), (1, .int x1)] := hl
  rw [f_X9_scanWord] at hf
  refine lv_lconst (v := 0) hx hb dX9_scanWord_0 (by decide) ?_
  refine lv_lstore_n (lv' := [(2, .long 0), (0, .ref h0), (1, .int x1)]) hx hb dX9_scanWord_1 rfl hl (by decide) rfl (fun ls hl => ?_)
  refine lv_iload_n hx hb dX9_scanWord_2 rfl (lv_at hl 2 rfl) ?_
  refine lv_istore (lv' := [(4, .int x1), (2, .long 0), (0, .ref h0), (1, .int x1)]) hx hb dX9_scanWord_3 hl (by decide) rfl (fun ls hl => ?_)
  exact w_X9_scanWord_5 C  2000000 _ _ _ _ _ _ _ _ _ hf hP hD hS (lv_sub hl [2, 3, 1, 0] rfl)
/-! MarbleFloor$Tape.isDigit(I)Z -/
abbrev wlX9_isDigit : List Cond := Cond.code yX9_isDigit cX9_isDigit 1 (some .boolean) :: tbG
abbrev rmX9_isDigit : Room := { frames := 0, cells := 0, slots := 0, locals := 0 }
theorem qnX9_isDigit : yX9_isDigit.cls ≠ "java/lang/invoke/MethodHandle" ∧ yX9_isDigit.cls ≠ "java/lang/invoke/VarHandle" ∧ (parseMethodDescriptor yX9_isDigit.desc).map (fun d => d.parameters.length) = some 1 := by decide +kernel
def f_X9_isDigit   (x0 : Int32) : Option (Int32) := if x0 < 48 then (some (0)) else (if 57 < x0 then (some (0)) else (some (1)))
set_option maxRecDepth 100000 in
set_option maxHeartbeats 4000000 in
theorem c_X9_isDigit {l : Launch} {D : va_G} {cs zs : Nat → Nat}   {x0 : Int32} {q : Int32} (hf : f_X9_isDigit x0 = some q) : Mi l yX9_isDigit wlX9_isDigit rmX9_isDigit D cs zs [.int x0] (([] : va_W)) q (([] : va_W)) := by
  refine Mi.of RX9 (by decide) rfl (Nat.le_of_ble_eq_true rfl) (fun p e s m below meth c A C hP hD hS ls hl => ?_)
  generalize ([.int x0] : List Value).toArray = args at C ⊢
  obtain ⟨hx, hb, hr, hml, hown, hts, hK, hA, hlocks, hZ⟩ := id C
  have hl : lv_has ls 1 [(0, .int x0)] := hl
  rw [f_X9_isDigit] at hf
  refine lv_iload_n hx hb dX9_isDigit_0 rfl (lv_at hl 0 rfl) ?_
  refine lv_bipush (v := 48) hx hb dX9_isDigit_1 (by decide) ?_
  refine lv_icmp_lt (tgt := 16) hx hb dX9_isDigit_3 (by decide) (fun hc => ?_) (fun hc => ?_)
  · have hf := ite_t hf hc
    refine lv_iconst (v := 0) hx hb dX9_isDigit_16 (by decide) ?_
    obtain rfl := Option.some.inj hf
    exact k_zret (r := 0) hx hb hr hlocks rfl hK hP hD hS dX9_isDigit_17
  · have hf := ite_f hf hc
    refine lv_iload_n hx hb dX9_isDigit_6 rfl (lv_at hl 0 rfl) ?_
    refine lv_bipush (v := 57) hx hb dX9_isDigit_7 (by decide) ?_
    refine lv_icmp_gt (tgt := 16) hx hb dX9_isDigit_9 (by decide) (fun hc => ?_) (fun hc => ?_)
    · have hf := ite_t hf hc
      refine lv_iconst (v := 0) hx hb dX9_isDigit_16 (by decide) ?_
      obtain rfl := Option.some.inj hf
      exact k_zret (r := 0) hx hb hr hlocks rfl hK hP hD hS dX9_isDigit_17
    · have hf := ite_f hf hc
      refine lv_iconst (v := 1) hx hb dX9_isDigit_12 (by decide) ?_
      refine lv_goto (tgt := 17) hx hb dX9_isDigit_13 (by decide) ?_
      obtain rfl := Option.some.inj hf
      exact k_zret (r := 1) hx hb hr hlocks rfl hK hP hD hS dX9_isDigit_17
/-! MarbleFloor$Tape.scanNumber(I)I -/
abbrev wlX9_scanNumber : List Cond := Cond.code yX9_scanNumber cX9_scanNumber 5 (some .int) :: tbG
abbrev rmX9_scanNumber : Room := { frames := 1, cells := 0, slots := 0, locals := 25 }
theorem qnX9_scanNumber : yX9_scanNumber.cls = RX9 ∧ yX9_scanNumber.cls ≠ "java/lang/invoke/MethodHandle" ∧ yX9_scanNumber.cls ≠ "java/lang/invoke/VarHandle" ∧ (parseMethodDescriptor yX9_scanNumber.desc).map (fun d => d.parameters.length) = some 1 := by decide +kernel
def f_X9_scanNumber_66   (i0 : Nat → Int32) (l0 : Nat → Nat → Int64) (r0 : Nat → Nat → Int32) (x1 : Int32) (x2 : Int64) (x4 : Int32) (y0 : Int32) : Option (Int32 × (Nat → Int32) × (Nat → Nat → Int64) × (Nat → Nat → Int32)) := bd (f_X9_addToken i0 r0 l0 y0 x1 x2) (fun q3 => some (x4, q3.1, q3.2.1, q3.2.2))
set_option maxRecDepth 100000 in
set_option maxHeartbeats 4000000 in
theorem w_X9_scanNumber_66 {p : Program} {l : Launch} {e : Env} {s : State} {m : MethodId} {args : Array Value} {below : List Frame} {meth : Method} {c : Code} {A : Nat → Prop} {D : va_G} {cs zs : Nat → Nat} {h0 : Nat} {a0 : Nat → Nat}  {q : Int32 × (Nat → Int32) × (Nat → Nat → Int64) × (Nat → Nat → Int32)} (C : Cx p s m args meth c A D cs zs cX9_scanNumber 5 (some .int) RX9)  : ∀ (i0 : Nat → Int32) (l0 : Nat → Nat → Int64) (r0 : Nat → Nat → Int32) (x1 : Int32) (x2 : Int64) (x4 : Int32) (y0 : Int32) (H : Heap) (locs : List Loc) (ls : Array Slot), f_X9_scanNumber_66 i0 l0 r0 x1 x2 x4 y0 = some q → va_P D vwCl (W9 cs h0 a0 i0 r0 l0) H → va_D A (W9 cs h0 a0 i0 r0 l0) → va_S A s.heap H locs → lv_has ls 5 [(1, .int x1), (2, .long x2), (4, .int x4)] → W p l e rmX9_scanNumber s m args below meth c H locs 0 0 (MQ below (Qi D cs A q.1 (W9 cs h0 a0 q.2.1 q.2.2.2 q.2.2.1)) args s 0 0 A) (F0 m 66 ls [.int y0, .ref h0]) := by
  obtain ⟨hx, hb, hr, hml, hown, hts, hK, hA, hlocks, hZ⟩ := id C
  intro i0 l0 r0 x1 x2 x4 y0 H locs ls hf hP hD hS hl
  rw [f_X9_scanNumber_66] at hf
  refine lv_iload_n hx hb dX9_scanNumber_66 rfl (lv_at hl 0 rfl) ?_
  refine lv_lload_n hx hb dX9_scanNumber_67 rfl (lv_at hl 1 rfl) ?_
  obtain ⟨q3, hq3, hf⟩ := bd_s hf
  refine k_sVv (ws2 := W9 cs h0 a0 q3.1 q3.2.2 q3.2.1) (As := [.int y0, .int x1, .long x2]) (rest := []) hx hb hml hown hts hK hA hZ hl.1 hP hD hS (c_X9_addToken (h0 := h0) (a0 := a0) hq3) (gVt mlX9_74 imX9_addToken seX9_addToken inX9 coX9_addToken) rfl qnX9_addToken rfl rfl ⟨Nat.le_of_ble_eq_true rfl, Nat.le_of_ble_eq_true rfl⟩ 0 9 rfl rfl rfl rfl rfl (Nat.le_of_ble_eq_true rfl) ⟨Nat.zero_le _, Nat.zero_le _⟩ dX9_scanNumber_68 (fun H locs hP hD hS => ?_)
  refine lv_iload hx hb dX9_scanNumber_71 (lv_at hl 2 rfl) ?_
  obtain rfl := Option.some.inj hf
  exact k_iret hx hb hr hlocks hK hP hD hS dX9_scanNumber_73
def f_X9_scanNumber_52   (i0 : Nat → Int32) (l0 : Nat → Nat → Int64) (r0 : Nat → Nat → Int32) (x1 : Int32) (x2 : Int64) (x4 : Int32) : Option (Int32 × (Nat → Int32) × (Nat → Nat → Int64) × (Nat → Nat → Int32)) := if (x4 - x1) ≤ 4 then (f_X9_scanNumber_66 i0 l0 r0 x1 x2 x4 2) else (f_X9_scanNumber_66 i0 l0 r0 x1 x2 x4 3)
set_option maxRecDepth 100000 in
set_option maxHeartbeats 4000000 in
theorem w_X9_scanNumber_52 {p : Program} {l : Launch} {e : Env} {s : State} {m : MethodId} {args : Array Value} {below : List Frame} {meth : Method} {c : Code} {A : Nat → Prop} {D : va_G} {cs zs : Nat → Nat} {h0 : Nat} {a0 : Nat → Nat}  {q : Int32 × (Nat → Int32) × (Nat → Nat → Int64) × (Nat → Nat → Int32)} (C : Cx p s m args meth c A D cs zs cX9_scanNumber 5 (some .int) RX9)  : ∀ (i0 : Nat → Int32) (l0 : Nat → Nat → Int64) (r0 : Nat → Nat → Int32) (x1 : Int32) (x2 : Int64) (x4 : Int32) (H : Heap) (locs : List Loc) (ls : Array Slot), f_X9_scanNumber_52 i0 l0 r0 x1 x2 x4 = some q → va_P D vwCl (W9 cs h0 a0 i0 r0 l0) H → va_D A (W9 cs h0 a0 i0 r0 l0) → va_S A s.heap H locs → lv_has ls 5 [(0, .ref h0), (1, .int x1), (2, .long x2), (4, .int x4)] → W p l e rmX9_scanNumber s m args below meth c H locs 0 0 (MQ below (Qi D cs A q.1 (W9 cs h0 a0 q.2.1 q.2.2.2 q.2.2.1)) args s 0 0 A) (F0 m 52 ls []) := by
  obtain ⟨hx, hb, hr, hml, hown, hts, hK, hA, hlocks, hZ⟩ := id C
  intro i0 l0 r0 x1 x2 x4 H locs ls hf hP hD hS hl
  rw [f_X9_scanNumber_52] at hf
  refine lv_aload_n hx hb dX9_scanNumber_52 rfl (lv_at hl 0 rfl) ?_
  refine lv_iload hx hb dX9_scanNumber_53 (lv_at hl 3 rfl) ?_
  refine lv_iload_n hx hb dX9_scanNumber_55 rfl (lv_at hl 1 rfl) ?_
  refine lv_isub hx hb dX9_scanNumber_56 ?_
  refine lv_iconst (v := 4) hx hb dX9_scanNumber_57 (by decide) ?_
  refine lv_icmp_le (tgt := 65) hx hb dX9_scanNumber_58 (by decide) (fun hc => ?_) (fun hc => ?_)
  · have hf := ite_t hf hc
    refine lv_iconst (v := 2) hx hb dX9_scanNumber_65 (by decide) ?_
    exact w_X9_scanNumber_66 C  _ _ _ _ _ _ _ _ _ _ hf hP hD hS (lv_sub hl [1, 2, 3] rfl)
  · have hf := ite_f hf hc
    refine lv_iconst (v := 3) hx hb dX9_scanNumber_61 (by decide) ?_
    refine lv_goto (tgt := 66) hx hb dX9_scanNumber_62 (by decide) ?_
    exact w_X9_scanNumber_66 C  _ _ _ _ _ _ _ _ _ _ hf hP hD hS (lv_sub hl [1, 2, 3] rfl)
def f_X9_scanNumber_5   : Nat → (Nat → Int32) → (Nat → Nat → Int64) → (Nat → Nat → Int32) → Int32 → Int64 → Int32 → Option (Int32 × (Nat → Int32) × (Nat → Nat → Int64) × (Nat → Nat → Int32))
  | 0, _, _, _, _, _, _ => none
  | n + 1, i0, l0, r0, x1, x2, x4 => if (i0 5) ≤ x4 then (f_X9_scanNumber_52 i0 l0 r0 x1 x2 x4) else (ck (inb x4 900) (bd (f_X9_isDigit (r0 0 x4.toNatClampNeg)) (fun q4 => if q4 = 0 then (f_X9_scanNumber_52 i0 l0 r0 x1 x2 x4) else (ck (inb x4 900) (f_X9_scanNumber_5 n i0 l0 r0 x1 (((x2 * 10) + ((r0 0 x4.toNatClampNeg).toInt64)) - 48) (x4 + 1))))))
set_option maxRecDepth 100000 in
set_option maxHeartbeats 4000000 in
theorem w_X9_scanNumber_5 {p : Program} {l : Launch} {e : Env} {s : State} {m : MethodId} {args : Array Value} {below : List Frame} {meth : Method} {c : Code} {A : Nat → Prop} {D : va_G} {cs zs : Nat → Nat} {h0 : Nat} {a0 : Nat → Nat}  {q : Int32 × (Nat → Int32) × (Nat → Nat → Int64) × (Nat → Nat → Int32)} (C : Cx p s m args meth c A D cs zs cX9_scanNumber 5 (some .int) RX9)  : ∀ (n : Nat), ∀ (i0 : Nat → Int32) (l0 : Nat → Nat → Int64) (r0 : Nat → Nat → Int32) (x1 : Int32) (x2 : Int64) (x4 : Int32) (H : Heap) (locs : List Loc) (ls : Array Slot), f_X9_scanNumber_5 n i0 l0 r0 x1 x2 x4 = some q → va_P D vwCl (W9 cs h0 a0 i0 r0 l0) H → va_D A (W9 cs h0 a0 i0 r0 l0) → va_S A s.heap H locs → lv_has ls 5 [(0, .ref h0), (1, .int x1), (2, .long x2), (4, .int x4)] → W p l e rmX9_scanNumber s m args below meth c H locs 0 0 (MQ below (Qi D cs A q.1 (W9 cs h0 a0 q.2.1 q.2.2.2 q.2.2.1)) args s 0 0 A) (F0 m 5 ls []) := by
  obtain ⟨hx, hb, hr, hml, hown, hts, hK, hA, hlocks, hZ⟩ := id C
  intro n
  induction n with
  | zero =>
    intro i0 l0 r0 x1 x2 x4 H locs ls hf
    rw [f_X9_scanNumber_5] at hf
    cases hf
  | succ n ih =>
    intro i0 l0 r0 x1 x2 x4 H locs ls hf hP hD hS hl
    rw [f_X9_scanNumber_5] at hf
    refine lv_iload hx hb dX9_scanNumber_5 (lv_at hl 3 rfl) ?_
    refine lv_aload_n hx hb dX9_scanNumber_7 rfl (lv_at hl 0 rfl) ?_
    refine va_get (D := D) (ci := 9) (v := .int (i0 5)) (C := RX9) (T := TX9) (N := 12) hx hb hts hiX9 hown hK hP 0 rfl rfl 5 (by decide) (hts _ flX9_32) (fun _ h9 => h9) rfl dX9_scanNumber_8 ?_
    refine lv_icmp_ge (tgt := 52) hx hb dX9_scanNumber_11 (by decide) (fun hc => ?_) (fun hc => ?_)
    · have hf := ite_t hf hc
      exact w_X9_scanNumber_52 C  _ _ _ _ _ _ _ _ _ hf hP hD hS (lv_sub hl [0, 1, 2, 3] rfl)
    · have hf := ite_f hf hc
      refine lv_aload_n hx hb dX9_scanNumber_14 rfl (lv_at hl 0 rfl) ?_
      refine va_get (D := D) (ci := 9) (v := .ref (a0 0)) (C := RX9) (T := TX9) (N := 12) hx hb hts hiX9 hown hK hP 0 rfl rfl 0 (by decide) (hts _ flX9_11) (fun _ h9 => h9) rfl dX9_scanNumber_15 ?_
      refine lv_iload hx hb dX9_scanNumber_18 (lv_at hl 3 rfl) ?_
      refine va_iald (f := r0 0) hx hb hK hP 1 0 rfl rfl (ck_in hf) dX9_scanNumber_20 ?_
      have hf := ck_2 hf
      obtain ⟨q4, hq4, hf⟩ := bd_s hf
      refine k_eSi (As := [.int (r0 0 x4.toNatClampNeg)]) (rest := []) hx hb hml hown hts hK hA hZ hl.1 hP hD hS (c_X9_isDigit  hq4) (gSt mlX9_65 stX9_isDigit inX9 coX9_isDigit) rfl qnX9_isDigit rfl rfl ⟨Nat.le_of_ble_eq_true rfl, Nat.le_of_ble_eq_true rfl⟩ rfl rfl (Nat.le_of_ble_eq_true rfl) ⟨Nat.zero_le _, Nat.zero_le _⟩ dX9_scanNumber_21 (fun H locs hP hD hS => ?_)
      refine lv_if_eq (tgt := 52) hx hb dX9_scanNumber_24 (by decide) (fun hc => ?_) (fun hc => ?_)
      · have hf := ite_t hf hc
        exact w_X9_scanNumber_52 C  _ _ _ _ _ _ _ _ _ hf hP hD hS (lv_sub hl [0, 1, 2, 3] rfl)
      · have hf := ite_f hf hc
        refine lv_lload_n hx hb dX9_scanNumber_27 rfl (lv_at hl 2 rfl) ?_
        refine lv_ldc2 (v := 10) hx hb hown (hts _ kcX9_78) dX9_scanNumber_28 ?_
        refine lv_lmul hx hb dX9_scanNumber_31 ?_
        refine lv_aload_n hx hb dX9_scanNumber_32 rfl (lv_at hl 0 rfl) ?_
        refine va_get (D := D) (ci := 9) (v := .ref (a0 0)) (C := RX9) (T := TX9) (N := 12) hx hb hts hiX9 hown hK hP 0 rfl rfl 0 (by decide) (hts _ flX9_11) (fun _ h9 => h9) rfl dX9_scanNumber_33 ?_
        refine lv_iload hx hb dX9_scanNumber_36 (lv_at hl 3 rfl) ?_
        refine va_iald (f := r0 0) hx hb hK hP 1 0 rfl rfl (ck_in hf) dX9_scanNumber_38 ?_
        have hf := ck_2 hf
        refine lv_i2l hx hb dX9_scanNumber_39 rfl ?_
        refine lv_ladd hx hb dX9_scanNumber_40 ?_
        refine lv_ldc2 (v := 48) hx hb hown (hts _ kcX9_80) dX9_scanNumber_41 ?_
        refine lv_lsub hx hb dX9_scanNumber_44 ?_
        refine lv_lstore_n (lv' := [(2, .long (((x2 * 10) + ((r0 0 x4.toNatClampNeg).toInt64)) - 48)), (0, .ref h0), (1, .int x1), (4, .int x4)]) hx hb dX9_scanNumber_45 rfl hl (by decide) rfl (fun ls hl => ?_)
        refine lv_iinc (v := x4 + 1) (lv' := [(4, .int (x4 + 1)), (2, .long (((x2 * 10) + ((r0 0 x4.toNatClampNeg).toInt64)) - 48)), (0, .ref h0), (1, .int x1)]) hx hb dX9_scanNumber_46 hl (k := 3) rfl rfl (by decide) rfl (fun ls hl => ?_)
        refine lv_goto (tgt := 5) hx hb dX9_scanNumber_49 (by decide) ?_
        exact ih _ _ _ _ _ _ _ _ _ hf hP hD hS (lv_sub hl [2, 3, 1, 0] rfl)
def f_X9_scanNumber  (i0 : Nat → Int32) (r0 : Nat → Nat → Int32) (l0 : Nat → Nat → Int64) (x1 : Int32) : Option (Int32 × (Nat → Int32) × (Nat → Nat → Int64) × (Nat → Nat → Int32)) := f_X9_scanNumber_5 2000000 i0 l0 r0 x1 0 x1
set_option maxRecDepth 100000 in
set_option maxHeartbeats 4000000 in
theorem c_X9_scanNumber {l : Launch} {D : va_G} {cs zs : Nat → Nat} {h0 : Nat} {a0 : Nat → Nat} {i0 : Nat → Int32} {r0 : Nat → Nat → Int32} {l0 : Nat → Nat → Int64} {x1 : Int32} {q : Int32 × (Nat → Int32) × (Nat → Nat → Int64) × (Nat → Nat → Int32)} (hf : f_X9_scanNumber i0 r0 l0 x1 = some q) : Mi l yX9_scanNumber wlX9_scanNumber rmX9_scanNumber D cs zs [.ref h0, .int x1] (W9 cs h0 a0 i0 r0 l0) q.1 (W9 cs h0 a0 q.2.1 q.2.2.2 q.2.2.1) := by
  refine Mi.of RX9 (by decide) rfl (Nat.le_of_ble_eq_true rfl) (fun p e s m below meth c A C hP hD hS ls hl => ?_)
  generalize ([.ref h0, .int x1] : List Value).toArray = args at C ⊢
  obtain ⟨hx, hb, hr, hml, hown, hts, hK, hA, hlocks, hZ⟩ := id C
  have hl : lv_has ls 5 [(0, .ref h0), (1, .int x1)] := hl
  rw [f_X9_scanNumber] at hf
  refine lv_lconst (v := 0) hx hb dX9_scanNumber_0 (by decide) ?_
  refine lv_lstore_n (lv' := [(2, .long 0), (0, .ref h0), (1, .int x1)]) hx hb dX9_scanNumber_1 rfl hl (by decide) rfl (fun ls hl => ?_)
  refine lv_iload_n hx hb dX9_scanNumber_2 rfl (lv_at hl 2 rfl) ?_
  refine lv_istore (lv' := [(4, .int x1), (2, .long 0), (0, .ref h0), (1, .int x1)]) hx hb dX9_scanNumber_3 hl (by decide) rfl (fun ls hl => ?_)
  exact w_X9_scanNumber_5 C  2000000 _ _ _ _ _ _ _ _ _ hf hP hD hS (lv_sub hl [2, 3, 1, 0] rfl)
/-! MarbleFloor$Tape.isSign(I)Z -/
abbrev wlX9_isSign : List Cond := Cond.code yX9_isSign cX9_isSign 1 (some .boolean) :: tbG
abbrev rmX9_isSign : Room := { frames := 0, cells := 0, slots := 0, locals := 0 }
theorem qnX9_isSign : yX9_isSign.cls ≠ "java/lang/invoke/MethodHandle" ∧ yX9_isSign.cls ≠ "java/lang/invoke/VarHandle" ∧ (parseMethodDescriptor yX9_isSign.desc).map (fun d => d.parameters.length) = some 1 := by decide +kernel
def f_X9_isSign   (x0 : Int32) : Option (Int32) := if x0 = 33 then (some (1)) else (if x0 = 37 then (some (1)) else (if x0 = 38 then (some (1)) else (if x0 = 40 then (some (1)) else (if x0 = 41 then (some (1)) else (if x0 = 42 then (some (1)) else (if x0 = 43 then (some (1)) else (if x0 = 45 then (some (1)) else (if x0 = 47 then (some (1)) else (if x0 = 59 then (some (1)) else (if x0 = 60 then (some (1)) else (if x0 = 61 then (some (1)) else (if x0 = 62 then (some (1)) else (if x0 = 91 then (some (1)) else (if x0 = 93 then (some (1)) else (some (0))))))))))))))))
set_option maxRecDepth 100000 in
set_option maxHeartbeats 4000000 in
theorem c_X9_isSign {l : Launch} {D : va_G} {cs zs : Nat → Nat}   {x0 : Int32} {q : Int32} (hf : f_X9_isSign x0 = some q) : Mi l yX9_isSign wlX9_isSign rmX9_isSign D cs zs [.int x0] (([] : va_W)) q (([] : va_W)) := by
  refine Mi.of RX9 (by decide) rfl (Nat.le_of_ble_eq_true rfl) (fun p e s m below meth c A C hP hD hS ls hl => ?_)
  generalize ([.int x0] : List Value).toArray = args at C ⊢
  obtain ⟨hx, hb, hr, hml, hown, hts, hK, hA, hlocks, hZ⟩ := id C
  have hl : lv_has ls 1 [(0, .int x0)] := hl
  rw [f_X9_isSign] at hf
  refine lv_iload_n hx hb dX9_isSign_0 rfl (lv_at hl 0 rfl) ?_
  by_cases hc33 : x0 = 33
  · have hf := ite_t hf hc33
    refine lv_tableIn (off := 259) (tgt := 260) hx hb dX9_isSign_1 (by rw [hc33]; decide) (by rw [hc33]; decide) (by rw [hc33]; rfl) (by decide) ?_
    refine lv_iconst (v := 1) hx hb dX9_isSign_260 (by decide) ?_
    obtain rfl := Option.some.inj hf
    exact k_zret (r := 1) hx hb hr hlocks rfl hK hP hD hS dX9_isSign_261
  · have hf := ite_f hf hc33
    by_cases hc37 : x0 = 37
    · have hf := ite_t hf hc37
      refine lv_tableIn (off := 259) (tgt := 260) hx hb dX9_isSign_1 (by rw [hc37]; decide) (by rw [hc37]; decide) (by rw [hc37]; rfl) (by decide) ?_
      refine lv_iconst (v := 1) hx hb dX9_isSign_260 (by decide) ?_
      obtain rfl := Option.some.inj hf
      exact k_zret (r := 1) hx hb hr hlocks rfl hK hP hD hS dX9_isSign_261
    · have hf := ite_f hf hc37
      by_cases hc38 : x0 = 38
      · have hf := ite_t hf hc38
        refine lv_tableIn (off := 259) (tgt := 260) hx hb dX9_isSign_1 (by rw [hc38]; decide) (by rw [hc38]; decide) (by rw [hc38]; rfl) (by decide) ?_
        refine lv_iconst (v := 1) hx hb dX9_isSign_260 (by decide) ?_
        obtain rfl := Option.some.inj hf
        exact k_zret (r := 1) hx hb hr hlocks rfl hK hP hD hS dX9_isSign_261
      · have hf := ite_f hf hc38
        by_cases hc40 : x0 = 40
        · have hf := ite_t hf hc40
          refine lv_tableIn (off := 259) (tgt := 260) hx hb dX9_isSign_1 (by rw [hc40]; decide) (by rw [hc40]; decide) (by rw [hc40]; rfl) (by decide) ?_
          refine lv_iconst (v := 1) hx hb dX9_isSign_260 (by decide) ?_
          obtain rfl := Option.some.inj hf
          exact k_zret (r := 1) hx hb hr hlocks rfl hK hP hD hS dX9_isSign_261
        · have hf := ite_f hf hc40
          by_cases hc41 : x0 = 41
          · have hf := ite_t hf hc41
            refine lv_tableIn (off := 259) (tgt := 260) hx hb dX9_isSign_1 (by rw [hc41]; decide) (by rw [hc41]; decide) (by rw [hc41]; rfl) (by decide) ?_
            refine lv_iconst (v := 1) hx hb dX9_isSign_260 (by decide) ?_
            obtain rfl := Option.some.inj hf
            exact k_zret (r := 1) hx hb hr hlocks rfl hK hP hD hS dX9_isSign_261
          · have hf := ite_f hf hc41
            by_cases hc42 : x0 = 42
            · have hf := ite_t hf hc42
              refine lv_tableIn (off := 259) (tgt := 260) hx hb dX9_isSign_1 (by rw [hc42]; decide) (by rw [hc42]; decide) (by rw [hc42]; rfl) (by decide) ?_
              refine lv_iconst (v := 1) hx hb dX9_isSign_260 (by decide) ?_
              obtain rfl := Option.some.inj hf
              exact k_zret (r := 1) hx hb hr hlocks rfl hK hP hD hS dX9_isSign_261
            · have hf := ite_f hf hc42
              by_cases hc43 : x0 = 43
              · have hf := ite_t hf hc43
                refine lv_tableIn (off := 259) (tgt := 260) hx hb dX9_isSign_1 (by rw [hc43]; decide) (by rw [hc43]; decide) (by rw [hc43]; rfl) (by decide) ?_
                refine lv_iconst (v := 1) hx hb dX9_isSign_260 (by decide) ?_
                obtain rfl := Option.some.inj hf
                exact k_zret (r := 1) hx hb hr hlocks rfl hK hP hD hS dX9_isSign_261
              · have hf := ite_f hf hc43
                by_cases hc45 : x0 = 45
                · have hf := ite_t hf hc45
                  refine lv_tableIn (off := 259) (tgt := 260) hx hb dX9_isSign_1 (by rw [hc45]; decide) (by rw [hc45]; decide) (by rw [hc45]; rfl) (by decide) ?_
                  refine lv_iconst (v := 1) hx hb dX9_isSign_260 (by decide) ?_
                  obtain rfl := Option.some.inj hf
                  exact k_zret (r := 1) hx hb hr hlocks rfl hK hP hD hS dX9_isSign_261
                · have hf := ite_f hf hc45
                  by_cases hc47 : x0 = 47
                  · have hf := ite_t hf hc47
                    refine lv_tableIn (off := 259) (tgt := 260) hx hb dX9_isSign_1 (by rw [hc47]; decide) (by rw [hc47]; decide) (by rw [hc47]; rfl) (by decide) ?_
                    refine lv_iconst (v := 1) hx hb dX9_isSign_260 (by decide) ?_
                    obtain rfl := Option.some.inj hf
                    exact k_zret (r := 1) hx hb hr hlocks rfl hK hP hD hS dX9_isSign_261
                  · have hf := ite_f hf hc47
                    by_cases hc59 : x0 = 59
                    · have hf := ite_t hf hc59
                      refine lv_tableIn (off := 259) (tgt := 260) hx hb dX9_isSign_1 (by rw [hc59]; decide) (by rw [hc59]; decide) (by rw [hc59]; rfl) (by decide) ?_
                      refine lv_iconst (v := 1) hx hb dX9_isSign_260 (by decide) ?_
                      obtain rfl := Option.some.inj hf
                      exact k_zret (r := 1) hx hb hr hlocks rfl hK hP hD hS dX9_isSign_261
                    · have hf := ite_f hf hc59
                      by_cases hc60 : x0 = 60
                      · have hf := ite_t hf hc60
                        refine lv_tableIn (off := 259) (tgt := 260) hx hb dX9_isSign_1 (by rw [hc60]; decide) (by rw [hc60]; decide) (by rw [hc60]; rfl) (by decide) ?_
                        refine lv_iconst (v := 1) hx hb dX9_isSign_260 (by decide) ?_
                        obtain rfl := Option.some.inj hf
                        exact k_zret (r := 1) hx hb hr hlocks rfl hK hP hD hS dX9_isSign_261
                      · have hf := ite_f hf hc60
                        by_cases hc61 : x0 = 61
                        · have hf := ite_t hf hc61
                          refine lv_tableIn (off := 259) (tgt := 260) hx hb dX9_isSign_1 (by rw [hc61]; decide) (by rw [hc61]; decide) (by rw [hc61]; rfl) (by decide) ?_
                          refine lv_iconst (v := 1) hx hb dX9_isSign_260 (by decide) ?_
                          obtain rfl := Option.some.inj hf
                          exact k_zret (r := 1) hx hb hr hlocks rfl hK hP hD hS dX9_isSign_261
                        · have hf := ite_f hf hc61
                          by_cases hc62 : x0 = 62
                          · have hf := ite_t hf hc62
                            refine lv_tableIn (off := 259) (tgt := 260) hx hb dX9_isSign_1 (by rw [hc62]; decide) (by rw [hc62]; decide) (by rw [hc62]; rfl) (by decide) ?_
                            refine lv_iconst (v := 1) hx hb dX9_isSign_260 (by decide) ?_
                            obtain rfl := Option.some.inj hf
                            exact k_zret (r := 1) hx hb hr hlocks rfl hK hP hD hS dX9_isSign_261
                          · have hf := ite_f hf hc62
                            by_cases hc91 : x0 = 91
                            · have hf := ite_t hf hc91
                              refine lv_tableIn (off := 259) (tgt := 260) hx hb dX9_isSign_1 (by rw [hc91]; decide) (by rw [hc91]; decide) (by rw [hc91]; rfl) (by decide) ?_
                              refine lv_iconst (v := 1) hx hb dX9_isSign_260 (by decide) ?_
                              obtain rfl := Option.some.inj hf
                              exact k_zret (r := 1) hx hb hr hlocks rfl hK hP hD hS dX9_isSign_261
                            · have hf := ite_f hf hc91
                              by_cases hc93 : x0 = 93
                              · have hf := ite_t hf hc93
                                refine lv_tableIn (off := 259) (tgt := 260) hx hb dX9_isSign_1 (by rw [hc93]; decide) (by rw [hc93]; decide) (by rw [hc93]; rfl) (by decide) ?_
                                refine lv_iconst (v := 1) hx hb dX9_isSign_260 (by decide) ?_
                                obtain rfl := Option.some.inj hf
                                exact k_zret (r := 1) hx hb hr hlocks rfl hK hP hD hS dX9_isSign_261
                              · have hf := ite_f hf hc93
                                by_cases hc34 : x0 = 34
                                · refine lv_tableIn (off := 261) (tgt := 262) hx hb dX9_isSign_1 (by rw [hc34]; decide) (by rw [hc34]; decide) (by rw [hc34]; rfl) (by decide) ?_
                                  refine lv_iconst (v := 0) hx hb dX9_isSign_262 (by decide) ?_
                                  obtain rfl := Option.some.inj hf
                                  exact k_zret (r := 0) hx hb hr hlocks rfl hK hP hD hS dX9_isSign_263
                                · by_cases hc35 : x0 = 35
                                  · refine lv_tableIn (off := 261) (tgt := 262) hx hb dX9_isSign_1 (by rw [hc35]; decide) (by rw [hc35]; decide) (by rw [hc35]; rfl) (by decide) ?_
                                    refine lv_iconst (v := 0) hx hb dX9_isSign_262 (by decide) ?_
                                    obtain rfl := Option.some.inj hf
                                    exact k_zret (r := 0) hx hb hr hlocks rfl hK hP hD hS dX9_isSign_263
                                  · by_cases hc36 : x0 = 36
                                    · refine lv_tableIn (off := 261) (tgt := 262) hx hb dX9_isSign_1 (by rw [hc36]; decide) (by rw [hc36]; decide) (by rw [hc36]; rfl) (by decide) ?_
                                      refine lv_iconst (v := 0) hx hb dX9_isSign_262 (by decide) ?_
                                      obtain rfl := Option.some.inj hf
                                      exact k_zret (r := 0) hx hb hr hlocks rfl hK hP hD hS dX9_isSign_263
                                    · by_cases hc39 : x0 = 39
                                      · refine lv_tableIn (off := 261) (tgt := 262) hx hb dX9_isSign_1 (by rw [hc39]; decide) (by rw [hc39]; decide) (by rw [hc39]; rfl) (by decide) ?_
                                        refine lv_iconst (v := 0) hx hb dX9_isSign_262 (by decide) ?_
                                        obtain rfl := Option.some.inj hf
                                        exact k_zret (r := 0) hx hb hr hlocks rfl hK hP hD hS dX9_isSign_263
                                      · by_cases hc44 : x0 = 44
                                        · refine lv_tableIn (off := 261) (tgt := 262) hx hb dX9_isSign_1 (by rw [hc44]; decide) (by rw [hc44]; decide) (by rw [hc44]; rfl) (by decide) ?_
                                          refine lv_iconst (v := 0) hx hb dX9_isSign_262 (by decide) ?_
                                          obtain rfl := Option.some.inj hf
                                          exact k_zret (r := 0) hx hb hr hlocks rfl hK hP hD hS dX9_isSign_263
                                        · by_cases hc46 : x0 = 46
                                          · refine lv_tableIn (off := 261) (tgt := 262) hx hb dX9_isSign_1 (by rw [hc46]; decide) (by rw [hc46]; decide) (by rw [hc46]; rfl) (by decide) ?_
                                            refine lv_iconst (v := 0) hx hb dX9_isSign_262 (by decide) ?_
                                            obtain rfl := Option.some.inj hf
                                            exact k_zret (r := 0) hx hb hr hlocks rfl hK hP hD hS dX9_isSign_263
                                          · by_cases hc48 : x0 = 48
                                            · refine lv_tableIn (off := 261) (tgt := 262) hx hb dX9_isSign_1 (by rw [hc48]; decide) (by rw [hc48]; decide) (by rw [hc48]; rfl) (by decide) ?_
                                              refine lv_iconst (v := 0) hx hb dX9_isSign_262 (by decide) ?_
                                              obtain rfl := Option.some.inj hf
                                              exact k_zret (r := 0) hx hb hr hlocks rfl hK hP hD hS dX9_isSign_263
                                            · by_cases hc49 : x0 = 49
                                              · refine lv_tableIn (off := 261) (tgt := 262) hx hb dX9_isSign_1 (by rw [hc49]; decide) (by rw [hc49]; decide) (by rw [hc49]; rfl) (by decide) ?_
                                                refine lv_iconst (v := 0) hx hb dX9_isSign_262 (by decide) ?_
                                                obtain rfl := Option.some.inj hf
                                                exact k_zret (r := 0) hx hb hr hlocks rfl hK hP hD hS dX9_isSign_263
                                              · by_cases hc50 : x0 = 50
                                                · refine lv_tableIn (off := 261) (tgt := 262) hx hb dX9_isSign_1 (by rw [hc50]; decide) (by rw [hc50]; decide) (by rw [hc50]; rfl) (by decide) ?_
                                                  refine lv_iconst (v := 0) hx hb dX9_isSign_262 (by decide) ?_
                                                  obtain rfl := Option.some.inj hf
                                                  exact k_zret (r := 0) hx hb hr hlocks rfl hK hP hD hS dX9_isSign_263
                                                · by_cases hc51 : x0 = 51
                                                  · refine lv_tableIn (off := 261) (tgt := 262) hx hb dX9_isSign_1 (by rw [hc51]; decide) (by rw [hc51]; decide) (by rw [hc51]; rfl) (by decide) ?_
                                                    refine lv_iconst (v := 0) hx hb dX9_isSign_262 (by decide) ?_
                                                    obtain rfl := Option.some.inj hf
                                                    exact k_zret (r := 0) hx hb hr hlocks rfl hK hP hD hS dX9_isSign_263
                                                  · by_cases hc52 : x0 = 52
                                                    · refine lv_tableIn (off := 261) (tgt := 262) hx hb dX9_isSign_1 (by rw [hc52]; decide) (by rw [hc52]; decide) (by rw [hc52]; rfl) (by decide) ?_
                                                      refine lv_iconst (v := 0) hx hb dX9_isSign_262 (by decide) ?_
                                                      obtain rfl := Option.some.inj hf
                                                      exact k_zret (r := 0) hx hb hr hlocks rfl hK hP hD hS dX9_isSign_263
                                                    · by_cases hc53 : x0 = 53
                                                      · refine lv_tableIn (off := 261) (tgt := 262) hx hb dX9_isSign_1 (by rw [hc53]; decide) (by rw [hc53]; decide) (by rw [hc53]; rfl) (by decide) ?_
                                                        refine lv_iconst (v := 0) hx hb dX9_isSign_262 (by decide) ?_
                                                        obtain rfl := Option.some.inj hf
                                                        exact k_zret (r := 0) hx hb hr hlocks rfl hK hP hD hS dX9_isSign_263
                                                      · by_cases hc54 : x0 = 54
                                                        · refine lv_tableIn (off := 261) (tgt := 262) hx hb dX9_isSign_1 (by rw [hc54]; decide) (by rw [hc54]; decide) (by rw [hc54]; rfl) (by decide) ?_
                                                          refine lv_iconst (v := 0) hx hb dX9_isSign_262 (by decide) ?_
                                                          obtain rfl := Option.some.inj hf
                                                          exact k_zret (r := 0) hx hb hr hlocks rfl hK hP hD hS dX9_isSign_263
                                                        · by_cases hc55 : x0 = 55
                                                          · refine lv_tableIn (off := 261) (tgt := 262) hx hb dX9_isSign_1 (by rw [hc55]; decide) (by rw [hc55]; decide) (by rw [hc55]; rfl) (by decide) ?_
                                                            refine lv_iconst (v := 0) hx hb dX9_isSign_262 (by decide) ?_
                                                            obtain rfl := Option.some.inj hf
                                                            exact k_zret (r := 0) hx hb hr hlocks rfl hK hP hD hS dX9_isSign_263
                                                          · by_cases hc56 : x0 = 56
                                                            · refine lv_tableIn (off := 261) (tgt := 262) hx hb dX9_isSign_1 (by rw [hc56]; decide) (by rw [hc56]; decide) (by rw [hc56]; rfl) (by decide) ?_
                                                              refine lv_iconst (v := 0) hx hb dX9_isSign_262 (by decide) ?_
                                                              obtain rfl := Option.some.inj hf
                                                              exact k_zret (r := 0) hx hb hr hlocks rfl hK hP hD hS dX9_isSign_263
                                                            · by_cases hc57 : x0 = 57
                                                              · refine lv_tableIn (off := 261) (tgt := 262) hx hb dX9_isSign_1 (by rw [hc57]; decide) (by rw [hc57]; decide) (by rw [hc57]; rfl) (by decide) ?_
                                                                refine lv_iconst (v := 0) hx hb dX9_isSign_262 (by decide) ?_
                                                                obtain rfl := Option.some.inj hf
                                                                exact k_zret (r := 0) hx hb hr hlocks rfl hK hP hD hS dX9_isSign_263
                                                              · by_cases hc58 : x0 = 58
                                                                · refine lv_tableIn (off := 261) (tgt := 262) hx hb dX9_isSign_1 (by rw [hc58]; decide) (by rw [hc58]; decide) (by rw [hc58]; rfl) (by decide) ?_
                                                                  refine lv_iconst (v := 0) hx hb dX9_isSign_262 (by decide) ?_
                                                                  obtain rfl := Option.some.inj hf
                                                                  exact k_zret (r := 0) hx hb hr hlocks rfl hK hP hD hS dX9_isSign_263
                                                                · by_cases hc63 : x0 = 63
                                                                  · refine lv_tableIn (off := 261) (tgt := 262) hx hb dX9_isSign_1 (by rw [hc63]; decide) (by rw [hc63]; decide) (by rw [hc63]; rfl) (by decide) ?_
                                                                    refine lv_iconst (v := 0) hx hb dX9_isSign_262 (by decide) ?_
                                                                    obtain rfl := Option.some.inj hf
                                                                    exact k_zret (r := 0) hx hb hr hlocks rfl hK hP hD hS dX9_isSign_263
                                                                  · by_cases hc64 : x0 = 64
                                                                    · refine lv_tableIn (off := 261) (tgt := 262) hx hb dX9_isSign_1 (by rw [hc64]; decide) (by rw [hc64]; decide) (by rw [hc64]; rfl) (by decide) ?_
                                                                      refine lv_iconst (v := 0) hx hb dX9_isSign_262 (by decide) ?_
                                                                      obtain rfl := Option.some.inj hf
                                                                      exact k_zret (r := 0) hx hb hr hlocks rfl hK hP hD hS dX9_isSign_263
                                                                    · by_cases hc65 : x0 = 65
                                                                      · refine lv_tableIn (off := 261) (tgt := 262) hx hb dX9_isSign_1 (by rw [hc65]; decide) (by rw [hc65]; decide) (by rw [hc65]; rfl) (by decide) ?_
                                                                        refine lv_iconst (v := 0) hx hb dX9_isSign_262 (by decide) ?_
                                                                        obtain rfl := Option.some.inj hf
                                                                        exact k_zret (r := 0) hx hb hr hlocks rfl hK hP hD hS dX9_isSign_263
                                                                      · by_cases hc66 : x0 = 66
                                                                        · refine lv_tableIn (off := 261) (tgt := 262) hx hb dX9_isSign_1 (by rw [hc66]; decide) (by rw [hc66]; decide) (by rw [hc66]; rfl) (by decide) ?_
                                                                          refine lv_iconst (v := 0) hx hb dX9_isSign_262 (by decide) ?_
                                                                          obtain rfl := Option.some.inj hf
                                                                          exact k_zret (r := 0) hx hb hr hlocks rfl hK hP hD hS dX9_isSign_263
                                                                        · by_cases hc67 : x0 = 67
                                                                          · refine lv_tableIn (off := 261) (tgt := 262) hx hb dX9_isSign_1 (by rw [hc67]; decide) (by rw [hc67]; decide) (by rw [hc67]; rfl) (by decide) ?_
                                                                            refine lv_iconst (v := 0) hx hb dX9_isSign_262 (by decide) ?_
                                                                            obtain rfl := Option.some.inj hf
                                                                            exact k_zret (r := 0) hx hb hr hlocks rfl hK hP hD hS dX9_isSign_263
                                                                          · by_cases hc68 : x0 = 68
                                                                            · refine lv_tableIn (off := 261) (tgt := 262) hx hb dX9_isSign_1 (by rw [hc68]; decide) (by rw [hc68]; decide) (by rw [hc68]; rfl) (by decide) ?_
                                                                              refine lv_iconst (v := 0) hx hb dX9_isSign_262 (by decide) ?_
                                                                              obtain rfl := Option.some.inj hf
                                                                              exact k_zret (r := 0) hx hb hr hlocks rfl hK hP hD hS dX9_isSign_263
                                                                            · by_cases hc69 : x0 = 69
                                                                              · refine lv_tableIn (off := 261) (tgt := 262) hx hb dX9_isSign_1 (by rw [hc69]; decide) (by rw [hc69]; decide) (by rw [hc69]; rfl) (by decide) ?_
                                                                                refine lv_iconst (v := 0) hx hb dX9_isSign_262 (by decide) ?_
                                                                                obtain rfl := Option.some.inj hf
                                                                                exact k_zret (r := 0) hx hb hr hlocks rfl hK hP hD hS dX9_isSign_263
                                                                              · by_cases hc70 : x0 = 70
                                                                                · refine lv_tableIn (off := 261) (tgt := 262) hx hb dX9_isSign_1 (by rw [hc70]; decide) (by rw [hc70]; decide) (by rw [hc70]; rfl) (by decide) ?_
                                                                                  refine lv_iconst (v := 0) hx hb dX9_isSign_262 (by decide) ?_
                                                                                  obtain rfl := Option.some.inj hf
                                                                                  exact k_zret (r := 0) hx hb hr hlocks rfl hK hP hD hS dX9_isSign_263
                                                                                · by_cases hc71 : x0 = 71
                                                                                  · refine lv_tableIn (off := 261) (tgt := 262) hx hb dX9_isSign_1 (by rw [hc71]; decide) (by rw [hc71]; decide) (by rw [hc71]; rfl) (by decide) ?_
                                                                                    refine lv_iconst (v := 0) hx hb dX9_isSign_262 (by decide) ?_
                                                                                    obtain rfl := Option.some.inj hf
                                                                                    exact k_zret (r := 0) hx hb hr hlocks rfl hK hP hD hS dX9_isSign_263
                                                                                  · by_cases hc72 : x0 = 72
                                                                                    · refine lv_tableIn (off := 261) (tgt := 262) hx hb dX9_isSign_1 (by rw [hc72]; decide) (by rw [hc72]; decide) (by rw [hc72]; rfl) (by decide) ?_
                                                                                      refine lv_iconst (v := 0) hx hb dX9_isSign_262 (by decide) ?_
                                                                                      obtain rfl := Option.some.inj hf
                                                                                      exact k_zret (r := 0) hx hb hr hlocks rfl hK hP hD hS dX9_isSign_263
                                                                                    · by_cases hc73 : x0 = 73
                                                                                      · refine lv_tableIn (off := 261) (tgt := 262) hx hb dX9_isSign_1 (by rw [hc73]; decide) (by rw [hc73]; decide) (by rw [hc73]; rfl) (by decide) ?_
                                                                                        refine lv_iconst (v := 0) hx hb dX9_isSign_262 (by decide) ?_
                                                                                        obtain rfl := Option.some.inj hf
                                                                                        exact k_zret (r := 0) hx hb hr hlocks rfl hK hP hD hS dX9_isSign_263
                                                                                      · by_cases hc74 : x0 = 74
                                                                                        · refine lv_tableIn (off := 261) (tgt := 262) hx hb dX9_isSign_1 (by rw [hc74]; decide) (by rw [hc74]; decide) (by rw [hc74]; rfl) (by decide) ?_
                                                                                          refine lv_iconst (v := 0) hx hb dX9_isSign_262 (by decide) ?_
                                                                                          obtain rfl := Option.some.inj hf
                                                                                          exact k_zret (r := 0) hx hb hr hlocks rfl hK hP hD hS dX9_isSign_263
                                                                                        · by_cases hc75 : x0 = 75
                                                                                          · refine lv_tableIn (off := 261) (tgt := 262) hx hb dX9_isSign_1 (by rw [hc75]; decide) (by rw [hc75]; decide) (by rw [hc75]; rfl) (by decide) ?_
                                                                                            refine lv_iconst (v := 0) hx hb dX9_isSign_262 (by decide) ?_
                                                                                            obtain rfl := Option.some.inj hf
                                                                                            exact k_zret (r := 0) hx hb hr hlocks rfl hK hP hD hS dX9_isSign_263
                                                                                          · by_cases hc76 : x0 = 76
                                                                                            · refine lv_tableIn (off := 261) (tgt := 262) hx hb dX9_isSign_1 (by rw [hc76]; decide) (by rw [hc76]; decide) (by rw [hc76]; rfl) (by decide) ?_
                                                                                              refine lv_iconst (v := 0) hx hb dX9_isSign_262 (by decide) ?_
                                                                                              obtain rfl := Option.some.inj hf
                                                                                              exact k_zret (r := 0) hx hb hr hlocks rfl hK hP hD hS dX9_isSign_263
                                                                                            · by_cases hc77 : x0 = 77
                                                                                              · refine lv_tableIn (off := 261) (tgt := 262) hx hb dX9_isSign_1 (by rw [hc77]; decide) (by rw [hc77]; decide) (by rw [hc77]; rfl) (by decide) ?_
                                                                                                refine lv_iconst (v := 0) hx hb dX9_isSign_262 (by decide) ?_
                                                                                                obtain rfl := Option.some.inj hf
                                                                                                exact k_zret (r := 0) hx hb hr hlocks rfl hK hP hD hS dX9_isSign_263
                                                                                              · by_cases hc78 : x0 = 78
                                                                                                · refine lv_tableIn (off := 261) (tgt := 262) hx hb dX9_isSign_1 (by rw [hc78]; decide) (by rw [hc78]; decide) (by rw [hc78]; rfl) (by decide) ?_
                                                                                                  refine lv_iconst (v := 0) hx hb dX9_isSign_262 (by decide) ?_
                                                                                                  obtain rfl := Option.some.inj hf
                                                                                                  exact k_zret (r := 0) hx hb hr hlocks rfl hK hP hD hS dX9_isSign_263
                                                                                                · by_cases hc79 : x0 = 79
                                                                                                  · refine lv_tableIn (off := 261) (tgt := 262) hx hb dX9_isSign_1 (by rw [hc79]; decide) (by rw [hc79]; decide) (by rw [hc79]; rfl) (by decide) ?_
                                                                                                    refine lv_iconst (v := 0) hx hb dX9_isSign_262 (by decide) ?_
                                                                                                    obtain rfl := Option.some.inj hf
                                                                                                    exact k_zret (r := 0) hx hb hr hlocks rfl hK hP hD hS dX9_isSign_263
                                                                                                  · by_cases hc80 : x0 = 80
                                                                                                    · refine lv_tableIn (off := 261) (tgt := 262) hx hb dX9_isSign_1 (by rw [hc80]; decide) (by rw [hc80]; decide) (by rw [hc80]; rfl) (by decide) ?_
                                                                                                      refine lv_iconst (v := 0) hx hb dX9_isSign_262 (by decide) ?_
                                                                                                      obtain rfl := Option.some.inj hf
                                                                                                      exact k_zret (r := 0) hx hb hr hlocks rfl hK hP hD hS dX9_isSign_263
                                                                                                    · by_cases hc81 : x0 = 81
                                                                                                      · refine lv_tableIn (off := 261) (tgt := 262) hx hb dX9_isSign_1 (by rw [hc81]; decide) (by rw [hc81]; decide) (by rw [hc81]; rfl) (by decide) ?_
                                                                                                        refine lv_iconst (v := 0) hx hb dX9_isSign_262 (by decide) ?_
                                                                                                        obtain rfl := Option.some.inj hf
                                                                                                        exact k_zret (r := 0) hx hb hr hlocks rfl hK hP hD hS dX9_isSign_263
                                                                                                      · by_cases hc82 : x0 = 82
                                                                                                        · refine lv_tableIn (off := 261) (tgt := 262) hx hb dX9_isSign_1 (by rw [hc82]; decide) (by rw [hc82]; decide) (by rw [hc82]; rfl) (by decide) ?_
                                                                                                          refine lv_iconst (v := 0) hx hb dX9_isSign_262 (by decide) ?_
                                                                                                          obtain rfl := Option.some.inj hf
                                                                                                          exact k_zret (r := 0) hx hb hr hlocks rfl hK hP hD hS dX9_isSign_263
                                                                                                        · by_cases hc83 : x0 = 83
                                                                                                          · refine lv_tableIn (off := 261) (tgt := 262) hx hb dX9_isSign_1 (by rw [hc83]; decide) (by rw [hc83]; decide) (by rw [hc83]; rfl) (by decide) ?_
                                                                                                            refine lv_iconst (v := 0) hx hb dX9_isSign_262 (by decide) ?_
                                                                                                            obtain rfl := Option.some.inj hf
                                                                                                            exact k_zret (r := 0) hx hb hr hlocks rfl hK hP hD hS dX9_isSign_263
                                                                                                          · by_cases hc84 : x0 = 84
                                                                                                            · refine lv_tableIn (off := 261) (tgt := 262) hx hb dX9_isSign_1 (by rw [hc84]; decide) (by rw [hc84]; decide) (by rw [hc84]; rfl) (by decide) ?_
                                                                                                              refine lv_iconst (v := 0) hx hb dX9_isSign_262 (by decide) ?_
                                                                                                              obtain rfl := Option.some.inj hf
                                                                                                              exact k_zret (r := 0) hx hb hr hlocks rfl hK hP hD hS dX9_isSign_263
                                                                                                            · by_cases hc85 : x0 = 85
                                                                                                              · refine lv_tableIn (off := 261) (tgt := 262) hx hb dX9_isSign_1 (by rw [hc85]; decide) (by rw [hc85]; decide) (by rw [hc85]; rfl) (by decide) ?_
                                                                                                                refine lv_iconst (v := 0) hx hb dX9_isSign_262 (by decide) ?_
                                                                                                                obtain rfl := Option.some.inj hf
                                                                                                                exact k_zret (r := 0) hx hb hr hlocks rfl hK hP hD hS dX9_isSign_263
                                                                                                              · by_cases hc86 : x0 = 86
                                                                                                                · refine lv_tableIn (off := 261) (tgt := 262) hx hb dX9_isSign_1 (by rw [hc86]; decide) (by rw [hc86]; decide) (by rw [hc86]; rfl) (by decide) ?_
                                                                                                                  refine lv_iconst (v := 0) hx hb dX9_isSign_262 (by decide) ?_
                                                                                                                  obtain rfl := Option.some.inj hf
                                                                                                                  exact k_zret (r := 0) hx hb hr hlocks rfl hK hP hD hS dX9_isSign_263
                                                                                                                · by_cases hc87 : x0 = 87
                                                                                                                  · refine lv_tableIn (off := 261) (tgt := 262) hx hb dX9_isSign_1 (by rw [hc87]; decide) (by rw [hc87]; decide) (by rw [hc87]; rfl) (by decide) ?_
                                                                                                                    refine lv_iconst (v := 0) hx hb dX9_isSign_262 (by decide) ?_
                                                                                                                    obtain rfl := Option.some.inj hf
                                                                                                                    exact k_zret (r := 0) hx hb hr hlocks rfl hK hP hD hS dX9_isSign_263
                                                                                                                  · by_cases hc88 : x0 = 88
                                                                                                                    · refine lv_tableIn (off := 261) (tgt := 262) hx hb dX9_isSign_1 (by rw [hc88]; decide) (by rw [hc88]; decide) (by rw [hc88]; rfl) (by decide) ?_
                                                                                                                      refine lv_iconst (v := 0) hx hb dX9_isSign_262 (by decide) ?_
                                                                                                                      obtain rfl := Option.some.inj hf
                                                                                                                      exact k_zret (r := 0) hx hb hr hlocks rfl hK hP hD hS dX9_isSign_263
                                                                                                                    · by_cases hc89 : x0 = 89
                                                                                                                      · refine lv_tableIn (off := 261) (tgt := 262) hx hb dX9_isSign_1 (by rw [hc89]; decide) (by rw [hc89]; decide) (by rw [hc89]; rfl) (by decide) ?_
                                                                                                                        refine lv_iconst (v := 0) hx hb dX9_isSign_262 (by decide) ?_
                                                                                                                        obtain rfl := Option.some.inj hf
                                                                                                                        exact k_zret (r := 0) hx hb hr hlocks rfl hK hP hD hS dX9_isSign_263
                                                                                                                      · by_cases hc90 : x0 = 90
                                                                                                                        · refine lv_tableIn (off := 261) (tgt := 262) hx hb dX9_isSign_1 (by rw [hc90]; decide) (by rw [hc90]; decide) (by rw [hc90]; rfl) (by decide) ?_
                                                                                                                          refine lv_iconst (v := 0) hx hb dX9_isSign_262 (by decide) ?_
                                                                                                                          obtain rfl := Option.some.inj hf
                                                                                                                          exact k_zret (r := 0) hx hb hr hlocks rfl hK hP hD hS dX9_isSign_263
                                                                                                                        · by_cases hc92 : x0 = 92
                                                                                                                          · refine lv_tableIn (off := 261) (tgt := 262) hx hb dX9_isSign_1 (by rw [hc92]; decide) (by rw [hc92]; decide) (by rw [hc92]; rfl) (by decide) ?_
                                                                                                                            refine lv_iconst (v := 0) hx hb dX9_isSign_262 (by decide) ?_
                                                                                                                            obtain rfl := Option.some.inj hf
                                                                                                                            exact k_zret (r := 0) hx hb hr hlocks rfl hK hP hD hS dX9_isSign_263
                                                                                                                          · have z33 := sw_ne (k := 33) (by decide) hc33
                                                                                                                            have z34 := sw_ne (k := 34) (by decide) hc34
                                                                                                                            have z35 := sw_ne (k := 35) (by decide) hc35
                                                                                                                            have z36 := sw_ne (k := 36) (by decide) hc36
                                                                                                                            have z37 := sw_ne (k := 37) (by decide) hc37
                                                                                                                            have z38 := sw_ne (k := 38) (by decide) hc38
                                                                                                                            have z39 := sw_ne (k := 39) (by decide) hc39
                                                                                                                            have z40 := sw_ne (k := 40) (by decide) hc40
                                                                                                                            have z41 := sw_ne (k := 41) (by decide) hc41
                                                                                                                            have z42 := sw_ne (k := 42) (by decide) hc42
                                                                                                                            have z43 := sw_ne (k := 43) (by decide) hc43
                                                                                                                            have z44 := sw_ne (k := 44) (by decide) hc44
                                                                                                                            have z45 := sw_ne (k := 45) (by decide) hc45
                                                                                                                            have z46 := sw_ne (k := 46) (by decide) hc46
                                                                                                                            have z47 := sw_ne (k := 47) (by decide) hc47
                                                                                                                            have z48 := sw_ne (k := 48) (by decide) hc48
                                                                                                                            have z49 := sw_ne (k := 49) (by decide) hc49
                                                                                                                            have z50 := sw_ne (k := 50) (by decide) hc50
                                                                                                                            have z51 := sw_ne (k := 51) (by decide) hc51
                                                                                                                            have z52 := sw_ne (k := 52) (by decide) hc52
                                                                                                                            have z53 := sw_ne (k := 53) (by decide) hc53
                                                                                                                            have z54 := sw_ne (k := 54) (by decide) hc54
                                                                                                                            have z55 := sw_ne (k := 55) (by decide) hc55
                                                                                                                            have z56 := sw_ne (k := 56) (by decide) hc56
                                                                                                                            have z57 := sw_ne (k := 57) (by decide) hc57
                                                                                                                            have z58 := sw_ne (k := 58) (by decide) hc58
                                                                                                                            have z59 := sw_ne (k := 59) (by decide) hc59
                                                                                                                            have z60 := sw_ne (k := 60) (by decide) hc60
                                                                                                                            have z61 := sw_ne (k := 61) (by decide) hc61
                                                                                                                            have z62 := sw_ne (k := 62) (by decide) hc62
                                                                                                                            have z63 := sw_ne (k := 63) (by decide) hc63
                                                                                                                            have z64 := sw_ne (k := 64) (by decide) hc64
                                                                                                                            have z65 := sw_ne (k := 65) (by decide) hc65
                                                                                                                            have z66 := sw_ne (k := 66) (by decide) hc66
                                                                                                                            have z67 := sw_ne (k := 67) (by decide) hc67
                                                                                                                            have z68 := sw_ne (k := 68) (by decide) hc68
                                                                                                                            have z69 := sw_ne (k := 69) (by decide) hc69
                                                                                                                            have z70 := sw_ne (k := 70) (by decide) hc70
                                                                                                                            have z71 := sw_ne (k := 71) (by decide) hc71
                                                                                                                            have z72 := sw_ne (k := 72) (by decide) hc72
                                                                                                                            have z73 := sw_ne (k := 73) (by decide) hc73
                                                                                                                            have z74 := sw_ne (k := 74) (by decide) hc74
                                                                                                                            have z75 := sw_ne (k := 75) (by decide) hc75
                                                                                                                            have z76 := sw_ne (k := 76) (by decide) hc76
                                                                                                                            have z77 := sw_ne (k := 77) (by decide) hc77
                                                                                                                            have z78 := sw_ne (k := 78) (by decide) hc78
                                                                                                                            have z79 := sw_ne (k := 79) (by decide) hc79
                                                                                                                            have z80 := sw_ne (k := 80) (by decide) hc80
                                                                                                                            have z81 := sw_ne (k := 81) (by decide) hc81
                                                                                                                            have z82 := sw_ne (k := 82) (by decide) hc82
                                                                                                                            have z83 := sw_ne (k := 83) (by decide) hc83
                                                                                                                            have z84 := sw_ne (k := 84) (by decide) hc84
                                                                                                                            have z85 := sw_ne (k := 85) (by decide) hc85
                                                                                                                            have z86 := sw_ne (k := 86) (by decide) hc86
                                                                                                                            have z87 := sw_ne (k := 87) (by decide) hc87
                                                                                                                            have z88 := sw_ne (k := 88) (by decide) hc88
                                                                                                                            have z89 := sw_ne (k := 89) (by decide) hc89
                                                                                                                            have z90 := sw_ne (k := 90) (by decide) hc90
                                                                                                                            have z91 := sw_ne (k := 91) (by decide) hc91
                                                                                                                            have z92 := sw_ne (k := 92) (by decide) hc92
                                                                                                                            have z93 := sw_ne (k := 93) (by decide) hc93
                                                                                                                            refine lv_tableOut (tgt := 262) hx hb dX9_isSign_1 (by omega) (by decide) ?_
                                                                                                                            refine lv_iconst (v := 0) hx hb dX9_isSign_262 (by decide) ?_
                                                                                                                            obtain rfl := Option.some.inj hf
                                                                                                                            exact k_zret (r := 0) hx hb hr hlocks rfl hK hP hD hS dX9_isSign_263
/-! MarbleFloor$Tape.scan()V -/
abbrev wlX9_scan : List Cond := Cond.code yX9_scan cX9_scan 4 none :: tbG
abbrev rmX9_scan : Room := { frames := 2, cells := 0, slots := 0, locals := 49 }
theorem qnX9_scan : yX9_scan.cls = RX9 ∧ yX9_scan.cls ≠ "java/lang/invoke/MethodHandle" ∧ yX9_scan.cls ≠ "java/lang/invoke/VarHandle" ∧ (parseMethodDescriptor yX9_scan.desc).map (fun d => d.parameters.length) = some 0 := by decide +kernel
def f_X9_scan_102  (K9 : (Nat → Int32) → (Nat → Nat → Int64) → (Nat → Nat → Int32) → Int32 → Int32 → Option ((Nat → Int32) × (Nat → Nat → Int64) × (Nat → Nat → Int32))) (i0 : Nat → Int32) (l0 : Nat → Nat → Int64) (r0 : Nat → Nat → Int32) (x1 : Int32) (x2 : Int32) : Option ((Nat → Int32) × (Nat → Nat → Int64) × (Nat → Nat → Int32)) := K9 i0 l0 r0 x1 (x2 + 1)
set_option maxRecDepth 100000 in
set_option maxHeartbeats 4000000 in
theorem w_X9_scan_102 {p : Program} {l : Launch} {e : Env} {s : State} {m : MethodId} {args : Array Value} {below : List Frame} {meth : Method} {c : Code} {A : Nat → Prop} {D : va_G} {cs zs : Nat → Nat} {h0 : Nat} {a0 : Nat → Nat}  {q : (Nat → Int32) × (Nat → Nat → Int64) × (Nat → Nat → Int32)} (C : Cx p s m args meth c A D cs zs cX9_scan 4 none RX9) (K9 : (Nat → Int32) → (Nat → Nat → Int64) → (Nat → Nat → Int32) → Int32 → Int32 → Option ((Nat → Int32) × (Nat → Nat → Int64) × (Nat → Nat → Int32))) (hK9 : ∀ (i0 : Nat → Int32) (l0 : Nat → Nat → Int64) (r0 : Nat → Nat → Int32) (x1 : Int32) (x2 : Int32) (H : Heap) (locs : List Loc) (ls : Array Slot), K9 i0 l0 r0 x1 x2 = some q → va_P D vwCl (W9 cs h0 a0 i0 r0 l0) H → va_D A (W9 cs h0 a0 i0 r0 l0) → va_S A s.heap H locs → lv_has ls 4 [(0, .ref h0), (1, .int x1), (2, .int x2)] → W p l e rmX9_scan s m args below meth c H locs 0 0 (MQ below (Qv D cs A (W9 cs h0 a0 q.1 q.2.2 q.2.1)) args s 0 0 A) (F0 m 9 ls [])) : ∀ (i0 : Nat → Int32) (l0 : Nat → Nat → Int64) (r0 : Nat → Nat → Int32) (x1 : Int32) (x2 : Int32) (H : Heap) (locs : List Loc) (ls : Array Slot), f_X9_scan_102 K9 i0 l0 r0 x1 x2 = some q → va_P D vwCl (W9 cs h0 a0 i0 r0 l0) H → va_D A (W9 cs h0 a0 i0 r0 l0) → va_S A s.heap H locs → lv_has ls 4 [(0, .ref h0), (1, .int x1), (2, .int x2)] → W p l e rmX9_scan s m args below meth c H locs 0 0 (MQ below (Qv D cs A (W9 cs h0 a0 q.1 q.2.2 q.2.1)) args s 0 0 A) (F0 m 102 ls []) := by
  obtain ⟨hx, hb, hr, hml, hown, hts, hK, hA, hlocks, hZ⟩ := id C
  intro i0 l0 r0 x1 x2 H locs ls hf hP hD hS hl
  rw [f_X9_scan_102] at hf
  refine lv_iinc (v := x2 + 1) (lv' := [(2, .int (x2 + 1)), (0, .ref h0), (1, .int x1)]) hx hb dX9_scan_102 hl (k := 2) rfl rfl (by decide) rfl (fun ls hl => ?_)
  refine lv_goto (tgt := 9) hx hb dX9_scan_105 (by decide) ?_
  exact hK9 _ _ _ _ _ _ _ _ hf hP hD hS (lv_sub hl [1, 2, 0] rfl)
def f_X9_scan_43  (K9 : (Nat → Int32) → (Nat → Nat → Int64) → (Nat → Nat → Int32) → Int32 → Int32 → Option ((Nat → Int32) × (Nat → Nat → Int64) × (Nat → Nat → Int32))) (i0 : Nat → Int32) (l0 : Nat → Nat → Int64) (r0 : Nat → Nat → Int32) (x1 : Int32) (x2 : Int32) : Option ((Nat → Int32) × (Nat → Nat → Int64) × (Nat → Nat → Int32)) := f_X9_scan_102 K9 i0 l0 r0 (x1 + 1) x2
set_option maxRecDepth 100000 in
set_option maxHeartbeats 4000000 in
theorem w_X9_scan_43 {p : Program} {l : Launch} {e : Env} {s : State} {m : MethodId} {args : Array Value} {below : List Frame} {meth : Method} {c : Code} {A : Nat → Prop} {D : va_G} {cs zs : Nat → Nat} {h0 : Nat} {a0 : Nat → Nat}  {q : (Nat → Int32) × (Nat → Nat → Int64) × (Nat → Nat → Int32)} (C : Cx p s m args meth c A D cs zs cX9_scan 4 none RX9) (K9 : (Nat → Int32) → (Nat → Nat → Int64) → (Nat → Nat → Int32) → Int32 → Int32 → Option ((Nat → Int32) × (Nat → Nat → Int64) × (Nat → Nat → Int32))) (hK9 : ∀ (i0 : Nat → Int32) (l0 : Nat → Nat → Int64) (r0 : Nat → Nat → Int32) (x1 : Int32) (x2 : Int32) (H : Heap) (locs : List Loc) (ls : Array Slot), K9 i0 l0 r0 x1 x2 = some q → va_P D vwCl (W9 cs h0 a0 i0 r0 l0) H → va_D A (W9 cs h0 a0 i0 r0 l0) → va_S A s.heap H locs → lv_has ls 4 [(0, .ref h0), (1, .int x1), (2, .int x2)] → W p l e rmX9_scan s m args below meth c H locs 0 0 (MQ below (Qv D cs A (W9 cs h0 a0 q.1 q.2.2 q.2.1)) args s 0 0 A) (F0 m 9 ls [])) : ∀ (i0 : Nat → Int32) (l0 : Nat → Nat → Int64) (r0 : Nat → Nat → Int32) (x1 : Int32) (x2 : Int32) (H : Heap) (locs : List Loc) (ls : Array Slot), f_X9_scan_43 K9 i0 l0 r0 x1 x2 = some q → va_P D vwCl (W9 cs h0 a0 i0 r0 l0) H → va_D A (W9 cs h0 a0 i0 r0 l0) → va_S A s.heap H locs → lv_has ls 4 [(0, .ref h0), (1, .int x1), (2, .int x2)] → W p l e rmX9_scan s m args below meth c H locs 0 0 (MQ below (Qv D cs A (W9 cs h0 a0 q.1 q.2.2 q.2.1)) args s 0 0 A) (F0 m 43 ls []) := by
  obtain ⟨hx, hb, hr, hml, hown, hts, hK, hA, hlocks, hZ⟩ := id C
  intro i0 l0 r0 x1 x2 H locs ls hf hP hD hS hl
  rw [f_X9_scan_43] at hf
  refine lv_iinc (v := x1 + 1) (lv' := [(1, .int (x1 + 1)), (0, .ref h0), (2, .int x2)]) hx hb dX9_scan_43 hl (k := 1) rfl rfl (by decide) rfl (fun ls hl => ?_)
  refine lv_goto (tgt := 102) hx hb dX9_scan_46 (by decide) ?_
  exact w_X9_scan_102 C _ (hK9) _ _ _ _ _ _ _ _ hf hP hD hS (lv_sub hl [1, 0, 2] rfl)
def f_X9_scan_94  (K9 : (Nat → Int32) → (Nat → Nat → Int64) → (Nat → Nat → Int32) → Int32 → Int32 → Option ((Nat → Int32) × (Nat → Nat → Int64) × (Nat → Nat → Int32))) (i0 : Nat → Int32) (l0 : Nat → Nat → Int64) (r0 : Nat → Nat → Int32) (x1 : Int32) (x2 : Int32) (y0 : Int32) : Option ((Nat → Int32) × (Nat → Nat → Int64) × (Nat → Nat → Int32)) := bd (f_X9_addToken i0 r0 l0 y0 x1 0) (fun q8 => f_X9_scan_102 K9 q8.1 q8.2.1 q8.2.2 (x1 + 1) x2)
set_option maxRecDepth 100000 in
set_option maxHeartbeats 4000000 in
theorem w_X9_scan_94 {p : Program} {l : Launch} {e : Env} {s : State} {m : MethodId} {args : Array Value} {below : List Frame} {meth : Method} {c : Code} {A : Nat → Prop} {D : va_G} {cs zs : Nat → Nat} {h0 : Nat} {a0 : Nat → Nat}  {q : (Nat → Int32) × (Nat → Nat → Int64) × (Nat → Nat → Int32)} (C : Cx p s m args meth c A D cs zs cX9_scan 4 none RX9) (K9 : (Nat → Int32) → (Nat → Nat → Int64) → (Nat → Nat → Int32) → Int32 → Int32 → Option ((Nat → Int32) × (Nat → Nat → Int64) × (Nat → Nat → Int32))) (hK9 : ∀ (i0 : Nat → Int32) (l0 : Nat → Nat → Int64) (r0 : Nat → Nat → Int32) (x1 : Int32) (x2 : Int32) (H : Heap) (locs : List Loc) (ls : Array Slot), K9 i0 l0 r0 x1 x2 = some q → va_P D vwCl (W9 cs h0 a0 i0 r0 l0) H → va_D A (W9 cs h0 a0 i0 r0 l0) → va_S A s.heap H locs → lv_has ls 4 [(0, .ref h0), (1, .int x1), (2, .int x2)] → W p l e rmX9_scan s m args below meth c H locs 0 0 (MQ below (Qv D cs A (W9 cs h0 a0 q.1 q.2.2 q.2.1)) args s 0 0 A) (F0 m 9 ls [])) : ∀ (i0 : Nat → Int32) (l0 : Nat → Nat → Int64) (r0 : Nat → Nat → Int32) (x1 : Int32) (x2 : Int32) (y0 : Int32) (H : Heap) (locs : List Loc) (ls : Array Slot), f_X9_scan_94 K9 i0 l0 r0 x1 x2 y0 = some q → va_P D vwCl (W9 cs h0 a0 i0 r0 l0) H → va_D A (W9 cs h0 a0 i0 r0 l0) → va_S A s.heap H locs → lv_has ls 4 [(0, .ref h0), (1, .int x1), (2, .int x2)] → W p l e rmX9_scan s m args below meth c H locs 0 0 (MQ below (Qv D cs A (W9 cs h0 a0 q.1 q.2.2 q.2.1)) args s 0 0 A) (F0 m 94 ls [.int y0, .ref h0]) := by
  obtain ⟨hx, hb, hr, hml, hown, hts, hK, hA, hlocks, hZ⟩ := id C
  intro i0 l0 r0 x1 x2 y0 H locs ls hf hP hD hS hl
  rw [f_X9_scan_94] at hf
  refine lv_iload_n hx hb dX9_scan_94 rfl (lv_at hl 1 rfl) ?_
  refine lv_lconst (v := 0) hx hb dX9_scan_95 (by decide) ?_
  obtain ⟨q8, hq8, hf⟩ := bd_s hf
  refine k_sVv (ws2 := W9 cs h0 a0 q8.1 q8.2.2 q8.2.1) (As := [.int y0, .int x1, .long 0]) (rest := []) hx hb hml hown hts hK hA hZ hl.1 hP hD hS (c_X9_addToken (h0 := h0) (a0 := a0) hq8) (gVt mlX9_74 imX9_addToken seX9_addToken inX9 coX9_addToken) rfl qnX9_addToken rfl rfl ⟨Nat.le_of_ble_eq_true rfl, Nat.le_of_ble_eq_true rfl⟩ 0 9 rfl rfl rfl rfl rfl (Nat.le_of_ble_eq_true rfl) ⟨Nat.zero_le _, Nat.zero_le _⟩ dX9_scan_96 (fun H locs hP hD hS => ?_)
  refine lv_iinc (v := x1 + 1) (lv' := [(1, .int (x1 + 1)), (0, .ref h0), (2, .int x2)]) hx hb dX9_scan_99 hl (k := 1) rfl rfl (by decide) rfl (fun ls hl => ?_)
  exact w_X9_scan_102 C _ (hK9) _ _ _ _ _ _ _ _ hf hP hD hS (lv_sub hl [1, 0, 2] rfl)
def f_X9_scan_108   (i0 : Nat → Int32) (l0 : Nat → Nat → Int64) (r0 : Nat → Nat → Int32) : Option ((Nat → Int32) × (Nat → Nat → Int64) × (Nat → Nat → Int32)) := bd (f_X9_addToken i0 r0 l0 0 (i0 5) 0) (fun q9 => some (q9.1, q9.2.1, q9.2.2))
set_option maxRecDepth 100000 in
set_option maxHeartbeats 4000000 in
theorem w_X9_scan_108 {p : Program} {l : Launch} {e : Env} {s : State} {m : MethodId} {args : Array Value} {below : List Frame} {meth : Method} {c : Code} {A : Nat → Prop} {D : va_G} {cs zs : Nat → Nat} {h0 : Nat} {a0 : Nat → Nat}  {q : (Nat → Int32) × (Nat → Nat → Int64) × (Nat → Nat → Int32)} (C : Cx p s m args meth c A D cs zs cX9_scan 4 none RX9)  : ∀ (i0 : Nat → Int32) (l0 : Nat → Nat → Int64) (r0 : Nat → Nat → Int32) (H : Heap) (locs : List Loc) (ls : Array Slot), f_X9_scan_108 i0 l0 r0 = some q → va_P D vwCl (W9 cs h0 a0 i0 r0 l0) H → va_D A (W9 cs h0 a0 i0 r0 l0) → va_S A s.heap H locs → lv_has ls 4 [(0, .ref h0)] → W p l e rmX9_scan s m args below meth c H locs 0 0 (MQ below (Qv D cs A (W9 cs h0 a0 q.1 q.2.2 q.2.1)) args s 0 0 A) (F0 m 108 ls []) := by
  obtain ⟨hx, hb, hr, hml, hown, hts, hK, hA, hlocks, hZ⟩ := id C
  intro i0 l0 r0 H locs ls hf hP hD hS hl
  rw [f_X9_scan_108] at hf
  refine lv_aload_n hx hb dX9_scan_108 rfl (lv_at hl 0 rfl) ?_
  refine lv_iconst (v := 0) hx hb dX9_scan_109 (by decide) ?_
  refine lv_aload_n hx hb dX9_scan_110 rfl (lv_at hl 0 rfl) ?_
  refine va_get (D := D) (ci := 9) (v := .int (i0 5)) (C := RX9) (T := TX9) (N := 12) hx hb hts hiX9 hown hK hP 0 rfl rfl 5 (by decide) (hts _ flX9_32) (fun _ h9 => h9) rfl dX9_scan_111 ?_
  refine lv_lconst (v := 0) hx hb dX9_scan_114 (by decide) ?_
  obtain ⟨q9, hq9, hf⟩ := bd_s hf
  refine k_sVv (ws2 := W9 cs h0 a0 q9.1 q9.2.2 q9.2.1) (As := [.int 0, .int (i0 5), .long 0]) (rest := []) hx hb hml hown hts hK hA hZ hl.1 hP hD hS (c_X9_addToken (h0 := h0) (a0 := a0) hq9) (gVt mlX9_74 imX9_addToken seX9_addToken inX9 coX9_addToken) rfl qnX9_addToken rfl rfl ⟨Nat.le_of_ble_eq_true rfl, Nat.le_of_ble_eq_true rfl⟩ 0 9 rfl rfl rfl rfl rfl (Nat.le_of_ble_eq_true rfl) ⟨Nat.zero_le _, Nat.zero_le _⟩ dX9_scan_115 (fun H locs hP hD hS => ?_)
  obtain rfl := Option.some.inj hf
  exact k_vret hx hb hr hlocks hK hP hD hS dX9_scan_118
def f_X9_scan_9   : Nat → (Nat → Int32) → (Nat → Nat → Int64) → (Nat → Nat → Int32) → Int32 → Int32 → Option ((Nat → Int32) × (Nat → Nat → Int64) × (Nat → Nat → Int32))
  | 0, _, _, _, _, _ => none
  | n + 1, i0, l0, r0, x1, x2 => if 900 ≤ x2 then (f_X9_scan_108 i0 l0 r0) else (if (i0 5) ≤ x1 then (f_X9_scan_108 i0 l0 r0) else (ck (inb x1 900) (if (r0 0 x1.toNatClampNeg) = 32 then (f_X9_scan_43 (f_X9_scan_9 n) i0 l0 r0 x1 x2) else (if (r0 0 x1.toNatClampNeg) = 10 then (f_X9_scan_43 (f_X9_scan_9 n) i0 l0 r0 x1 x2) else (bd (f_X9_isSmall (r0 0 x1.toNatClampNeg)) (fun q10 => if q10 = 0 then (bd (f_X9_isDigit (r0 0 x1.toNatClampNeg)) (fun q11 => if q11 = 0 then (bd (f_X9_isSign (r0 0 x1.toNatClampNeg)) (fun q12 => if q12 = 0 then (f_X9_scan_94 (f_X9_scan_9 n) i0 l0 r0 x1 x2 3) else (f_X9_scan_94 (f_X9_scan_9 n) i0 l0 r0 x1 x2 (r0 0 x1.toNatClampNeg)))) else (bd (f_X9_scanNumber i0 r0 l0 x1) (fun q13 => f_X9_scan_102 (f_X9_scan_9 n) q13.2.1 q13.2.2.1 q13.2.2.2 q13.1 x2)))) else (bd (f_X9_scanWord i0 r0 l0 x1) (fun q14 => f_X9_scan_102 (f_X9_scan_9 n) q14.2.1 q14.2.2.1 q14.2.2.2 q14.1 x2))))))))
set_option maxRecDepth 100000 in
set_option maxHeartbeats 4000000 in
theorem w_X9_scan_9 {p : Program} {l : Launch} {e : Env} {s : State} {m : MethodId} {args : Array Value} {below : List Frame} {meth : Method} {c : Code} {A : Nat → Prop} {D : va_G} {cs zs : Nat → Nat} {h0 : Nat} {a0 : Nat → Nat}  {q : (Nat → Int32) × (Nat → Nat → Int64) × (Nat → Nat → Int32)} (C : Cx p s m args meth c A D cs zs cX9_scan 4 none RX9)  : ∀ (n : Nat), ∀ (i0 : Nat → Int32) (l0 : Nat → Nat → Int64) (r0 : Nat → Nat → Int32) (x1 : Int32) (x2 : Int32) (H : Heap) (locs : List Loc) (ls : Array Slot), f_X9_scan_9 n i0 l0 r0 x1 x2 = some q → va_P D vwCl (W9 cs h0 a0 i0 r0 l0) H → va_D A (W9 cs h0 a0 i0 r0 l0) → va_S A s.heap H locs → lv_has ls 4 [(0, .ref h0), (1, .int x1), (2, .int x2)] → W p l e rmX9_scan s m args below meth c H locs 0 0 (MQ below (Qv D cs A (W9 cs h0 a0 q.1 q.2.2 q.2.1)) args s 0 0 A) (F0 m 9 ls []) := by
  obtain ⟨hx, hb, hr, hml, hown, hts, hK, hA, hlocks, hZ⟩ := id C
  intro n
  induction n with
  | zero =>
    intro i0 l0 r0 x1 x2 H locs ls hf
    rw [f_X9_scan_9] at hf
    cases hf
  | succ n ih =>
    intro i0 l0 r0 x1 x2 H locs ls hf hP hD hS hl
    rw [f_X9_scan_9] at hf
    refine lv_iload_n hx hb dX9_scan_9 rfl (lv_at hl 2 rfl) ?_
    refine lv_sipush (v := 900) hx hb dX9_scan_10 (by decide) ?_
    refine lv_icmp_ge (tgt := 108) hx hb dX9_scan_13 (by decide) (fun hc => ?_) (fun hc => ?_)
    · have hf := ite_t hf hc
      exact w_X9_scan_108 C  _ _ _ _ _ _ hf hP hD hS (lv_sub hl [0] rfl)
    · have hf := ite_f hf hc
      refine lv_iload_n hx hb dX9_scan_16 rfl (lv_at hl 1 rfl) ?_
      refine lv_aload_n hx hb dX9_scan_17 rfl (lv_at hl 0 rfl) ?_
      refine va_get (D := D) (ci := 9) (v := .int (i0 5)) (C := RX9) (T := TX9) (N := 12) hx hb hts hiX9 hown hK hP 0 rfl rfl 5 (by decide) (hts _ flX9_32) (fun _ h9 => h9) rfl dX9_scan_18 ?_
      refine lv_icmp_ge (tgt := 108) hx hb dX9_scan_21 (by decide) (fun hc => ?_) (fun hc => ?_)
      · have hf := ite_t hf hc
        exact w_X9_scan_108 C  _ _ _ _ _ _ hf hP hD hS (lv_sub hl [0] rfl)
      · have hf := ite_f hf hc
        refine lv_aload_n hx hb dX9_scan_24 rfl (lv_at hl 0 rfl) ?_
        refine va_get (D := D) (ci := 9) (v := .ref (a0 0)) (C := RX9) (T := TX9) (N := 12) hx hb hts hiX9 hown hK hP 0 rfl rfl 0 (by decide) (hts _ flX9_11) (fun _ h9 => h9) rfl dX9_scan_25 ?_
        refine lv_iload_n hx hb dX9_scan_28 rfl (lv_at hl 1 rfl) ?_
        refine va_iald (f := r0 0) hx hb hK hP 1 0 rfl rfl (ck_in hf) dX9_scan_29 ?_
        have hf := ck_2 hf
        refine lv_istore_n (lv' := [(3, .int (r0 0 x1.toNatClampNeg)), (0, .ref h0), (1, .int x1), (2, .int x2)]) hx hb dX9_scan_30 rfl hl (by decide) rfl (fun ls hl => ?_)
        refine lv_iload_n hx hb dX9_scan_31 rfl (lv_at hl 0 rfl) ?_
        refine lv_bipush (v := 32) hx hb dX9_scan_32 (by decide) ?_
        refine lv_icmp_eq (tgt := 43) hx hb dX9_scan_34 (by decide) (fun hc => ?_) (fun hc => ?_)
        · have hf := ite_t hf hc
          exact w_X9_scan_43 C _ (ih) _ _ _ _ _ _ _ _ hf hP hD hS (lv_sub hl [1, 2, 3] rfl)
        · have hf := ite_f hf hc
          refine lv_iload_n hx hb dX9_scan_37 rfl (lv_at hl 0 rfl) ?_
          refine lv_bipush (v := 10) hx hb dX9_scan_38 (by decide) ?_
          refine lv_icmp_ne (tgt := 49) hx hb dX9_scan_40 (by decide) (fun hc => ?_) (fun hc => ?_)
          · have hf := ite_f hf hc
            refine lv_iload_n hx hb dX9_scan_49 rfl (lv_at hl 0 rfl) ?_
            obtain ⟨q10, hq10, hf⟩ := bd_s hf
            refine k_eSi (As := [.int (r0 0 x1.toNatClampNeg)]) (rest := []) hx hb hml hown hts hK hA hZ hl.1 hP hD hS (c_X9_isSmall  hq10) (gSt mlX9_57 stX9_isSmall inX9 coX9_isSmall) rfl qnX9_isSmall rfl rfl ⟨Nat.le_of_ble_eq_true rfl, Nat.le_of_ble_eq_true rfl⟩ rfl rfl (Nat.le_of_ble_eq_true rfl) ⟨Nat.zero_le _, Nat.zero_le _⟩ dX9_scan_50 (fun H locs hP hD hS => ?_)
            refine lv_if_eq (tgt := 65) hx hb dX9_scan_53 (by decide) (fun hc => ?_) (fun hc => ?_)
            · have hf := ite_t hf hc
              refine lv_iload_n hx hb dX9_scan_65 rfl (lv_at hl 0 rfl) ?_
              obtain ⟨q11, hq11, hf⟩ := bd_s hf
              refine k_eSi (As := [.int (r0 0 x1.toNatClampNeg)]) (rest := []) hx hb hml hown hts hK hA hZ hl.1 hP hD hS (c_X9_isDigit  hq11) (gSt mlX9_65 stX9_isDigit inX9 coX9_isDigit) rfl qnX9_isDigit rfl rfl ⟨Nat.le_of_ble_eq_true rfl, Nat.le_of_ble_eq_true rfl⟩ rfl rfl (Nat.le_of_ble_eq_true rfl) ⟨Nat.zero_le _, Nat.zero_le _⟩ dX9_scan_66 (fun H locs hP hD hS => ?_)
              refine lv_if_eq (tgt := 81) hx hb dX9_scan_69 (by decide) (fun hc => ?_) (fun hc => ?_)
              · have hf := ite_t hf hc
                refine lv_aload_n hx hb dX9_scan_81 rfl (lv_at hl 1 rfl) ?_
                refine lv_iload_n hx hb dX9_scan_82 rfl (lv_at hl 0 rfl) ?_
                obtain ⟨q12, hq12, hf⟩ := bd_s hf
                refine k_eSi (As := [.int (r0 0 x1.toNatClampNeg)]) (rest := [.ref h0]) hx hb hml hown hts hK hA hZ hl.1 hP hD hS (c_X9_isSign  hq12) (gSt mlX9_71 stX9_isSign inX9 coX9_isSign) rfl qnX9_isSign rfl rfl ⟨Nat.le_of_ble_eq_true rfl, Nat.le_of_ble_eq_true rfl⟩ rfl rfl (Nat.le_of_ble_eq_true rfl) ⟨Nat.zero_le _, Nat.zero_le _⟩ dX9_scan_83 (fun H locs hP hD hS => ?_)
                refine lv_if_eq (tgt := 93) hx hb dX9_scan_86 (by decide) (fun hc => ?_) (fun hc => ?_)
                · have hf := ite_t hf hc
                  refine lv_iconst (v := 3) hx hb dX9_scan_93 (by decide) ?_
                  exact w_X9_scan_94 C _ (ih) _ _ _ _ _ _ _ _ _ hf hP hD hS (lv_sub hl [1, 2, 3] rfl)
                · have hf := ite_f hf hc
                  refine lv_iload_n hx hb dX9_scan_89 rfl (lv_at hl 0 rfl) ?_
                  refine lv_goto (tgt := 94) hx hb dX9_scan_90 (by decide) ?_
                  exact w_X9_scan_94 C _ (ih) _ _ _ _ _ _ _ _ _ hf hP hD hS (lv_sub hl [1, 2, 3] rfl)
              · have hf := ite_f hf hc
                refine lv_aload_n hx hb dX9_scan_72 rfl (lv_at hl 1 rfl) ?_
                refine lv_iload_n hx hb dX9_scan_73 rfl (lv_at hl 2 rfl) ?_
                obtain ⟨q13, hq13, hf⟩ := bd_s hf
                refine k_sVi (ws2 := W9 cs h0 a0 q13.2.1 q13.2.2.2 q13.2.2.1) (As := [.int x1]) (rest := []) hx hb hml hown hts hK hA hZ hl.1 hP hD hS (c_X9_scanNumber (h0 := h0) (a0 := a0) hq13) (gVt mlX9_68 imX9_scanNumber seX9_scanNumber inX9 coX9_scanNumber) rfl qnX9_scanNumber rfl rfl ⟨Nat.le_of_ble_eq_true rfl, Nat.le_of_ble_eq_true rfl⟩ 0 9 rfl rfl rfl rfl rfl (Nat.le_of_ble_eq_true rfl) ⟨Nat.zero_le _, Nat.zero_le _⟩ dX9_scan_74 (fun H locs hP hD hS => ?_)
                refine lv_istore_n (lv' := [(1, .int q13.1), (3, .int (r0 0 x1.toNatClampNeg)), (0, .ref h0), (2, .int x2)]) hx hb dX9_scan_77 rfl hl (by decide) rfl (fun ls hl => ?_)
                refine lv_goto (tgt := 102) hx hb dX9_scan_78 (by decide) ?_
                exact w_X9_scan_102 C _ (ih) _ _ _ _ _ _ _ _ hf hP hD hS (lv_sub hl [2, 0, 3] rfl)
            · have hf := ite_f hf hc
              refine lv_aload_n hx hb dX9_scan_56 rfl (lv_at hl 1 rfl) ?_
              refine lv_iload_n hx hb dX9_scan_57 rfl (lv_at hl 2 rfl) ?_
              obtain ⟨q14, hq14, hf⟩ := bd_s hf
              refine k_sVi (ws2 := W9 cs h0 a0 q14.2.1 q14.2.2.2 q14.2.2.1) (As := [.int x1]) (rest := []) hx hb hml hown hts hK hA hZ hl.1 hP hD hS (c_X9_scanWord (h0 := h0) (a0 := a0) hq14) (gVt mlX9_61 imX9_scanWord seX9_scanWord inX9 coX9_scanWord) rfl qnX9_scanWord rfl rfl ⟨Nat.le_of_ble_eq_true rfl, Nat.le_of_ble_eq_true rfl⟩ 0 9 rfl rfl rfl rfl rfl (Nat.le_of_ble_eq_true rfl) ⟨Nat.zero_le _, Nat.zero_le _⟩ dX9_scan_58 (fun H locs hP hD hS => ?_)
              refine lv_istore_n (lv' := [(1, .int q14.1), (3, .int (r0 0 x1.toNatClampNeg)), (0, .ref h0), (2, .int x2)]) hx hb dX9_scan_61 rfl hl (by decide) rfl (fun ls hl => ?_)
              refine lv_goto (tgt := 102) hx hb dX9_scan_62 (by decide) ?_
              exact w_X9_scan_102 C _ (ih) _ _ _ _ _ _ _ _ hf hP hD hS (lv_sub hl [2, 0, 3] rfl)
          · have hf := ite_t hf hc
            exact w_X9_scan_43 C _ (ih) _ _ _ _ _ _ _ _ hf hP hD hS (lv_sub hl [1, 2, 3] rfl)
def f_X9_scan  (i0 : Nat → Int32) (r0 : Nat → Nat → Int32) (l0 : Nat → Nat → Int64)  : Option ((Nat → Int32) × (Nat → Nat → Int64) × (Nat → Nat → Int32)) := f_X9_scan_9 2000000 (upd i0 6 0) l0 r0 0 0
set_option maxRecDepth 100000 in
set_option maxHeartbeats 4000000 in
theorem c_X9_scan {l : Launch} {D : va_G} {cs zs : Nat → Nat} {h0 : Nat} {a0 : Nat → Nat} {i0 : Nat → Int32} {r0 : Nat → Nat → Int32} {l0 : Nat → Nat → Int64}  {q : (Nat → Int32) × (Nat → Nat → Int64) × (Nat → Nat → Int32)} (hf : f_X9_scan i0 r0 l0 = some q) : Mv l yX9_scan wlX9_scan rmX9_scan D cs zs [.ref h0] (W9 cs h0 a0 i0 r0 l0) (W9 cs h0 a0 q.1 q.2.2 q.2.1) := by
  refine Mv.of RX9 (by decide) rfl (Nat.le_of_ble_eq_true rfl) (fun p e s m below meth c A C hP hD hS ls hl => ?_)
  generalize ([.ref h0] : List Value).toArray = args at C ⊢
  obtain ⟨hx, hb, hr, hml, hown, hts, hK, hA, hlocks, hZ⟩ := id C
  have hl : lv_has ls 4 [(0, .ref h0)] := hl
  rw [f_X9_scan] at hf
  refine lv_aload_n hx hb dX9_scan_0 rfl (lv_at hl 0 rfl) ?_
  refine lv_iconst (v := 0) hx hb dX9_scan_1 (by decide) ?_
  refine va_put (D := D) (ci := 9) (v := .int 0) (ty := .int) (C := RX9) (T := TX9) (N := 12) hx hb hts hiX9 tyX9 tyX9_ok nmX9 hown hK hP hD hS 0 rfl rfl 6 (by decide) (hts _ flX9_54) (fun _ h9 => h9) rfl (tyX9_ok 6 (by decide)) rfl rfl (Nat.le_of_ble_eq_true rfl) dX9_scan_2 (fun H locs hP hD hS => ?_)
  obtain ⟨hP, hD⟩ := st9_6 hP hD
  refine lv_iconst (v := 0) hx hb dX9_scan_5 (by decide) ?_
  refine lv_istore_n (lv' := [(1, .int 0), (0, .ref h0)]) hx hb dX9_scan_6 rfl hl (by decide) rfl (fun ls hl => ?_)
  refine lv_iconst (v := 0) hx hb dX9_scan_7 (by decide) ?_
  refine lv_istore_n (lv' := [(2, .int 0), (1, .int 0), (0, .ref h0)]) hx hb dX9_scan_8 rfl hl (by decide) rfl (fun ls hl => ?_)
  exact w_X9_scan_9 C  2000000 _ _ _ _ _ _ _ _ hf hP hD hS (lv_sub hl [2, 1, 0] rfl)
/-! MarbleFloor$Tape.begin()V -/
abbrev wlX9_begin : List Cond := Cond.code yX9_begin cX9_begin 1 none :: tbG
abbrev rmX9_begin : Room := { frames := 3, cells := 0, slots := 0, locals := 72 }
theorem qnX9_begin : yX9_begin.cls = RX9 ∧ yX9_begin.cls ≠ "java/lang/invoke/MethodHandle" ∧ yX9_begin.cls ≠ "java/lang/invoke/VarHandle" ∧ (parseMethodDescriptor yX9_begin.desc).map (fun d => d.parameters.length) = some 0 := by decide +kernel
def f_X9_begin_34   (i0 : Nat → Int32) (l0 : Nat → Nat → Int64) (r0 : Nat → Nat → Int32) : Option ((Nat → Int32) × (Nat → Nat → Int64) × (Nat → Nat → Int32)) := some ((upd i0 11 (-1)), l0, r0)
set_option maxRecDepth 100000 in
set_option maxHeartbeats 4000000 in
theorem w_X9_begin_34 {p : Program} {l : Launch} {e : Env} {s : State} {m : MethodId} {args : Array Value} {below : List Frame} {meth : Method} {c : Code} {A : Nat → Prop} {D : va_G} {cs zs : Nat → Nat} {h0 : Nat} {a0 : Nat → Nat}  {q : (Nat → Int32) × (Nat → Nat → Int64) × (Nat → Nat → Int32)} (C : Cx p s m args meth c A D cs zs cX9_begin 1 none RX9)  : ∀ (i0 : Nat → Int32) (l0 : Nat → Nat → Int64) (r0 : Nat → Nat → Int32) (H : Heap) (locs : List Loc) (ls : Array Slot), f_X9_begin_34 i0 l0 r0 = some q → va_P D vwCl (W9 cs h0 a0 i0 r0 l0) H → va_D A (W9 cs h0 a0 i0 r0 l0) → va_S A s.heap H locs → lv_has ls 1 [(0, .ref h0)] → W p l e rmX9_begin s m args below meth c H locs 0 0 (MQ below (Qv D cs A (W9 cs h0 a0 q.1 q.2.2 q.2.1)) args s 0 0 A) (F0 m 34 ls []) := by
  obtain ⟨hx, hb, hr, hml, hown, hts, hK, hA, hlocks, hZ⟩ := id C
  intro i0 l0 r0 H locs ls hf hP hD hS hl
  rw [f_X9_begin_34] at hf
  refine lv_aload_n hx hb dX9_begin_34 rfl (lv_at hl 0 rfl) ?_
  refine lv_iconst (v := (-1)) hx hb dX9_begin_35 (by decide) ?_
  refine va_put (D := D) (ci := 9) (v := .int (-1)) (ty := .int) (C := RX9) (T := TX9) (N := 12) hx hb hts hiX9 tyX9 tyX9_ok nmX9 hown hK hP hD hS 0 rfl rfl 11 (by decide) (hts _ flX9_28) (fun _ h9 => h9) rfl (tyX9_ok 11 (by decide)) rfl rfl (Nat.le_of_ble_eq_true rfl) dX9_begin_36 (fun H locs hP hD hS => ?_)
  obtain ⟨hP, hD⟩ := st9_11 hP hD
  obtain rfl := Option.some.inj hf
  exact k_vret hx hb hr hlocks hK hP hD hS dX9_begin_39
def f_X9_begin  (i0 : Nat → Int32) (r0 : Nat → Nat → Int32) (l0 : Nat → Nat → Int64)  : Option ((Nat → Int32) × (Nat → Nat → Int64) × (Nat → Nat → Int32)) := bd (f_X9_scan i0 r0 l0) (fun q2 => ck (inb 0 901) (ck (inb 0 901) (f_X9_begin_34 (upd (upd (upd (upd q2.1 7 0) 8 (q2.2.2 1 (0 : Int32).toNatClampNeg)) 9 (q2.2.2 2 (0 : Int32).toNatClampNeg)) 10 0) q2.2.1 q2.2.2)))
set_option maxRecDepth 100000 in
set_option maxHeartbeats 4000000 in
theorem c_X9_begin {l : Launch} {D : va_G} {cs zs : Nat → Nat} {h0 : Nat} {a0 : Nat → Nat} {i0 : Nat → Int32} {r0 : Nat → Nat → Int32} {l0 : Nat → Nat → Int64}  {q : (Nat → Int32) × (Nat → Nat → Int64) × (Nat → Nat → Int32)} (hf : f_X9_begin i0 r0 l0 = some q) : Mv l yX9_begin wlX9_begin rmX9_begin D cs zs [.ref h0] (W9 cs h0 a0 i0 r0 l0) (W9 cs h0 a0 q.1 q.2.2 q.2.1) := by
  refine Mv.of RX9 (by decide) rfl (Nat.le_of_ble_eq_true rfl) (fun p e s m below meth c A C hP hD hS ls hl => ?_)
  generalize ([.ref h0] : List Value).toArray = args at C ⊢
  obtain ⟨hx, hb, hr, hml, hown, hts, hK, hA, hlocks, hZ⟩ := id C
  have hl : lv_has ls 1 [(0, .ref h0)] := hl
  rw [f_X9_begin] at hf
  refine lv_aload_n hx hb dX9_begin_0 rfl (lv_at hl 0 rfl) ?_
  obtain ⟨q2, hq2, hf⟩ := bd_s hf
  refine k_sVv (ws2 := W9 cs h0 a0 q2.1 q2.2.2 q2.2.1) (As := []) (rest := []) hx hb hml hown hts hK hA hZ hl.1 hP hD hS (c_X9_scan (h0 := h0) (a0 := a0) hq2) (gVt mlX9_42 imX9_scan seX9_scan inX9 coX9_scan) rfl qnX9_scan rfl rfl ⟨Nat.le_of_ble_eq_true rfl, Nat.le_of_ble_eq_true rfl⟩ 0 9 rfl rfl rfl rfl rfl (Nat.le_of_ble_eq_true rfl) ⟨Nat.zero_le _, Nat.zero_le _⟩ dX9_begin_1 (fun H locs hP hD hS => ?_)
  refine lv_aload_n hx hb dX9_begin_4 rfl (lv_at hl 0 rfl) ?_
  refine lv_iconst (v := 0) hx hb dX9_begin_5 (by decide) ?_
  refine va_put (D := D) (ci := 9) (v := .int 0) (ty := .int) (C := RX9) (T := TX9) (N := 12) hx hb hts hiX9 tyX9 tyX9_ok nmX9 hown hK hP hD hS 0 rfl rfl 7 (by decide) (hts _ flX9_45) (fun _ h9 => h9) rfl (tyX9_ok 7 (by decide)) rfl rfl (Nat.le_of_ble_eq_true rfl) dX9_begin_6 (fun H locs hP hD hS => ?_)
  obtain ⟨hP, hD⟩ := st9_7 hP hD
  refine lv_aload_n hx hb dX9_begin_9 rfl (lv_at hl 0 rfl) ?_
  refine lv_aload_n hx hb dX9_begin_10 rfl (lv_at hl 0 rfl) ?_
  refine va_get (D := D) (ci := 9) (v := .ref (a0 1)) (C := RX9) (T := TX9) (N := 12) hx hb hts hiX9 hown hK hP 0 rfl rfl 1 (by decide) (hts _ flX9_15) (fun _ h9 => h9) rfl dX9_begin_11 ?_
  refine lv_iconst (v := 0) hx hb dX9_begin_14 (by decide) ?_
  refine va_iald (f := q2.2.2 1) hx hb hK hP 2 0 rfl rfl (ck_in hf) dX9_begin_15 ?_
  have hf := ck_2 hf
  refine va_put (D := D) (ci := 9) (v := .int (q2.2.2 1 (0 : Int32).toNatClampNeg)) (ty := .int) (C := RX9) (T := TX9) (N := 12) hx hb hts hiX9 tyX9 tyX9_ok nmX9 hown hK hP hD hS 0 rfl rfl 8 (by decide) (hts _ flX9_48) (fun _ h9 => h9) rfl (tyX9_ok 8 (by decide)) rfl rfl (Nat.le_of_ble_eq_true rfl) dX9_begin_16 (fun H locs hP hD hS => ?_)
  obtain ⟨hP, hD⟩ := st9_8 hP hD
  refine lv_aload_n hx hb dX9_begin_19 rfl (lv_at hl 0 rfl) ?_
  refine lv_aload_n hx hb dX9_begin_20 rfl (lv_at hl 0 rfl) ?_
  refine va_get (D := D) (ci := 9) (v := .ref (a0 2)) (C := RX9) (T := TX9) (N := 12) hx hb hts hiX9 hown hK hP 0 rfl rfl 2 (by decide) (hts _ flX9_18) (fun _ h9 => h9) rfl dX9_begin_21 ?_
  refine lv_iconst (v := 0) hx hb dX9_begin_24 (by decide) ?_
  refine va_iald (f := q2.2.2 2) hx hb hK hP 3 0 rfl rfl (ck_in hf) dX9_begin_25 ?_
  have hf := ck_2 hf
  refine va_put (D := D) (ci := 9) (v := .int (q2.2.2 2 (0 : Int32).toNatClampNeg)) (ty := .int) (C := RX9) (T := TX9) (N := 12) hx hb hts hiX9 tyX9 tyX9_ok nmX9 hown hK hP hD hS 0 rfl rfl 9 (by decide) (hts _ flX9_51) (fun _ h9 => h9) rfl (tyX9_ok 9 (by decide)) rfl rfl (Nat.le_of_ble_eq_true rfl) dX9_begin_26 (fun H locs hP hD hS => ?_)
  obtain ⟨hP, hD⟩ := st9_9 hP hD
  refine lv_aload_n hx hb dX9_begin_29 rfl (lv_at hl 0 rfl) ?_
  refine lv_iconst (v := 0) hx hb dX9_begin_30 (by decide) ?_
  refine va_put (D := D) (ci := 9) (v := .int 0) (ty := .int) (C := RX9) (T := TX9) (N := 12) hx hb hts hiX9 tyX9 tyX9_ok nmX9 hown hK hP hD hS 0 rfl rfl 10 (by decide) (hts _ flX9_39) (fun _ h9 => h9) rfl (tyX9_ok 10 (by decide)) rfl rfl (Nat.le_of_ble_eq_true rfl) dX9_begin_31 (fun H locs hP hD hS => ?_)
  obtain ⟨hP, hD⟩ := st9_10 hP hD
  exact w_X9_begin_34 C  _ _ _ _ _ _ hf hP hD hS (lv_sub hl [0] rfl)
/-! MarbleFloor$Tape.advance()V -/
abbrev wlX9_advance : List Cond := Cond.code yX9_advance cX9_advance 1 none :: tbG
abbrev rmX9_advance : Room := { frames := 0, cells := 0, slots := 0, locals := 0 }
theorem qnX9_advance : yX9_advance.cls = RX9 ∧ yX9_advance.cls ≠ "java/lang/invoke/MethodHandle" ∧ yX9_advance.cls ≠ "java/lang/invoke/VarHandle" ∧ (parseMethodDescriptor yX9_advance.desc).map (fun d => d.parameters.length) = some 0 := by decide +kernel
def f_X9_advance  (i0 : Nat → Int32) (r0 : Nat → Nat → Int32) (l0 : Nat → Nat → Int64)  : Option ((Nat → Int32)) := if (i0 10) = 0 then (if ((i0 6) - 1) ≤ (i0 7) then (some (i0)) else (ck (inb ((i0 7) + 1) 901) (ck (inb ((i0 7) + 1) 901) (some ((upd (upd (upd i0 7 ((i0 7) + 1)) 8 (r0 1 ((i0 7) + 1).toNatClampNeg)) 9 (r0 2 ((i0 7) + 1).toNatClampNeg))))))) else (some (i0))
set_option maxRecDepth 100000 in
set_option maxHeartbeats 4000000 in
theorem c_X9_advance {l : Launch} {D : va_G} {cs zs : Nat → Nat} {h0 : Nat} {a0 : Nat → Nat} {i0 : Nat → Int32} {r0 : Nat → Nat → Int32} {l0 : Nat → Nat → Int64}  {q : (Nat → Int32)} (hf : f_X9_advance i0 r0 l0 = some q) : Mv l yX9_advance wlX9_advance rmX9_advance D cs zs [.ref h0] (W9 cs h0 a0 i0 r0 l0) (W9 cs h0 a0 q r0 l0) := by
  refine Mv.of RX9 (by decide) rfl (Nat.le_of_ble_eq_true rfl) (fun p e s m below meth c A C hP hD hS ls hl => ?_)
  generalize ([.ref h0] : List Value).toArray = args at C ⊢
  obtain ⟨hx, hb, hr, hml, hown, hts, hK, hA, hlocks, hZ⟩ := id C
  have hl : lv_has ls 1 [(0, .ref h0)] := hl
  rw [f_X9_advance] at hf
  refine lv_aload_n hx hb dX9_advance_0 rfl (lv_at hl 0 rfl) ?_
  refine va_get (D := D) (ci := 9) (v := .int (i0 10)) (C := RX9) (T := TX9) (N := 12) hx hb hts hiX9 hown hK hP 0 rfl rfl 10 (by decide) (hts _ flX9_39) (fun _ h9 => h9) rfl dX9_advance_1 ?_
  refine lv_if_ne (tgt := 56) hx hb dX9_advance_4 (by decide) (fun hc => ?_) (fun hc => ?_)
  · have hf := ite_f hf hc
    obtain rfl := Option.some.inj hf
    exact k_vret hx hb hr hlocks hK hP hD hS dX9_advance_56
  · have hf := ite_t hf hc
    refine lv_aload_n hx hb dX9_advance_7 rfl (lv_at hl 0 rfl) ?_
    refine va_get (D := D) (ci := 9) (v := .int (i0 7)) (C := RX9) (T := TX9) (N := 12) hx hb hts hiX9 hown hK hP 0 rfl rfl 7 (by decide) (hts _ flX9_45) (fun _ h9 => h9) rfl dX9_advance_8 ?_
    refine lv_aload_n hx hb dX9_advance_11 rfl (lv_at hl 0 rfl) ?_
    refine va_get (D := D) (ci := 9) (v := .int (i0 6)) (C := RX9) (T := TX9) (N := 12) hx hb hts hiX9 hown hK hP 0 rfl rfl 6 (by decide) (hts _ flX9_54) (fun _ h9 => h9) rfl dX9_advance_12 ?_
    refine lv_iconst (v := 1) hx hb dX9_advance_15 (by decide) ?_
    refine lv_isub hx hb dX9_advance_16 ?_
    refine lv_icmp_ge (tgt := 56) hx hb dX9_advance_17 (by decide) (fun hc => ?_) (fun hc => ?_)
    · have hf := ite_t hf hc
      obtain rfl := Option.some.inj hf
      exact k_vret hx hb hr hlocks hK hP hD hS dX9_advance_56
    · have hf := ite_f hf hc
      refine lv_aload_n hx hb dX9_advance_20 rfl (lv_at hl 0 rfl) ?_
      refine lv_dup hx hb dX9_advance_21 rfl ?_
      refine va_get (D := D) (ci := 9) (v := .int (i0 7)) (C := RX9) (T := TX9) (N := 12) hx hb hts hiX9 hown hK hP 0 rfl rfl 7 (by decide) (hts _ flX9_45) (fun _ h9 => h9) rfl dX9_advance_22 ?_
      refine lv_iconst (v := 1) hx hb dX9_advance_25 (by decide) ?_
      refine lv_iadd hx hb dX9_advance_26 ?_
      refine va_put (D := D) (ci := 9) (v := .int ((i0 7) + 1)) (ty := .int) (C := RX9) (T := TX9) (N := 12) hx hb hts hiX9 tyX9 tyX9_ok nmX9 hown hK hP hD hS 0 rfl rfl 7 (by decide) (hts _ flX9_45) (fun _ h9 => h9) rfl (tyX9_ok 7 (by decide)) rfl rfl (Nat.le_of_ble_eq_true rfl) dX9_advance_27 (fun H locs hP hD hS => ?_)
      obtain ⟨hP, hD⟩ := st9_7 hP hD
      refine lv_aload_n hx hb dX9_advance_30 rfl (lv_at hl 0 rfl) ?_
      refine lv_aload_n hx hb dX9_advance_31 rfl (lv_at hl 0 rfl) ?_
      refine va_get (D := D) (ci := 9) (v := .ref (a0 1)) (C := RX9) (T := TX9) (N := 12) hx hb hts hiX9 hown hK hP 0 rfl rfl 1 (by decide) (hts _ flX9_15) (fun _ h9 => h9) rfl dX9_advance_32 ?_
      refine lv_aload_n hx hb dX9_advance_35 rfl (lv_at hl 0 rfl) ?_
      refine va_get (D := D) (ci := 9) (v := .int ((i0 7) + 1)) (C := RX9) (T := TX9) (N := 12) hx hb hts hiX9 hown hK hP 0 rfl rfl 7 (by decide) (hts _ flX9_45) (fun _ h9 => h9) rfl dX9_advance_36 ?_
      refine va_iald (f := r0 1) hx hb hK hP 2 0 rfl rfl (ck_in hf) dX9_advance_39 ?_
      have hf := ck_2 hf
      refine va_put (D := D) (ci := 9) (v := .int (r0 1 ((i0 7) + 1).toNatClampNeg)) (ty := .int) (C := RX9) (T := TX9) (N := 12) hx hb hts hiX9 tyX9 tyX9_ok nmX9 hown hK hP hD hS 0 rfl rfl 8 (by decide) (hts _ flX9_48) (fun _ h9 => h9) rfl (tyX9_ok 8 (by decide)) rfl rfl (Nat.le_of_ble_eq_true rfl) dX9_advance_40 (fun H locs hP hD hS => ?_)
      obtain ⟨hP, hD⟩ := st9_8 hP hD
      refine lv_aload_n hx hb dX9_advance_43 rfl (lv_at hl 0 rfl) ?_
      refine lv_aload_n hx hb dX9_advance_44 rfl (lv_at hl 0 rfl) ?_
      refine va_get (D := D) (ci := 9) (v := .ref (a0 2)) (C := RX9) (T := TX9) (N := 12) hx hb hts hiX9 hown hK hP 0 rfl rfl 2 (by decide) (hts _ flX9_18) (fun _ h9 => h9) rfl dX9_advance_45 ?_
      refine lv_aload_n hx hb dX9_advance_48 rfl (lv_at hl 0 rfl) ?_
      refine va_get (D := D) (ci := 9) (v := .int ((i0 7) + 1)) (C := RX9) (T := TX9) (N := 12) hx hb hts hiX9 hown hK hP 0 rfl rfl 7 (by decide) (hts _ flX9_45) (fun _ h9 => h9) rfl dX9_advance_49 ?_
      refine va_iald (f := r0 2) hx hb hK hP 3 0 rfl rfl (ck_in hf) dX9_advance_52 ?_
      have hf := ck_2 hf
      refine va_put (D := D) (ci := 9) (v := .int (r0 2 ((i0 7) + 1).toNatClampNeg)) (ty := .int) (C := RX9) (T := TX9) (N := 12) hx hb hts hiX9 tyX9 tyX9_ok nmX9 hown hK hP hD hS 0 rfl rfl 9 (by decide) (hts _ flX9_51) (fun _ h9 => h9) rfl (tyX9_ok 9 (by decide)) rfl rfl (Nat.le_of_ble_eq_true rfl) dX9_advance_53 (fun H locs hP hD hS => ?_)
      obtain ⟨hP, hD⟩ := st9_9 hP hD
      obtain rfl := Option.some.inj hf
      exact k_vret hx hb hr hlocks hK hP hD hS dX9_advance_56
/-! MarbleFloor$Tape.fail(I)V -/
abbrev wlX9_fail : List Cond := Cond.code yX9_fail cX9_fail 2 none :: tbG
abbrev rmX9_fail : Room := { frames := 0, cells := 0, slots := 0, locals := 0 }
theorem qnX9_fail : yX9_fail.cls = RX9 ∧ yX9_fail.cls ≠ "java/lang/invoke/MethodHandle" ∧ yX9_fail.cls ≠ "java/lang/invoke/VarHandle" ∧ (parseMethodDescriptor yX9_fail.desc).map (fun d => d.parameters.length) = some 1 := by decide +kernel
def f_X9_fail  (i0 : Nat → Int32) (r0 : Nat → Nat → Int32) (l0 : Nat → Nat → Int64) (x1 : Int32) : Option ((Nat → Int32)) := if (i0 10) = 0 then (ck (inb (i0 7) 901) (some ((upd (upd (upd (upd i0 10 x1) 11 (r0 3 (i0 7).toNatClampNeg)) 8 3) 9 (-1))))) else (some ((upd (upd i0 8 3) 9 (-1))))
set_option maxRecDepth 100000 in
set_option maxHeartbeats 4000000 in
theorem c_X9_fail {l : Launch} {D : va_G} {cs zs : Nat → Nat} {h0 : Nat} {a0 : Nat → Nat} {i0 : Nat → Int32} {r0 : Nat → Nat → Int32} {l0 : Nat → Nat → Int64} {x1 : Int32} {q : (Nat → Int32)} (hf : f_X9_fail i0 r0 l0 x1 = some q) : Mv l yX9_fail wlX9_fail rmX9_fail D cs zs [.ref h0, .int x1] (W9 cs h0 a0 i0 r0 l0) (W9 cs h0 a0 q r0 l0) := by
  refine Mv.of RX9 (by decide) rfl (Nat.le_of_ble_eq_true rfl) (fun p e s m below meth c A C hP hD hS ls hl => ?_)
  generalize ([.ref h0, .int x1] : List Value).toArray = args at C ⊢
  obtain ⟨hx, hb, hr, hml, hown, hts, hK, hA, hlocks, hZ⟩ := id C
  have hl : lv_has ls 2 [(0, .ref h0), (1, .int x1)] := hl
  rw [f_X9_fail] at hf
  refine lv_aload_n hx hb dX9_fail_0 rfl (lv_at hl 0 rfl) ?_
  refine va_get (D := D) (ci := 9) (v := .int (i0 10)) (C := RX9) (T := TX9) (N := 12) hx hb hts hiX9 hown hK hP 0 rfl rfl 10 (by decide) (hts _ flX9_39) (fun _ h9 => h9) rfl dX9_fail_1 ?_
  refine lv_if_ne (tgt := 25) hx hb dX9_fail_4 (by decide) (fun hc => ?_) (fun hc => ?_)
  · have hf := ite_f hf hc
    refine lv_aload_n hx hb dX9_fail_25 rfl (lv_at hl 0 rfl) ?_
    refine lv_iconst (v := 3) hx hb dX9_fail_26 (by decide) ?_
    refine va_put (D := D) (ci := 9) (v := .int 3) (ty := .int) (C := RX9) (T := TX9) (N := 12) hx hb hts hiX9 tyX9 tyX9_ok nmX9 hown hK hP hD hS 0 rfl rfl 8 (by decide) (hts _ flX9_48) (fun _ h9 => h9) rfl (tyX9_ok 8 (by decide)) rfl rfl (Nat.le_of_ble_eq_true rfl) dX9_fail_27 (fun H locs hP hD hS => ?_)
    obtain ⟨hP, hD⟩ := st9_8 hP hD
    refine lv_aload_n hx hb dX9_fail_30 rfl (lv_at hl 0 rfl) ?_
    refine lv_iconst (v := (-1)) hx hb dX9_fail_31 (by decide) ?_
    refine va_put (D := D) (ci := 9) (v := .int (-1)) (ty := .int) (C := RX9) (T := TX9) (N := 12) hx hb hts hiX9 tyX9 tyX9_ok nmX9 hown hK hP hD hS 0 rfl rfl 9 (by decide) (hts _ flX9_51) (fun _ h9 => h9) rfl (tyX9_ok 9 (by decide)) rfl rfl (Nat.le_of_ble_eq_true rfl) dX9_fail_32 (fun H locs hP hD hS => ?_)
    obtain ⟨hP, hD⟩ := st9_9 hP hD
    obtain rfl := Option.some.inj hf
    exact k_vret hx hb hr hlocks hK hP hD hS dX9_fail_35
  · have hf := ite_t hf hc
    refine lv_aload_n hx hb dX9_fail_7 rfl (lv_at hl 0 rfl) ?_
    refine lv_iload_n hx hb dX9_fail_8 rfl (lv_at hl 1 rfl) ?_
    refine va_put (D := D) (ci := 9) (v := .int x1) (ty := .int) (C := RX9) (T := TX9) (N := 12) hx hb hts hiX9 tyX9 tyX9_ok nmX9 hown hK hP hD hS 0 rfl rfl 10 (by decide) (hts _ flX9_39) (fun _ h9 => h9) rfl (tyX9_ok 10 (by decide)) rfl rfl (Nat.le_of_ble_eq_true rfl) dX9_fail_9 (fun H locs hP hD hS => ?_)
    obtain ⟨hP, hD⟩ := st9_10 hP hD
    refine lv_aload_n hx hb dX9_fail_12 rfl (lv_at hl 0 rfl) ?_
    refine lv_aload_n hx hb dX9_fail_13 rfl (lv_at hl 0 rfl) ?_
    refine va_get (D := D) (ci := 9) (v := .ref (a0 3)) (C := RX9) (T := TX9) (N := 12) hx hb hts hiX9 hown hK hP 0 rfl rfl 3 (by decide) (hts _ flX9_21) (fun _ h9 => h9) rfl dX9_fail_14 ?_
    refine lv_aload_n hx hb dX9_fail_17 rfl (lv_at hl 0 rfl) ?_
    refine va_get (D := D) (ci := 9) (v := .int (i0 7)) (C := RX9) (T := TX9) (N := 12) hx hb hts hiX9 hown hK hP 0 rfl rfl 7 (by decide) (hts _ flX9_45) (fun _ h9 => h9) rfl dX9_fail_18 ?_
    refine va_iald (f := r0 3) hx hb hK hP 4 0 rfl rfl (ck_in hf) dX9_fail_21 ?_
    have hf := ck_2 hf
    refine va_put (D := D) (ci := 9) (v := .int (r0 3 (i0 7).toNatClampNeg)) (ty := .int) (C := RX9) (T := TX9) (N := 12) hx hb hts hiX9 tyX9 tyX9_ok nmX9 hown hK hP hD hS 0 rfl rfl 11 (by decide) (hts _ flX9_28) (fun _ h9 => h9) rfl (tyX9_ok 11 (by decide)) rfl rfl (Nat.le_of_ble_eq_true rfl) dX9_fail_22 (fun H locs hP hD hS => ?_)
    obtain ⟨hP, hD⟩ := st9_11 hP hD
    refine lv_aload_n hx hb dX9_fail_25 rfl (lv_at hl 0 rfl) ?_
    refine lv_iconst (v := 3) hx hb dX9_fail_26 (by decide) ?_
    refine va_put (D := D) (ci := 9) (v := .int 3) (ty := .int) (C := RX9) (T := TX9) (N := 12) hx hb hts hiX9 tyX9 tyX9_ok nmX9 hown hK hP hD hS 0 rfl rfl 8 (by decide) (hts _ flX9_48) (fun _ h9 => h9) rfl (tyX9_ok 8 (by decide)) rfl rfl (Nat.le_of_ble_eq_true rfl) dX9_fail_27 (fun H locs hP hD hS => ?_)
    obtain ⟨hP, hD⟩ := st9_8 hP hD
    refine lv_aload_n hx hb dX9_fail_30 rfl (lv_at hl 0 rfl) ?_
    refine lv_iconst (v := (-1)) hx hb dX9_fail_31 (by decide) ?_
    refine va_put (D := D) (ci := 9) (v := .int (-1)) (ty := .int) (C := RX9) (T := TX9) (N := 12) hx hb hts hiX9 tyX9 tyX9_ok nmX9 hown hK hP hD hS 0 rfl rfl 9 (by decide) (hts _ flX9_51) (fun _ h9 => h9) rfl (tyX9_ok 9 (by decide)) rfl rfl (Nat.le_of_ble_eq_true rfl) dX9_fail_32 (fun H locs hP hD hS => ?_)
    obtain ⟨hP, hD⟩ := st9_9 hP hD
    obtain rfl := Option.some.inj hf
    exact k_vret hx hb hr hlocks hK hP hD hS dX9_fail_35
/-! MarbleFloor$Tape.failed()Z -/
abbrev wlX9_failed : List Cond := Cond.code yX9_failed cX9_failed 1 (some .boolean) :: tbG
abbrev rmX9_failed : Room := { frames := 0, cells := 0, slots := 0, locals := 0 }
theorem qnX9_failed : yX9_failed.cls = RX9 ∧ yX9_failed.cls ≠ "java/lang/invoke/MethodHandle" ∧ yX9_failed.cls ≠ "java/lang/invoke/VarHandle" ∧ (parseMethodDescriptor yX9_failed.desc).map (fun d => d.parameters.length) = some 0 := by decide +kernel
def f_X9_failed  (i0 : Nat → Int32) (r0 : Nat → Nat → Int32) (l0 : Nat → Nat → Int64)  : Option (Int32) := if (i0 10) = 0 then (some (0)) else (some (1))
set_option maxRecDepth 100000 in
set_option maxHeartbeats 4000000 in
theorem c_X9_failed {l : Launch} {D : va_G} {cs zs : Nat → Nat} {h0 : Nat} {a0 : Nat → Nat} {i0 : Nat → Int32} {r0 : Nat → Nat → Int32} {l0 : Nat → Nat → Int64}  {q : Int32} (hf : f_X9_failed i0 r0 l0 = some q) : Mi l yX9_failed wlX9_failed rmX9_failed D cs zs [.ref h0] (W9 cs h0 a0 i0 r0 l0) q (W9 cs h0 a0 i0 r0 l0) := by
  refine Mi.of RX9 (by decide) rfl (Nat.le_of_ble_eq_true rfl) (fun p e s m below meth c A C hP hD hS ls hl => ?_)
  generalize ([.ref h0] : List Value).toArray = args at C ⊢
  obtain ⟨hx, hb, hr, hml, hown, hts, hK, hA, hlocks, hZ⟩ := id C
  have hl : lv_has ls 1 [(0, .ref h0)] := hl
  rw [f_X9_failed] at hf
  refine lv_aload_n hx hb dX9_failed_0 rfl (lv_at hl 0 rfl) ?_
  refine va_get (D := D) (ci := 9) (v := .int (i0 10)) (C := RX9) (T := TX9) (N := 12) hx hb hts hiX9 hown hK hP 0 rfl rfl 10 (by decide) (hts _ flX9_39) (fun _ h9 => h9) rfl dX9_failed_1 ?_
  refine lv_if_eq (tgt := 11) hx hb dX9_failed_4 (by decide) (fun hc => ?_) (fun hc => ?_)
  · have hf := ite_t hf hc
    refine lv_iconst (v := 0) hx hb dX9_failed_11 (by decide) ?_
    obtain rfl := Option.some.inj hf
    exact k_zret (r := 0) hx hb hr hlocks rfl hK hP hD hS dX9_failed_12
  · have hf := ite_f hf hc
    refine lv_iconst (v := 1) hx hb dX9_failed_7 (by decide) ?_
    refine lv_goto (tgt := 12) hx hb dX9_failed_8 (by decide) ?_
    obtain rfl := Option.some.inj hf
    exact k_zret (r := 1) hx hb hr hlocks rfl hK hP hD hS dX9_failed_12
/-! MarbleFloor$Tape.kind()I -/
abbrev wlX9_kind : List Cond := Cond.code yX9_kind cX9_kind 1 (some .int) :: tbG
abbrev rmX9_kind : Room := { frames := 0, cells := 0, slots := 0, locals := 0 }
theorem qnX9_kind : yX9_kind.cls = RX9 ∧ yX9_kind.cls ≠ "java/lang/invoke/MethodHandle" ∧ yX9_kind.cls ≠ "java/lang/invoke/VarHandle" ∧ (parseMethodDescriptor yX9_kind.desc).map (fun d => d.parameters.length) = some 0 := by decide +kernel
def f_X9_kind  (i0 : Nat → Int32) (r0 : Nat → Nat → Int32) (l0 : Nat → Nat → Int64)  : Option (Int32) := some (i0 8)
set_option maxRecDepth 100000 in
set_option maxHeartbeats 4000000 in
theorem c_X9_kind {l : Launch} {D : va_G} {cs zs : Nat → Nat} {h0 : Nat} {a0 : Nat → Nat} {i0 : Nat → Int32} {r0 : Nat → Nat → Int32} {l0 : Nat → Nat → Int64}  {q : Int32} (hf : f_X9_kind i0 r0 l0 = some q) : Mi l yX9_kind wlX9_kind rmX9_kind D cs zs [.ref h0] (W9 cs h0 a0 i0 r0 l0) q (W9 cs h0 a0 i0 r0 l0) := by
  refine Mi.of RX9 (by decide) rfl (Nat.le_of_ble_eq_true rfl) (fun p e s m below meth c A C hP hD hS ls hl => ?_)
  generalize ([.ref h0] : List Value).toArray = args at C ⊢
  obtain ⟨hx, hb, hr, hml, hown, hts, hK, hA, hlocks, hZ⟩ := id C
  have hl : lv_has ls 1 [(0, .ref h0)] := hl
  rw [f_X9_kind] at hf
  refine lv_aload_n hx hb dX9_kind_0 rfl (lv_at hl 0 rfl) ?_
  refine va_get (D := D) (ci := 9) (v := .int (i0 8)) (C := RX9) (T := TX9) (N := 12) hx hb hts hiX9 hown hK hP 0 rfl rfl 8 (by decide) (hts _ flX9_48) (fun _ h9 => h9) rfl dX9_kind_1 ?_
  obtain rfl := Option.some.inj hf
  exact k_iret hx hb hr hlocks hK hP hD hS dX9_kind_4
/-! MarbleFloor$Tape.key()I -/
abbrev wlX9_key : List Cond := Cond.code yX9_key cX9_key 1 (some .int) :: tbG
abbrev rmX9_key : Room := { frames := 0, cells := 0, slots := 0, locals := 0 }
theorem qnX9_key : yX9_key.cls = RX9 ∧ yX9_key.cls ≠ "java/lang/invoke/MethodHandle" ∧ yX9_key.cls ≠ "java/lang/invoke/VarHandle" ∧ (parseMethodDescriptor yX9_key.desc).map (fun d => d.parameters.length) = some 0 := by decide +kernel
def f_X9_key  (i0 : Nat → Int32) (r0 : Nat → Nat → Int32) (l0 : Nat → Nat → Int64)  : Option (Int32) := some (i0 9)
set_option maxRecDepth 100000 in
set_option maxHeartbeats 4000000 in
theorem c_X9_key {l : Launch} {D : va_G} {cs zs : Nat → Nat} {h0 : Nat} {a0 : Nat → Nat} {i0 : Nat → Int32} {r0 : Nat → Nat → Int32} {l0 : Nat → Nat → Int64}  {q : Int32} (hf : f_X9_key i0 r0 l0 = some q) : Mi l yX9_key wlX9_key rmX9_key D cs zs [.ref h0] (W9 cs h0 a0 i0 r0 l0) q (W9 cs h0 a0 i0 r0 l0) := by
  refine Mi.of RX9 (by decide) rfl (Nat.le_of_ble_eq_true rfl) (fun p e s m below meth c A C hP hD hS ls hl => ?_)
  generalize ([.ref h0] : List Value).toArray = args at C ⊢
  obtain ⟨hx, hb, hr, hml, hown, hts, hK, hA, hlocks, hZ⟩ := id C
  have hl : lv_has ls 1 [(0, .ref h0)] := hl
  rw [f_X9_key] at hf
  refine lv_aload_n hx hb dX9_key_0 rfl (lv_at hl 0 rfl) ?_
  refine va_get (D := D) (ci := 9) (v := .int (i0 9)) (C := RX9) (T := TX9) (N := 12) hx hb hts hiX9 hown hK hP 0 rfl rfl 9 (by decide) (hts _ flX9_51) (fun _ h9 => h9) rfl dX9_key_1 ?_
  obtain rfl := Option.some.inj hf
  exact k_iret hx hb hr hlocks hK hP hD hS dX9_key_4
/-! MarbleFloor$Tape.number()I -/
abbrev wlX9_number : List Cond := Cond.code yX9_number cX9_number 1 (some .int) :: tbG
abbrev rmX9_number : Room := { frames := 0, cells := 0, slots := 0, locals := 0 }
theorem qnX9_number : yX9_number.cls = RX9 ∧ yX9_number.cls ≠ "java/lang/invoke/MethodHandle" ∧ yX9_number.cls ≠ "java/lang/invoke/VarHandle" ∧ (parseMethodDescriptor yX9_number.desc).map (fun d => d.parameters.length) = some 0 := by decide +kernel
def f_X9_number  (i0 : Nat → Int32) (r0 : Nat → Nat → Int32) (l0 : Nat → Nat → Int64)  : Option (Int32) := ck (inb (i0 7) 901) (some ((l0 4 (i0 7).toNatClampNeg).toInt32))
set_option maxRecDepth 100000 in
set_option maxHeartbeats 4000000 in
theorem c_X9_number {l : Launch} {D : va_G} {cs zs : Nat → Nat} {h0 : Nat} {a0 : Nat → Nat} {i0 : Nat → Int32} {r0 : Nat → Nat → Int32} {l0 : Nat → Nat → Int64}  {q : Int32} (hf : f_X9_number i0 r0 l0 = some q) : Mi l yX9_number wlX9_number rmX9_number D cs zs [.ref h0] (W9 cs h0 a0 i0 r0 l0) q (W9 cs h0 a0 i0 r0 l0) := by
  refine Mi.of RX9 (by decide) rfl (Nat.le_of_ble_eq_true rfl) (fun p e s m below meth c A C hP hD hS ls hl => ?_)
  generalize ([.ref h0] : List Value).toArray = args at C ⊢
  obtain ⟨hx, hb, hr, hml, hown, hts, hK, hA, hlocks, hZ⟩ := id C
  have hl : lv_has ls 1 [(0, .ref h0)] := hl
  rw [f_X9_number] at hf
  refine lv_aload_n hx hb dX9_number_0 rfl (lv_at hl 0 rfl) ?_
  refine va_get (D := D) (ci := 9) (v := .ref (a0 4)) (C := RX9) (T := TX9) (N := 12) hx hb hts hiX9 hown hK hP 0 rfl rfl 4 (by decide) (hts _ flX9_24) (fun _ h9 => h9) rfl dX9_number_1 ?_
  refine lv_aload_n hx hb dX9_number_4 rfl (lv_at hl 0 rfl) ?_
  refine va_get (D := D) (ci := 9) (v := .int (i0 7)) (C := RX9) (T := TX9) (N := 12) hx hb hts hiX9 hown hK hP 0 rfl rfl 7 (by decide) (hts _ flX9_45) (fun _ h9 => h9) rfl dX9_number_5 ?_
  refine va_lald (f := l0 4) hx hb hK hP 5 1 rfl rfl (ck_in hf) dX9_number_8 ?_
  have hf := ck_2 hf
  refine lv_l2i hx hb dX9_number_9 rfl ?_
  obtain rfl := Option.some.inj hf
  exact k_iret hx hb hr hlocks hK hP hD hS dX9_number_10
/-! MarbleFloor$Tape.word()J -/
abbrev wlX9_word : List Cond := Cond.code yX9_word cX9_word 1 (some .long) :: tbG
abbrev rmX9_word : Room := { frames := 0, cells := 0, slots := 0, locals := 0 }
theorem qnX9_word : yX9_word.cls = RX9 ∧ yX9_word.cls ≠ "java/lang/invoke/MethodHandle" ∧ yX9_word.cls ≠ "java/lang/invoke/VarHandle" ∧ (parseMethodDescriptor yX9_word.desc).map (fun d => d.parameters.length) = some 0 := by decide +kernel
def f_X9_word  (i0 : Nat → Int32) (r0 : Nat → Nat → Int32) (l0 : Nat → Nat → Int64)  : Option (Int64) := ck (inb (i0 7) 901) (some (l0 4 (i0 7).toNatClampNeg))
set_option maxRecDepth 100000 in
set_option maxHeartbeats 4000000 in
theorem c_X9_word {l : Launch} {D : va_G} {cs zs : Nat → Nat} {h0 : Nat} {a0 : Nat → Nat} {i0 : Nat → Int32} {r0 : Nat → Nat → Int32} {l0 : Nat → Nat → Int64}  {q : Int64} (hf : f_X9_word i0 r0 l0 = some q) : Ml l yX9_word wlX9_word rmX9_word D cs zs [.ref h0] (W9 cs h0 a0 i0 r0 l0) q (W9 cs h0 a0 i0 r0 l0) := by
  refine Ml.of RX9 (by decide) rfl (Nat.le_of_ble_eq_true rfl) (fun p e s m below meth c A C hP hD hS ls hl => ?_)
  generalize ([.ref h0] : List Value).toArray = args at C ⊢
  obtain ⟨hx, hb, hr, hml, hown, hts, hK, hA, hlocks, hZ⟩ := id C
  have hl : lv_has ls 1 [(0, .ref h0)] := hl
  rw [f_X9_word] at hf
  refine lv_aload_n hx hb dX9_word_0 rfl (lv_at hl 0 rfl) ?_
  refine va_get (D := D) (ci := 9) (v := .ref (a0 4)) (C := RX9) (T := TX9) (N := 12) hx hb hts hiX9 hown hK hP 0 rfl rfl 4 (by decide) (hts _ flX9_24) (fun _ h9 => h9) rfl dX9_word_1 ?_
  refine lv_aload_n hx hb dX9_word_4 rfl (lv_at hl 0 rfl) ?_
  refine va_get (D := D) (ci := 9) (v := .int (i0 7)) (C := RX9) (T := TX9) (N := 12) hx hb hts hiX9 hown hK hP 0 rfl rfl 7 (by decide) (hts _ flX9_45) (fun _ h9 => h9) rfl dX9_word_5 ?_
  refine va_lald (f := l0 4) hx hb hK hP 5 1 rfl rfl (ck_in hf) dX9_word_8 ?_
  have hf := ck_2 hf
  obtain rfl := Option.some.inj hf
  exact k_lret hx hb hr hlocks hK hP hD hS dX9_word_9
/-! MarbleFloor$Tape.letter()I -/
abbrev wlX9_letter : List Cond := Cond.code yX9_letter cX9_letter 3 (some .int) :: tbG
abbrev rmX9_letter : Room := { frames := 0, cells := 0, slots := 0, locals := 0 }
theorem qnX9_letter : yX9_letter.cls = RX9 ∧ yX9_letter.cls ≠ "java/lang/invoke/MethodHandle" ∧ yX9_letter.cls ≠ "java/lang/invoke/VarHandle" ∧ (parseMethodDescriptor yX9_letter.desc).map (fun d => d.parameters.length) = some 0 := by decide +kernel
def f_X9_letter_43 (i0 : Nat → Int32) (r0 : Nat → Nat → Int32) (l0 : Nat → Nat → Int64)  (x1 : Int64) : Option (Int32) := if (lg_cmp x1 122) = 0 then (some (8)) else (some ((-1)))
set_option maxRecDepth 100000 in
set_option maxHeartbeats 4000000 in
theorem w_X9_letter_43 {p : Program} {l : Launch} {e : Env} {s : State} {m : MethodId} {args : Array Value} {below : List Frame} {meth : Method} {c : Code} {A : Nat → Prop} {D : va_G} {cs zs : Nat → Nat} {h0 : Nat} {a0 : Nat → Nat} {i0 : Nat → Int32} {r0 : Nat → Nat → Int32} {l0 : Nat → Nat → Int64} {q : Int32} (C : Cx p s m args meth c A D cs zs cX9_letter 3 (some .int) RX9)  : ∀ (x1 : Int64) (H : Heap) (locs : List Loc) (ls : Array Slot), f_X9_letter_43 i0 r0 l0 x1 = some q → va_P D vwCl (W9 cs h0 a0 i0 r0 l0) H → va_D A (W9 cs h0 a0 i0 r0 l0) → va_S A s.heap H locs → lv_has ls 3 [(1, .long x1)] → W p l e rmX9_letter s m args below meth c H locs 0 0 (MQ below (Qi D cs A q (W9 cs h0 a0 i0 r0 l0)) args s 0 0 A) (F0 m 43 ls []) := by
  obtain ⟨hx, hb, hr, hml, hown, hts, hK, hA, hlocks, hZ⟩ := id C
  intro x1 H locs ls hf hP hD hS hl
  rw [f_X9_letter_43] at hf
  refine lv_lload_n hx hb dX9_letter_43 rfl (lv_at hl 0 rfl) ?_
  refine lv_ldc2 (v := 122) hx hb hown (hts _ kcX9_89) dX9_letter_44 ?_
  refine W.lcmp hx hb dX9_letter_47 ?_
  refine lv_if_ne (tgt := 56) hx hb dX9_letter_48 (by decide) (fun hc => ?_) (fun hc => ?_)
  · have hf := ite_f hf hc
    refine lv_iconst (v := (-1)) hx hb dX9_letter_56 (by decide) ?_
    obtain rfl := Option.some.inj hf
    exact k_iret hx hb hr hlocks hK hP hD hS dX9_letter_57
  · have hf := ite_t hf hc
    refine lv_bipush (v := 8) hx hb dX9_letter_51 (by decide) ?_
    refine lv_goto (tgt := 57) hx hb dX9_letter_53 (by decide) ?_
    obtain rfl := Option.some.inj hf
    exact k_iret hx hb hr hlocks hK hP hD hS dX9_letter_57
def f_X9_letter  (i0 : Nat → Int32) (r0 : Nat → Nat → Int32) (l0 : Nat → Nat → Int64)  : Option (Int32) := ck (inb (i0 7) 901) (if (i0 8) = 1 then (if (lg_cmp (l0 4 (i0 7).toNatClampNeg) 97) < 0 then (f_X9_letter_43 i0 r0 l0 (l0 4 (i0 7).toNatClampNeg)) else (if 0 < (lg_cmp (l0 4 (i0 7).toNatClampNeg) 104) then (f_X9_letter_43 i0 r0 l0 (l0 4 (i0 7).toNatClampNeg)) else (some (((l0 4 (i0 7).toNatClampNeg) - 97).toInt32)))) else (some ((-1))))
set_option maxRecDepth 100000 in
set_option maxHeartbeats 4000000 in
theorem c_X9_letter {l : Launch} {D : va_G} {cs zs : Nat → Nat} {h0 : Nat} {a0 : Nat → Nat} {i0 : Nat → Int32} {r0 : Nat → Nat → Int32} {l0 : Nat → Nat → Int64}  {q : Int32} (hf : f_X9_letter i0 r0 l0 = some q) : Mi l yX9_letter wlX9_letter rmX9_letter D cs zs [.ref h0] (W9 cs h0 a0 i0 r0 l0) q (W9 cs h0 a0 i0 r0 l0) := by
  refine Mi.of RX9 (by decide) rfl (Nat.le_of_ble_eq_true rfl) (fun p e s m below meth c A C hP hD hS ls hl => ?_)
  generalize ([.ref h0] : List Value).toArray = args at C ⊢
  obtain ⟨hx, hb, hr, hml, hown, hts, hK, hA, hlocks, hZ⟩ := id C
  have hl : lv_has ls 3 [(0, .ref h0)] := hl
  rw [f_X9_letter] at hf
  refine lv_aload_n hx hb dX9_letter_0 rfl (lv_at hl 0 rfl) ?_
  refine va_get (D := D) (ci := 9) (v := .ref (a0 4)) (C := RX9) (T := TX9) (N := 12) hx hb hts hiX9 hown hK hP 0 rfl rfl 4 (by decide) (hts _ flX9_24) (fun _ h9 => h9) rfl dX9_letter_1 ?_
  refine lv_aload_n hx hb dX9_letter_4 rfl (lv_at hl 0 rfl) ?_
  refine va_get (D := D) (ci := 9) (v := .int (i0 7)) (C := RX9) (T := TX9) (N := 12) hx hb hts hiX9 hown hK hP 0 rfl rfl 7 (by decide) (hts _ flX9_45) (fun _ h9 => h9) rfl dX9_letter_5 ?_
  refine va_lald (f := l0 4) hx hb hK hP 5 1 rfl rfl (ck_in hf) dX9_letter_8 ?_
  have hf := ck_2 hf
  refine lv_lstore_n (lv' := [(1, .long (l0 4 (i0 7).toNatClampNeg)), (0, .ref h0)]) hx hb dX9_letter_9 rfl hl (by decide) rfl (fun ls hl => ?_)
  refine lv_aload_n hx hb dX9_letter_10 rfl (lv_at hl 1 rfl) ?_
  refine va_get (D := D) (ci := 9) (v := .int (i0 8)) (C := RX9) (T := TX9) (N := 12) hx hb hts hiX9 hown hK hP 0 rfl rfl 8 (by decide) (hts _ flX9_48) (fun _ h9 => h9) rfl dX9_letter_11 ?_
  refine lv_iconst (v := 1) hx hb dX9_letter_14 (by decide) ?_
  refine lv_icmp_eq (tgt := 20) hx hb dX9_letter_15 (by decide) (fun hc => ?_) (fun hc => ?_)
  · have hf := ite_t hf hc
    refine lv_lload_n hx hb dX9_letter_20 rfl (lv_at hl 0 rfl) ?_
    refine lv_ldc2 (v := 97) hx hb hown (hts _ kcX9_85) dX9_letter_21 ?_
    refine W.lcmp hx hb dX9_letter_24 ?_
    refine lv_if_lt (tgt := 43) hx hb dX9_letter_25 (by decide) (fun hc => ?_) (fun hc => ?_)
    · have hf := ite_t hf hc
      exact w_X9_letter_43 C  _ _ _ _ hf hP hD hS (lv_sub hl [0] rfl)
    · have hf := ite_f hf hc
      refine lv_lload_n hx hb dX9_letter_28 rfl (lv_at hl 0 rfl) ?_
      refine lv_ldc2 (v := 104) hx hb hown (hts _ kcX9_87) dX9_letter_29 ?_
      refine W.lcmp hx hb dX9_letter_32 ?_
      refine lv_if_gt (tgt := 43) hx hb dX9_letter_33 (by decide) (fun hc => ?_) (fun hc => ?_)
      · have hf := ite_t hf hc
        exact w_X9_letter_43 C  _ _ _ _ hf hP hD hS (lv_sub hl [0] rfl)
      · have hf := ite_f hf hc
        refine lv_lload_n hx hb dX9_letter_36 rfl (lv_at hl 0 rfl) ?_
        refine lv_ldc2 (v := 97) hx hb hown (hts _ kcX9_85) dX9_letter_37 ?_
        refine lv_lsub hx hb dX9_letter_40 ?_
        refine lv_l2i hx hb dX9_letter_41 rfl ?_
        obtain rfl := Option.some.inj hf
        exact k_iret hx hb hr hlocks hK hP hD hS dX9_letter_42
  · have hf := ite_f hf hc
    refine lv_iconst (v := (-1)) hx hb dX9_letter_18 (by decide) ?_
    obtain rfl := Option.some.inj hf
    exact k_iret hx hb hr hlocks hK hP hD hS dX9_letter_19
/-! MarbleFloor$Tape.seesName()Z -/
abbrev wlX9_seesName : List Cond := Cond.code yX9_seesName cX9_seesName 1 (some .boolean) :: tbG
abbrev rmX9_seesName : Room := { frames := 0, cells := 0, slots := 0, locals := 0 }
theorem qnX9_seesName : yX9_seesName.cls = RX9 ∧ yX9_seesName.cls ≠ "java/lang/invoke/MethodHandle" ∧ yX9_seesName.cls ≠ "java/lang/invoke/VarHandle" ∧ (parseMethodDescriptor yX9_seesName.desc).map (fun d => d.parameters.length) = some 0 := by decide +kernel
def f_X9_seesName  (i0 : Nat → Int32) (r0 : Nat → Nat → Int32) (l0 : Nat → Nat → Int64)  : Option (Int32) := if (i0 8) = 1 then (ck (inb (i0 7) 901) (if (lg_cmp (l0 4 (i0 7).toNatClampNeg) 255) ≤ 0 then (some (0)) else (if (i0 9) < 0 then (some (1)) else (if (i0 9) ≤ 16 then (some (0)) else (some (1)))))) else (some (0))
set_option maxRecDepth 100000 in
set_option maxHeartbeats 4000000 in
theorem c_X9_seesName {l : Launch} {D : va_G} {cs zs : Nat → Nat} {h0 : Nat} {a0 : Nat → Nat} {i0 : Nat → Int32} {r0 : Nat → Nat → Int32} {l0 : Nat → Nat → Int64}  {q : Int32} (hf : f_X9_seesName i0 r0 l0 = some q) : Mi l yX9_seesName wlX9_seesName rmX9_seesName D cs zs [.ref h0] (W9 cs h0 a0 i0 r0 l0) q (W9 cs h0 a0 i0 r0 l0) := by
  refine Mi.of RX9 (by decide) rfl (Nat.le_of_ble_eq_true rfl) (fun p e s m below meth c A C hP hD hS ls hl => ?_)
  generalize ([.ref h0] : List Value).toArray = args at C ⊢
  obtain ⟨hx, hb, hr, hml, hown, hts, hK, hA, hlocks, hZ⟩ := id C
  have hl : lv_has ls 1 [(0, .ref h0)] := hl
  rw [f_X9_seesName] at hf
  refine lv_aload_n hx hb dX9_seesName_0 rfl (lv_at hl 0 rfl) ?_
  refine va_get (D := D) (ci := 9) (v := .int (i0 8)) (C := RX9) (T := TX9) (N := 12) hx hb hts hiX9 hown hK hP 0 rfl rfl 8 (by decide) (hts _ flX9_48) (fun _ h9 => h9) rfl dX9_seesName_1 ?_
  refine lv_iconst (v := 1) hx hb dX9_seesName_4 (by decide) ?_
  refine lv_icmp_ne (tgt := 44) hx hb dX9_seesName_5 (by decide) (fun hc => ?_) (fun hc => ?_)
  · have hf := ite_f hf hc
    refine lv_iconst (v := 0) hx hb dX9_seesName_44 (by decide) ?_
    obtain rfl := Option.some.inj hf
    exact k_zret (r := 0) hx hb hr hlocks rfl hK hP hD hS dX9_seesName_45
  · have hf := ite_t hf hc
    refine lv_aload_n hx hb dX9_seesName_8 rfl (lv_at hl 0 rfl) ?_
    refine va_get (D := D) (ci := 9) (v := .ref (a0 4)) (C := RX9) (T := TX9) (N := 12) hx hb hts hiX9 hown hK hP 0 rfl rfl 4 (by decide) (hts _ flX9_24) (fun _ h9 => h9) rfl dX9_seesName_9 ?_
    refine lv_aload_n hx hb dX9_seesName_12 rfl (lv_at hl 0 rfl) ?_
    refine va_get (D := D) (ci := 9) (v := .int (i0 7)) (C := RX9) (T := TX9) (N := 12) hx hb hts hiX9 hown hK hP 0 rfl rfl 7 (by decide) (hts _ flX9_45) (fun _ h9 => h9) rfl dX9_seesName_13 ?_
    refine va_lald (f := l0 4) hx hb hK hP 5 1 rfl rfl (ck_in hf) dX9_seesName_16 ?_
    have hf := ck_2 hf
    refine lv_ldc2 (v := 255) hx hb hown (hts _ kcX9_91) dX9_seesName_17 ?_
    refine W.lcmp hx hb dX9_seesName_20 ?_
    refine lv_if_le (tgt := 44) hx hb dX9_seesName_21 (by decide) (fun hc => ?_) (fun hc => ?_)
    · have hf := ite_t hf hc
      refine lv_iconst (v := 0) hx hb dX9_seesName_44 (by decide) ?_
      obtain rfl := Option.some.inj hf
      exact k_zret (r := 0) hx hb hr hlocks rfl hK hP hD hS dX9_seesName_45
    · have hf := ite_f hf hc
      refine lv_aload_n hx hb dX9_seesName_24 rfl (lv_at hl 0 rfl) ?_
      refine va_get (D := D) (ci := 9) (v := .int (i0 9)) (C := RX9) (T := TX9) (N := 12) hx hb hts hiX9 hown hK hP 0 rfl rfl 9 (by decide) (hts _ flX9_51) (fun _ h9 => h9) rfl dX9_seesName_25 ?_
      refine lv_if_lt (tgt := 40) hx hb dX9_seesName_28 (by decide) (fun hc => ?_) (fun hc => ?_)
      · have hf := ite_t hf hc
        refine lv_iconst (v := 1) hx hb dX9_seesName_40 (by decide) ?_
        refine lv_goto (tgt := 45) hx hb dX9_seesName_41 (by decide) ?_
        obtain rfl := Option.some.inj hf
        exact k_zret (r := 1) hx hb hr hlocks rfl hK hP hD hS dX9_seesName_45
      · have hf := ite_f hf hc
        refine lv_aload_n hx hb dX9_seesName_31 rfl (lv_at hl 0 rfl) ?_
        refine va_get (D := D) (ci := 9) (v := .int (i0 9)) (C := RX9) (T := TX9) (N := 12) hx hb hts hiX9 hown hK hP 0 rfl rfl 9 (by decide) (hts _ flX9_51) (fun _ h9 => h9) rfl dX9_seesName_32 ?_
        refine lv_bipush (v := 16) hx hb dX9_seesName_35 (by decide) ?_
        refine lv_icmp_le (tgt := 44) hx hb dX9_seesName_37 (by decide) (fun hc => ?_) (fun hc => ?_)
        · have hf := ite_t hf hc
          refine lv_iconst (v := 0) hx hb dX9_seesName_44 (by decide) ?_
          obtain rfl := Option.some.inj hf
          exact k_zret (r := 0) hx hb hr hlocks rfl hK hP hD hS dX9_seesName_45
        · have hf := ite_f hf hc
          refine lv_iconst (v := 1) hx hb dX9_seesName_40 (by decide) ?_
          refine lv_goto (tgt := 45) hx hb dX9_seesName_41 (by decide) ?_
          obtain rfl := Option.some.inj hf
          exact k_zret (r := 1) hx hb hr hlocks rfl hK hP hD hS dX9_seesName_45
/-! MarbleFloor$Tape.wantKey(I)V -/
abbrev wlX9_wantKey : List Cond := Cond.code yX9_wantKey cX9_wantKey 2 none :: tbG
abbrev rmX9_wantKey : Room := { frames := 1, cells := 0, slots := 0, locals := 21 }
theorem qnX9_wantKey : yX9_wantKey.cls = RX9 ∧ yX9_wantKey.cls ≠ "java/lang/invoke/MethodHandle" ∧ yX9_wantKey.cls ≠ "java/lang/invoke/VarHandle" ∧ (parseMethodDescriptor yX9_wantKey.desc).map (fun d => d.parameters.length) = some 1 := by decide +kernel
def f_X9_wantKey  (i0 : Nat → Int32) (r0 : Nat → Nat → Int32) (l0 : Nat → Nat → Int64) (x1 : Int32) : Option ((Nat → Int32)) := if (i0 9) = x1 then (bd (f_X9_advance i0 r0 l0) (fun q4 => some (q4))) else (bd (f_X9_fail i0 r0 l0 1) (fun q3 => some (q3)))
set_option maxRecDepth 100000 in
set_option maxHeartbeats 4000000 in
theorem c_X9_wantKey {l : Launch} {D : va_G} {cs zs : Nat → Nat} {h0 : Nat} {a0 : Nat → Nat} {i0 : Nat → Int32} {r0 : Nat → Nat → Int32} {l0 : Nat → Nat → Int64} {x1 : Int32} {q : (Nat → Int32)} (hf : f_X9_wantKey i0 r0 l0 x1 = some q) : Mv l yX9_wantKey wlX9_wantKey rmX9_wantKey D cs zs [.ref h0, .int x1] (W9 cs h0 a0 i0 r0 l0) (W9 cs h0 a0 q r0 l0) := by
  refine Mv.of RX9 (by decide) rfl (Nat.le_of_ble_eq_true rfl) (fun p e s m below meth c A C hP hD hS ls hl => ?_)
  generalize ([.ref h0, .int x1] : List Value).toArray = args at C ⊢
  obtain ⟨hx, hb, hr, hml, hown, hts, hK, hA, hlocks, hZ⟩ := id C
  have hl : lv_has ls 2 [(0, .ref h0), (1, .int x1)] := hl
  rw [f_X9_wantKey] at hf
  refine lv_aload_n hx hb dX9_wantKey_0 rfl (lv_at hl 0 rfl) ?_
  refine va_get (D := D) (ci := 9) (v := .int (i0 9)) (C := RX9) (T := TX9) (N := 12) hx hb hts hiX9 hown hK hP 0 rfl rfl 9 (by decide) (hts _ flX9_51) (fun _ h9 => h9) rfl dX9_wantKey_1 ?_
  refine lv_iload_n hx hb dX9_wantKey_4 rfl (lv_at hl 1 rfl) ?_
  refine lv_icmp_ne (tgt := 15) hx hb dX9_wantKey_5 (by decide) (fun hc => ?_) (fun hc => ?_)
  · have hf := ite_f hf hc
    refine lv_aload_n hx hb dX9_wantKey_15 rfl (lv_at hl 0 rfl) ?_
    refine lv_iconst (v := 1) hx hb dX9_wantKey_16 (by decide) ?_
    obtain ⟨q3, hq3, hf⟩ := bd_s hf
    refine k_sVv (ws2 := W9 cs h0 a0 q3 r0 l0) (As := [.int 1]) (rest := []) hx hb hml hown hts hK hA hZ hl.1 hP hD hS (c_X9_fail (h0 := h0) (a0 := a0) hq3) (gVt mlX9_96 imX9_fail seX9_fail inX9 coX9_fail) rfl qnX9_fail rfl rfl ⟨Nat.le_of_ble_eq_true rfl, Nat.le_of_ble_eq_true rfl⟩ 0 9 rfl rfl rfl rfl rfl (Nat.le_of_ble_eq_true rfl) ⟨Nat.zero_le _, Nat.zero_le _⟩ dX9_wantKey_17 (fun H locs hP hD hS => ?_)
    obtain rfl := Option.some.inj hf
    exact k_vret hx hb hr hlocks hK hP hD hS dX9_wantKey_20
  · have hf := ite_t hf hc
    refine lv_aload_n hx hb dX9_wantKey_8 rfl (lv_at hl 0 rfl) ?_
    obtain ⟨q4, hq4, hf⟩ := bd_s hf
    refine k_sVv (ws2 := W9 cs h0 a0 q4 r0 l0) (As := []) (rest := []) hx hb hml hown hts hK hA hZ hl.1 hP hD hS (c_X9_advance (h0 := h0) (a0 := a0) hq4) (gVt mlX9_93 imX9_advance seX9_advance inX9 coX9_advance) rfl qnX9_advance rfl rfl ⟨Nat.le_of_ble_eq_true rfl, Nat.le_of_ble_eq_true rfl⟩ 0 9 rfl rfl rfl rfl rfl (Nat.le_of_ble_eq_true rfl) ⟨Nat.zero_le _, Nat.zero_le _⟩ dX9_wantKey_9 (fun H locs hP hD hS => ?_)
    refine lv_goto (tgt := 20) hx hb dX9_wantKey_12 (by decide) ?_
    obtain rfl := Option.some.inj hf
    exact k_vret hx hb hr hlocks hK hP hD hS dX9_wantKey_20
/-! MarbleFloor$Tape.wantKind(I)V -/
abbrev wlX9_wantKind : List Cond := Cond.code yX9_wantKind cX9_wantKind 2 none :: tbG
abbrev rmX9_wantKind : Room := { frames := 1, cells := 0, slots := 0, locals := 21 }
theorem qnX9_wantKind : yX9_wantKind.cls = RX9 ∧ yX9_wantKind.cls ≠ "java/lang/invoke/MethodHandle" ∧ yX9_wantKind.cls ≠ "java/lang/invoke/VarHandle" ∧ (parseMethodDescriptor yX9_wantKind.desc).map (fun d => d.parameters.length) = some 1 := by decide +kernel
def f_X9_wantKind  (i0 : Nat → Int32) (r0 : Nat → Nat → Int32) (l0 : Nat → Nat → Int64) (x1 : Int32) : Option ((Nat → Int32)) := if (i0 8) = x1 then (bd (f_X9_advance i0 r0 l0) (fun q4 => some (q4))) else (bd (f_X9_fail i0 r0 l0 1) (fun q3 => some (q3)))
set_option maxRecDepth 100000 in
set_option maxHeartbeats 4000000 in
theorem c_X9_wantKind {l : Launch} {D : va_G} {cs zs : Nat → Nat} {h0 : Nat} {a0 : Nat → Nat} {i0 : Nat → Int32} {r0 : Nat → Nat → Int32} {l0 : Nat → Nat → Int64} {x1 : Int32} {q : (Nat → Int32)} (hf : f_X9_wantKind i0 r0 l0 x1 = some q) : Mv l yX9_wantKind wlX9_wantKind rmX9_wantKind D cs zs [.ref h0, .int x1] (W9 cs h0 a0 i0 r0 l0) (W9 cs h0 a0 q r0 l0) := by
  refine Mv.of RX9 (by decide) rfl (Nat.le_of_ble_eq_true rfl) (fun p e s m below meth c A C hP hD hS ls hl => ?_)
  generalize ([.ref h0, .int x1] : List Value).toArray = args at C ⊢
  obtain ⟨hx, hb, hr, hml, hown, hts, hK, hA, hlocks, hZ⟩ := id C
  have hl : lv_has ls 2 [(0, .ref h0), (1, .int x1)] := hl
  rw [f_X9_wantKind] at hf
  refine lv_aload_n hx hb dX9_wantKind_0 rfl (lv_at hl 0 rfl) ?_
  refine va_get (D := D) (ci := 9) (v := .int (i0 8)) (C := RX9) (T := TX9) (N := 12) hx hb hts hiX9 hown hK hP 0 rfl rfl 8 (by decide) (hts _ flX9_48) (fun _ h9 => h9) rfl dX9_wantKind_1 ?_
  refine lv_iload_n hx hb dX9_wantKind_4 rfl (lv_at hl 1 rfl) ?_
  refine lv_icmp_ne (tgt := 15) hx hb dX9_wantKind_5 (by decide) (fun hc => ?_) (fun hc => ?_)
  · have hf := ite_f hf hc
    refine lv_aload_n hx hb dX9_wantKind_15 rfl (lv_at hl 0 rfl) ?_
    refine lv_iconst (v := 1) hx hb dX9_wantKind_16 (by decide) ?_
    obtain ⟨q3, hq3, hf⟩ := bd_s hf
    refine k_sVv (ws2 := W9 cs h0 a0 q3 r0 l0) (As := [.int 1]) (rest := []) hx hb hml hown hts hK hA hZ hl.1 hP hD hS (c_X9_fail (h0 := h0) (a0 := a0) hq3) (gVt mlX9_96 imX9_fail seX9_fail inX9 coX9_fail) rfl qnX9_fail rfl rfl ⟨Nat.le_of_ble_eq_true rfl, Nat.le_of_ble_eq_true rfl⟩ 0 9 rfl rfl rfl rfl rfl (Nat.le_of_ble_eq_true rfl) ⟨Nat.zero_le _, Nat.zero_le _⟩ dX9_wantKind_17 (fun H locs hP hD hS => ?_)
    obtain rfl := Option.some.inj hf
    exact k_vret hx hb hr hlocks hK hP hD hS dX9_wantKind_20
  · have hf := ite_t hf hc
    refine lv_aload_n hx hb dX9_wantKind_8 rfl (lv_at hl 0 rfl) ?_
    obtain ⟨q4, hq4, hf⟩ := bd_s hf
    refine k_sVv (ws2 := W9 cs h0 a0 q4 r0 l0) (As := []) (rest := []) hx hb hml hown hts hK hA hZ hl.1 hP hD hS (c_X9_advance (h0 := h0) (a0 := a0) hq4) (gVt mlX9_93 imX9_advance seX9_advance inX9 coX9_advance) rfl qnX9_advance rfl rfl ⟨Nat.le_of_ble_eq_true rfl, Nat.le_of_ble_eq_true rfl⟩ 0 9 rfl rfl rfl rfl rfl (Nat.le_of_ble_eq_true rfl) ⟨Nat.zero_le _, Nat.zero_le _⟩ dX9_wantKind_9 (fun H locs hP hD hS => ?_)
    refine lv_goto (tgt := 20) hx hb dX9_wantKind_12 (by decide) ?_
    obtain rfl := Option.some.inj hf
    exact k_vret hx hb hr hlocks hK hP hD hS dX9_wantKind_20
/-! MarbleFloor$Tape.wantName()V -/
abbrev wlX9_wantName : List Cond := Cond.code yX9_wantName cX9_wantName 1 none :: tbG
abbrev rmX9_wantName : Room := { frames := 1, cells := 0, slots := 0, locals := 21 }
theorem qnX9_wantName : yX9_wantName.cls = RX9 ∧ yX9_wantName.cls ≠ "java/lang/invoke/MethodHandle" ∧ yX9_wantName.cls ≠ "java/lang/invoke/VarHandle" ∧ (parseMethodDescriptor yX9_wantName.desc).map (fun d => d.parameters.length) = some 0 := by decide +kernel
def f_X9_wantName  (i0 : Nat → Int32) (r0 : Nat → Nat → Int32) (l0 : Nat → Nat → Int64)  : Option ((Nat → Int32)) := bd (f_X9_seesName i0 r0 l0) (fun q4 => if q4 = 0 then (bd (f_X9_fail i0 r0 l0 1) (fun q5 => some (q5))) else (bd (f_X9_advance i0 r0 l0) (fun q6 => some (q6))))
set_option maxRecDepth 100000 in
set_option maxHeartbeats 4000000 in
theorem c_X9_wantName {l : Launch} {D : va_G} {cs zs : Nat → Nat} {h0 : Nat} {a0 : Nat → Nat} {i0 : Nat → Int32} {r0 : Nat → Nat → Int32} {l0 : Nat → Nat → Int64}  {q : (Nat → Int32)} (hf : f_X9_wantName i0 r0 l0 = some q) : Mv l yX9_wantName wlX9_wantName rmX9_wantName D cs zs [.ref h0] (W9 cs h0 a0 i0 r0 l0) (W9 cs h0 a0 q r0 l0) := by
  refine Mv.of RX9 (by decide) rfl (Nat.le_of_ble_eq_true rfl) (fun p e s m below meth c A C hP hD hS ls hl => ?_)
  generalize ([.ref h0] : List Value).toArray = args at C ⊢
  obtain ⟨hx, hb, hr, hml, hown, hts, hK, hA, hlocks, hZ⟩ := id C
  have hl : lv_has ls 1 [(0, .ref h0)] := hl
  rw [f_X9_wantName] at hf
  refine lv_aload_n hx hb dX9_wantName_0 rfl (lv_at hl 0 rfl) ?_
  obtain ⟨q4, hq4, hf⟩ := bd_s hf
  refine k_sVi (ws2 := W9 cs h0 a0 i0 r0 l0) (As := []) (rest := []) hx hb hml hown hts hK hA hZ hl.1 hP hD hS (c_X9_seesName (h0 := h0) (a0 := a0) hq4) (gVt mlX9_99 imX9_seesName seX9_seesName inX9 coX9_seesName) rfl qnX9_seesName rfl rfl ⟨Nat.le_of_ble_eq_true rfl, Nat.le_of_ble_eq_true rfl⟩ 0 9 rfl rfl rfl rfl rfl (Nat.le_of_ble_eq_true rfl) ⟨Nat.zero_le _, Nat.zero_le _⟩ dX9_wantName_1 (fun H locs hP hD hS => ?_)
  refine lv_if_eq (tgt := 14) hx hb dX9_wantName_4 (by decide) (fun hc => ?_) (fun hc => ?_)
  · have hf := ite_t hf hc
    refine lv_aload_n hx hb dX9_wantName_14 rfl (lv_at hl 0 rfl) ?_
    refine lv_iconst (v := 1) hx hb dX9_wantName_15 (by decide) ?_
    obtain ⟨q5, hq5, hf⟩ := bd_s hf
    refine k_sVv (ws2 := W9 cs h0 a0 q5 r0 l0) (As := [.int 1]) (rest := []) hx hb hml hown hts hK hA hZ hl.1 hP hD hS (c_X9_fail (h0 := h0) (a0 := a0) hq5) (gVt mlX9_96 imX9_fail seX9_fail inX9 coX9_fail) rfl qnX9_fail rfl rfl ⟨Nat.le_of_ble_eq_true rfl, Nat.le_of_ble_eq_true rfl⟩ 0 9 rfl rfl rfl rfl rfl (Nat.le_of_ble_eq_true rfl) ⟨Nat.zero_le _, Nat.zero_le _⟩ dX9_wantName_16 (fun H locs hP hD hS => ?_)
    obtain rfl := Option.some.inj hf
    exact k_vret hx hb hr hlocks hK hP hD hS dX9_wantName_19
  · have hf := ite_f hf hc
    refine lv_aload_n hx hb dX9_wantName_7 rfl (lv_at hl 0 rfl) ?_
    obtain ⟨q6, hq6, hf⟩ := bd_s hf
    refine k_sVv (ws2 := W9 cs h0 a0 q6 r0 l0) (As := []) (rest := []) hx hb hml hown hts hK hA hZ hl.1 hP hD hS (c_X9_advance (h0 := h0) (a0 := a0) hq6) (gVt mlX9_93 imX9_advance seX9_advance inX9 coX9_advance) rfl qnX9_advance rfl rfl ⟨Nat.le_of_ble_eq_true rfl, Nat.le_of_ble_eq_true rfl⟩ 0 9 rfl rfl rfl rfl rfl (Nat.le_of_ble_eq_true rfl) ⟨Nat.zero_le _, Nat.zero_le _⟩ dX9_wantName_8 (fun H locs hP hD hS => ?_)
    refine lv_goto (tgt := 19) hx hb dX9_wantName_11 (by decide) ?_
    obtain rfl := Option.some.inj hf
    exact k_vret hx hb hr hlocks hK hP hD hS dX9_wantName_19
/-! MarbleFloor$Tape.wantNumber(II)I -/
abbrev wlX9_wantNumber : List Cond := Cond.code yX9_wantNumber cX9_wantNumber 4 (some .int) :: tbG
abbrev rmX9_wantNumber : Room := { frames := 1, cells := 0, slots := 0, locals := 21 }
theorem qnX9_wantNumber : yX9_wantNumber.cls = RX9 ∧ yX9_wantNumber.cls ≠ "java/lang/invoke/MethodHandle" ∧ yX9_wantNumber.cls ≠ "java/lang/invoke/VarHandle" ∧ (parseMethodDescriptor yX9_wantNumber.desc).map (fun d => d.parameters.length) = some 2 := by decide +kernel
def f_X9_wantNumber_36 (r0 : Nat → Nat → Int32) (l0 : Nat → Nat → Int64)  (i0 : Nat → Int32) (x1 : Int32) : Option (Int32 × (Nat → Int32)) := bd (f_X9_fail i0 r0 l0 2) (fun q4 => some (x1, q4))
set_option maxRecDepth 100000 in
set_option maxHeartbeats 4000000 in
theorem w_X9_wantNumber_36 {p : Program} {l : Launch} {e : Env} {s : State} {m : MethodId} {args : Array Value} {below : List Frame} {meth : Method} {c : Code} {A : Nat → Prop} {D : va_G} {cs zs : Nat → Nat} {h0 : Nat} {a0 : Nat → Nat} {r0 : Nat → Nat → Int32} {l0 : Nat → Nat → Int64} {q : Int32 × (Nat → Int32)} (C : Cx p s m args meth c A D cs zs cX9_wantNumber 4 (some .int) RX9)  : ∀ (i0 : Nat → Int32) (x1 : Int32) (H : Heap) (locs : List Loc) (ls : Array Slot), f_X9_wantNumber_36 r0 l0 i0 x1 = some q → va_P D vwCl (W9 cs h0 a0 i0 r0 l0) H → va_D A (W9 cs h0 a0 i0 r0 l0) → va_S A s.heap H locs → lv_has ls 4 [(0, .ref h0), (1, .int x1)] → W p l e rmX9_wantNumber s m args below meth c H locs 0 0 (MQ below (Qi D cs A q.1 (W9 cs h0 a0 q.2 r0 l0)) args s 0 0 A) (F0 m 36 ls []) := by
  obtain ⟨hx, hb, hr, hml, hown, hts, hK, hA, hlocks, hZ⟩ := id C
  intro i0 x1 H locs ls hf hP hD hS hl
  rw [f_X9_wantNumber_36] at hf
  refine lv_aload_n hx hb dX9_wantNumber_36 rfl (lv_at hl 0 rfl) ?_
  refine lv_iconst (v := 2) hx hb dX9_wantNumber_37 (by decide) ?_
  obtain ⟨q4, hq4, hf⟩ := bd_s hf
  refine k_sVv (ws2 := W9 cs h0 a0 q4 r0 l0) (As := [.int 2]) (rest := []) hx hb hml hown hts hK hA hZ hl.1 hP hD hS (c_X9_fail (h0 := h0) (a0 := a0) hq4) (gVt mlX9_96 imX9_fail seX9_fail inX9 coX9_fail) rfl qnX9_fail rfl rfl ⟨Nat.le_of_ble_eq_true rfl, Nat.le_of_ble_eq_true rfl⟩ 0 9 rfl rfl rfl rfl rfl (Nat.le_of_ble_eq_true rfl) ⟨Nat.zero_le _, Nat.zero_le _⟩ dX9_wantNumber_38 (fun H locs hP hD hS => ?_)
  refine lv_iload_n hx hb dX9_wantNumber_41 rfl (lv_at hl 1 rfl) ?_
  obtain rfl := Option.some.inj hf
  exact k_iret hx hb hr hlocks hK hP hD hS dX9_wantNumber_42
def f_X9_wantNumber  (i0 : Nat → Int32) (r0 : Nat → Nat → Int32) (l0 : Nat → Nat → Int64) (x1 : Int32) (x2 : Int32) : Option (Int32 × (Nat → Int32)) := ck (inb (i0 7) 901) (if (i0 8) = 2 then (if ((l0 4 (i0 7).toNatClampNeg).toInt32) < x1 then (f_X9_wantNumber_36 r0 l0 i0 x1) else (if ((l0 4 (i0 7).toNatClampNeg).toInt32) ≤ x2 then (bd (f_X9_advance i0 r0 l0) (fun q5 => some ((l0 4 (i0 7).toNatClampNeg).toInt32, q5))) else (f_X9_wantNumber_36 r0 l0 i0 x1))) else (bd (f_X9_fail i0 r0 l0 1) (fun q6 => some (x1, q6))))
set_option maxRecDepth 100000 in
set_option maxHeartbeats 4000000 in
theorem c_X9_wantNumber {l : Launch} {D : va_G} {cs zs : Nat → Nat} {h0 : Nat} {a0 : Nat → Nat} {i0 : Nat → Int32} {r0 : Nat → Nat → Int32} {l0 : Nat → Nat → Int64} {x1 : Int32} {x2 : Int32} {q : Int32 × (Nat → Int32)} (hf : f_X9_wantNumber i0 r0 l0 x1 x2 = some q) : Mi l yX9_wantNumber wlX9_wantNumber rmX9_wantNumber D cs zs [.ref h0, .int x1, .int x2] (W9 cs h0 a0 i0 r0 l0) q.1 (W9 cs h0 a0 q.2 r0 l0) := by
  refine Mi.of RX9 (by decide) rfl (Nat.le_of_ble_eq_true rfl) (fun p e s m below meth c A C hP hD hS ls hl => ?_)
  generalize ([.ref h0, .int x1, .int x2] : List Value).toArray = args at C ⊢
  obtain ⟨hx, hb, hr, hml, hown, hts, hK, hA, hlocks, hZ⟩ := id C
  have hl : lv_has ls 4 [(0, .ref h0), (1, .int x1), (2, .int x2)] := hl
  rw [f_X9_wantNumber] at hf
  refine lv_aload_n hx hb dX9_wantNumber_0 rfl (lv_at hl 0 rfl) ?_
  refine va_get (D := D) (ci := 9) (v := .ref (a0 4)) (C := RX9) (T := TX9) (N := 12) hx hb hts hiX9 hown hK hP 0 rfl rfl 4 (by decide) (hts _ flX9_24) (fun _ h9 => h9) rfl dX9_wantNumber_1 ?_
  refine lv_aload_n hx hb dX9_wantNumber_4 rfl (lv_at hl 0 rfl) ?_
  refine va_get (D := D) (ci := 9) (v := .int (i0 7)) (C := RX9) (T := TX9) (N := 12) hx hb hts hiX9 hown hK hP 0 rfl rfl 7 (by decide) (hts _ flX9_45) (fun _ h9 => h9) rfl dX9_wantNumber_5 ?_
  refine va_lald (f := l0 4) hx hb hK hP 5 1 rfl rfl (ck_in hf) dX9_wantNumber_8 ?_
  have hf := ck_2 hf
  refine lv_l2i hx hb dX9_wantNumber_9 rfl ?_
  refine lv_istore_n (lv' := [(3, .int ((l0 4 (i0 7).toNatClampNeg).toInt32)), (0, .ref h0), (1, .int x1), (2, .int x2)]) hx hb dX9_wantNumber_10 rfl hl (by decide) rfl (fun ls hl => ?_)
  refine lv_aload_n hx hb dX9_wantNumber_11 rfl (lv_at hl 1 rfl) ?_
  refine va_get (D := D) (ci := 9) (v := .int (i0 8)) (C := RX9) (T := TX9) (N := 12) hx hb hts hiX9 hown hK hP 0 rfl rfl 8 (by decide) (hts _ flX9_48) (fun _ h9 => h9) rfl dX9_wantNumber_12 ?_
  refine lv_iconst (v := 2) hx hb dX9_wantNumber_15 (by decide) ?_
  refine lv_icmp_eq (tgt := 26) hx hb dX9_wantNumber_16 (by decide) (fun hc => ?_) (fun hc => ?_)
  · have hf := ite_t hf hc
    refine lv_iload_n hx hb dX9_wantNumber_26 rfl (lv_at hl 0 rfl) ?_
    refine lv_iload_n hx hb dX9_wantNumber_27 rfl (lv_at hl 2 rfl) ?_
    refine lv_icmp_lt (tgt := 36) hx hb dX9_wantNumber_28 (by decide) (fun hc => ?_) (fun hc => ?_)
    · have hf := ite_t hf hc
      exact w_X9_wantNumber_36 C  _ _ _ _ _ hf hP hD hS (lv_sub hl [1, 2] rfl)
    · have hf := ite_f hf hc
      refine lv_iload_n hx hb dX9_wantNumber_31 rfl (lv_at hl 0 rfl) ?_
      refine lv_iload_n hx hb dX9_wantNumber_32 rfl (lv_at hl 3 rfl) ?_
      refine lv_icmp_le (tgt := 43) hx hb dX9_wantNumber_33 (by decide) (fun hc => ?_) (fun hc => ?_)
      · have hf := ite_t hf hc
        refine lv_aload_n hx hb dX9_wantNumber_43 rfl (lv_at hl 1 rfl) ?_
        obtain ⟨q5, hq5, hf⟩ := bd_s hf
        refine k_sVv (ws2 := W9 cs h0 a0 q5 r0 l0) (As := []) (rest := []) hx hb hml hown hts hK hA hZ hl.1 hP hD hS (c_X9_advance (h0 := h0) (a0 := a0) hq5) (gVt mlX9_93 imX9_advance seX9_advance inX9 coX9_advance) rfl qnX9_advance rfl rfl ⟨Nat.le_of_ble_eq_true rfl, Nat.le_of_ble_eq_true rfl⟩ 0 9 rfl rfl rfl rfl rfl (Nat.le_of_ble_eq_true rfl) ⟨Nat.zero_le _, Nat.zero_le _⟩ dX9_wantNumber_44 (fun H locs hP hD hS => ?_)
        refine lv_iload_n hx hb dX9_wantNumber_47 rfl (lv_at hl 0 rfl) ?_
        obtain rfl := Option.some.inj hf
        exact k_iret hx hb hr hlocks hK hP hD hS dX9_wantNumber_48
      · have hf := ite_f hf hc
        exact w_X9_wantNumber_36 C  _ _ _ _ _ hf hP hD hS (lv_sub hl [1, 2] rfl)
  · have hf := ite_f hf hc
    refine lv_aload_n hx hb dX9_wantNumber_19 rfl (lv_at hl 1 rfl) ?_
    refine lv_iconst (v := 1) hx hb dX9_wantNumber_20 (by decide) ?_
    obtain ⟨q6, hq6, hf⟩ := bd_s hf
    refine k_sVv (ws2 := W9 cs h0 a0 q6 r0 l0) (As := [.int 1]) (rest := []) hx hb hml hown hts hK hA hZ hl.1 hP hD hS (c_X9_fail (h0 := h0) (a0 := a0) hq6) (gVt mlX9_96 imX9_fail seX9_fail inX9 coX9_fail) rfl qnX9_fail rfl rfl ⟨Nat.le_of_ble_eq_true rfl, Nat.le_of_ble_eq_true rfl⟩ 0 9 rfl rfl rfl rfl rfl (Nat.le_of_ble_eq_true rfl) ⟨Nat.zero_le _, Nat.zero_le _⟩ dX9_wantNumber_21 (fun H locs hP hD hS => ?_)
    refine lv_iload_n hx hb dX9_wantNumber_24 rfl (lv_at hl 2 rfl) ?_
    obtain rfl := Option.some.inj hf
    exact k_iret hx hb hr hlocks hK hP hD hS dX9_wantNumber_25
