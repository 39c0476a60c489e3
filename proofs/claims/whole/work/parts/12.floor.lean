def fs2 (a : Nat → Nat) (i : Nat → Int32) : List Value := [.ref (a 0), .ref (a 1), .ref (a 2), .ref (a 3), .int (i 4), .int (i 5)]
def W2 (cs : Nat → ClassId) (h : Nat) (a : Nat → Nat) (i : Nat → Int32) (r : Nat → Nat → Int32) : va_W := [(h, .inr (2, fs2 a i)), (a 0, .inl (cs 0, 40, .inl (r 0))), (a 1, .inl (cs 0, 40, .inl (r 1))), (a 2, .inl (cs 0, 40, .inl (r 2))), (a 3, .inl (cs 0, 40, .inl (r 3)))]
theorem st2_0 {D : va_G} {A : Nat → Prop} {H : Heap} {cs : Nat → ClassId} {h : Nat} {a : Nat → Nat} {i : Nat → Int32} {r : Nat → Nat → Int32} {f : Nat → Int32} (hP : va_P D vwCl ((W2 cs h a i r).set 1 (a 0, .inl (cs 0, 40, .inl f))) H) (hD : va_D A ((W2 cs h a i r).set 1 (a 0, .inl (cs 0, 40, .inl f)))) : va_P D vwCl (W2 cs h a i (va_up r 0 f)) H ∧ va_D A (W2 cs h a i (va_up r 0 f)) := ⟨hP, hD⟩
theorem st2_0_T {D : va_G} {A : Nat → Prop} {H : Heap} {cs : Nat → ClassId} {h : Nat} {a : Nat → Nat} {i : Nat → Int32} {r : Nat → Nat → Int32} {f : Nat → Int32} {T : va_W} (hP : va_P D vwCl ((W2 cs h a i r ++ T).set 1 (a 0, .inl (cs 0, 40, .inl f))) H) (hD : va_D A ((W2 cs h a i r ++ T).set 1 (a 0, .inl (cs 0, 40, .inl f)))) : va_P D vwCl (W2 cs h a i (va_up r 0 f) ++ T) H ∧ va_D A (W2 cs h a i (va_up r 0 f) ++ T) := ⟨hP, hD⟩
theorem st2_1 {D : va_G} {A : Nat → Prop} {H : Heap} {cs : Nat → ClassId} {h : Nat} {a : Nat → Nat} {i : Nat → Int32} {r : Nat → Nat → Int32} {f : Nat → Int32} (hP : va_P D vwCl ((W2 cs h a i r).set 2 (a 1, .inl (cs 0, 40, .inl f))) H) (hD : va_D A ((W2 cs h a i r).set 2 (a 1, .inl (cs 0, 40, .inl f)))) : va_P D vwCl (W2 cs h a i (va_up r 1 f)) H ∧ va_D A (W2 cs h a i (va_up r 1 f)) := ⟨hP, hD⟩
theorem st2_1_T {D : va_G} {A : Nat → Prop} {H : Heap} {cs : Nat → ClassId} {h : Nat} {a : Nat → Nat} {i : Nat → Int32} {r : Nat → Nat → Int32} {f : Nat → Int32} {T : va_W} (hP : va_P D vwCl ((W2 cs h a i r ++ T).set 2 (a 1, .inl (cs 0, 40, .inl f))) H) (hD : va_D A ((W2 cs h a i r ++ T).set 2 (a 1, .inl (cs 0, 40, .inl f)))) : va_P D vwCl (W2 cs h a i (va_up r 1 f) ++ T) H ∧ va_D A (W2 cs h a i (va_up r 1 f) ++ T) := ⟨hP, hD⟩
theorem st2_2 {D : va_G} {A : Nat → Prop} {H : Heap} {cs : Nat → ClassId} {h : Nat} {a : Nat → Nat} {i : Nat → Int32} {r : Nat → Nat → Int32} {f : Nat → Int32} (hP : va_P D vwCl ((W2 cs h a i r).set 3 (a 2, .inl (cs 0, 40, .inl f))) H) (hD : va_D A ((W2 cs h a i r).set 3 (a 2, .inl (cs 0, 40, .inl f)))) : va_P D vwCl (W2 cs h a i (va_up r 2 f)) H ∧ va_D A (W2 cs h a i (va_up r 2 f)) := ⟨hP, hD⟩
theorem st2_2_T {D : va_G} {A : Nat → Prop} {H : Heap} {cs : Nat → ClassId} {h : Nat} {a : Nat → Nat} {i : Nat → Int32} {r : Nat → Nat → Int32} {f : Nat → Int32} {T : va_W} (hP : va_P D vwCl ((W2 cs h a i r ++ T).set 3 (a 2, .inl (cs 0, 40, .inl f))) H) (hD : va_D A ((W2 cs h a i r ++ T).set 3 (a 2, .inl (cs 0, 40, .inl f)))) : va_P D vwCl (W2 cs h a i (va_up r 2 f) ++ T) H ∧ va_D A (W2 cs h a i (va_up r 2 f) ++ T) := ⟨hP, hD⟩
theorem st2_3 {D : va_G} {A : Nat → Prop} {H : Heap} {cs : Nat → ClassId} {h : Nat} {a : Nat → Nat} {i : Nat → Int32} {r : Nat → Nat → Int32} {f : Nat → Int32} (hP : va_P D vwCl ((W2 cs h a i r).set 4 (a 3, .inl (cs 0, 40, .inl f))) H) (hD : va_D A ((W2 cs h a i r).set 4 (a 3, .inl (cs 0, 40, .inl f)))) : va_P D vwCl (W2 cs h a i (va_up r 3 f)) H ∧ va_D A (W2 cs h a i (va_up r 3 f)) := ⟨hP, hD⟩
theorem st2_3_T {D : va_G} {A : Nat → Prop} {H : Heap} {cs : Nat → ClassId} {h : Nat} {a : Nat → Nat} {i : Nat → Int32} {r : Nat → Nat → Int32} {f : Nat → Int32} {T : va_W} (hP : va_P D vwCl ((W2 cs h a i r ++ T).set 4 (a 3, .inl (cs 0, 40, .inl f))) H) (hD : va_D A ((W2 cs h a i r ++ T).set 4 (a 3, .inl (cs 0, 40, .inl f)))) : va_P D vwCl (W2 cs h a i (va_up r 3 f) ++ T) H ∧ va_D A (W2 cs h a i (va_up r 3 f) ++ T) := ⟨hP, hD⟩
theorem st2_4 {D : va_G} {A : Nat → Prop} {H : Heap} {cs : Nat → ClassId} {h : Nat} {a : Nat → Nat} {i : Nat → Int32} {r : Nat → Nat → Int32} {v : Int32} (hP : va_P D vwCl ((W2 cs h a i r).set 0 (h, .inr (2, (fs2 a i).set 4 (.int v)))) H) (hD : va_D A ((W2 cs h a i r).set 0 (h, .inr (2, (fs2 a i).set 4 (.int v))))) : va_P D vwCl (W2 cs h a (upd i 4 v) r) H ∧ va_D A (W2 cs h a (upd i 4 v) r) := ⟨hP, hD⟩
theorem st2_4_T {D : va_G} {A : Nat → Prop} {H : Heap} {cs : Nat → ClassId} {h : Nat} {a : Nat → Nat} {i : Nat → Int32} {r : Nat → Nat → Int32} {v : Int32} {T : va_W} (hP : va_P D vwCl ((W2 cs h a i r ++ T).set 0 (h, .inr (2, (fs2 a i).set 4 (.int v)))) H) (hD : va_D A ((W2 cs h a i r ++ T).set 0 (h, .inr (2, (fs2 a i).set 4 (.int v))))) : va_P D vwCl (W2 cs h a (upd i 4 v) r ++ T) H ∧ va_D A (W2 cs h a (upd i 4 v) r ++ T) := ⟨hP, hD⟩
theorem st2_5 {D : va_G} {A : Nat → Prop} {H : Heap} {cs : Nat → ClassId} {h : Nat} {a : Nat → Nat} {i : Nat → Int32} {r : Nat → Nat → Int32} {v : Int32} (hP : va_P D vwCl ((W2 cs h a i r).set 0 (h, .inr (2, (fs2 a i).set 5 (.int v)))) H) (hD : va_D A ((W2 cs h a i r).set 0 (h, .inr (2, (fs2 a i).set 5 (.int v))))) : va_P D vwCl (W2 cs h a (upd i 5 v) r) H ∧ va_D A (W2 cs h a (upd i 5 v) r) := ⟨hP, hD⟩
theorem st2_5_T {D : va_G} {A : Nat → Prop} {H : Heap} {cs : Nat → ClassId} {h : Nat} {a : Nat → Nat} {i : Nat → Int32} {r : Nat → Nat → Int32} {v : Int32} {T : va_W} (hP : va_P D vwCl ((W2 cs h a i r ++ T).set 0 (h, .inr (2, (fs2 a i).set 5 (.int v)))) H) (hD : va_D A ((W2 cs h a i r ++ T).set 0 (h, .inr (2, (fs2 a i).set 5 (.int v))))) : va_P D vwCl (W2 cs h a (upd i 5 v) r ++ T) H ∧ va_D A (W2 cs h a (upd i 5 v) r ++ T) := ⟨hP, hD⟩
/-! MarbleFloor$Floor.clear(I)V -/
abbrev wlX2_clear : List Cond := Cond.code yX2_clear cX2_clear 2 none :: tbG
abbrev rmX2_clear : Room := { frames := 0, cells := 0, slots := 0, locals := 0 }
theorem qnX2_clear : yX2_clear.cls = RX2 ∧ yX2_clear.cls ≠ "java/lang/invoke/MethodHandle" ∧ yX2_clear.cls ≠ "java/lang/invoke/VarHandle" ∧ (parseMethodDescriptor yX2_clear.desc).map (fun d => d.parameters.length) = some 1 := by decide +kernel
def f_X2_clear  (i0 : Nat → Int32) (r0 : Nat → Nat → Int32) (x1 : Int32) : Option ((Nat → Int32)) := some ((upd (upd i0 4 x1) 5 0))
set_option maxRecDepth 100000 in
set_option maxHeartbeats 4000000 in
theorem c_X2_clear {l : Launch} {D : va_G} {cs zs : Nat → Nat} {h0 : Nat} {a0 : Nat → Nat} {i0 : Nat → Int32} {r0 : Nat → Nat → Int32} {x1 : Int32} {q : (Nat → Int32)} (hf : f_X2_clear i0 r0 x1 = some q) : Mv l yX2_clear wlX2_clear rmX2_clear D cs zs [.ref h0, .int x1] (W2 cs h0 a0 i0 r0) (W2 cs h0 a0 q r0) := by
  refine Mv.of RX2 (by decide) rfl (Nat.le_of_ble_eq_true rfl) (fun p e s m below meth c A C hP hD hS ls hl => ?_)
  generalize ([.ref h0, .int x1] : List Value).toArray = args at C ⊢
  obtain ⟨hx, hb, hr, hml, hown, hts, hK, hA, hlocks, hZ⟩ := id C
  have hl : lv_has ls 2 [(0, .ref h0), (1, .int x1)] := hl
  rw [f_X2_clear] at hf
  refine lv_aload_n hx hb dX2_clear_0 rfl (lv_at hl 0 rfl) ?_
  refine lv_iload_n hx hb dX2_clear_1 rfl (lv_at hl 1 rfl) ?_
  refine va_put (D := D) (ci := 2) (v := .int x1) (ty := .int) (C := RX2) (T := TX2) (N := 6) hx hb hts hiX2 tyX2 tyX2_ok nmX2 hown hK hP hD hS 0 rfl rfl 4 (by decide) (hts _ flX2_24) (fun _ h9 => h9) rfl (tyX2_ok 4 (by decide)) rfl rfl (Nat.le_of_ble_eq_true rfl) dX2_clear_2 (fun H locs hP hD hS => ?_)
  obtain ⟨hP, hD⟩ := st2_4 hP hD
  refine lv_aload_n hx hb dX2_clear_5 rfl (lv_at hl 0 rfl) ?_
  refine lv_iconst (v := 0) hx hb dX2_clear_6 (by decide) ?_
  refine va_put (D := D) (ci := 2) (v := .int 0) (ty := .int) (C := RX2) (T := TX2) (N := 6) hx hb hts hiX2 tyX2 tyX2_ok nmX2 hown hK hP hD hS 0 rfl rfl 5 (by decide) (hts _ flX2_28) (fun _ h9 => h9) rfl (tyX2_ok 5 (by decide)) rfl rfl (Nat.le_of_ble_eq_true rfl) dX2_clear_7 (fun H locs hP hD hS => ?_)
  obtain ⟨hP, hD⟩ := st2_5 hP hD
  obtain rfl := Option.some.inj hf
  exact k_vret hx hb hr hlocks hK hP hD hS dX2_clear_10
/-! MarbleFloor$Floor.addKind(IIII)V -/
abbrev wlX2_addKind : List Cond := Cond.code yX2_addKind cX2_addKind 5 none :: tbG
abbrev rmX2_addKind : Room := { frames := 0, cells := 0, slots := 0, locals := 0 }
theorem qnX2_addKind : yX2_addKind.cls = RX2 ∧ yX2_addKind.cls ≠ "java/lang/invoke/MethodHandle" ∧ yX2_addKind.cls ≠ "java/lang/invoke/VarHandle" ∧ (parseMethodDescriptor yX2_addKind.desc).map (fun d => d.parameters.length) = some 4 := by decide +kernel
def f_X2_addKind_50   (i0 : Nat → Int32) (r0 : Nat → Nat → Int32) : Option ((Nat → Int32) × (Nat → Nat → Int32)) := some ((upd i0 5 ((i0 5) + 1)), r0)
set_option maxRecDepth 100000 in
set_option maxHeartbeats 4000000 in
theorem w_X2_addKind_50 {p : Program} {l : Launch} {e : Env} {s : State} {m : MethodId} {args : Array Value} {below : List Frame} {meth : Method} {c : Code} {A : Nat → Prop} {D : va_G} {cs zs : Nat → Nat} {h0 : Nat} {a0 : Nat → Nat}  {q : (Nat → Int32) × (Nat → Nat → Int32)} (C : Cx p s m args meth c A D cs zs cX2_addKind 5 none RX2)  : ∀ (i0 : Nat → Int32) (r0 : Nat → Nat → Int32) (H : Heap) (locs : List Loc) (ls : Array Slot), f_X2_addKind_50 i0 r0 = some q → va_P D vwCl (W2 cs h0 a0 i0 r0) H → va_D A (W2 cs h0 a0 i0 r0) → va_S A s.heap H locs → lv_has ls 5 [(0, .ref h0)] → W p l e rmX2_addKind s m args below meth c H locs 0 0 (MQ below (Qv D cs A (W2 cs h0 a0 q.1 q.2)) args s 0 0 A) (F0 m 50 ls []) := by
  obtain ⟨hx, hb, hr, hml, hown, hts, hK, hA, hlocks, hZ⟩ := id C
  intro i0 r0 H locs ls hf hP hD hS hl
  rw [f_X2_addKind_50] at hf
  refine lv_aload_n hx hb dX2_addKind_50 rfl (lv_at hl 0 rfl) ?_
  refine lv_dup hx hb dX2_addKind_51 rfl ?_
  refine va_get (D := D) (ci := 2) (v := .int (i0 5)) (C := RX2) (T := TX2) (N := 6) hx hb hts hiX2 hown hK hP 0 rfl rfl 5 (by decide) (hts _ flX2_28) (fun _ h9 => h9) rfl dX2_addKind_52 ?_
  refine lv_iconst (v := 1) hx hb dX2_addKind_55 (by decide) ?_
  refine lv_iadd hx hb dX2_addKind_56 ?_
  refine va_put (D := D) (ci := 2) (v := .int ((i0 5) + 1)) (ty := .int) (C := RX2) (T := TX2) (N := 6) hx hb hts hiX2 tyX2 tyX2_ok nmX2 hown hK hP hD hS 0 rfl rfl 5 (by decide) (hts _ flX2_28) (fun _ h9 => h9) rfl (tyX2_ok 5 (by decide)) rfl rfl (Nat.le_of_ble_eq_true rfl) dX2_addKind_57 (fun H locs hP hD hS => ?_)
  obtain ⟨hP, hD⟩ := st2_5 hP hD
  obtain rfl := Option.some.inj hf
  exact k_vret hx hb hr hlocks hK hP hD hS dX2_addKind_60
def f_X2_addKind_29   (i0 : Nat → Int32) (r0 : Nat → Nat → Int32) (x3 : Int32) (x4 : Int32) : Option ((Nat → Int32) × (Nat → Nat → Int32)) := ck (inb (i0 5) 40) (ck (inb (i0 5) 40) (f_X2_addKind_50 i0 (va_up (va_up r0 2 (upd (r0 2) (i0 5).toNatClampNeg x3)) 3 (upd (r0 3) (i0 5).toNatClampNeg x4))))
set_option maxRecDepth 100000 in
set_option maxHeartbeats 4000000 in
theorem w_X2_addKind_29 {p : Program} {l : Launch} {e : Env} {s : State} {m : MethodId} {args : Array Value} {below : List Frame} {meth : Method} {c : Code} {A : Nat → Prop} {D : va_G} {cs zs : Nat → Nat} {h0 : Nat} {a0 : Nat → Nat}  {q : (Nat → Int32) × (Nat → Nat → Int32)} (C : Cx p s m args meth c A D cs zs cX2_addKind 5 none RX2)  : ∀ (i0 : Nat → Int32) (r0 : Nat → Nat → Int32) (x3 : Int32) (x4 : Int32) (H : Heap) (locs : List Loc) (ls : Array Slot), f_X2_addKind_29 i0 r0 x3 x4 = some q → va_P D vwCl (W2 cs h0 a0 i0 r0) H → va_D A (W2 cs h0 a0 i0 r0) → va_S A s.heap H locs → lv_has ls 5 [(0, .ref h0), (3, .int x3), (4, .int x4)] → W p l e rmX2_addKind s m args below meth c H locs 0 0 (MQ below (Qv D cs A (W2 cs h0 a0 q.1 q.2)) args s 0 0 A) (F0 m 29 ls []) := by
  obtain ⟨hx, hb, hr, hml, hown, hts, hK, hA, hlocks, hZ⟩ := id C
  intro i0 r0 x3 x4 H locs ls hf hP hD hS hl
  rw [f_X2_addKind_29] at hf
  refine lv_aload_n hx hb dX2_addKind_29 rfl (lv_at hl 0 rfl) ?_
  refine va_get (D := D) (ci := 2) (v := .ref (a0 2)) (C := RX2) (T := TX2) (N := 6) hx hb hts hiX2 hown hK hP 0 rfl rfl 2 (by decide) (hts _ flX2_18) (fun _ h9 => h9) rfl dX2_addKind_30 ?_
  refine lv_aload_n hx hb dX2_addKind_33 rfl (lv_at hl 0 rfl) ?_
  refine va_get (D := D) (ci := 2) (v := .int (i0 5)) (C := RX2) (T := TX2) (N := 6) hx hb hts hiX2 hown hK hP 0 rfl rfl 5 (by decide) (hts _ flX2_28) (fun _ h9 => h9) rfl dX2_addKind_34 ?_
  refine lv_iload_n hx hb dX2_addKind_37 rfl (lv_at hl 1 rfl) ?_
  refine va_iast (f := r0 2) hx hb hK hP hD hS 3 0 rfl rfl (ck_in hf) dX2_addKind_38 (fun H locs hP hD hS => ?_)
  have hf := ck_2 hf
  obtain ⟨hP, hD⟩ := st2_2 hP hD
  refine lv_aload_n hx hb dX2_addKind_39 rfl (lv_at hl 0 rfl) ?_
  refine va_get (D := D) (ci := 2) (v := .ref (a0 3)) (C := RX2) (T := TX2) (N := 6) hx hb hts hiX2 hown hK hP 0 rfl rfl 3 (by decide) (hts _ flX2_21) (fun _ h9 => h9) rfl dX2_addKind_40 ?_
  refine lv_aload_n hx hb dX2_addKind_43 rfl (lv_at hl 0 rfl) ?_
  refine va_get (D := D) (ci := 2) (v := .int (i0 5)) (C := RX2) (T := TX2) (N := 6) hx hb hts hiX2 hown hK hP 0 rfl rfl 5 (by decide) (hts _ flX2_28) (fun _ h9 => h9) rfl dX2_addKind_44 ?_
  refine lv_iload hx hb dX2_addKind_47 (lv_at hl 2 rfl) ?_
  refine va_iast (f := r0 3) hx hb hK hP hD hS 4 0 rfl rfl (ck_in hf) dX2_addKind_49 (fun H locs hP hD hS => ?_)
  have hf := ck_2 hf
  obtain ⟨hP, hD⟩ := st2_3 hP hD
  exact w_X2_addKind_50 C  _ _ _ _ _ hf hP hD hS (lv_sub hl [0] rfl)
def f_X2_addKind  (i0 : Nat → Int32) (r0 : Nat → Nat → Int32) (x1 : Int32) (x2 : Int32) (x3 : Int32) (x4 : Int32) : Option ((Nat → Int32) × (Nat → Nat → Int32)) := if 40 ≤ (i0 5) then (some (i0, r0)) else (ck (inb (i0 5) 40) (ck (inb (i0 5) 40) (f_X2_addKind_29 i0 (va_up (va_up r0 0 (upd (r0 0) (i0 5).toNatClampNeg x1)) 1 (upd (r0 1) (i0 5).toNatClampNeg x2)) x3 x4)))
set_option maxRecDepth 100000 in
set_option maxHeartbeats 4000000 in
theorem c_X2_addKind {l : Launch} {D : va_G} {cs zs : Nat → Nat} {h0 : Nat} {a0 : Nat → Nat} {i0 : Nat → Int32} {r0 : Nat → Nat → Int32} {x1 : Int32} {x2 : Int32} {x3 : Int32} {x4 : Int32} {q : (Nat → Int32) × (Nat → Nat → Int32)} (hf : f_X2_addKind i0 r0 x1 x2 x3 x4 = some q) : Mv l yX2_addKind wlX2_addKind rmX2_addKind D cs zs [.ref h0, .int x1, .int x2, .int x3, .int x4] (W2 cs h0 a0 i0 r0) (W2 cs h0 a0 q.1 q.2) := by
  refine Mv.of RX2 (by decide) rfl (Nat.le_of_ble_eq_true rfl) (fun p e s m below meth c A C hP hD hS ls hl => ?_)
  generalize ([.ref h0, .int x1, .int x2, .int x3, .int x4] : List Value).toArray = args at C ⊢
  obtain ⟨hx, hb, hr, hml, hown, hts, hK, hA, hlocks, hZ⟩ := id C
  have hl : lv_has ls 5 [(0, .ref h0), (1, .int x1), (2, .int x2), (3, .int x3), (4, .int x4)] := hl
  rw [f_X2_addKind] at hf
  refine lv_aload_n hx hb dX2_addKind_0 rfl (lv_at hl 0 rfl) ?_
  refine va_get (D := D) (ci := 2) (v := .int (i0 5)) (C := RX2) (T := TX2) (N := 6) hx hb hts hiX2 hown hK hP 0 rfl rfl 5 (by decide) (hts _ flX2_28) (fun _ h9 => h9) rfl dX2_addKind_1 ?_
  refine lv_bipush (v := 40) hx hb dX2_addKind_4 (by decide) ?_
  refine lv_icmp_ge (tgt := 60) hx hb dX2_addKind_6 (by decide) (fun hc => ?_) (fun hc => ?_)
  · have hf := ite_t hf hc
    obtain rfl := Option.some.inj hf
    exact k_vret hx hb hr hlocks hK hP hD hS dX2_addKind_60
  · have hf := ite_f hf hc
    refine lv_aload_n hx hb dX2_addKind_9 rfl (lv_at hl 0 rfl) ?_
    refine va_get (D := D) (ci := 2) (v := .ref (a0 0)) (C := RX2) (T := TX2) (N := 6) hx hb hts hiX2 hown hK hP 0 rfl rfl 0 (by decide) (hts _ flX2_9) (fun _ h9 => h9) rfl dX2_addKind_10 ?_
    refine lv_aload_n hx hb dX2_addKind_13 rfl (lv_at hl 0 rfl) ?_
    refine va_get (D := D) (ci := 2) (v := .int (i0 5)) (C := RX2) (T := TX2) (N := 6) hx hb hts hiX2 hown hK hP 0 rfl rfl 5 (by decide) (hts _ flX2_28) (fun _ h9 => h9) rfl dX2_addKind_14 ?_
    refine lv_iload_n hx hb dX2_addKind_17 rfl (lv_at hl 1 rfl) ?_
    refine va_iast (f := r0 0) hx hb hK hP hD hS 1 0 rfl rfl (ck_in hf) dX2_addKind_18 (fun H locs hP hD hS => ?_)
    have hf := ck_2 hf
    obtain ⟨hP, hD⟩ := st2_0 hP hD
    refine lv_aload_n hx hb dX2_addKind_19 rfl (lv_at hl 0 rfl) ?_
    refine va_get (D := D) (ci := 2) (v := .ref (a0 1)) (C := RX2) (T := TX2) (N := 6) hx hb hts hiX2 hown hK hP 0 rfl rfl 1 (by decide) (hts _ flX2_15) (fun _ h9 => h9) rfl dX2_addKind_20 ?_
    refine lv_aload_n hx hb dX2_addKind_23 rfl (lv_at hl 0 rfl) ?_
    refine va_get (D := D) (ci := 2) (v := .int (i0 5)) (C := RX2) (T := TX2) (N := 6) hx hb hts hiX2 hown hK hP 0 rfl rfl 5 (by decide) (hts _ flX2_28) (fun _ h9 => h9) rfl dX2_addKind_24 ?_
    refine lv_iload_n hx hb dX2_addKind_27 rfl (lv_at hl 2 rfl) ?_
    refine va_iast (f := r0 1) hx hb hK hP hD hS 2 0 rfl rfl (ck_in hf) dX2_addKind_28 (fun H locs hP hD hS => ?_)
    have hf := ck_2 hf
    obtain ⟨hP, hD⟩ := st2_1 hP hD
    exact w_X2_addKind_29 C  _ _ _ _ _ _ _ hf hP hD hS (lv_sub hl [0, 3, 4] rfl)
/-! MarbleFloor$Floor.addTurn(II)V -/
abbrev wlX2_addTurn : List Cond := Cond.code yX2_addTurn cX2_addTurn 3 none :: tbG
abbrev rmX2_addTurn : Room := { frames := 1, cells := 0, slots := 0, locals := 24 }
theorem qnX2_addTurn : yX2_addTurn.cls = RX2 ∧ yX2_addTurn.cls ≠ "java/lang/invoke/MethodHandle" ∧ yX2_addTurn.cls ≠ "java/lang/invoke/VarHandle" ∧ (parseMethodDescriptor yX2_addTurn.desc).map (fun d => d.parameters.length) = some 2 := by decide +kernel
def f_X2_addTurn  (i0 : Nat → Int32) (r0 : Nat → Nat → Int32) (x1 : Int32) (x2 : Int32) : Option ((Nat → Int32) × (Nat → Nat → Int32)) := bd (f_X2_addKind i0 r0 0 x1 (-1) x2) (fun q2 => some (q2.1, q2.2))
set_option maxRecDepth 100000 in
set_option maxHeartbeats 4000000 in
theorem c_X2_addTurn {l : Launch} {D : va_G} {cs zs : Nat → Nat} {h0 : Nat} {a0 : Nat → Nat} {i0 : Nat → Int32} {r0 : Nat → Nat → Int32} {x1 : Int32} {x2 : Int32} {q : (Nat → Int32) × (Nat → Nat → Int32)} (hf : f_X2_addTurn i0 r0 x1 x2 = some q) : Mv l yX2_addTurn wlX2_addTurn rmX2_addTurn D cs zs [.ref h0, .int x1, .int x2] (W2 cs h0 a0 i0 r0) (W2 cs h0 a0 q.1 q.2) := by
  refine Mv.of RX2 (by decide) rfl (Nat.le_of_ble_eq_true rfl) (fun p e s m below meth c A C hP hD hS ls hl => ?_)
  generalize ([.ref h0, .int x1, .int x2] : List Value).toArray = args at C ⊢
  obtain ⟨hx, hb, hr, hml, hown, hts, hK, hA, hlocks, hZ⟩ := id C
  have hl : lv_has ls 3 [(0, .ref h0), (1, .int x1), (2, .int x2)] := hl
  rw [f_X2_addTurn] at hf
  refine lv_aload_n hx hb dX2_addTurn_0 rfl (lv_at hl 0 rfl) ?_
  refine lv_iconst (v := 0) hx hb dX2_addTurn_1 (by decide) ?_
  refine lv_iload_n hx hb dX2_addTurn_2 rfl (lv_at hl 1 rfl) ?_
  refine lv_iconst (v := (-1)) hx hb dX2_addTurn_3 (by decide) ?_
  refine lv_iload_n hx hb dX2_addTurn_4 rfl (lv_at hl 2 rfl) ?_
  obtain ⟨q2, hq2, hf⟩ := bd_s hf
  refine k_sVv (ws2 := W2 cs h0 a0 q2.1 q2.2) (As := [.int 0, .int x1, .int (-1), .int x2]) (rest := []) hx hb hml hown hts hK hA hZ hl.1 hP hD hS (c_X2_addKind (h0 := h0) (a0 := a0) hq2) (gVt mlX2_31 imX2_addKind seX2_addKind inX2 coX2_addKind) rfl qnX2_addKind rfl rfl ⟨Nat.le_of_ble_eq_true rfl, Nat.le_of_ble_eq_true rfl⟩ 0 2 rfl rfl rfl rfl rfl (Nat.le_of_ble_eq_true rfl) ⟨Nat.zero_le _, Nat.zero_le _⟩ dX2_addTurn_5 (fun H locs hP hD hS => ?_)
  obtain rfl := Option.some.inj hf
  exact k_vret hx hb hr hlocks hK hP hD hS dX2_addTurn_8
/-! MarbleFloor$Floor.addSwap(III)V -/
abbrev wlX2_addSwap : List Cond := Cond.code yX2_addSwap cX2_addSwap 4 none :: tbG
abbrev rmX2_addSwap : Room := { frames := 1, cells := 0, slots := 0, locals := 24 }
theorem qnX2_addSwap : yX2_addSwap.cls = RX2 ∧ yX2_addSwap.cls ≠ "java/lang/invoke/MethodHandle" ∧ yX2_addSwap.cls ≠ "java/lang/invoke/VarHandle" ∧ (parseMethodDescriptor yX2_addSwap.desc).map (fun d => d.parameters.length) = some 3 := by decide +kernel
def f_X2_addSwap  (i0 : Nat → Int32) (r0 : Nat → Nat → Int32) (x1 : Int32) (x2 : Int32) (x3 : Int32) : Option ((Nat → Int32) × (Nat → Nat → Int32)) := bd (f_X2_addKind i0 r0 1 x1 x2 x3) (fun q2 => some (q2.1, q2.2))
set_option maxRecDepth 100000 in
set_option maxHeartbeats 4000000 in
theorem c_X2_addSwap {l : Launch} {D : va_G} {cs zs : Nat → Nat} {h0 : Nat} {a0 : Nat → Nat} {i0 : Nat → Int32} {r0 : Nat → Nat → Int32} {x1 : Int32} {x2 : Int32} {x3 : Int32} {q : (Nat → Int32) × (Nat → Nat → Int32)} (hf : f_X2_addSwap i0 r0 x1 x2 x3 = some q) : Mv l yX2_addSwap wlX2_addSwap rmX2_addSwap D cs zs [.ref h0, .int x1, .int x2, .int x3] (W2 cs h0 a0 i0 r0) (W2 cs h0 a0 q.1 q.2) := by
  refine Mv.of RX2 (by decide) rfl (Nat.le_of_ble_eq_true rfl) (fun p e s m below meth c A C hP hD hS ls hl => ?_)
  generalize ([.ref h0, .int x1, .int x2, .int x3] : List Value).toArray = args at C ⊢
  obtain ⟨hx, hb, hr, hml, hown, hts, hK, hA, hlocks, hZ⟩ := id C
  have hl : lv_has ls 4 [(0, .ref h0), (1, .int x1), (2, .int x2), (3, .int x3)] := hl
  rw [f_X2_addSwap] at hf
  refine lv_aload_n hx hb dX2_addSwap_0 rfl (lv_at hl 0 rfl) ?_
  refine lv_iconst (v := 1) hx hb dX2_addSwap_1 (by decide) ?_
  refine lv_iload_n hx hb dX2_addSwap_2 rfl (lv_at hl 1 rfl) ?_
  refine lv_iload_n hx hb dX2_addSwap_3 rfl (lv_at hl 2 rfl) ?_
  refine lv_iload_n hx hb dX2_addSwap_4 rfl (lv_at hl 3 rfl) ?_
  obtain ⟨q2, hq2, hf⟩ := bd_s hf
  refine k_sVv (ws2 := W2 cs h0 a0 q2.1 q2.2) (As := [.int 1, .int x1, .int x2, .int x3]) (rest := []) hx hb hml hown hts hK hA hZ hl.1 hP hD hS (c_X2_addKind (h0 := h0) (a0 := a0) hq2) (gVt mlX2_31 imX2_addKind seX2_addKind inX2 coX2_addKind) rfl qnX2_addKind rfl rfl ⟨Nat.le_of_ble_eq_true rfl, Nat.le_of_ble_eq_true rfl⟩ 0 2 rfl rfl rfl rfl rfl (Nat.le_of_ble_eq_true rfl) ⟨Nat.zero_le _, Nat.zero_le _⟩ dX2_addSwap_5 (fun H locs hP hD hS => ?_)
  obtain rfl := Option.some.inj hf
  exact k_vret hx hb hr hlocks hK hP hD hS dX2_addSwap_8
/-! MarbleFloor$Floor.addAll(LMarbleFloor$Floor;)V -/
abbrev wlX2_addAll : List Cond := Cond.code yX2_addAll cX2_addAll 3 none :: tbG
abbrev rmX2_addAll : Room := { frames := 1, cells := 0, slots := 0, locals := 24 }
theorem qnX2_addAll : yX2_addAll.cls = RX2 ∧ yX2_addAll.cls ≠ "java/lang/invoke/MethodHandle" ∧ yX2_addAll.cls ≠ "java/lang/invoke/VarHandle" ∧ (parseMethodDescriptor yX2_addAll.desc).map (fun d => d.parameters.length) = some 1 := by decide +kernel
def f_X2_addAll_2 (i1 : Nat → Int32) (r1 : Nat → Nat → Int32)  : Nat → (Nat → Int32) → (Nat → Nat → Int32) → Int32 → Option ((Nat → Int32) × (Nat → Nat → Int32))
  | 0, _, _, _ => none
  | n + 1, i0, r0, x2 => if (i1 5) ≤ x2 then (some (i0, r0)) else (ck (inb x2 40) (ck (inb x2 40) (ck (inb x2 40) (ck (inb x2 40) (bd (f_X2_addKind i0 r0 (r1 0 x2.toNatClampNeg) (r1 1 x2.toNatClampNeg) (r1 2 x2.toNatClampNeg) (r1 3 x2.toNatClampNeg)) (fun q2 => f_X2_addAll_2 i1 r1 n q2.1 q2.2 (x2 + 1)))))))
set_option maxRecDepth 100000 in
set_option maxHeartbeats 4000000 in
theorem w_X2_addAll_2 {p : Program} {l : Launch} {e : Env} {s : State} {m : MethodId} {args : Array Value} {below : List Frame} {meth : Method} {c : Code} {A : Nat → Prop} {D : va_G} {cs zs : Nat → Nat} {h0 : Nat} {a0 : Nat → Nat} {h1 : Nat} {a1 : Nat → Nat} {i1 : Nat → Int32} {r1 : Nat → Nat → Int32} {q : (Nat → Int32) × (Nat → Nat → Int32)} (C : Cx p s m args meth c A D cs zs cX2_addAll 3 none RX2)  : ∀ (n : Nat), ∀ (i0 : Nat → Int32) (r0 : Nat → Nat → Int32) (x2 : Int32) (H : Heap) (locs : List Loc) (ls : Array Slot), f_X2_addAll_2 i1 r1 n i0 r0 x2 = some q → va_P D vwCl (W2 cs h0 a0 i0 r0 ++ W2 cs h1 a1 i1 r1) H → va_D A (W2 cs h0 a0 i0 r0 ++ W2 cs h1 a1 i1 r1) → va_S A s.heap H locs → lv_has ls 3 [(0, .ref h0), (1, .ref h1), (2, .int x2)] → W p l e rmX2_addAll s m args below meth c H locs 0 0 (MQ below (Qv D cs A (W2 cs h0 a0 q.1 q.2 ++ W2 cs h1 a1 i1 r1)) args s 0 0 A) (F0 m 2 ls []) := by
  obtain ⟨hx, hb, hr, hml, hown, hts, hK, hA, hlocks, hZ⟩ := id C
  intro n
  induction n with
  | zero =>
    intro i0 r0 x2 H locs ls hf
    rw [f_X2_addAll_2] at hf
    cases hf
  | succ n ih =>
    intro i0 r0 x2 H locs ls hf hP hD hS hl
    rw [f_X2_addAll_2] at hf
    refine lv_iload_n hx hb dX2_addAll_2 rfl (lv_at hl 2 rfl) ?_
    refine lv_aload_n hx hb dX2_addAll_3 rfl (lv_at hl 1 rfl) ?_
    refine va_get (D := D) (ci := 2) (v := .int (i1 5)) (C := RX2) (T := TX2) (N := 6) hx hb hts hiX2 hown hK hP 5 rfl rfl 5 (by decide) (hts _ flX2_28) (fun _ h9 => h9) rfl dX2_addAll_4 ?_
    refine lv_icmp_ge (tgt := 44) hx hb dX2_addAll_7 (by decide) (fun hc => ?_) (fun hc => ?_)
    · have hf := ite_t hf hc
      obtain rfl := Option.some.inj hf
      exact k_vret hx hb hr hlocks hK hP hD hS dX2_addAll_44
    · have hf := ite_f hf hc
      refine lv_aload_n hx hb dX2_addAll_10 rfl (lv_at hl 0 rfl) ?_
      refine lv_aload_n hx hb dX2_addAll_11 rfl (lv_at hl 1 rfl) ?_
      refine va_get (D := D) (ci := 2) (v := .ref (a1 0)) (C := RX2) (T := TX2) (N := 6) hx hb hts hiX2 hown hK hP 5 rfl rfl 0 (by decide) (hts _ flX2_9) (fun _ h9 => h9) rfl dX2_addAll_12 ?_
      refine lv_iload_n hx hb dX2_addAll_15 rfl (lv_at hl 2 rfl) ?_
      refine va_iald (f := r1 0) hx hb hK hP 6 0 rfl rfl (ck_in hf) dX2_addAll_16 ?_
      have hf := ck_2 hf
      refine lv_aload_n hx hb dX2_addAll_17 rfl (lv_at hl 1 rfl) ?_
      refine va_get (D := D) (ci := 2) (v := .ref (a1 1)) (C := RX2) (T := TX2) (N := 6) hx hb hts hiX2 hown hK hP 5 rfl rfl 1 (by decide) (hts _ flX2_15) (fun _ h9 => h9) rfl dX2_addAll_18 ?_
      refine lv_iload_n hx hb dX2_addAll_21 rfl (lv_at hl 2 rfl) ?_
      refine va_iald (f := r1 1) hx hb hK hP 7 0 rfl rfl (ck_in hf) dX2_addAll_22 ?_
      have hf := ck_2 hf
      refine lv_aload_n hx hb dX2_addAll_23 rfl (lv_at hl 1 rfl) ?_
      refine va_get (D := D) (ci := 2) (v := .ref (a1 2)) (C := RX2) (T := TX2) (N := 6) hx hb hts hiX2 hown hK hP 5 rfl rfl 2 (by decide) (hts _ flX2_18) (fun _ h9 => h9) rfl dX2_addAll_24 ?_
      refine lv_iload_n hx hb dX2_addAll_27 rfl (lv_at hl 2 rfl) ?_
      refine va_iald (f := r1 2) hx hb hK hP 8 0 rfl rfl (ck_in hf) dX2_addAll_28 ?_
      have hf := ck_2 hf
      refine lv_aload_n hx hb dX2_addAll_29 rfl (lv_at hl 1 rfl) ?_
      refine va_get (D := D) (ci := 2) (v := .ref (a1 3)) (C := RX2) (T := TX2) (N := 6) hx hb hts hiX2 hown hK hP 5 rfl rfl 3 (by decide) (hts _ flX2_21) (fun _ h9 => h9) rfl dX2_addAll_30 ?_
      refine lv_iload_n hx hb dX2_addAll_33 rfl (lv_at hl 2 rfl) ?_
      refine va_iald (f := r1 3) hx hb hK hP 9 0 rfl rfl (ck_in hf) dX2_addAll_34 ?_
      have hf := ck_2 hf
      obtain ⟨q2, hq2, hf⟩ := bd_s hf
      refine k_pVv (wr := W2 cs h1 a1 i1 r1) (ws2 := W2 cs h0 a0 q2.1 q2.2 ++ W2 cs h1 a1 i1 r1) (As := [.int (r1 0 x2.toNatClampNeg), .int (r1 1 x2.toNatClampNeg), .int (r1 2 x2.toNatClampNeg), .int (r1 3 x2.toNatClampNeg)]) (rest := []) hx hb hml hown hts hK hA hZ hl.1 hP hD hS (c_X2_addKind (h0 := h0) (a0 := a0) hq2) (gVt mlX2_31 imX2_addKind seX2_addKind inX2 coX2_addKind) rfl qnX2_addKind rfl rfl ⟨Nat.le_of_ble_eq_true rfl, Nat.le_of_ble_eq_true rfl⟩ [0, 1, 2, 3, 4] [5, 6, 7, 8, 9] [5, 6, 7, 8, 9, 0, 1, 2, 3, 4] rfl rfl rfl (by decide) 0 2 rfl rfl rfl rfl rfl (Nat.le_of_ble_eq_true rfl) ⟨Nat.zero_le _, Nat.zero_le _⟩ dX2_addAll_35 (fun H locs hP hD hS => ?_)
      refine lv_iinc (v := x2 + 1) (lv' := [(2, .int (x2 + 1)), (0, .ref h0), (1, .ref h1)]) hx hb dX2_addAll_38 hl (k := 2) rfl rfl (by decide) rfl (fun ls hl => ?_)
      refine lv_goto (tgt := 2) hx hb dX2_addAll_41 (by decide) ?_
      exact ih _ _ _ _ _ _ hf hP hD hS (lv_sub hl [1, 2, 0] rfl)
def f_X2_addAll  (i0 : Nat → Int32) (r0 : Nat → Nat → Int32) (i1 : Nat → Int32) (r1 : Nat → Nat → Int32)  : Option ((Nat → Int32) × (Nat → Nat → Int32)) := f_X2_addAll_2 i1 r1 2000000 i0 r0 0
set_option maxRecDepth 100000 in
set_option maxHeartbeats 4000000 in
theorem c_X2_addAll {l : Launch} {D : va_G} {cs zs : Nat → Nat} {h0 : Nat} {a0 : Nat → Nat} {h1 : Nat} {a1 : Nat → Nat} {i0 : Nat → Int32} {r0 : Nat → Nat → Int32} {i1 : Nat → Int32} {r1 : Nat → Nat → Int32}  {q : (Nat → Int32) × (Nat → Nat → Int32)} (hf : f_X2_addAll i0 r0 i1 r1 = some q) : Mv l yX2_addAll wlX2_addAll rmX2_addAll D cs zs [.ref h0, .ref h1] (W2 cs h0 a0 i0 r0 ++ W2 cs h1 a1 i1 r1) (W2 cs h0 a0 q.1 q.2 ++ W2 cs h1 a1 i1 r1) := by
  refine Mv.of RX2 (by decide) rfl (Nat.le_of_ble_eq_true rfl) (fun p e s m below meth c A C hP hD hS ls hl => ?_)
  generalize ([.ref h0, .ref h1] : List Value).toArray = args at C ⊢
  obtain ⟨hx, hb, hr, hml, hown, hts, hK, hA, hlocks, hZ⟩ := id C
  have hl : lv_has ls 3 [(0, .ref h0), (1, .ref h1)] := hl
  rw [f_X2_addAll] at hf
  refine lv_iconst (v := 0) hx hb dX2_addAll_0 (by decide) ?_
  refine lv_istore_n (lv' := [(2, .int 0), (0, .ref h0), (1, .ref h1)]) hx hb dX2_addAll_1 rfl hl (by decide) rfl (fun ls hl => ?_)
  exact w_X2_addAll_2 C  2000000 _ _ _ _ _ _ hf hP hD hS (lv_sub hl [1, 2, 0] rfl)
/-! MarbleFloor$Floor.copyFrom(LMarbleFloor$Floor;)V -/
abbrev wlX2_copyFrom : List Cond := Cond.code yX2_copyFrom cX2_copyFrom 2 none :: tbG
abbrev rmX2_copyFrom : Room := { frames := 2, cells := 0, slots := 0, locals := 46 }
theorem qnX2_copyFrom : yX2_copyFrom.cls = RX2 ∧ yX2_copyFrom.cls ≠ "java/lang/invoke/MethodHandle" ∧ yX2_copyFrom.cls ≠ "java/lang/invoke/VarHandle" ∧ (parseMethodDescriptor yX2_copyFrom.desc).map (fun d => d.parameters.length) = some 1 := by decide +kernel
def f_X2_copyFrom  (i0 : Nat → Int32) (r0 : Nat → Nat → Int32) (i1 : Nat → Int32) (r1 : Nat → Nat → Int32)  : Option ((Nat → Int32) × (Nat → Nat → Int32)) := bd (f_X2_clear i0 r0 (i1 4)) (fun q3 => bd (f_X2_addAll q3 r0 i1 r1) (fun q4 => some (q4.1, q4.2)))
set_option maxRecDepth 100000 in
set_option maxHeartbeats 4000000 in
theorem c_X2_copyFrom {l : Launch} {D : va_G} {cs zs : Nat → Nat} {h0 : Nat} {a0 : Nat → Nat} {h1 : Nat} {a1 : Nat → Nat} {i0 : Nat → Int32} {r0 : Nat → Nat → Int32} {i1 : Nat → Int32} {r1 : Nat → Nat → Int32}  {q : (Nat → Int32) × (Nat → Nat → Int32)} (hf : f_X2_copyFrom i0 r0 i1 r1 = some q) : Mv l yX2_copyFrom wlX2_copyFrom rmX2_copyFrom D cs zs [.ref h0, .ref h1] (W2 cs h0 a0 i0 r0 ++ W2 cs h1 a1 i1 r1) (W2 cs h0 a0 q.1 q.2 ++ W2 cs h1 a1 i1 r1) := by
  refine Mv.of RX2 (by decide) rfl (Nat.le_of_ble_eq_true rfl) (fun p e s m below meth c A C hP hD hS ls hl => ?_)
  generalize ([.ref h0, .ref h1] : List Value).toArray = args at C ⊢
  obtain ⟨hx, hb, hr, hml, hown, hts, hK, hA, hlocks, hZ⟩ := id C
  have hl : lv_has ls 2 [(0, .ref h0), (1, .ref h1)] := hl
  rw [f_X2_copyFrom] at hf
  refine lv_aload_n hx hb dX2_copyFrom_0 rfl (lv_at hl 0 rfl) ?_
  refine lv_aload_n hx hb dX2_copyFrom_1 rfl (lv_at hl 1 rfl) ?_
  refine va_get (D := D) (ci := 2) (v := .int (i1 4)) (C := RX2) (T := TX2) (N := 6) hx hb hts hiX2 hown hK hP 5 rfl rfl 4 (by decide) (hts _ flX2_24) (fun _ h9 => h9) rfl dX2_copyFrom_2 ?_
  obtain ⟨q3, hq3, hf⟩ := bd_s hf
  refine k_pVv (wr := W2 cs h1 a1 i1 r1) (ws2 := W2 cs h0 a0 q3 r0 ++ W2 cs h1 a1 i1 r1) (As := [.int (i1 4)]) (rest := []) hx hb hml hown hts hK hA hZ hl.1 hP hD hS (c_X2_clear (h0 := h0) (a0 := a0) hq3) (gVt mlX2_35 imX2_clear seX2_clear inX2 coX2_clear) rfl qnX2_clear rfl rfl ⟨Nat.le_of_ble_eq_true rfl, Nat.le_of_ble_eq_true rfl⟩ [0, 1, 2, 3, 4] [5, 6, 7, 8, 9] [5, 6, 7, 8, 9, 0, 1, 2, 3, 4] rfl rfl rfl (by decide) 0 2 rfl rfl rfl rfl rfl (Nat.le_of_ble_eq_true rfl) ⟨Nat.zero_le _, Nat.zero_le _⟩ dX2_copyFrom_5 (fun H locs hP hD hS => ?_)
  refine lv_aload_n hx hb dX2_copyFrom_8 rfl (lv_at hl 0 rfl) ?_
  refine lv_aload_n hx hb dX2_copyFrom_9 rfl (lv_at hl 1 rfl) ?_
  obtain ⟨q4, hq4, hf⟩ := bd_s hf
  refine k_sVv (ws2 := W2 cs h0 a0 q4.1 q4.2 ++ W2 cs h1 a1 i1 r1) (As := [.ref h1]) (rest := []) hx hb hml hown hts hK hA hZ hl.1 hP hD hS (c_X2_addAll (h0 := h0) (a0 := a0) (h1 := h1) (a1 := a1) hq4) (gVt mlX2_39 imX2_addAll seX2_addAll inX2 coX2_addAll) rfl qnX2_addAll rfl rfl ⟨Nat.le_of_ble_eq_true rfl, Nat.le_of_ble_eq_true rfl⟩ 0 2 rfl rfl rfl rfl rfl (Nat.le_of_ble_eq_true rfl) ⟨Nat.zero_le _, Nat.zero_le _⟩ dX2_copyFrom_10 (fun H locs hP hD hS => ?_)
  obtain rfl := Option.some.inj hf
  exact k_vret hx hb hr hlocks hK hP hD hS dX2_copyFrom_13
/-! MarbleFloor$Floor.addAllBack(LMarbleFloor$Floor;)V -/
abbrev wlX2_addAllBack : List Cond := Cond.code yX2_addAllBack cX2_addAllBack 3 none :: tbG
abbrev rmX2_addAllBack : Room := { frames := 1, cells := 0, slots := 0, locals := 24 }
theorem qnX2_addAllBack : yX2_addAllBack.cls = RX2 ∧ yX2_addAllBack.cls ≠ "java/lang/invoke/MethodHandle" ∧ yX2_addAllBack.cls ≠ "java/lang/invoke/VarHandle" ∧ (parseMethodDescriptor yX2_addAllBack.desc).map (fun d => d.parameters.length) = some 1 := by decide +kernel
def f_X2_addAllBack_7 (i1 : Nat → Int32) (r1 : Nat → Nat → Int32)  : Nat → (Nat → Int32) → (Nat → Nat → Int32) → Int32 → Option ((Nat → Int32) × (Nat → Nat → Int32))
  | 0, _, _, _ => none
  | n + 1, i0, r0, x2 => if x2 < 0 then (some (i0, r0)) else (ck (inb x2 40) (ck (inb x2 40) (ck (inb x2 40) (ck (inb x2 40) (bd (f_X2_addKind i0 r0 (r1 0 x2.toNatClampNeg) (r1 1 x2.toNatClampNeg) (r1 2 x2.toNatClampNeg) (r1 3 x2.toNatClampNeg)) (fun q2 => f_X2_addAllBack_7 i1 r1 n q2.1 q2.2 (x2 + (-1))))))))
set_option maxRecDepth 100000 in
set_option maxHeartbeats 4000000 in
theorem w_X2_addAllBack_7 {p : Program} {l : Launch} {e : Env} {s : State} {m : MethodId} {args : Array Value} {below : List Frame} {meth : Method} {c : Code} {A : Nat → Prop} {D : va_G} {cs zs : Nat → Nat} {h0 : Nat} {a0 : Nat → Nat} {h1 : Nat} {a1 : Nat → Nat} {i1 : Nat → Int32} {r1 : Nat → Nat → Int32} {q : (Nat → Int32) × (Nat → Nat → Int32)} (C : Cx p s m args meth c A D cs zs cX2_addAllBack 3 none RX2)  : ∀ (n : Nat), ∀ (i0 : Nat → Int32) (r0 : Nat → Nat → Int32) (x2 : Int32) (H : Heap) (locs : List Loc) (ls : Array Slot), f_X2_addAllBack_7 i1 r1 n i0 r0 x2 = some q → va_P D vwCl (W2 cs h0 a0 i0 r0 ++ W2 cs h1 a1 i1 r1) H → va_D A (W2 cs h0 a0 i0 r0 ++ W2 cs h1 a1 i1 r1) → va_S A s.heap H locs → lv_has ls 3 [(0, .ref h0), (1, .ref h1), (2, .int x2)] → W p l e rmX2_addAllBack s m args below meth c H locs 0 0 (MQ below (Qv D cs A (W2 cs h0 a0 q.1 q.2 ++ W2 cs h1 a1 i1 r1)) args s 0 0 A) (F0 m 7 ls []) := by
  obtain ⟨hx, hb, hr, hml, hown, hts, hK, hA, hlocks, hZ⟩ := id C
  intro n
  induction n with
  | zero =>
    intro i0 r0 x2 H locs ls hf
    rw [f_X2_addAllBack_7] at hf
    cases hf
  | succ n ih =>
    intro i0 r0 x2 H locs ls hf hP hD hS hl
    rw [f_X2_addAllBack_7] at hf
    refine lv_iload_n hx hb dX2_addAllBack_7 rfl (lv_at hl 2 rfl) ?_
    refine lv_if_lt (tgt := 45) hx hb dX2_addAllBack_8 (by decide) (fun hc => ?_) (fun hc => ?_)
    · have hf := ite_t hf hc
      obtain rfl := Option.some.inj hf
      exact k_vret hx hb hr hlocks hK hP hD hS dX2_addAllBack_45
    · have hf := ite_f hf hc
      refine lv_aload_n hx hb dX2_addAllBack_11 rfl (lv_at hl 0 rfl) ?_
      refine lv_aload_n hx hb dX2_addAllBack_12 rfl (lv_at hl 1 rfl) ?_
      refine va_get (D := D) (ci := 2) (v := .ref (a1 0)) (C := RX2) (T := TX2) (N := 6) hx hb hts hiX2 hown hK hP 5 rfl rfl 0 (by decide) (hts _ flX2_9) (fun _ h9 => h9) rfl dX2_addAllBack_13 ?_
      refine lv_iload_n hx hb dX2_addAllBack_16 rfl (lv_at hl 2 rfl) ?_
      refine va_iald (f := r1 0) hx hb hK hP 6 0 rfl rfl (ck_in hf) dX2_addAllBack_17 ?_
      have hf := ck_2 hf
      refine lv_aload_n hx hb dX2_addAllBack_18 rfl (lv_at hl 1 rfl) ?_
      refine va_get (D := D) (ci := 2) (v := .ref (a1 1)) (C := RX2) (T := TX2) (N := 6) hx hb hts hiX2 hown hK hP 5 rfl rfl 1 (by decide) (hts _ flX2_15) (fun _ h9 => h9) rfl dX2_addAllBack_19 ?_
      refine lv_iload_n hx hb dX2_addAllBack_22 rfl (lv_at hl 2 rfl) ?_
      refine va_iald (f := r1 1) hx hb hK hP 7 0 rfl rfl (ck_in hf) dX2_addAllBack_23 ?_
      have hf := ck_2 hf
      refine lv_aload_n hx hb dX2_addAllBack_24 rfl (lv_at hl 1 rfl) ?_
      refine va_get (D := D) (ci := 2) (v := .ref (a1 2)) (C := RX2) (T := TX2) (N := 6) hx hb hts hiX2 hown hK hP 5 rfl rfl 2 (by decide) (hts _ flX2_18) (fun _ h9 => h9) rfl dX2_addAllBack_25 ?_
      refine lv_iload_n hx hb dX2_addAllBack_28 rfl (lv_at hl 2 rfl) ?_
      refine va_iald (f := r1 2) hx hb hK hP 8 0 rfl rfl (ck_in hf) dX2_addAllBack_29 ?_
      have hf := ck_2 hf
      refine lv_aload_n hx hb dX2_addAllBack_30 rfl (lv_at hl 1 rfl) ?_
      refine va_get (D := D) (ci := 2) (v := .ref (a1 3)) (C := RX2) (T := TX2) (N := 6) hx hb hts hiX2 hown hK hP 5 rfl rfl 3 (by decide) (hts _ flX2_21) (fun _ h9 => h9) rfl dX2_addAllBack_31 ?_
      refine lv_iload_n hx hb dX2_addAllBack_34 rfl (lv_at hl 2 rfl) ?_
      refine va_iald (f := r1 3) hx hb hK hP 9 0 rfl rfl (ck_in hf) dX2_addAllBack_35 ?_
      have hf := ck_2 hf
      obtain ⟨q2, hq2, hf⟩ := bd_s hf
      refine k_pVv (wr := W2 cs h1 a1 i1 r1) (ws2 := W2 cs h0 a0 q2.1 q2.2 ++ W2 cs h1 a1 i1 r1) (As := [.int (r1 0 x2.toNatClampNeg), .int (r1 1 x2.toNatClampNeg), .int (r1 2 x2.toNatClampNeg), .int (r1 3 x2.toNatClampNeg)]) (rest := []) hx hb hml hown hts hK hA hZ hl.1 hP hD hS (c_X2_addKind (h0 := h0) (a0 := a0) hq2) (gVt mlX2_31 imX2_addKind seX2_addKind inX2 coX2_addKind) rfl qnX2_addKind rfl rfl ⟨Nat.le_of_ble_eq_true rfl, Nat.le_of_ble_eq_true rfl⟩ [0, 1, 2, 3, 4] [5, 6, 7, 8, 9] [5, 6, 7, 8, 9, 0, 1, 2, 3, 4] rfl rfl rfl (by decide) 0 2 rfl rfl rfl rfl rfl (Nat.le_of_ble_eq_true rfl) ⟨Nat.zero_le _, Nat.zero_le _⟩ dX2_addAllBack_36 (fun H locs hP hD hS => ?_)
      refine lv_iinc (v := x2 + (-1)) (lv' := [(2, .int (x2 + (-1))), (0, .ref h0), (1, .ref h1)]) hx hb dX2_addAllBack_39 hl (k := 2) rfl rfl (by decide) rfl (fun ls hl => ?_)
      refine lv_goto (tgt := 7) hx hb dX2_addAllBack_42 (by decide) ?_
      exact ih _ _ _ _ _ _ hf hP hD hS (lv_sub hl [1, 2, 0] rfl)
def f_X2_addAllBack  (i0 : Nat → Int32) (r0 : Nat → Nat → Int32) (i1 : Nat → Int32) (r1 : Nat → Nat → Int32)  : Option ((Nat → Int32) × (Nat → Nat → Int32)) := f_X2_addAllBack_7 i1 r1 2000000 i0 r0 ((i1 5) - 1)
set_option maxRecDepth 100000 in
set_option maxHeartbeats 4000000 in
theorem c_X2_addAllBack {l : Launch} {D : va_G} {cs zs : Nat → Nat} {h0 : Nat} {a0 : Nat → Nat} {h1 : Nat} {a1 : Nat → Nat} {i0 : Nat → Int32} {r0 : Nat → Nat → Int32} {i1 : Nat → Int32} {r1 : Nat → Nat → Int32}  {q : (Nat → Int32) × (Nat → Nat → Int32)} (hf : f_X2_addAllBack i0 r0 i1 r1 = some q) : Mv l yX2_addAllBack wlX2_addAllBack rmX2_addAllBack D cs zs [.ref h0, .ref h1] (W2 cs h0 a0 i0 r0 ++ W2 cs h1 a1 i1 r1) (W2 cs h0 a0 q.1 q.2 ++ W2 cs h1 a1 i1 r1) := by
  refine Mv.of RX2 (by decide) rfl (Nat.le_of_ble_eq_true rfl) (fun p e s m below meth c A C hP hD hS ls hl => ?_)
  generalize ([.ref h0, .ref h1] : List Value).toArray = args at C ⊢
  obtain ⟨hx, hb, hr, hml, hown, hts, hK, hA, hlocks, hZ⟩ := id C
  have hl : lv_has ls 3 [(0, .ref h0), (1, .ref h1)] := hl
  rw [f_X2_addAllBack] at hf
  refine lv_aload_n hx hb dX2_addAllBack_0 rfl (lv_at hl 1 rfl) ?_
  refine va_get (D := D) (ci := 2) (v := .int (i1 5)) (C := RX2) (T := TX2) (N := 6) hx hb hts hiX2 hown hK hP 5 rfl rfl 5 (by decide) (hts _ flX2_28) (fun _ h9 => h9) rfl dX2_addAllBack_1 ?_
  refine lv_iconst (v := 1) hx hb dX2_addAllBack_4 (by decide) ?_
  refine lv_isub hx hb dX2_addAllBack_5 ?_
  refine lv_istore_n (lv' := [(2, .int ((i1 5) - 1)), (0, .ref h0), (1, .ref h1)]) hx hb dX2_addAllBack_6 rfl hl (by decide) rfl (fun ls hl => ?_)
  exact w_X2_addAllBack_7 C  2000000 _ _ _ _ _ _ hf hP hD hS (lv_sub hl [1, 2, 0] rfl)
/-! MarbleFloor$Floor.layRolled(LMarbleFloor$Floor;I)V -/
abbrev wlX2_layRolled : List Cond := Cond.code yX2_layRolled cX2_layRolled 5 none :: tbG
abbrev rmX2_layRolled : Room := { frames := 2, cells := 0, slots := 0, locals := 46 }
theorem qnX2_layRolled : yX2_layRolled.cls = RX2 ∧ yX2_layRolled.cls ≠ "java/lang/invoke/MethodHandle" ∧ yX2_layRolled.cls ≠ "java/lang/invoke/VarHandle" ∧ (parseMethodDescriptor yX2_layRolled.desc).map (fun d => d.parameters.length) = some 2 := by decide +kernel
def f_X2_layRolled_56 (i1 : Nat → Int32) (r1 : Nat → Nat → Int32) (K26 : (Nat → Int32) → (Nat → Nat → Int32) → Int32 → Int32 → Int32 → Option ((Nat → Int32) × (Nat → Nat → Int32))) (i0 : Nat → Int32) (r0 : Nat → Nat → Int32) (x2 : Int32) (x3 : Int32) (x4 : Int32) : Option ((Nat → Int32) × (Nat → Nat → Int32)) := K26 i0 r0 x2 x3 (x4 + 1)
set_option maxRecDepth 100000 in
set_option maxHeartbeats 4000000 in
theorem w_X2_layRolled_56 {p : Program} {l : Launch} {e : Env} {s : State} {m : MethodId} {args : Array Value} {below : List Frame} {meth : Method} {c : Code} {A : Nat → Prop} {D : va_G} {cs zs : Nat → Nat} {h0 : Nat} {a0 : Nat → Nat} {h1 : Nat} {a1 : Nat → Nat} {i1 : Nat → Int32} {r1 : Nat → Nat → Int32} {q : (Nat → Int32) × (Nat → Nat → Int32)} (C : Cx p s m args meth c A D cs zs cX2_layRolled 5 none RX2) (K26 : (Nat → Int32) → (Nat → Nat → Int32) → Int32 → Int32 → Int32 → Option ((Nat → Int32) × (Nat → Nat → Int32))) (hK26 : ∀ (i0 : Nat → Int32) (r0 : Nat → Nat → Int32) (x2 : Int32) (x3 : Int32) (x4 : Int32) (H : Heap) (locs : List Loc) (ls : Array Slot), K26 i0 r0 x2 x3 x4 = some q → va_P D vwCl (W2 cs h0 a0 i0 r0 ++ W2 cs h1 a1 i1 r1) H → va_D A (W2 cs h0 a0 i0 r0 ++ W2 cs h1 a1 i1 r1) → va_S A s.heap H locs → lv_has ls 5 [(0, .ref h0), (1, .ref h1), (2, .int x2), (3, .int x3), (4, .int x4)] → W p l e rmX2_layRolled s m args below meth c H locs 0 0 (MQ below (Qv D cs A (W2 cs h0 a0 q.1 q.2 ++ W2 cs h1 a1 i1 r1)) args s 0 0 A) (F0 m 26 ls [])) : ∀ (i0 : Nat → Int32) (r0 : Nat → Nat → Int32) (x2 : Int32) (x3 : Int32) (x4 : Int32) (H : Heap) (locs : List Loc) (ls : Array Slot), f_X2_layRolled_56 i1 r1 K26 i0 r0 x2 x3 x4 = some q → va_P D vwCl (W2 cs h0 a0 i0 r0 ++ W2 cs h1 a1 i1 r1) H → va_D A (W2 cs h0 a0 i0 r0 ++ W2 cs h1 a1 i1 r1) → va_S A s.heap H locs → lv_has ls 5 [(0, .ref h0), (1, .ref h1), (2, .int x2), (3, .int x3), (4, .int x4)] → W p l e rmX2_layRolled s m args below meth c H locs 0 0 (MQ below (Qv D cs A (W2 cs h0 a0 q.1 q.2 ++ W2 cs h1 a1 i1 r1)) args s 0 0 A) (F0 m 56 ls []) := by
  obtain ⟨hx, hb, hr, hml, hown, hts, hK, hA, hlocks, hZ⟩ := id C
  intro i0 r0 x2 x3 x4 H locs ls hf hP hD hS hl
  rw [f_X2_layRolled_56] at hf
  refine lv_iinc (v := x4 + 1) (lv' := [(4, .int (x4 + 1)), (0, .ref h0), (1, .ref h1), (2, .int x2), (3, .int x3)]) hx hb dX2_layRolled_56 hl (k := 4) rfl rfl (by decide) rfl (fun ls hl => ?_)
  refine lv_goto (tgt := 26) hx hb dX2_layRolled_59 (by decide) ?_
  exact hK26 _ _ _ _ _ _ _ _ hf hP hD hS (lv_sub hl [1, 2, 3, 4, 0] rfl)
def f_X2_layRolled_26 (i1 : Nat → Int32) (r1 : Nat → Nat → Int32)  : Nat → (Nat → Int32) → (Nat → Nat → Int32) → Int32 → Int32 → Int32 → Option ((Nat → Int32) × (Nat → Nat → Int32))
  | 0, _, _, _, _, _ => none
  | n + 1, i0, r0, x2, x3, x4 => if (i1 4) ≤ x4 then (bd (f_X2_addAllBack i0 r0 i1 r1) (fun q6 => some (q6.1, q6.2))) else (if ((x2 >>> (x4 &&& 31)) &&& 1) = 0 then (f_X2_layRolled_56 i1 r1 (f_X2_layRolled_26 i1 r1 n) i0 r0 x2 x3 x4) else (bd (f_X2_addTurn i0 r0 x3 ((1 : Int32) <<< (x4 &&& 31))) (fun q7 => f_X2_layRolled_56 i1 r1 (f_X2_layRolled_26 i1 r1 n) q7.1 q7.2 x2 (x3 + 1) x4)))
set_option maxRecDepth 100000 in
set_option maxHeartbeats 4000000 in
theorem w_X2_layRolled_26 {p : Program} {l : Launch} {e : Env} {s : State} {m : MethodId} {args : Array Value} {below : List Frame} {meth : Method} {c : Code} {A : Nat → Prop} {D : va_G} {cs zs : Nat → Nat} {h0 : Nat} {a0 : Nat → Nat} {h1 : Nat} {a1 : Nat → Nat} {i1 : Nat → Int32} {r1 : Nat → Nat → Int32} {q : (Nat → Int32) × (Nat → Nat → Int32)} (C : Cx p s m args meth c A D cs zs cX2_layRolled 5 none RX2)  : ∀ (n : Nat), ∀ (i0 : Nat → Int32) (r0 : Nat → Nat → Int32) (x2 : Int32) (x3 : Int32) (x4 : Int32) (H : Heap) (locs : List Loc) (ls : Array Slot), f_X2_layRolled_26 i1 r1 n i0 r0 x2 x3 x4 = some q → va_P D vwCl (W2 cs h0 a0 i0 r0 ++ W2 cs h1 a1 i1 r1) H → va_D A (W2 cs h0 a0 i0 r0 ++ W2 cs h1 a1 i1 r1) → va_S A s.heap H locs → lv_has ls 5 [(0, .ref h0), (1, .ref h1), (2, .int x2), (3, .int x3), (4, .int x4)] → W p l e rmX2_layRolled s m args below meth c H locs 0 0 (MQ below (Qv D cs A (W2 cs h0 a0 q.1 q.2 ++ W2 cs h1 a1 i1 r1)) args s 0 0 A) (F0 m 26 ls []) := by
  obtain ⟨hx, hb, hr, hml, hown, hts, hK, hA, hlocks, hZ⟩ := id C
  intro n
  induction n with
  | zero =>
    intro i0 r0 x2 x3 x4 H locs ls hf
    rw [f_X2_layRolled_26] at hf
    cases hf
  | succ n ih =>
    intro i0 r0 x2 x3 x4 H locs ls hf hP hD hS hl
    rw [f_X2_layRolled_26] at hf
    refine lv_iload hx hb dX2_layRolled_26 (lv_at hl 4 rfl) ?_
    refine lv_aload_n hx hb dX2_layRolled_28 rfl (lv_at hl 1 rfl) ?_
    refine va_get (D := D) (ci := 2) (v := .int (i1 4)) (C := RX2) (T := TX2) (N := 6) hx hb hts hiX2 hown hK hP 5 rfl rfl 4 (by decide) (hts _ flX2_24) (fun _ h9 => h9) rfl dX2_layRolled_29 ?_
    refine lv_icmp_ge (tgt := 62) hx hb dX2_layRolled_32 (by decide) (fun hc => ?_) (fun hc => ?_)
    · have hf := ite_t hf hc
      refine lv_aload_n hx hb dX2_layRolled_62 rfl (lv_at hl 0 rfl) ?_
      refine lv_aload_n hx hb dX2_layRolled_63 rfl (lv_at hl 1 rfl) ?_
      obtain ⟨q6, hq6, hf⟩ := bd_s hf
      refine k_sVv (ws2 := W2 cs h0 a0 q6.1 q6.2 ++ W2 cs h1 a1 i1 r1) (As := [.ref h1]) (rest := []) hx hb hml hown hts hK hA hZ hl.1 hP hD hS (c_X2_addAllBack (h0 := h0) (a0 := a0) (h1 := h1) (a1 := a1) hq6) (gVt mlX2_53 imX2_addAllBack seX2_addAllBack inX2 coX2_addAllBack) rfl qnX2_addAllBack rfl rfl ⟨Nat.le_of_ble_eq_true rfl, Nat.le_of_ble_eq_true rfl⟩ 0 2 rfl rfl rfl rfl rfl (Nat.le_of_ble_eq_true rfl) ⟨Nat.zero_le _, Nat.zero_le _⟩ dX2_layRolled_64 (fun H locs hP hD hS => ?_)
      obtain rfl := Option.some.inj hf
      exact k_vret hx hb hr hlocks hK hP hD hS dX2_layRolled_67
    · have hf := ite_f hf hc
      refine lv_iload_n hx hb dX2_layRolled_35 rfl (lv_at hl 2 rfl) ?_
      refine lv_iload hx hb dX2_layRolled_36 (lv_at hl 4 rfl) ?_
      refine lv_ishr hx hb dX2_layRolled_38 ?_
      refine lv_iconst (v := 1) hx hb dX2_layRolled_39 (by decide) ?_
      refine lv_iand hx hb dX2_layRolled_40 ?_
      refine lv_if_eq (tgt := 56) hx hb dX2_layRolled_41 (by decide) (fun hc => ?_) (fun hc => ?_)
      · have hf := ite_t hf hc
        exact w_X2_layRolled_56 C _ (ih) _ _ _ _ _ _ _ _ hf hP hD hS (lv_sub hl [0, 1, 2, 3, 4] rfl)
      · have hf := ite_f hf hc
        refine lv_aload_n hx hb dX2_layRolled_44 rfl (lv_at hl 0 rfl) ?_
        refine lv_iload_n hx hb dX2_layRolled_45 rfl (lv_at hl 3 rfl) ?_
        refine lv_iconst (v := 1) hx hb dX2_layRolled_46 (by decide) ?_
        refine lv_iload hx hb dX2_layRolled_47 (lv_at hl 4 rfl) ?_
        refine lv_ishl hx hb dX2_layRolled_49 ?_
        obtain ⟨q7, hq7, hf⟩ := bd_s hf
        refine k_pVv (wr := W2 cs h1 a1 i1 r1) (ws2 := W2 cs h0 a0 q7.1 q7.2 ++ W2 cs h1 a1 i1 r1) (As := [.int x3, .int ((1 : Int32) <<< (x4 &&& 31))]) (rest := []) hx hb hml hown hts hK hA hZ hl.1 hP hD hS (c_X2_addTurn (h0 := h0) (a0 := a0) hq7) (gVt mlX2_49 imX2_addTurn seX2_addTurn inX2 coX2_addTurn) rfl qnX2_addTurn rfl rfl ⟨Nat.le_of_ble_eq_true rfl, Nat.le_of_ble_eq_true rfl⟩ [0, 1, 2, 3, 4] [5, 6, 7, 8, 9] [5, 6, 7, 8, 9, 0, 1, 2, 3, 4] rfl rfl rfl (by decide) 0 2 rfl rfl rfl rfl rfl (Nat.le_of_ble_eq_true rfl) ⟨Nat.zero_le _, Nat.zero_le _⟩ dX2_layRolled_50 (fun H locs hP hD hS => ?_)
        refine lv_iinc (v := x3 + 1) (lv' := [(3, .int (x3 + 1)), (0, .ref h0), (1, .ref h1), (2, .int x2), (4, .int x4)]) hx hb dX2_layRolled_53 hl (k := 3) rfl rfl (by decide) rfl (fun ls hl => ?_)
        exact w_X2_layRolled_56 C _ (ih) _ _ _ _ _ _ _ _ hf hP hD hS (lv_sub hl [1, 2, 3, 0, 4] rfl)
def f_X2_layRolled  (i0 : Nat → Int32) (r0 : Nat → Nat → Int32) (i1 : Nat → Int32) (r1 : Nat → Nat → Int32) (x2 : Int32) : Option ((Nat → Int32) × (Nat → Nat → Int32)) := bd (f_J6_bitCount_0f7a4 x2) (fun q8 => bd (f_X2_clear i0 r0 ((i1 4) + q8)) (fun q9 => bd (f_X2_addAll q9 r0 i1 r1) (fun q10 => f_X2_layRolled_26 i1 r1 2000000 q10.1 q10.2 x2 (i1 4) 0)))
set_option maxRecDepth 100000 in
set_option maxHeartbeats 4000000 in
theorem c_X2_layRolled {l : Launch} {D : va_G} {cs zs : Nat → Nat} {h0 : Nat} {a0 : Nat → Nat} {h1 : Nat} {a1 : Nat → Nat} {i0 : Nat → Int32} {r0 : Nat → Nat → Int32} {i1 : Nat → Int32} {r1 : Nat → Nat → Int32} {x2 : Int32} {q : (Nat → Int32) × (Nat → Nat → Int32)} (hf : f_X2_layRolled i0 r0 i1 r1 x2 = some q) : Mv l yX2_layRolled wlX2_layRolled rmX2_layRolled D cs zs [.ref h0, .ref h1, .int x2] (W2 cs h0 a0 i0 r0 ++ W2 cs h1 a1 i1 r1) (W2 cs h0 a0 q.1 q.2 ++ W2 cs h1 a1 i1 r1) := by
  refine Mv.of RX2 (by decide) rfl (Nat.le_of_ble_eq_true rfl) (fun p e s m below meth c A C hP hD hS ls hl => ?_)
  generalize ([.ref h0, .ref h1, .int x2] : List Value).toArray = args at C ⊢
  obtain ⟨hx, hb, hr, hml, hown, hts, hK, hA, hlocks, hZ⟩ := id C
  have hl : lv_has ls 5 [(0, .ref h0), (1, .ref h1), (2, .int x2)] := hl
  rw [f_X2_layRolled] at hf
  refine lv_aload_n hx hb dX2_layRolled_0 rfl (lv_at hl 0 rfl) ?_
  refine lv_aload_n hx hb dX2_layRolled_1 rfl (lv_at hl 1 rfl) ?_
  refine va_get (D := D) (ci := 2) (v := .int (i1 4)) (C := RX2) (T := TX2) (N := 6) hx hb hts hiX2 hown hK hP 5 rfl rfl 4 (by decide) (hts _ flX2_24) (fun _ h9 => h9) rfl dX2_layRolled_2 ?_
  refine lv_iload_n hx hb dX2_layRolled_5 rfl (lv_at hl 2 rfl) ?_
  obtain ⟨q8, hq8, hf⟩ := bd_s hf
  refine k_eSi (As := [.int x2]) (rest := [.int (i1 4), .ref h0]) hx hb hml hown hts hK hA hZ hl.1 hP hD hS (c_J6_bitCount_0f7a4  hq8) (gSt mlX2_43 stJ6_bitCount_0f7a4 inJ6 coJ6_bitCount_0f7a4) rfl qnJ6_bitCount_0f7a4 rfl rfl ⟨Nat.le_of_ble_eq_true rfl, Nat.le_of_ble_eq_true rfl⟩ rfl rfl (Nat.le_of_ble_eq_true rfl) ⟨Nat.zero_le _, Nat.zero_le _⟩ dX2_layRolled_6 (fun H locs hP hD hS => ?_)
  refine lv_iadd hx hb dX2_layRolled_9 ?_
  obtain ⟨q9, hq9, hf⟩ := bd_s hf
  refine k_pVv (wr := W2 cs h1 a1 i1 r1) (ws2 := W2 cs h0 a0 q9 r0 ++ W2 cs h1 a1 i1 r1) (As := [.int ((i1 4) + q8)]) (rest := []) hx hb hml hown hts hK hA hZ hl.1 hP hD hS (c_X2_clear (h0 := h0) (a0 := a0) hq9) (gVt mlX2_35 imX2_clear seX2_clear inX2 coX2_clear) rfl qnX2_clear rfl rfl ⟨Nat.le_of_ble_eq_true rfl, Nat.le_of_ble_eq_true rfl⟩ [0, 1, 2, 3, 4] [5, 6, 7, 8, 9] [5, 6, 7, 8, 9, 0, 1, 2, 3, 4] rfl rfl rfl (by decide) 0 2 rfl rfl rfl rfl rfl (Nat.le_of_ble_eq_true rfl) ⟨Nat.zero_le _, Nat.zero_le _⟩ dX2_layRolled_10 (fun H locs hP hD hS => ?_)
  refine lv_aload_n hx hb dX2_layRolled_13 rfl (lv_at hl 0 rfl) ?_
  refine lv_aload_n hx hb dX2_layRolled_14 rfl (lv_at hl 1 rfl) ?_
  obtain ⟨q10, hq10, hf⟩ := bd_s hf
  refine k_sVv (ws2 := W2 cs h0 a0 q10.1 q10.2 ++ W2 cs h1 a1 i1 r1) (As := [.ref h1]) (rest := []) hx hb hml hown hts hK hA hZ hl.1 hP hD hS (c_X2_addAll (h0 := h0) (a0 := a0) (h1 := h1) (a1 := a1) hq10) (gVt mlX2_39 imX2_addAll seX2_addAll inX2 coX2_addAll) rfl qnX2_addAll rfl rfl ⟨Nat.le_of_ble_eq_true rfl, Nat.le_of_ble_eq_true rfl⟩ 0 2 rfl rfl rfl rfl rfl (Nat.le_of_ble_eq_true rfl) ⟨Nat.zero_le _, Nat.zero_le _⟩ dX2_layRolled_15 (fun H locs hP hD hS => ?_)
  refine lv_aload_n hx hb dX2_layRolled_18 rfl (lv_at hl 1 rfl) ?_
  refine va_get (D := D) (ci := 2) (v := .int (i1 4)) (C := RX2) (T := TX2) (N := 6) hx hb hts hiX2 hown hK hP 5 rfl rfl 4 (by decide) (hts _ flX2_24) (fun _ h9 => h9) rfl dX2_layRolled_19 ?_
  refine lv_istore_n (lv' := [(3, .int (i1 4)), (0, .ref h0), (1, .ref h1), (2, .int x2)]) hx hb dX2_layRolled_22 rfl hl (by decide) rfl (fun ls hl => ?_)
  refine lv_iconst (v := 0) hx hb dX2_layRolled_23 (by decide) ?_
  refine lv_istore (lv' := [(4, .int 0), (3, .int (i1 4)), (0, .ref h0), (1, .ref h1), (2, .int x2)]) hx hb dX2_layRolled_24 hl (by decide) rfl (fun ls hl => ?_)
  exact w_X2_layRolled_26 C  2000000 _ _ _ _ _ _ _ _ hf hP hD hS (lv_sub hl [2, 3, 4, 1, 0] rfl)
/-! MarbleFloor$Floor.layChained(LMarbleFloor$Floor;LMarbleFloor$Floor;)V -/
abbrev wlX2_layChained : List Cond := Cond.code yX2_layChained cX2_layChained 3 none :: tbG
abbrev rmX2_layChained : Room := { frames := 2, cells := 0, slots := 0, locals := 46 }
theorem qnX2_layChained : yX2_layChained.cls = RX2 ∧ yX2_layChained.cls ≠ "java/lang/invoke/MethodHandle" ∧ yX2_layChained.cls ≠ "java/lang/invoke/VarHandle" ∧ (parseMethodDescriptor yX2_layChained.desc).map (fun d => d.parameters.length) = some 2 := by decide +kernel
def f_X2_layChained  (i0 : Nat → Int32) (r0 : Nat → Nat → Int32) (i1 : Nat → Int32) (r1 : Nat → Nat → Int32) (i2 : Nat → Int32) (r2 : Nat → Nat → Int32)  : Option ((Nat → Int32) × (Nat → Nat → Int32)) := bd (f_X2_clear i0 r0 (if (i1 4) < (i2 4) then (i2 4) else (i1 4))) (fun q4 => bd (f_X2_addAll q4 r0 i1 r1) (fun q5 => bd (f_X2_addAll q5.1 q5.2 i2 r2) (fun q6 => some (q6.1, q6.2))))
set_option maxRecDepth 100000 in
set_option maxHeartbeats 4000000 in
theorem c_X2_layChained {l : Launch} {D : va_G} {cs zs : Nat → Nat} {h0 : Nat} {a0 : Nat → Nat} {h1 : Nat} {a1 : Nat → Nat} {h2 : Nat} {a2 : Nat → Nat} {i0 : Nat → Int32} {r0 : Nat → Nat → Int32} {i1 : Nat → Int32} {r1 : Nat → Nat → Int32} {i2 : Nat → Int32} {r2 : Nat → Nat → Int32}  {q : (Nat → Int32) × (Nat → Nat → Int32)} (hf : f_X2_layChained i0 r0 i1 r1 i2 r2 = some q) : Mv l yX2_layChained wlX2_layChained rmX2_layChained D cs zs [.ref h0, .ref h1, .ref h2] (W2 cs h0 a0 i0 r0 ++ (W2 cs h1 a1 i1 r1 ++ W2 cs h2 a2 i2 r2)) (W2 cs h0 a0 q.1 q.2 ++ (W2 cs h1 a1 i1 r1 ++ W2 cs h2 a2 i2 r2)) := by
  refine Mv.of RX2 (by decide) rfl (Nat.le_of_ble_eq_true rfl) (fun p e s m below meth c A C hP hD hS ls hl => ?_)
  generalize ([.ref h0, .ref h1, .ref h2] : List Value).toArray = args at C ⊢
  obtain ⟨hx, hb, hr, hml, hown, hts, hK, hA, hlocks, hZ⟩ := id C
  have hl : lv_has ls 3 [(0, .ref h0), (1, .ref h1), (2, .ref h2)] := hl
  rw [f_X2_layChained] at hf
  refine lv_aload_n hx hb dX2_layChained_0 rfl (lv_at hl 0 rfl) ?_
  refine lv_aload_n hx hb dX2_layChained_1 rfl (lv_at hl 1 rfl) ?_
  refine va_get (D := D) (ci := 2) (v := .int (i1 4)) (C := RX2) (T := TX2) (N := 6) hx hb hts hiX2 hown hK hP 5 rfl rfl 4 (by decide) (hts _ flX2_24) (fun _ h9 => h9) rfl dX2_layChained_2 ?_
  refine lv_aload_n hx hb dX2_layChained_5 rfl (lv_at hl 2 rfl) ?_
  refine va_get (D := D) (ci := 2) (v := .int (i2 4)) (C := RX2) (T := TX2) (N := 6) hx hb hts hiX2 hown hK hP 10 rfl rfl 4 (by decide) (hts _ flX2_24) (fun _ h9 => h9) rfl dX2_layChained_6 ?_
  refine va_mmax hx hb (hml.trans hl.1.symm) hown (hts _ mlX2_56) (hts _ stJ9_max_7cf53) (hts _ ini_Math) (hts _ coJ9_max_7cf53) (Nat.le_of_ble_eq_true rfl) (Nat.le_of_ble_eq_true rfl) (Nat.zero_le _) (Nat.zero_le _) dX2_layChained_9 ?_
  obtain ⟨q4, hq4, hf⟩ := bd_s hf
  refine k_pVv (wr := W2 cs h1 a1 i1 r1 ++ W2 cs h2 a2 i2 r2) (ws2 := W2 cs h0 a0 q4 r0 ++ (W2 cs h1 a1 i1 r1 ++ W2 cs h2 a2 i2 r2)) (As := [.int (if (i1 4) < (i2 4) then (i2 4) else (i1 4))]) (rest := []) hx hb hml hown hts hK hA hZ hl.1 hP hD hS (c_X2_clear (h0 := h0) (a0 := a0) hq4) (gVt mlX2_35 imX2_clear seX2_clear inX2 coX2_clear) rfl qnX2_clear rfl rfl ⟨Nat.le_of_ble_eq_true rfl, Nat.le_of_ble_eq_true rfl⟩ [0, 1, 2, 3, 4] [5, 6, 7, 8, 9, 10, 11, 12, 13, 14] [10, 11, 12, 13, 14, 0, 1, 2, 3, 4, 5, 6, 7, 8, 9] rfl rfl rfl (by decide) 0 2 rfl rfl rfl rfl rfl (Nat.le_of_ble_eq_true rfl) ⟨Nat.zero_le _, Nat.zero_le _⟩ dX2_layChained_12 (fun H locs hP hD hS => ?_)
  refine lv_aload_n hx hb dX2_layChained_15 rfl (lv_at hl 0 rfl) ?_
  refine lv_aload_n hx hb dX2_layChained_16 rfl (lv_at hl 1 rfl) ?_
  obtain ⟨q5, hq5, hf⟩ := bd_s hf
  refine k_pVv (wr := W2 cs h2 a2 i2 r2) (ws2 := W2 cs h0 a0 q5.1 q5.2 ++ (W2 cs h1 a1 i1 r1 ++ W2 cs h2 a2 i2 r2)) (As := [.ref h1]) (rest := []) hx hb hml hown hts hK hA hZ hl.1 hP hD hS (c_X2_addAll (h0 := h0) (a0 := a0) (h1 := h1) (a1 := a1) hq5) (gVt mlX2_39 imX2_addAll seX2_addAll inX2 coX2_addAll) rfl qnX2_addAll rfl rfl ⟨Nat.le_of_ble_eq_true rfl, Nat.le_of_ble_eq_true rfl⟩ [0, 1, 2, 3, 4, 5, 6, 7, 8, 9] [10, 11, 12, 13, 14] [5, 6, 7, 8, 9, 10, 11, 12, 13, 14, 0, 1, 2, 3, 4] rfl rfl rfl (by decide) 0 2 rfl rfl rfl rfl rfl (Nat.le_of_ble_eq_true rfl) ⟨Nat.zero_le _, Nat.zero_le _⟩ dX2_layChained_17 (fun H locs hP hD hS => ?_)
  refine lv_aload_n hx hb dX2_layChained_20 rfl (lv_at hl 0 rfl) ?_
  refine lv_aload_n hx hb dX2_layChained_21 rfl (lv_at hl 2 rfl) ?_
  obtain ⟨q6, hq6, hf⟩ := bd_s hf
  refine k_pVv (wr := W2 cs h1 a1 i1 r1) (ws2 := W2 cs h0 a0 q6.1 q6.2 ++ (W2 cs h1 a1 i1 r1 ++ W2 cs h2 a2 i2 r2)) (As := [.ref h2]) (rest := []) hx hb hml hown hts hK hA hZ hl.1 hP hD hS (c_X2_addAll (h0 := h0) (a0 := a0) (h1 := h2) (a1 := a2) hq6) (gVt mlX2_39 imX2_addAll seX2_addAll inX2 coX2_addAll) rfl qnX2_addAll rfl rfl ⟨Nat.le_of_ble_eq_true rfl, Nat.le_of_ble_eq_true rfl⟩ [0, 1, 2, 3, 4, 10, 11, 12, 13, 14] [5, 6, 7, 8, 9] [5, 6, 7, 8, 9, 0, 1, 2, 3, 4, 10, 11, 12, 13, 14] rfl rfl rfl (by decide) 0 2 rfl rfl rfl rfl rfl (Nat.le_of_ble_eq_true rfl) ⟨Nat.zero_le _, Nat.zero_le _⟩ dX2_layChained_22 (fun H locs hP hD hS => ?_)
  obtain rfl := Option.some.inj hf
  exact k_vret hx hb hr hlocks hK hP hD hS dX2_layChained_25
/-! MarbleFloor$Floor.lanes()I -/
abbrev wlX2_lanes : List Cond := Cond.code yX2_lanes cX2_lanes 1 (some .int) :: tbG
abbrev rmX2_lanes : Room := { frames := 0, cells := 0, slots := 0, locals := 0 }
theorem qnX2_lanes : yX2_lanes.cls = RX2 ∧ yX2_lanes.cls ≠ "java/lang/invoke/MethodHandle" ∧ yX2_lanes.cls ≠ "java/lang/invoke/VarHandle" ∧ (parseMethodDescriptor yX2_lanes.desc).map (fun d => d.parameters.length) = some 0 := by decide +kernel
def f_X2_lanes  (i0 : Nat → Int32) (r0 : Nat → Nat → Int32)  : Option (Int32) := some (i0 4)
set_option maxRecDepth 100000 in
set_option maxHeartbeats 4000000 in
theorem c_X2_lanes {l : Launch} {D : va_G} {cs zs : Nat → Nat} {h0 : Nat} {a0 : Nat → Nat} {i0 : Nat → Int32} {r0 : Nat → Nat → Int32}  {q : Int32} (hf : f_X2_lanes i0 r0 = some q) : Mi l yX2_lanes wlX2_lanes rmX2_lanes D cs zs [.ref h0] (W2 cs h0 a0 i0 r0) q (W2 cs h0 a0 i0 r0) := by
  refine Mi.of RX2 (by decide) rfl (Nat.le_of_ble_eq_true rfl) (fun p e s m below meth c A C hP hD hS ls hl => ?_)
  generalize ([.ref h0] : List Value).toArray = args at C ⊢
  obtain ⟨hx, hb, hr, hml, hown, hts, hK, hA, hlocks, hZ⟩ := id C
  have hl : lv_has ls 1 [(0, .ref h0)] := hl
  rw [f_X2_lanes] at hf
  refine lv_aload_n hx hb dX2_lanes_0 rfl (lv_at hl 0 rfl) ?_
  refine va_get (D := D) (ci := 2) (v := .int (i0 4)) (C := RX2) (T := TX2) (N := 6) hx hb hts hiX2 hown hK hP 0 rfl rfl 4 (by decide) (hts _ flX2_24) (fun _ h9 => h9) rfl dX2_lanes_1 ?_
  obtain rfl := Option.some.inj hf
  exact k_iret hx hb hr hlocks hK hP hD hS dX2_lanes_4
/-! MarbleFloor$Floor.steps()I -/
abbrev wlX2_steps : List Cond := Cond.code yX2_steps cX2_steps 1 (some .int) :: tbG
abbrev rmX2_steps : Room := { frames := 0, cells := 0, slots := 0, locals := 0 }
theorem qnX2_steps : yX2_steps.cls = RX2 ∧ yX2_steps.cls ≠ "java/lang/invoke/MethodHandle" ∧ yX2_steps.cls ≠ "java/lang/invoke/VarHandle" ∧ (parseMethodDescriptor yX2_steps.desc).map (fun d => d.parameters.length) = some 0 := by decide +kernel
def f_X2_steps  (i0 : Nat → Int32) (r0 : Nat → Nat → Int32)  : Option (Int32) := some (i0 5)
set_option maxRecDepth 100000 in
set_option maxHeartbeats 4000000 in
theorem c_X2_steps {l : Launch} {D : va_G} {cs zs : Nat → Nat} {h0 : Nat} {a0 : Nat → Nat} {i0 : Nat → Int32} {r0 : Nat → Nat → Int32}  {q : Int32} (hf : f_X2_steps i0 r0 = some q) : Mi l yX2_steps wlX2_steps rmX2_steps D cs zs [.ref h0] (W2 cs h0 a0 i0 r0) q (W2 cs h0 a0 i0 r0) := by
  refine Mi.of RX2 (by decide) rfl (Nat.le_of_ble_eq_true rfl) (fun p e s m below meth c A C hP hD hS ls hl => ?_)
  generalize ([.ref h0] : List Value).toArray = args at C ⊢
  obtain ⟨hx, hb, hr, hml, hown, hts, hK, hA, hlocks, hZ⟩ := id C
  have hl : lv_has ls 1 [(0, .ref h0)] := hl
  rw [f_X2_steps] at hf
  refine lv_aload_n hx hb dX2_steps_0 rfl (lv_at hl 0 rfl) ?_
  refine va_get (D := D) (ci := 2) (v := .int (i0 5)) (C := RX2) (T := TX2) (N := 6) hx hb hts hiX2 hown hK hP 0 rfl rfl 5 (by decide) (hts _ flX2_28) (fun _ h9 => h9) rfl dX2_steps_1 ?_
  obtain rfl := Option.some.inj hf
  exact k_iret hx hb hr hlocks hK hP hD hS dX2_steps_4
/-! MarbleFloor$Floor.rows()I -/
abbrev wlX2_rows : List Cond := Cond.code yX2_rows cX2_rows 1 (some .int) :: tbG
abbrev rmX2_rows : Room := { frames := 0, cells := 0, slots := 0, locals := 0 }
theorem qnX2_rows : yX2_rows.cls = RX2 ∧ yX2_rows.cls ≠ "java/lang/invoke/MethodHandle" ∧ yX2_rows.cls ≠ "java/lang/invoke/VarHandle" ∧ (parseMethodDescriptor yX2_rows.desc).map (fun d => d.parameters.length) = some 0 := by decide +kernel
def f_X2_rows  (i0 : Nat → Int32) (r0 : Nat → Nat → Int32)  : Option (Int32) := some ((1 : Int32) <<< ((i0 4) &&& 31))
set_option maxRecDepth 100000 in
set_option maxHeartbeats 4000000 in
theorem c_X2_rows {l : Launch} {D : va_G} {cs zs : Nat → Nat} {h0 : Nat} {a0 : Nat → Nat} {i0 : Nat → Int32} {r0 : Nat → Nat → Int32}  {q : Int32} (hf : f_X2_rows i0 r0 = some q) : Mi l yX2_rows wlX2_rows rmX2_rows D cs zs [.ref h0] (W2 cs h0 a0 i0 r0) q (W2 cs h0 a0 i0 r0) := by
  refine Mi.of RX2 (by decide) rfl (Nat.le_of_ble_eq_true rfl) (fun p e s m below meth c A C hP hD hS ls hl => ?_)
  generalize ([.ref h0] : List Value).toArray = args at C ⊢
  obtain ⟨hx, hb, hr, hml, hown, hts, hK, hA, hlocks, hZ⟩ := id C
  have hl : lv_has ls 1 [(0, .ref h0)] := hl
  rw [f_X2_rows] at hf
  refine lv_iconst (v := 1) hx hb dX2_rows_0 (by decide) ?_
  refine lv_aload_n hx hb dX2_rows_1 rfl (lv_at hl 0 rfl) ?_
  refine va_get (D := D) (ci := 2) (v := .int (i0 4)) (C := RX2) (T := TX2) (N := 6) hx hb hts hiX2 hown hK hP 0 rfl rfl 4 (by decide) (hts _ flX2_24) (fun _ h9 => h9) rfl dX2_rows_2 ?_
  refine lv_ishl hx hb dX2_rows_5 ?_
  obtain rfl := Option.some.inj hf
  exact k_iret hx hb hr hlocks hK hP hD hS dX2_rows_6
/-! MarbleFloor$Floor.hasNoRow(I)Z -/
abbrev wlX2_hasNoRow : List Cond := Cond.code yX2_hasNoRow cX2_hasNoRow 2 (some .boolean) :: tbG
abbrev rmX2_hasNoRow : Room := { frames := 1, cells := 0, slots := 0, locals := 20 }
theorem qnX2_hasNoRow : yX2_hasNoRow.cls = RX2 ∧ yX2_hasNoRow.cls ≠ "java/lang/invoke/MethodHandle" ∧ yX2_hasNoRow.cls ≠ "java/lang/invoke/VarHandle" ∧ (parseMethodDescriptor yX2_hasNoRow.desc).map (fun d => d.parameters.length) = some 1 := by decide +kernel
def f_X2_hasNoRow  (i0 : Nat → Int32) (r0 : Nat → Nat → Int32) (x1 : Int32) : Option (Int32) := if x1 < 0 then (some (1)) else (bd (f_X2_rows i0 r0) (fun q2 => if x1 < q2 then (some (0)) else (some (1))))
set_option maxRecDepth 100000 in
set_option maxHeartbeats 4000000 in
theorem c_X2_hasNoRow {l : Launch} {D : va_G} {cs zs : Nat → Nat} {h0 : Nat} {a0 : Nat → Nat} {i0 : Nat → Int32} {r0 : Nat → Nat → Int32} {x1 : Int32} {q : Int32} (hf : f_X2_hasNoRow i0 r0 x1 = some q) : Mi l yX2_hasNoRow wlX2_hasNoRow rmX2_hasNoRow D cs zs [.ref h0, .int x1] (W2 cs h0 a0 i0 r0) q (W2 cs h0 a0 i0 r0) := by
  refine Mi.of RX2 (by decide) rfl (Nat.le_of_ble_eq_true rfl) (fun p e s m below meth c A C hP hD hS ls hl => ?_)
  generalize ([.ref h0, .int x1] : List Value).toArray = args at C ⊢
  obtain ⟨hx, hb, hr, hml, hown, hts, hK, hA, hlocks, hZ⟩ := id C
  have hl : lv_has ls 2 [(0, .ref h0), (1, .int x1)] := hl
  rw [f_X2_hasNoRow] at hf
  refine lv_iload_n hx hb dX2_hasNoRow_0 rfl (lv_at hl 1 rfl) ?_
  refine lv_if_lt (tgt := 12) hx hb dX2_hasNoRow_1 (by decide) (fun hc => ?_) (fun hc => ?_)
  · have hf := ite_t hf hc
    refine lv_iconst (v := 1) hx hb dX2_hasNoRow_12 (by decide) ?_
    refine lv_goto (tgt := 17) hx hb dX2_hasNoRow_13 (by decide) ?_
    obtain rfl := Option.some.inj hf
    exact k_zret (r := 1) hx hb hr hlocks rfl hK hP hD hS dX2_hasNoRow_17
  · have hf := ite_f hf hc
    refine lv_iload_n hx hb dX2_hasNoRow_4 rfl (lv_at hl 1 rfl) ?_
    refine lv_aload_n hx hb dX2_hasNoRow_5 rfl (lv_at hl 0 rfl) ?_
    obtain ⟨q2, hq2, hf⟩ := bd_s hf
    refine k_sVi (ws2 := W2 cs h0 a0 i0 r0) (As := []) (rest := [.int x1]) hx hb hml hown hts hK hA hZ hl.1 hP hD hS (c_X2_rows (h0 := h0) (a0 := a0) hq2) (gVt mlX2_62 imX2_rows seX2_rows inX2 coX2_rows) rfl qnX2_rows rfl rfl ⟨Nat.le_of_ble_eq_true rfl, Nat.le_of_ble_eq_true rfl⟩ 0 2 rfl rfl rfl rfl rfl (Nat.le_of_ble_eq_true rfl) ⟨Nat.zero_le _, Nat.zero_le _⟩ dX2_hasNoRow_6 (fun H locs hP hD hS => ?_)
    refine lv_icmp_lt (tgt := 16) hx hb dX2_hasNoRow_9 (by decide) (fun hc => ?_) (fun hc => ?_)
    · have hf := ite_t hf hc
      refine lv_iconst (v := 0) hx hb dX2_hasNoRow_16 (by decide) ?_
      obtain rfl := Option.some.inj hf
      exact k_zret (r := 0) hx hb hr hlocks rfl hK hP hD hS dX2_hasNoRow_17
    · have hf := ite_f hf hc
      refine lv_iconst (v := 1) hx hb dX2_hasNoRow_12 (by decide) ?_
      refine lv_goto (tgt := 17) hx hb dX2_hasNoRow_13 (by decide) ?_
      obtain rfl := Option.some.inj hf
      exact k_zret (r := 1) hx hb hr hlocks rfl hK hP hD hS dX2_hasNoRow_17
/-! MarbleFloor$Floor.tell(II)I -/
abbrev wlX2_tell : List Cond := Cond.code yX2_tell cX2_tell 3 (some .int) :: tbG
abbrev rmX2_tell : Room := { frames := 0, cells := 0, slots := 0, locals := 0 }
theorem qnX2_tell : yX2_tell.cls = RX2 ∧ yX2_tell.cls ≠ "java/lang/invoke/MethodHandle" ∧ yX2_tell.cls ≠ "java/lang/invoke/VarHandle" ∧ (parseMethodDescriptor yX2_tell.desc).map (fun d => d.parameters.length) = some 2 := by decide +kernel
def f_X2_tell  (i0 : Nat → Int32) (r0 : Nat → Nat → Int32) (x1 : Int32) (x2 : Int32) : Option (Int32) := if x2 = 1 then (some (i0 4)) else (if x1 < 0 then (some ((-1))) else (if x1 < (i0 5) then (if x2 = 0 then (ck (inb x1 40) (some (r0 0 x1.toNatClampNeg))) else (if x2 = 2 then (ck (inb x1 40) (some (r0 1 x1.toNatClampNeg))) else (if x2 = 3 then (ck (inb x1 40) (some (r0 2 x1.toNatClampNeg))) else (if x2 = 4 then (ck (inb x1 40) (some (r0 3 x1.toNatClampNeg))) else (some ((-1))))))) else (some ((-1)))))
set_option maxRecDepth 100000 in
set_option maxHeartbeats 4000000 in
theorem c_X2_tell {l : Launch} {D : va_G} {cs zs : Nat → Nat} {h0 : Nat} {a0 : Nat → Nat} {i0 : Nat → Int32} {r0 : Nat → Nat → Int32} {x1 : Int32} {x2 : Int32} {q : Int32} (hf : f_X2_tell i0 r0 x1 x2 = some q) : Mi l yX2_tell wlX2_tell rmX2_tell D cs zs [.ref h0, .int x1, .int x2] (W2 cs h0 a0 i0 r0) q (W2 cs h0 a0 i0 r0) := by
  refine Mi.of RX2 (by decide) rfl (Nat.le_of_ble_eq_true rfl) (fun p e s m below meth c A C hP hD hS ls hl => ?_)
  generalize ([.ref h0, .int x1, .int x2] : List Value).toArray = args at C ⊢
  obtain ⟨hx, hb, hr, hml, hown, hts, hK, hA, hlocks, hZ⟩ := id C
  have hl : lv_has ls 3 [(0, .ref h0), (1, .int x1), (2, .int x2)] := hl
  rw [f_X2_tell] at hf
  refine lv_iload_n hx hb dX2_tell_0 rfl (lv_at hl 2 rfl) ?_
  refine lv_iconst (v := 1) hx hb dX2_tell_1 (by decide) ?_
  refine lv_icmp_ne (tgt := 10) hx hb dX2_tell_2 (by decide) (fun hc => ?_) (fun hc => ?_)
  · have hf := ite_f hf hc
    refine lv_iload_n hx hb dX2_tell_10 rfl (lv_at hl 1 rfl) ?_
    refine lv_if_lt (tgt := 22) hx hb dX2_tell_11 (by decide) (fun hc => ?_) (fun hc => ?_)
    · have hf := ite_t hf hc
      refine lv_iconst (v := (-1)) hx hb dX2_tell_22 (by decide) ?_
      obtain rfl := Option.some.inj hf
      exact k_iret hx hb hr hlocks hK hP hD hS dX2_tell_23
    · have hf := ite_f hf hc
      refine lv_iload_n hx hb dX2_tell_14 rfl (lv_at hl 1 rfl) ?_
      refine lv_aload_n hx hb dX2_tell_15 rfl (lv_at hl 0 rfl) ?_
      refine va_get (D := D) (ci := 2) (v := .int (i0 5)) (C := RX2) (T := TX2) (N := 6) hx hb hts hiX2 hown hK hP 0 rfl rfl 5 (by decide) (hts _ flX2_28) (fun _ h9 => h9) rfl dX2_tell_16 ?_
      refine lv_icmp_lt (tgt := 24) hx hb dX2_tell_19 (by decide) (fun hc => ?_) (fun hc => ?_)
      · have hf := ite_t hf hc
        refine lv_iload_n hx hb dX2_tell_24 rfl (lv_at hl 2 rfl) ?_
        by_cases hc0 : x2 = 0
        · have hf := ite_t hf hc0
          refine lv_tableIn (off := 35) (tgt := 60) hx hb dX2_tell_25 (by rw [hc0]; decide) (by rw [hc0]; decide) (by rw [hc0]; rfl) (by decide) ?_
          refine lv_aload_n hx hb dX2_tell_60 rfl (lv_at hl 0 rfl) ?_
          refine va_get (D := D) (ci := 2) (v := .ref (a0 0)) (C := RX2) (T := TX2) (N := 6) hx hb hts hiX2 hown hK hP 0 rfl rfl 0 (by decide) (hts _ flX2_9) (fun _ h9 => h9) rfl dX2_tell_61 ?_
          refine lv_iload_n hx hb dX2_tell_64 rfl (lv_at hl 1 rfl) ?_
          refine va_iald (f := r0 0) hx hb hK hP 1 0 rfl rfl (ck_in hf) dX2_tell_65 ?_
          have hf := ck_2 hf
          obtain rfl := Option.some.inj hf
          exact k_iret hx hb hr hlocks hK hP hD hS dX2_tell_66
        · have hf := ite_f hf hc0
          by_cases hc2 : x2 = 2
          · have hf := ite_t hf hc2
            refine lv_tableIn (off := 42) (tgt := 67) hx hb dX2_tell_25 (by rw [hc2]; decide) (by rw [hc2]; decide) (by rw [hc2]; rfl) (by decide) ?_
            refine lv_aload_n hx hb dX2_tell_67 rfl (lv_at hl 0 rfl) ?_
            refine va_get (D := D) (ci := 2) (v := .ref (a0 1)) (C := RX2) (T := TX2) (N := 6) hx hb hts hiX2 hown hK hP 0 rfl rfl 1 (by decide) (hts _ flX2_15) (fun _ h9 => h9) rfl dX2_tell_68 ?_
            refine lv_iload_n hx hb dX2_tell_71 rfl (lv_at hl 1 rfl) ?_
            refine va_iald (f := r0 1) hx hb hK hP 2 0 rfl rfl (ck_in hf) dX2_tell_72 ?_
            have hf := ck_2 hf
            obtain rfl := Option.some.inj hf
            exact k_iret hx hb hr hlocks hK hP hD hS dX2_tell_73
          · have hf := ite_f hf hc2
            by_cases hc3 : x2 = 3
            · have hf := ite_t hf hc3
              refine lv_tableIn (off := 49) (tgt := 74) hx hb dX2_tell_25 (by rw [hc3]; decide) (by rw [hc3]; decide) (by rw [hc3]; rfl) (by decide) ?_
              refine lv_aload_n hx hb dX2_tell_74 rfl (lv_at hl 0 rfl) ?_
              refine va_get (D := D) (ci := 2) (v := .ref (a0 2)) (C := RX2) (T := TX2) (N := 6) hx hb hts hiX2 hown hK hP 0 rfl rfl 2 (by decide) (hts _ flX2_18) (fun _ h9 => h9) rfl dX2_tell_75 ?_
              refine lv_iload_n hx hb dX2_tell_78 rfl (lv_at hl 1 rfl) ?_
              refine va_iald (f := r0 2) hx hb hK hP 3 0 rfl rfl (ck_in hf) dX2_tell_79 ?_
              have hf := ck_2 hf
              obtain rfl := Option.some.inj hf
              exact k_iret hx hb hr hlocks hK hP hD hS dX2_tell_80
            · have hf := ite_f hf hc3
              by_cases hc4 : x2 = 4
              · have hf := ite_t hf hc4
                refine lv_tableIn (off := 56) (tgt := 81) hx hb dX2_tell_25 (by rw [hc4]; decide) (by rw [hc4]; decide) (by rw [hc4]; rfl) (by decide) ?_
                refine lv_aload_n hx hb dX2_tell_81 rfl (lv_at hl 0 rfl) ?_
                refine va_get (D := D) (ci := 2) (v := .ref (a0 3)) (C := RX2) (T := TX2) (N := 6) hx hb hts hiX2 hown hK hP 0 rfl rfl 3 (by decide) (hts _ flX2_21) (fun _ h9 => h9) rfl dX2_tell_82 ?_
                refine lv_iload_n hx hb dX2_tell_85 rfl (lv_at hl 1 rfl) ?_
                refine va_iald (f := r0 3) hx hb hK hP 4 0 rfl rfl (ck_in hf) dX2_tell_86 ?_
                have hf := ck_2 hf
                obtain rfl := Option.some.inj hf
                exact k_iret hx hb hr hlocks hK hP hD hS dX2_tell_87
              · have hf := ite_f hf hc4
                by_cases hc1 : x2 = 1
                · refine lv_tableIn (off := 63) (tgt := 88) hx hb dX2_tell_25 (by rw [hc1]; decide) (by rw [hc1]; decide) (by rw [hc1]; rfl) (by decide) ?_
                  refine lv_iconst (v := (-1)) hx hb dX2_tell_88 (by decide) ?_
                  obtain rfl := Option.some.inj hf
                  exact k_iret hx hb hr hlocks hK hP hD hS dX2_tell_89
                · have z0 := sw_ne (k := 0) (by decide) hc0
                  have z1 := sw_ne (k := 1) (by decide) hc1
                  have z2 := sw_ne (k := 2) (by decide) hc2
                  have z3 := sw_ne (k := 3) (by decide) hc3
                  have z4 := sw_ne (k := 4) (by decide) hc4
                  refine lv_tableOut (tgt := 88) hx hb dX2_tell_25 (by omega) (by decide) ?_
                  refine lv_iconst (v := (-1)) hx hb dX2_tell_88 (by decide) ?_
                  obtain rfl := Option.some.inj hf
                  exact k_iret hx hb hr hlocks hK hP hD hS dX2_tell_89
      · have hf := ite_f hf hc
        refine lv_iconst (v := (-1)) hx hb dX2_tell_22 (by decide) ?_
        obtain rfl := Option.some.inj hf
        exact k_iret hx hb hr hlocks hK hP hD hS dX2_tell_23
  · have hf := ite_t hf hc
    refine lv_aload_n hx hb dX2_tell_5 rfl (lv_at hl 0 rfl) ?_
    refine va_get (D := D) (ci := 2) (v := .int (i0 4)) (C := RX2) (T := TX2) (N := 6) hx hb hts hiX2 hown hK hP 0 rfl rfl 4 (by decide) (hts _ flX2_24) (fun _ h9 => h9) rfl dX2_tell_6 ?_
    obtain rfl := Option.some.inj hf
    exact k_iret hx hb hr hlocks hK hP hD hS dX2_tell_9
/-! MarbleFloor$Floor.pass(II)I -/
abbrev wlX2_pass : List Cond := Cond.code yX2_pass cX2_pass 5 (some .int) :: tbG
abbrev rmX2_pass : Room := { frames := 0, cells := 0, slots := 0, locals := 0 }
theorem qnX2_pass : yX2_pass.cls = RX2 ∧ yX2_pass.cls ≠ "java/lang/invoke/MethodHandle" ∧ yX2_pass.cls ≠ "java/lang/invoke/VarHandle" ∧ (parseMethodDescriptor yX2_pass.desc).map (fun d => d.parameters.length) = some 2 := by decide +kernel
def f_X2_pass  (i0 : Nat → Int32) (r0 : Nat → Nat → Int32) (x1 : Int32) (x2 : Int32) : Option (Int32) := ck (inb x2 40) (if (x1 &&& (r0 3 x2.toNatClampNeg)) = (r0 3 x2.toNatClampNeg) then (ck (inb x2 40) (if (r0 0 x2.toNatClampNeg) = 0 then (ck (inb x2 40) (some (x1 ^^^ ((1 : Int32) <<< ((r0 1 x2.toNatClampNeg) &&& 31))))) else (ck (inb x2 40) (ck (inb x2 40) (ck (inb x2 40) (ck (inb x2 40) (some ((x1 ^^^ ((((x1 >>> ((r0 1 x2.toNatClampNeg) &&& 31)) ^^^ (x1 >>> ((r0 2 x2.toNatClampNeg) &&& 31))) &&& 1) <<< ((r0 1 x2.toNatClampNeg) &&& 31))) ^^^ ((((x1 >>> ((r0 1 x2.toNatClampNeg) &&& 31)) ^^^ (x1 >>> ((r0 2 x2.toNatClampNeg) &&& 31))) &&& 1) <<< ((r0 2 x2.toNatClampNeg) &&& 31)))))))))) else (some (x1)))
set_option maxRecDepth 100000 in
set_option maxHeartbeats 4000000 in
theorem c_X2_pass {l : Launch} {D : va_G} {cs zs : Nat → Nat} {h0 : Nat} {a0 : Nat → Nat} {i0 : Nat → Int32} {r0 : Nat → Nat → Int32} {x1 : Int32} {x2 : Int32} {q : Int32} (hf : f_X2_pass i0 r0 x1 x2 = some q) : Mi l yX2_pass wlX2_pass rmX2_pass D cs zs [.ref h0, .int x1, .int x2] (W2 cs h0 a0 i0 r0) q (W2 cs h0 a0 i0 r0) := by
  refine Mi.of RX2 (by decide) rfl (Nat.le_of_ble_eq_true rfl) (fun p e s m below meth c A C hP hD hS ls hl => ?_)
  generalize ([.ref h0, .int x1, .int x2] : List Value).toArray = args at C ⊢
  obtain ⟨hx, hb, hr, hml, hown, hts, hK, hA, hlocks, hZ⟩ := id C
  have hl : lv_has ls 5 [(0, .ref h0), (1, .int x1), (2, .int x2)] := hl
  rw [f_X2_pass] at hf
  refine lv_aload_n hx hb dX2_pass_0 rfl (lv_at hl 0 rfl) ?_
  refine va_get (D := D) (ci := 2) (v := .ref (a0 3)) (C := RX2) (T := TX2) (N := 6) hx hb hts hiX2 hown hK hP 0 rfl rfl 3 (by decide) (hts _ flX2_21) (fun _ h9 => h9) rfl dX2_pass_1 ?_
  refine lv_iload_n hx hb dX2_pass_4 rfl (lv_at hl 2 rfl) ?_
  refine va_iald (f := r0 3) hx hb hK hP 4 0 rfl rfl (ck_in hf) dX2_pass_5 ?_
  have hf := ck_2 hf
  refine lv_istore_n (lv' := [(3, .int (r0 3 x2.toNatClampNeg)), (0, .ref h0), (1, .int x1), (2, .int x2)]) hx hb dX2_pass_6 rfl hl (by decide) rfl (fun ls hl => ?_)
  refine lv_iload_n hx hb dX2_pass_7 rfl (lv_at hl 2 rfl) ?_
  refine lv_iload_n hx hb dX2_pass_8 rfl (lv_at hl 0 rfl) ?_
  refine lv_iand hx hb dX2_pass_9 ?_
  refine lv_iload_n hx hb dX2_pass_10 rfl (lv_at hl 0 rfl) ?_
  refine lv_icmp_eq (tgt := 16) hx hb dX2_pass_11 (by decide) (fun hc => ?_) (fun hc => ?_)
  · have hf := ite_t hf hc
    refine lv_aload_n hx hb dX2_pass_16 rfl (lv_at hl 1 rfl) ?_
    refine va_get (D := D) (ci := 2) (v := .ref (a0 0)) (C := RX2) (T := TX2) (N := 6) hx hb hts hiX2 hown hK hP 0 rfl rfl 0 (by decide) (hts _ flX2_9) (fun _ h9 => h9) rfl dX2_pass_17 ?_
    refine lv_iload_n hx hb dX2_pass_20 rfl (lv_at hl 3 rfl) ?_
    refine va_iald (f := r0 0) hx hb hK hP 1 0 rfl rfl (ck_in hf) dX2_pass_21 ?_
    have hf := ck_2 hf
    refine lv_if_ne (tgt := 36) hx hb dX2_pass_22 (by decide) (fun hc => ?_) (fun hc => ?_)
    · have hf := ite_f hf hc
      refine lv_iload_n hx hb dX2_pass_36 rfl (lv_at hl 2 rfl) ?_
      refine lv_aload_n hx hb dX2_pass_37 rfl (lv_at hl 1 rfl) ?_
      refine va_get (D := D) (ci := 2) (v := .ref (a0 1)) (C := RX2) (T := TX2) (N := 6) hx hb hts hiX2 hown hK hP 0 rfl rfl 1 (by decide) (hts _ flX2_15) (fun _ h9 => h9) rfl dX2_pass_38 ?_
      refine lv_iload_n hx hb dX2_pass_41 rfl (lv_at hl 3 rfl) ?_
      refine va_iald (f := r0 1) hx hb hK hP 2 0 rfl rfl (ck_in hf) dX2_pass_42 ?_
      have hf := ck_2 hf
      refine lv_ishr hx hb dX2_pass_43 ?_
      refine lv_iload_n hx hb dX2_pass_44 rfl (lv_at hl 2 rfl) ?_
      refine lv_aload_n hx hb dX2_pass_45 rfl (lv_at hl 1 rfl) ?_
      refine va_get (D := D) (ci := 2) (v := .ref (a0 2)) (C := RX2) (T := TX2) (N := 6) hx hb hts hiX2 hown hK hP 0 rfl rfl 2 (by decide) (hts _ flX2_18) (fun _ h9 => h9) rfl dX2_pass_46 ?_
      refine lv_iload_n hx hb dX2_pass_49 rfl (lv_at hl 3 rfl) ?_
      refine va_iald (f := r0 2) hx hb hK hP 3 0 rfl rfl (ck_in hf) dX2_pass_50 ?_
      have hf := ck_2 hf
      refine lv_ishr hx hb dX2_pass_51 ?_
      refine lv_ixor hx hb dX2_pass_52 ?_
      refine lv_iconst (v := 1) hx hb dX2_pass_53 (by decide) ?_
      refine lv_iand hx hb dX2_pass_54 ?_
      refine lv_istore (lv' := [(4, .int (((x1 >>> ((r0 1 x2.toNatClampNeg) &&& 31)) ^^^ (x1 >>> ((r0 2 x2.toNatClampNeg) &&& 31))) &&& 1)), (3, .int (r0 3 x2.toNatClampNeg)), (0, .ref h0), (1, .int x1), (2, .int x2)]) hx hb dX2_pass_55 hl (by decide) rfl (fun ls hl => ?_)
      refine lv_iload_n hx hb dX2_pass_57 rfl (lv_at hl 3 rfl) ?_
      refine lv_iload hx hb dX2_pass_58 (lv_at hl 0 rfl) ?_
      refine lv_aload_n hx hb dX2_pass_60 rfl (lv_at hl 2 rfl) ?_
      refine va_get (D := D) (ci := 2) (v := .ref (a0 1)) (C := RX2) (T := TX2) (N := 6) hx hb hts hiX2 hown hK hP 0 rfl rfl 1 (by decide) (hts _ flX2_15) (fun _ h9 => h9) rfl dX2_pass_61 ?_
      refine lv_iload_n hx hb dX2_pass_64 rfl (lv_at hl 4 rfl) ?_
      refine va_iald (f := r0 1) hx hb hK hP 2 0 rfl rfl (ck_in hf) dX2_pass_65 ?_
      have hf := ck_2 hf
      refine lv_ishl hx hb dX2_pass_66 ?_
      refine lv_ixor hx hb dX2_pass_67 ?_
      refine lv_iload hx hb dX2_pass_68 (lv_at hl 0 rfl) ?_
      refine lv_aload_n hx hb dX2_pass_70 rfl (lv_at hl 2 rfl) ?_
      refine va_get (D := D) (ci := 2) (v := .ref (a0 2)) (C := RX2) (T := TX2) (N := 6) hx hb hts hiX2 hown hK hP 0 rfl rfl 2 (by decide) (hts _ flX2_18) (fun _ h9 => h9) rfl dX2_pass_71 ?_
      refine lv_iload_n hx hb dX2_pass_74 rfl (lv_at hl 4 rfl) ?_
      refine va_iald (f := r0 2) hx hb hK hP 3 0 rfl rfl (ck_in hf) dX2_pass_75 ?_
      have hf := ck_2 hf
      refine lv_ishl hx hb dX2_pass_76 ?_
      refine lv_ixor hx hb dX2_pass_77 ?_
      obtain rfl := Option.some.inj hf
      exact k_iret hx hb hr hlocks hK hP hD hS dX2_pass_78
    · have hf := ite_t hf hc
      refine lv_iload_n hx hb dX2_pass_25 rfl (lv_at hl 2 rfl) ?_
      refine lv_iconst (v := 1) hx hb dX2_pass_26 (by decide) ?_
      refine lv_aload_n hx hb dX2_pass_27 rfl (lv_at hl 1 rfl) ?_
      refine va_get (D := D) (ci := 2) (v := .ref (a0 1)) (C := RX2) (T := TX2) (N := 6) hx hb hts hiX2 hown hK hP 0 rfl rfl 1 (by decide) (hts _ flX2_15) (fun _ h9 => h9) rfl dX2_pass_28 ?_
      refine lv_iload_n hx hb dX2_pass_31 rfl (lv_at hl 3 rfl) ?_
      refine va_iald (f := r0 1) hx hb hK hP 2 0 rfl rfl (ck_in hf) dX2_pass_32 ?_
      have hf := ck_2 hf
      refine lv_ishl hx hb dX2_pass_33 ?_
      refine lv_ixor hx hb dX2_pass_34 ?_
      obtain rfl := Option.some.inj hf
      exact k_iret hx hb hr hlocks hK hP hD hS dX2_pass_35
  · have hf := ite_f hf hc
    refine lv_iload_n hx hb dX2_pass_14 rfl (lv_at hl 2 rfl) ?_
    obtain rfl := Option.some.inj hf
    exact k_iret hx hb hr hlocks hK hP hD hS dX2_pass_15
/-! MarbleFloor$Floor.outOf(IZ)I -/
abbrev wlX2_outOf : List Cond := Cond.code yX2_outOf cX2_outOf 5 (some .int) :: tbG
abbrev rmX2_outOf : Room := { frames := 1, cells := 0, slots := 0, locals := 24 }
theorem qnX2_outOf : yX2_outOf.cls = RX2 ∧ yX2_outOf.cls ≠ "java/lang/invoke/MethodHandle" ∧ yX2_outOf.cls ≠ "java/lang/invoke/VarHandle" ∧ (parseMethodDescriptor yX2_outOf.desc).map (fun d => d.parameters.length) = some 2 := by decide +kernel
def f_X2_outOf_34 (i0 : Nat → Int32) (r0 : Nat → Nat → Int32) (K5 : Int32 → Int32 → Int32 → Option (Int32)) (x2 : Int32) (x4 : Int32) (y0 : Int32) (y1 : Int32) : Option (Int32) := bd (f_X2_pass i0 r0 y1 y0) (fun q2 => K5 x2 q2 (x4 + 1))
set_option maxRecDepth 100000 in
set_option maxHeartbeats 4000000 in
theorem w_X2_outOf_34 {p : Program} {l : Launch} {e : Env} {s : State} {m : MethodId} {args : Array Value} {below : List Frame} {meth : Method} {c : Code} {A : Nat → Prop} {D : va_G} {cs zs : Nat → Nat} {h0 : Nat} {a0 : Nat → Nat} {i0 : Nat → Int32} {r0 : Nat → Nat → Int32} {q : Int32} (C : Cx p s m args meth c A D cs zs cX2_outOf 5 (some .int) RX2) (K5 : Int32 → Int32 → Int32 → Option (Int32)) (hK5 : ∀ (x2 : Int32) (x3 : Int32) (x4 : Int32) (H : Heap) (locs : List Loc) (ls : Array Slot), K5 x2 x3 x4 = some q → va_P D vwCl (W2 cs h0 a0 i0 r0) H → va_D A (W2 cs h0 a0 i0 r0) → va_S A s.heap H locs → lv_has ls 5 [(0, .ref h0), (2, .int x2), (3, .int x3), (4, .int x4)] → W p l e rmX2_outOf s m args below meth c H locs 0 0 (MQ below (Qi D cs A q (W2 cs h0 a0 i0 r0)) args s 0 0 A) (F0 m 5 ls [])) : ∀ (x2 : Int32) (x4 : Int32) (y0 : Int32) (y1 : Int32) (H : Heap) (locs : List Loc) (ls : Array Slot), f_X2_outOf_34 i0 r0 K5 x2 x4 y0 y1 = some q → va_P D vwCl (W2 cs h0 a0 i0 r0) H → va_D A (W2 cs h0 a0 i0 r0) → va_S A s.heap H locs → lv_has ls 5 [(0, .ref h0), (2, .int x2), (4, .int x4)] → W p l e rmX2_outOf s m args below meth c H locs 0 0 (MQ below (Qi D cs A q (W2 cs h0 a0 i0 r0)) args s 0 0 A) (F0 m 34 ls [.int y0, .int y1, .ref h0]) := by
  obtain ⟨hx, hb, hr, hml, hown, hts, hK, hA, hlocks, hZ⟩ := id C
  intro x2 x4 y0 y1 H locs ls hf hP hD hS hl
  rw [f_X2_outOf_34] at hf
  obtain ⟨q2, hq2, hf⟩ := bd_s hf
  refine k_sVi (ws2 := W2 cs h0 a0 i0 r0) (As := [.int y1, .int y0]) (rest := []) hx hb hml hown hts hK hA hZ hl.1 hP hD hS (c_X2_pass (h0 := h0) (a0 := a0) hq2) (gVt mlX2_66 imX2_pass seX2_pass inX2 coX2_pass) rfl qnX2_pass rfl rfl ⟨Nat.le_of_ble_eq_true rfl, Nat.le_of_ble_eq_true rfl⟩ 0 2 rfl rfl rfl rfl rfl (Nat.le_of_ble_eq_true rfl) ⟨Nat.zero_le _, Nat.zero_le _⟩ dX2_outOf_34 (fun H locs hP hD hS => ?_)
  refine lv_istore_n (lv' := [(3, .int q2), (0, .ref h0), (2, .int x2), (4, .int x4)]) hx hb dX2_outOf_37 rfl hl (by decide) rfl (fun ls hl => ?_)
  refine lv_iinc (v := x4 + 1) (lv' := [(4, .int (x4 + 1)), (3, .int q2), (0, .ref h0), (2, .int x2)]) hx hb dX2_outOf_38 hl (k := 3) rfl rfl (by decide) rfl (fun ls hl => ?_)
  refine lv_goto (tgt := 5) hx hb dX2_outOf_41 (by decide) ?_
  exact hK5 _ _ _ _ _ _ hf hP hD hS (lv_sub hl [2, 3, 1, 0] rfl)
def f_X2_outOf_5 (i0 : Nat → Int32) (r0 : Nat → Nat → Int32)  : Nat → Int32 → Int32 → Int32 → Option (Int32)
  | 0, _, _, _ => none
  | n + 1, x2, x3, x4 => if (i0 5) ≤ x4 then (some (x3)) else (if x2 = 0 then (f_X2_outOf_34 i0 r0 (f_X2_outOf_5 i0 r0 n) x2 x4 x4 x3) else (f_X2_outOf_34 i0 r0 (f_X2_outOf_5 i0 r0 n) x2 x4 (((i0 5) - 1) - x4) x3))
set_option maxRecDepth 100000 in
set_option maxHeartbeats 4000000 in
theorem w_X2_outOf_5 {p : Program} {l : Launch} {e : Env} {s : State} {m : MethodId} {args : Array Value} {below : List Frame} {meth : Method} {c : Code} {A : Nat → Prop} {D : va_G} {cs zs : Nat → Nat} {h0 : Nat} {a0 : Nat → Nat} {i0 : Nat → Int32} {r0 : Nat → Nat → Int32} {q : Int32} (C : Cx p s m args meth c A D cs zs cX2_outOf 5 (some .int) RX2)  : ∀ (n : Nat), ∀ (x2 : Int32) (x3 : Int32) (x4 : Int32) (H : Heap) (locs : List Loc) (ls : Array Slot), f_X2_outOf_5 i0 r0 n x2 x3 x4 = some q → va_P D vwCl (W2 cs h0 a0 i0 r0) H → va_D A (W2 cs h0 a0 i0 r0) → va_S A s.heap H locs → lv_has ls 5 [(0, .ref h0), (2, .int x2), (3, .int x3), (4, .int x4)] → W p l e rmX2_outOf s m args below meth c H locs 0 0 (MQ below (Qi D cs A q (W2 cs h0 a0 i0 r0)) args s 0 0 A) (F0 m 5 ls []) := by
  obtain ⟨hx, hb, hr, hml, hown, hts, hK, hA, hlocks, hZ⟩ := id C
  intro n
  induction n with
  | zero =>
    intro x2 x3 x4 H locs ls hf
    rw [f_X2_outOf_5] at hf
    cases hf
  | succ n ih =>
    intro x2 x3 x4 H locs ls hf hP hD hS hl
    rw [f_X2_outOf_5] at hf
    refine lv_iload hx hb dX2_outOf_5 (lv_at hl 3 rfl) ?_
    refine lv_aload_n hx hb dX2_outOf_7 rfl (lv_at hl 0 rfl) ?_
    refine va_get (D := D) (ci := 2) (v := .int (i0 5)) (C := RX2) (T := TX2) (N := 6) hx hb hts hiX2 hown hK hP 0 rfl rfl 5 (by decide) (hts _ flX2_28) (fun _ h9 => h9) rfl dX2_outOf_8 ?_
    refine lv_icmp_ge (tgt := 44) hx hb dX2_outOf_11 (by decide) (fun hc => ?_) (fun hc => ?_)
    · have hf := ite_t hf hc
      refine lv_iload_n hx hb dX2_outOf_44 rfl (lv_at hl 2 rfl) ?_
      obtain rfl := Option.some.inj hf
      exact k_iret hx hb hr hlocks hK hP hD hS dX2_outOf_45
    · have hf := ite_f hf hc
      refine lv_aload_n hx hb dX2_outOf_14 rfl (lv_at hl 0 rfl) ?_
      refine lv_iload_n hx hb dX2_outOf_15 rfl (lv_at hl 2 rfl) ?_
      refine lv_iload_n hx hb dX2_outOf_16 rfl (lv_at hl 1 rfl) ?_
      refine lv_if_eq (tgt := 32) hx hb dX2_outOf_17 (by decide) (fun hc => ?_) (fun hc => ?_)
      · have hf := ite_t hf hc
        refine lv_iload hx hb dX2_outOf_32 (lv_at hl 3 rfl) ?_
        exact w_X2_outOf_34 C _ (ih) _ _ _ _ _ _ _ hf hP hD hS (lv_sub hl [0, 1, 3] rfl)
      · have hf := ite_f hf hc
        refine lv_aload_n hx hb dX2_outOf_20 rfl (lv_at hl 0 rfl) ?_
        refine va_get (D := D) (ci := 2) (v := .int (i0 5)) (C := RX2) (T := TX2) (N := 6) hx hb hts hiX2 hown hK hP 0 rfl rfl 5 (by decide) (hts _ flX2_28) (fun _ h9 => h9) rfl dX2_outOf_21 ?_
        refine lv_iconst (v := 1) hx hb dX2_outOf_24 (by decide) ?_
        refine lv_isub hx hb dX2_outOf_25 ?_
        refine lv_iload hx hb dX2_outOf_26 (lv_at hl 3 rfl) ?_
        refine lv_isub hx hb dX2_outOf_28 ?_
        refine lv_goto (tgt := 34) hx hb dX2_outOf_29 (by decide) ?_
        exact w_X2_outOf_34 C _ (ih) _ _ _ _ _ _ _ hf hP hD hS (lv_sub hl [0, 1, 3] rfl)
def f_X2_outOf  (i0 : Nat → Int32) (r0 : Nat → Nat → Int32) (x1 : Int32) (x2 : Int32) : Option (Int32) := f_X2_outOf_5 i0 r0 2000000 x2 x1 0
set_option maxRecDepth 100000 in
set_option maxHeartbeats 4000000 in
theorem c_X2_outOf {l : Launch} {D : va_G} {cs zs : Nat → Nat} {h0 : Nat} {a0 : Nat → Nat} {i0 : Nat → Int32} {r0 : Nat → Nat → Int32} {x1 : Int32} {x2 : Int32} {q : Int32} (hf : f_X2_outOf i0 r0 x1 x2 = some q) : Mi l yX2_outOf wlX2_outOf rmX2_outOf D cs zs [.ref h0, .int x1, .int x2] (W2 cs h0 a0 i0 r0) q (W2 cs h0 a0 i0 r0) := by
  refine Mi.of RX2 (by decide) rfl (Nat.le_of_ble_eq_true rfl) (fun p e s m below meth c A C hP hD hS ls hl => ?_)
  generalize ([.ref h0, .int x1, .int x2] : List Value).toArray = args at C ⊢
  obtain ⟨hx, hb, hr, hml, hown, hts, hK, hA, hlocks, hZ⟩ := id C
  have hl : lv_has ls 5 [(0, .ref h0), (1, .int x1), (2, .int x2)] := hl
  rw [f_X2_outOf] at hf
  refine lv_iload_n hx hb dX2_outOf_0 rfl (lv_at hl 1 rfl) ?_
  refine lv_istore_n (lv' := [(3, .int x1), (0, .ref h0), (1, .int x1), (2, .int x2)]) hx hb dX2_outOf_1 rfl hl (by decide) rfl (fun ls hl => ?_)
  refine lv_iconst (v := 0) hx hb dX2_outOf_2 (by decide) ?_
  refine lv_istore (lv' := [(4, .int 0), (3, .int x1), (0, .ref h0), (1, .int x1), (2, .int x2)]) hx hb dX2_outOf_3 hl (by decide) rfl (fun ls hl => ?_)
  exact w_X2_outOf_5 C  2000000 _ _ _ _ _ _ hf hP hD hS (lv_sub hl [2, 4, 1, 0] rfl)
/-! MarbleFloor$Floor.runsTillThereAgain(I)I -/
abbrev wlX2_runsTillThereAgain : List Cond := Cond.code yX2_runsTillThereAgain cX2_runsTillThereAgain 4 (some .int) :: tbG
abbrev rmX2_runsTillThereAgain : Room := { frames := 2, cells := 0, slots := 0, locals := 48 }
theorem qnX2_runsTillThereAgain : yX2_runsTillThereAgain.cls = RX2 ∧ yX2_runsTillThereAgain.cls ≠ "java/lang/invoke/MethodHandle" ∧ yX2_runsTillThereAgain.cls ≠ "java/lang/invoke/VarHandle" ∧ (parseMethodDescriptor yX2_runsTillThereAgain.desc).map (fun d => d.parameters.length) = some 1 := by decide +kernel
def f_X2_runsTillThereAgain_9 (i0 : Nat → Int32) (r0 : Nat → Nat → Int32)  : Nat → Int32 → Int32 → Int32 → Option (Int32)
  | 0, _, _, _ => none
  | n + 1, x1, x2, x3 => if x2 = x1 then (some (x3)) else (if 256 ≤ x3 then (some (x3)) else (bd (f_X2_outOf i0 r0 x2 0) (fun q3 => f_X2_runsTillThereAgain_9 i0 r0 n x1 q3 (x3 + 1))))
set_option maxRecDepth 100000 in
set_option maxHeartbeats 4000000 in
theorem w_X2_runsTillThereAgain_9 {p : Program} {l : Launch} {e : Env} {s : State} {m : MethodId} {args : Array Value} {below : List Frame} {meth : Method} {c : Code} {A : Nat → Prop} {D : va_G} {cs zs : Nat → Nat} {h0 : Nat} {a0 : Nat → Nat} {i0 : Nat → Int32} {r0 : Nat → Nat → Int32} {q : Int32} (C : Cx p s m args meth c A D cs zs cX2_runsTillThereAgain 4 (some .int) RX2)  : ∀ (n : Nat), ∀ (x1 : Int32) (x2 : Int32) (x3 : Int32) (H : Heap) (locs : List Loc) (ls : Array Slot), f_X2_runsTillThereAgain_9 i0 r0 n x1 x2 x3 = some q → va_P D vwCl (W2 cs h0 a0 i0 r0) H → va_D A (W2 cs h0 a0 i0 r0) → va_S A s.heap H locs → lv_has ls 4 [(0, .ref h0), (1, .int x1), (2, .int x2), (3, .int x3)] → W p l e rmX2_runsTillThereAgain s m args below meth c H locs 0 0 (MQ below (Qi D cs A q (W2 cs h0 a0 i0 r0)) args s 0 0 A) (F0 m 9 ls []) := by
  obtain ⟨hx, hb, hr, hml, hown, hts, hK, hA, hlocks, hZ⟩ := id C
  intro n
  induction n with
  | zero =>
    intro x1 x2 x3 H locs ls hf
    rw [f_X2_runsTillThereAgain_9] at hf
    cases hf
  | succ n ih =>
    intro x1 x2 x3 H locs ls hf hP hD hS hl
    rw [f_X2_runsTillThereAgain_9] at hf
    refine lv_iload_n hx hb dX2_runsTillThereAgain_9 rfl (lv_at hl 2 rfl) ?_
    refine lv_iload_n hx hb dX2_runsTillThereAgain_10 rfl (lv_at hl 1 rfl) ?_
    refine lv_icmp_eq (tgt := 34) hx hb dX2_runsTillThereAgain_11 (by decide) (fun hc => ?_) (fun hc => ?_)
    · have hf := ite_t hf hc
      refine lv_iload_n hx hb dX2_runsTillThereAgain_34 rfl (lv_at hl 3 rfl) ?_
      obtain rfl := Option.some.inj hf
      exact k_iret hx hb hr hlocks hK hP hD hS dX2_runsTillThereAgain_35
    · have hf := ite_f hf hc
      refine lv_iload_n hx hb dX2_runsTillThereAgain_14 rfl (lv_at hl 3 rfl) ?_
      refine lv_sipush (v := 256) hx hb dX2_runsTillThereAgain_15 (by decide) ?_
      refine lv_icmp_ge (tgt := 34) hx hb dX2_runsTillThereAgain_18 (by decide) (fun hc => ?_) (fun hc => ?_)
      · have hf := ite_t hf hc
        refine lv_iload_n hx hb dX2_runsTillThereAgain_34 rfl (lv_at hl 3 rfl) ?_
        obtain rfl := Option.some.inj hf
        exact k_iret hx hb hr hlocks hK hP hD hS dX2_runsTillThereAgain_35
      · have hf := ite_f hf hc
        refine lv_aload_n hx hb dX2_runsTillThereAgain_21 rfl (lv_at hl 0 rfl) ?_
        refine lv_iload_n hx hb dX2_runsTillThereAgain_22 rfl (lv_at hl 2 rfl) ?_
        refine lv_iconst (v := 0) hx hb dX2_runsTillThereAgain_23 (by decide) ?_
        obtain ⟨q3, hq3, hf⟩ := bd_s hf
        refine k_sVi (ws2 := W2 cs h0 a0 i0 r0) (As := [.int x2, .int 0]) (rest := []) hx hb hml hown hts hK hA hZ hl.1 hP hD hS (c_X2_outOf (h0 := h0) (a0 := a0) hq3) (gVt mlX2_69 imX2_outOf seX2_outOf inX2 coX2_outOf) rfl qnX2_outOf rfl rfl ⟨Nat.le_of_ble_eq_true rfl, Nat.le_of_ble_eq_true rfl⟩ 0 2 rfl rfl rfl rfl rfl (Nat.le_of_ble_eq_true rfl) ⟨Nat.zero_le _, Nat.zero_le _⟩ dX2_runsTillThereAgain_24 (fun H locs hP hD hS => ?_)
        refine lv_istore_n (lv' := [(2, .int q3), (0, .ref h0), (1, .int x1), (3, .int x3)]) hx hb dX2_runsTillThereAgain_27 rfl hl (by decide) rfl (fun ls hl => ?_)
        refine lv_iinc (v := x3 + 1) (lv' := [(3, .int (x3 + 1)), (2, .int q3), (0, .ref h0), (1, .int x1)]) hx hb dX2_runsTillThereAgain_28 hl (k := 3) rfl rfl (by decide) rfl (fun ls hl => ?_)
        refine lv_goto (tgt := 9) hx hb dX2_runsTillThereAgain_31 (by decide) ?_
        exact ih _ _ _ _ _ _ hf hP hD hS (lv_sub hl [2, 3, 1, 0] rfl)
def f_X2_runsTillThereAgain  (i0 : Nat → Int32) (r0 : Nat → Nat → Int32) (x1 : Int32) : Option (Int32) := bd (f_X2_outOf i0 r0 x1 0) (fun q4 => f_X2_runsTillThereAgain_9 i0 r0 2000000 x1 q4 1)
set_option maxRecDepth 100000 in
set_option maxHeartbeats 4000000 in
theorem c_X2_runsTillThereAgain {l : Launch} {D : va_G} {cs zs : Nat → Nat} {h0 : Nat} {a0 : Nat → Nat} {i0 : Nat → Int32} {r0 : Nat → Nat → Int32} {x1 : Int32} {q : Int32} (hf : f_X2_runsTillThereAgain i0 r0 x1 = some q) : Mi l yX2_runsTillThereAgain wlX2_runsTillThereAgain rmX2_runsTillThereAgain D cs zs [.ref h0, .int x1] (W2 cs h0 a0 i0 r0) q (W2 cs h0 a0 i0 r0) := by
  refine Mi.of RX2 (by decide) rfl (Nat.le_of_ble_eq_true rfl) (fun p e s m below meth c A C hP hD hS ls hl => ?_)
  generalize ([.ref h0, .int x1] : List Value).toArray = args at C ⊢
  obtain ⟨hx, hb, hr, hml, hown, hts, hK, hA, hlocks, hZ⟩ := id C
  have hl : lv_has ls 4 [(0, .ref h0), (1, .int x1)] := hl
  rw [f_X2_runsTillThereAgain] at hf
  refine lv_aload_n hx hb dX2_runsTillThereAgain_0 rfl (lv_at hl 0 rfl) ?_
  refine lv_iload_n hx hb dX2_runsTillThereAgain_1 rfl (lv_at hl 1 rfl) ?_
  refine lv_iconst (v := 0) hx hb dX2_runsTillThereAgain_2 (by decide) ?_
  obtain ⟨q4, hq4, hf⟩ := bd_s hf
  refine k_sVi (ws2 := W2 cs h0 a0 i0 r0) (As := [.int x1, .int 0]) (rest := []) hx hb hml hown hts hK hA hZ hl.1 hP hD hS (c_X2_outOf (h0 := h0) (a0 := a0) hq4) (gVt mlX2_69 imX2_outOf seX2_outOf inX2 coX2_outOf) rfl qnX2_outOf rfl rfl ⟨Nat.le_of_ble_eq_true rfl, Nat.le_of_ble_eq_true rfl⟩ 0 2 rfl rfl rfl rfl rfl (Nat.le_of_ble_eq_true rfl) ⟨Nat.zero_le _, Nat.zero_le _⟩ dX2_runsTillThereAgain_3 (fun H locs hP hD hS => ?_)
  refine lv_istore_n (lv' := [(2, .int q4), (0, .ref h0), (1, .int x1)]) hx hb dX2_runsTillThereAgain_6 rfl hl (by decide) rfl (fun ls hl => ?_)
  refine lv_iconst (v := 1) hx hb dX2_runsTillThereAgain_7 (by decide) ?_
  refine lv_istore_n (lv' := [(3, .int 1), (2, .int q4), (0, .ref h0), (1, .int x1)]) hx hb dX2_runsTillThereAgain_8 rfl hl (by decide) rfl (fun ls hl => ?_)
  exact w_X2_runsTillThereAgain_9 C  2000000 _ _ _ _ _ _ hf hP hD hS (lv_sub hl [2, 3, 1, 0] rfl)
/-! MarbleFloor$Floor.leastRowUnlike(LMarbleFloor$Floor;)I -/
abbrev wlX2_leastRowUnlike : List Cond := Cond.code yX2_leastRowUnlike cX2_leastRowUnlike 3 (some .int) :: tbG
abbrev rmX2_leastRowUnlike : Room := { frames := 2, cells := 0, slots := 0, locals := 48 }
theorem qnX2_leastRowUnlike : yX2_leastRowUnlike.cls = RX2 ∧ yX2_leastRowUnlike.cls ≠ "java/lang/invoke/MethodHandle" ∧ yX2_leastRowUnlike.cls ≠ "java/lang/invoke/VarHandle" ∧ (parseMethodDescriptor yX2_leastRowUnlike.desc).map (fun d => d.parameters.length) = some 1 := by decide +kernel
def f_X2_leastRowUnlike_2 (i0 : Nat → Int32) (r0 : Nat → Nat → Int32) (i1 : Nat → Int32) (r1 : Nat → Nat → Int32)  : Nat → Int32 → Option (Int32)
  | 0, _ => none
  | n + 1, x2 => bd (f_X2_rows i0 r0) (fun q4 => if q4 ≤ x2 then (some ((-1))) else (bd (f_X2_outOf i0 r0 x2 0) (fun q5 => bd (f_X2_outOf i1 r1 x2 0) (fun q6 => if q5 = q6 then (f_X2_leastRowUnlike_2 i0 r0 i1 r1 n (x2 + 1)) else (some (x2))))))
set_option maxRecDepth 100000 in
set_option maxHeartbeats 4000000 in
theorem w_X2_leastRowUnlike_2 {p : Program} {l : Launch} {e : Env} {s : State} {m : MethodId} {args : Array Value} {below : List Frame} {meth : Method} {c : Code} {A : Nat → Prop} {D : va_G} {cs zs : Nat → Nat} {h0 : Nat} {a0 : Nat → Nat} {h1 : Nat} {a1 : Nat → Nat} {i0 : Nat → Int32} {r0 : Nat → Nat → Int32} {i1 : Nat → Int32} {r1 : Nat → Nat → Int32} {q : Int32} (C : Cx p s m args meth c A D cs zs cX2_leastRowUnlike 3 (some .int) RX2)  : ∀ (n : Nat), ∀ (x2 : Int32) (H : Heap) (locs : List Loc) (ls : Array Slot), f_X2_leastRowUnlike_2 i0 r0 i1 r1 n x2 = some q → va_P D vwCl (W2 cs h0 a0 i0 r0 ++ W2 cs h1 a1 i1 r1) H → va_D A (W2 cs h0 a0 i0 r0 ++ W2 cs h1 a1 i1 r1) → va_S A s.heap H locs → lv_has ls 3 [(0, .ref h0), (1, .ref h1), (2, .int x2)] → W p l e rmX2_leastRowUnlike s m args below meth c H locs 0 0 (MQ below (Qi D cs A q (W2 cs h0 a0 i0 r0 ++ W2 cs h1 a1 i1 r1)) args s 0 0 A) (F0 m 2 ls []) := by
  obtain ⟨hx, hb, hr, hml, hown, hts, hK, hA, hlocks, hZ⟩ := id C
  intro n
  induction n with
  | zero =>
    intro x2 H locs ls hf
    rw [f_X2_leastRowUnlike_2] at hf
    cases hf
  | succ n ih =>
    intro x2 H locs ls hf hP hD hS hl
    rw [f_X2_leastRowUnlike_2] at hf
    refine lv_iload_n hx hb dX2_leastRowUnlike_2 rfl (lv_at hl 2 rfl) ?_
    refine lv_aload_n hx hb dX2_leastRowUnlike_3 rfl (lv_at hl 0 rfl) ?_
    obtain ⟨q4, hq4, hf⟩ := bd_s hf
    refine k_pVi (wr := W2 cs h1 a1 i1 r1) (ws2 := W2 cs h0 a0 i0 r0 ++ W2 cs h1 a1 i1 r1) (As := []) (rest := [.int x2]) hx hb hml hown hts hK hA hZ hl.1 hP hD hS (c_X2_rows (h0 := h0) (a0 := a0) hq4) (gVt mlX2_62 imX2_rows seX2_rows inX2 coX2_rows) rfl qnX2_rows rfl rfl ⟨Nat.le_of_ble_eq_true rfl, Nat.le_of_ble_eq_true rfl⟩ [0, 1, 2, 3, 4] [5, 6, 7, 8, 9] [5, 6, 7, 8, 9, 0, 1, 2, 3, 4] rfl rfl rfl (by decide) 0 2 rfl rfl rfl rfl rfl (Nat.le_of_ble_eq_true rfl) ⟨Nat.zero_le _, Nat.zero_le _⟩ dX2_leastRowUnlike_4 (fun H locs hP hD hS => ?_)
    refine lv_icmp_ge (tgt := 33) hx hb dX2_leastRowUnlike_7 (by decide) (fun hc => ?_) (fun hc => ?_)
    · have hf := ite_t hf hc
      refine lv_iconst (v := (-1)) hx hb dX2_leastRowUnlike_33 (by decide) ?_
      obtain rfl := Option.some.inj hf
      exact k_iret hx hb hr hlocks hK hP hD hS dX2_leastRowUnlike_34
    · have hf := ite_f hf hc
      refine lv_aload_n hx hb dX2_leastRowUnlike_10 rfl (lv_at hl 0 rfl) ?_
      refine lv_iload_n hx hb dX2_leastRowUnlike_11 rfl (lv_at hl 2 rfl) ?_
      refine lv_iconst (v := 0) hx hb dX2_leastRowUnlike_12 (by decide) ?_
      obtain ⟨q5, hq5, hf⟩ := bd_s hf
      refine k_pVi (wr := W2 cs h1 a1 i1 r1) (ws2 := W2 cs h0 a0 i0 r0 ++ W2 cs h1 a1 i1 r1) (As := [.int x2, .int 0]) (rest := []) hx hb hml hown hts hK hA hZ hl.1 hP hD hS (c_X2_outOf (h0 := h0) (a0 := a0) hq5) (gVt mlX2_69 imX2_outOf seX2_outOf inX2 coX2_outOf) rfl qnX2_outOf rfl rfl ⟨Nat.le_of_ble_eq_true rfl, Nat.le_of_ble_eq_true rfl⟩ [0, 1, 2, 3, 4] [5, 6, 7, 8, 9] [5, 6, 7, 8, 9, 0, 1, 2, 3, 4] rfl rfl rfl (by decide) 0 2 rfl rfl rfl rfl rfl (Nat.le_of_ble_eq_true rfl) ⟨Nat.zero_le _, Nat.zero_le _⟩ dX2_leastRowUnlike_13 (fun H locs hP hD hS => ?_)
      refine lv_aload_n hx hb dX2_leastRowUnlike_16 rfl (lv_at hl 1 rfl) ?_
      refine lv_iload_n hx hb dX2_leastRowUnlike_17 rfl (lv_at hl 2 rfl) ?_
      refine lv_iconst (v := 0) hx hb dX2_leastRowUnlike_18 (by decide) ?_
      obtain ⟨q6, hq6, hf⟩ := bd_s hf
      refine k_pVi (wr := W2 cs h0 a0 i0 r0) (ws2 := W2 cs h0 a0 i0 r0 ++ W2 cs h1 a1 i1 r1) (As := [.int x2, .int 0]) (rest := [.int q5]) hx hb hml hown hts hK hA hZ hl.1 hP hD hS (c_X2_outOf (h0 := h1) (a0 := a1) hq6) (gVt mlX2_69 imX2_outOf seX2_outOf inX2 coX2_outOf) rfl qnX2_outOf rfl rfl ⟨Nat.le_of_ble_eq_true rfl, Nat.le_of_ble_eq_true rfl⟩ [5, 6, 7, 8, 9] [0, 1, 2, 3, 4] [0, 1, 2, 3, 4, 5, 6, 7, 8, 9] rfl rfl rfl (by decide) 0 2 rfl rfl rfl rfl rfl (Nat.le_of_ble_eq_true rfl) ⟨Nat.zero_le _, Nat.zero_le _⟩ dX2_leastRowUnlike_19 (fun H locs hP hD hS => ?_)
      refine lv_icmp_eq (tgt := 27) hx hb dX2_leastRowUnlike_22 (by decide) (fun hc => ?_) (fun hc => ?_)
      · have hf := ite_t hf hc
        refine lv_iinc (v := x2 + 1) (lv' := [(2, .int (x2 + 1)), (0, .ref h0), (1, .ref h1)]) hx hb dX2_leastRowUnlike_27 hl (k := 2) rfl rfl (by decide) rfl (fun ls hl => ?_)
        refine lv_goto (tgt := 2) hx hb dX2_leastRowUnlike_30 (by decide) ?_
        exact ih _ _ _ _ hf hP hD hS (lv_sub hl [1, 2, 0] rfl)
      · have hf := ite_f hf hc
        refine lv_iload_n hx hb dX2_leastRowUnlike_25 rfl (lv_at hl 2 rfl) ?_
        obtain rfl := Option.some.inj hf
        exact k_iret hx hb hr hlocks hK hP hD hS dX2_leastRowUnlike_26
def f_X2_leastRowUnlike  (i0 : Nat → Int32) (r0 : Nat → Nat → Int32) (i1 : Nat → Int32) (r1 : Nat → Nat → Int32)  : Option (Int32) := f_X2_leastRowUnlike_2 i0 r0 i1 r1 2000000 0
set_option maxRecDepth 100000 in
set_option maxHeartbeats 4000000 in
theorem c_X2_leastRowUnlike {l : Launch} {D : va_G} {cs zs : Nat → Nat} {h0 : Nat} {a0 : Nat → Nat} {h1 : Nat} {a1 : Nat → Nat} {i0 : Nat → Int32} {r0 : Nat → Nat → Int32} {i1 : Nat → Int32} {r1 : Nat → Nat → Int32}  {q : Int32} (hf : f_X2_leastRowUnlike i0 r0 i1 r1 = some q) : Mi l yX2_leastRowUnlike wlX2_leastRowUnlike rmX2_leastRowUnlike D cs zs [.ref h0, .ref h1] (W2 cs h0 a0 i0 r0 ++ W2 cs h1 a1 i1 r1) q (W2 cs h0 a0 i0 r0 ++ W2 cs h1 a1 i1 r1) := by
  refine Mi.of RX2 (by decide) rfl (Nat.le_of_ble_eq_true rfl) (fun p e s m below meth c A C hP hD hS ls hl => ?_)
  generalize ([.ref h0, .ref h1] : List Value).toArray = args at C ⊢
  obtain ⟨hx, hb, hr, hml, hown, hts, hK, hA, hlocks, hZ⟩ := id C
  have hl : lv_has ls 3 [(0, .ref h0), (1, .ref h1)] := hl
  rw [f_X2_leastRowUnlike] at hf
  refine lv_iconst (v := 0) hx hb dX2_leastRowUnlike_0 (by decide) ?_
  refine lv_istore_n (lv' := [(2, .int 0), (0, .ref h0), (1, .ref h1)]) hx hb dX2_leastRowUnlike_1 rfl hl (by decide) rfl (fun ls hl => ?_)
  exact w_X2_leastRowUnlike_2 C  2000000 _ _ _ _ hf hP hD hS (lv_sub hl [1, 2, 0] rfl)
/-! MarbleFloor$Floor.fillTable([I)V -/
abbrev wlX2_fillTable : List Cond := Cond.code yX2_fillTable cX2_fillTable 3 none :: tbG
abbrev rmX2_fillTable : Room := { frames := 2, cells := 0, slots := 0, locals := 48 }
theorem qnX2_fillTable : yX2_fillTable.cls = RX2 ∧ yX2_fillTable.cls ≠ "java/lang/invoke/MethodHandle" ∧ yX2_fillTable.cls ≠ "java/lang/invoke/VarHandle" ∧ (parseMethodDescriptor yX2_fillTable.desc).map (fun d => d.parameters.length) = some 1 := by decide +kernel
def f_X2_fillTable_2 (n1 : Nat) (i0 : Nat → Int32) (r0 : Nat → Nat → Int32)  : Nat → (Nat → Int32) → Int32 → Option ((Nat → Int32))
  | 0, _, _ => none
  | n + 1, g1, x2 => bd (f_X2_rows i0 r0) (fun q3 => if q3 ≤ x2 then (some (g1)) else (if (Int32.ofNat n1) ≤ x2 then (some (g1)) else (bd (f_X2_outOf i0 r0 x2 0) (fun q4 => ck (inb x2 n1) (f_X2_fillTable_2 n1 i0 r0 n (upd g1 x2.toNatClampNeg q4) (x2 + 1))))))
set_option maxRecDepth 100000 in
set_option maxHeartbeats 4000000 in
theorem w_X2_fillTable_2 {p : Program} {l : Launch} {e : Env} {s : State} {m : MethodId} {args : Array Value} {below : List Frame} {meth : Method} {c : Code} {A : Nat → Prop} {D : va_G} {cs zs : Nat → Nat} {h0 : Nat} {a0 : Nat → Nat} {h1 n1 : Nat} {i0 : Nat → Int32} {r0 : Nat → Nat → Int32} {q : (Nat → Int32)} (C : Cx p s m args meth c A D cs zs cX2_fillTable 3 none RX2)  : ∀ (n : Nat), ∀ (g1 : Nat → Int32) (x2 : Int32) (H : Heap) (locs : List Loc) (ls : Array Slot), f_X2_fillTable_2 n1 i0 r0 n g1 x2 = some q → va_P D vwCl (W2 cs h0 a0 i0 r0 ++ [(h1, .inl (cs 0, n1, .inl g1))]) H → va_D A (W2 cs h0 a0 i0 r0 ++ [(h1, .inl (cs 0, n1, .inl g1))]) → va_S A s.heap H locs → lv_has ls 3 [(0, .ref h0), (1, .ref h1), (2, .int x2)] → W p l e rmX2_fillTable s m args below meth c H locs 0 0 (MQ below (Qv D cs A (W2 cs h0 a0 i0 r0 ++ [(h1, .inl (cs 0, n1, .inl q))])) args s 0 0 A) (F0 m 2 ls []) := by
  obtain ⟨hx, hb, hr, hml, hown, hts, hK, hA, hlocks, hZ⟩ := id C
  intro n
  induction n with
  | zero =>
    intro g1 x2 H locs ls hf
    rw [f_X2_fillTable_2] at hf
    cases hf
  | succ n ih =>
    intro g1 x2 H locs ls hf hP hD hS hl
    rw [f_X2_fillTable_2] at hf
    refine lv_iload_n hx hb dX2_fillTable_2 rfl (lv_at hl 2 rfl) ?_
    refine lv_aload_n hx hb dX2_fillTable_3 rfl (lv_at hl 0 rfl) ?_
    obtain ⟨q3, hq3, hf⟩ := bd_s hf
    refine k_pVi (wr := [(h1, .inl (cs 0, n1, .inl g1))]) (ws2 := W2 cs h0 a0 i0 r0 ++ [(h1, .inl (cs 0, n1, .inl g1))]) (As := []) (rest := [.int x2]) hx hb hml hown hts hK hA hZ hl.1 hP hD hS (c_X2_rows (h0 := h0) (a0 := a0) hq3) (gVt mlX2_62 imX2_rows seX2_rows inX2 coX2_rows) rfl qnX2_rows rfl rfl ⟨Nat.le_of_ble_eq_true rfl, Nat.le_of_ble_eq_true rfl⟩ [0, 1, 2, 3, 4] [5] [1, 2, 3, 4, 5, 0] rfl rfl rfl (by decide) 0 2 rfl rfl rfl rfl rfl (Nat.le_of_ble_eq_true rfl) ⟨Nat.zero_le _, Nat.zero_le _⟩ dX2_fillTable_4 (fun H locs hP hD hS => ?_)
    refine lv_icmp_ge (tgt := 31) hx hb dX2_fillTable_7 (by decide) (fun hc => ?_) (fun hc => ?_)
    · have hf := ite_t hf hc
      obtain rfl := Option.some.inj hf
      exact k_vret hx hb hr hlocks hK hP hD hS dX2_fillTable_31
    · have hf := ite_f hf hc
      refine lv_iload_n hx hb dX2_fillTable_10 rfl (lv_at hl 2 rfl) ?_
      refine lv_aload_n hx hb dX2_fillTable_11 rfl (lv_at hl 1 rfl) ?_
      refine va_alen (v := Int32.ofNat n1) hx hb hK hP 5 0 rfl rfl rfl dX2_fillTable_12 ?_
      refine lv_icmp_ge (tgt := 31) hx hb dX2_fillTable_13 (by decide) (fun hc => ?_) (fun hc => ?_)
      · have hf := ite_t hf hc
        obtain rfl := Option.some.inj hf
        exact k_vret hx hb hr hlocks hK hP hD hS dX2_fillTable_31
      · have hf := ite_f hf hc
        refine lv_aload_n hx hb dX2_fillTable_16 rfl (lv_at hl 1 rfl) ?_
        refine lv_iload_n hx hb dX2_fillTable_17 rfl (lv_at hl 2 rfl) ?_
        refine lv_aload_n hx hb dX2_fillTable_18 rfl (lv_at hl 0 rfl) ?_
        refine lv_iload_n hx hb dX2_fillTable_19 rfl (lv_at hl 2 rfl) ?_
        refine lv_iconst (v := 0) hx hb dX2_fillTable_20 (by decide) ?_
        obtain ⟨q4, hq4, hf⟩ := bd_s hf
        refine k_pVi (wr := [(h1, .inl (cs 0, n1, .inl g1))]) (ws2 := W2 cs h0 a0 i0 r0 ++ [(h1, .inl (cs 0, n1, .inl g1))]) (As := [.int x2, .int 0]) (rest := [.int x2, .ref h1]) hx hb hml hown hts hK hA hZ hl.1 hP hD hS (c_X2_outOf (h0 := h0) (a0 := a0) hq4) (gVt mlX2_69 imX2_outOf seX2_outOf inX2 coX2_outOf) rfl qnX2_outOf rfl rfl ⟨Nat.le_of_ble_eq_true rfl, Nat.le_of_ble_eq_true rfl⟩ [0, 1, 2, 3, 4] [5] [1, 2, 3, 4, 5, 0] rfl rfl rfl (by decide) 0 2 rfl rfl rfl rfl rfl (Nat.le_of_ble_eq_true rfl) ⟨Nat.zero_le _, Nat.zero_le _⟩ dX2_fillTable_21 (fun H locs hP hD hS => ?_)
        refine va_iast (f := g1) hx hb hK hP hD hS 5 0 rfl rfl (ck_in hf) dX2_fillTable_24 (fun H locs hP hD hS => ?_)
        have hf := ck_2 hf
        have hP : va_P D vwCl (W2 cs h0 a0 i0 r0 ++ [(h1, .inl (cs 0, n1, .inl (upd g1 x2.toNatClampNeg q4)))]) H := hP
        have hD : va_D A (W2 cs h0 a0 i0 r0 ++ [(h1, .inl (cs 0, n1, .inl (upd g1 x2.toNatClampNeg q4)))]) := hD
        refine lv_iinc (v := x2 + 1) (lv' := [(2, .int (x2 + 1)), (0, .ref h0), (1, .ref h1)]) hx hb dX2_fillTable_25 hl (k := 2) rfl rfl (by decide) rfl (fun ls hl => ?_)
        refine lv_goto (tgt := 2) hx hb dX2_fillTable_28 (by decide) ?_
        exact ih _ _ _ _ _ hf hP hD hS (lv_sub hl [1, 2, 0] rfl)
def f_X2_fillTable (n1 : Nat) (i0 : Nat → Int32) (r0 : Nat → Nat → Int32) (g1 : Nat → Int32)  : Option ((Nat → Int32)) := f_X2_fillTable_2 n1 i0 r0 2000000 g1 0
set_option maxRecDepth 100000 in
set_option maxHeartbeats 4000000 in
theorem c_X2_fillTable {l : Launch} {D : va_G} {cs zs : Nat → Nat} {h0 : Nat} {a0 : Nat → Nat} {h1 n1 : Nat} {i0 : Nat → Int32} {r0 : Nat → Nat → Int32} {g1 : Nat → Int32}  {q : (Nat → Int32)} (hf : f_X2_fillTable n1 i0 r0 g1 = some q) : Mv l yX2_fillTable wlX2_fillTable rmX2_fillTable D cs zs [.ref h0, .ref h1] (W2 cs h0 a0 i0 r0 ++ [(h1, .inl (cs 0, n1, .inl g1))]) (W2 cs h0 a0 i0 r0 ++ [(h1, .inl (cs 0, n1, .inl q))]) := by
  refine Mv.of RX2 (by decide) rfl (Nat.le_of_ble_eq_true rfl) (fun p e s m below meth c A C hP hD hS ls hl => ?_)
  generalize ([.ref h0, .ref h1] : List Value).toArray = args at C ⊢
  obtain ⟨hx, hb, hr, hml, hown, hts, hK, hA, hlocks, hZ⟩ := id C
  have hl : lv_has ls 3 [(0, .ref h0), (1, .ref h1)] := hl
  rw [f_X2_fillTable] at hf
  refine lv_iconst (v := 0) hx hb dX2_fillTable_0 (by decide) ?_
  refine lv_istore_n (lv' := [(2, .int 0), (0, .ref h0), (1, .ref h1)]) hx hb dX2_fillTable_1 rfl hl (by decide) rfl (fun ls hl => ?_)
  exact w_X2_fillTable_2 C  2000000 _ _ _ _ _ hf hP hD hS (lv_sub hl [1, 2, 0] rfl)
