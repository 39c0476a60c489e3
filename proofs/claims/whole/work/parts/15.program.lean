def fs5 (a : Nat → Nat) (i : Nat → Int32) : List Value := [.ref (a 0), .ref (a 1), .ref (a 2), .ref (a 3), .ref (a 4), .ref (a 5), .ref (a 6), .ref (a 7), .ref (a 8), .ref (a 9), .ref (a 10), .ref (a 11), .ref (a 12), .int (i 13), .int (i 14), .int (i 15)]
def W5 (cs : Nat → ClassId) (h : Nat) (a : Nat → Nat) (i : Nat → Int32) (r : Nat → Nat → Int32) (l : Nat → Nat → Int64) : va_W := [(h, .inr (5, fs5 a i)), (a 0, .inl (cs 0, 60, .inl (r 0))), (a 1, .inl (cs 0, 60, .inl (r 1))), (a 2, .inl (cs 0, 60, .inl (r 2))), (a 3, .inl (cs 0, 60, .inl (r 3))), (a 4, .inl (cs 0, 60, .inl (r 4))), (a 5, .inl (cs 0, 60, .inl (r 5))), (a 6, .inl (cs 1, 60, .inr (.inl (l 6)))), (a 7, .inl (cs 0, 120, .inl (r 7))), (a 8, .inl (cs 0, 120, .inl (r 8))), (a 9, .inl (cs 0, 126, .inl (r 9))), (a 10, .inl (cs 0, 126, .inl (r 10))), (a 11, .inl (cs 1, 6, .inr (.inl (l 11)))), (a 12, .inl (cs 0, 900, .inl (r 12)))]
theorem st5_0 {D : va_G} {A : Nat → Prop} {H : Heap} {cs : Nat → ClassId} {h : Nat} {a : Nat → Nat} {i : Nat → Int32} {r : Nat → Nat → Int32} {l : Nat → Nat → Int64} {f : Nat → Int32} (hP : va_P D vwCl ((W5 cs h a i r l).set 1 (a 0, .inl (cs 0, 60, .inl f))) H) (hD : va_D A ((W5 cs h a i r l).set 1 (a 0, .inl (cs 0, 60, .inl f)))) : va_P D vwCl (W5 cs h a i (va_up r 0 f) l) H ∧ va_D A (W5 cs h a i (va_up r 0 f) l) := ⟨hP, hD⟩
theorem st5_1 {D : va_G} {A : Nat → Prop} {H : Heap} {cs : Nat → ClassId} {h : Nat} {a : Nat → Nat} {i : Nat → Int32} {r : Nat → Nat → Int32} {l : Nat → Nat → Int64} {f : Nat → Int32} (hP : va_P D vwCl ((W5 cs h a i r l).set 2 (a 1, .inl (cs 0, 60, .inl f))) H) (hD : va_D A ((W5 cs h a i r l).set 2 (a 1, .inl (cs 0, 60, .inl f)))) : va_P D vwCl (W5 cs h a i (va_up r 1 f) l) H ∧ va_D A (W5 cs h a i (va_up r 1 f) l) := ⟨hP, hD⟩
theorem st5_2 {D : va_G} {A : Nat → Prop} {H : Heap} {cs : Nat → ClassId} {h : Nat} {a : Nat → Nat} {i : Nat → Int32} {r : Nat → Nat → Int32} {l : Nat → Nat → Int64} {f : Nat → Int32} (hP : va_P D vwCl ((W5 cs h a i r l).set 3 (a 2, .inl (cs 0, 60, .inl f))) H) (hD : va_D A ((W5 cs h a i r l).set 3 (a 2, .inl (cs 0, 60, .inl f)))) : va_P D vwCl (W5 cs h a i (va_up r 2 f) l) H ∧ va_D A (W5 cs h a i (va_up r 2 f) l) := ⟨hP, hD⟩
theorem st5_3 {D : va_G} {A : Nat → Prop} {H : Heap} {cs : Nat → ClassId} {h : Nat} {a : Nat → Nat} {i : Nat → Int32} {r : Nat → Nat → Int32} {l : Nat → Nat → Int64} {f : Nat → Int32} (hP : va_P D vwCl ((W5 cs h a i r l).set 4 (a 3, .inl (cs 0, 60, .inl f))) H) (hD : va_D A ((W5 cs h a i r l).set 4 (a 3, .inl (cs 0, 60, .inl f)))) : va_P D vwCl (W5 cs h a i (va_up r 3 f) l) H ∧ va_D A (W5 cs h a i (va_up r 3 f) l) := ⟨hP, hD⟩
theorem st5_4 {D : va_G} {A : Nat → Prop} {H : Heap} {cs : Nat → ClassId} {h : Nat} {a : Nat → Nat} {i : Nat → Int32} {r : Nat → Nat → Int32} {l : Nat → Nat → Int64} {f : Nat → Int32} (hP : va_P D vwCl ((W5 cs h a i r l).set 5 (a 4, .inl (cs 0, 60, .inl f))) H) (hD : va_D A ((W5 cs h a i r l).set 5 (a 4, .inl (cs 0, 60, .inl f)))) : va_P D vwCl (W5 cs h a i (va_up r 4 f) l) H ∧ va_D A (W5 cs h a i (va_up r 4 f) l) := ⟨hP, hD⟩
theorem st5_5 {D : va_G} {A : Nat → Prop} {H : Heap} {cs : Nat → ClassId} {h : Nat} {a : Nat → Nat} {i : Nat → Int32} {r : Nat → Nat → Int32} {l : Nat → Nat → Int64} {f : Nat → Int32} (hP : va_P D vwCl ((W5 cs h a i r l).set 6 (a 5, .inl (cs 0, 60, .inl f))) H) (hD : va_D A ((W5 cs h a i r l).set 6 (a 5, .inl (cs 0, 60, .inl f)))) : va_P D vwCl (W5 cs h a i (va_up r 5 f) l) H ∧ va_D A (W5 cs h a i (va_up r 5 f) l) := ⟨hP, hD⟩
theorem st5_6 {D : va_G} {A : Nat → Prop} {H : Heap} {cs : Nat → ClassId} {h : Nat} {a : Nat → Nat} {i : Nat → Int32} {r : Nat → Nat → Int32} {l : Nat → Nat → Int64} {f : Nat → Int64} (hP : va_P D vwCl ((W5 cs h a i r l).set 7 (a 6, .inl (cs 1, 60, .inr (.inl f)))) H) (hD : va_D A ((W5 cs h a i r l).set 7 (a 6, .inl (cs 1, 60, .inr (.inl f))))) : va_P D vwCl (W5 cs h a i r (va_up l 6 f)) H ∧ va_D A (W5 cs h a i r (va_up l 6 f)) := ⟨hP, hD⟩
theorem st5_7 {D : va_G} {A : Nat → Prop} {H : Heap} {cs : Nat → ClassId} {h : Nat} {a : Nat → Nat} {i : Nat → Int32} {r : Nat → Nat → Int32} {l : Nat → Nat → Int64} {f : Nat → Int32} (hP : va_P D vwCl ((W5 cs h a i r l).set 8 (a 7, .inl (cs 0, 120, .inl f))) H) (hD : va_D A ((W5 cs h a i r l).set 8 (a 7, .inl (cs 0, 120, .inl f)))) : va_P D vwCl (W5 cs h a i (va_up r 7 f) l) H ∧ va_D A (W5 cs h a i (va_up r 7 f) l) := ⟨hP, hD⟩
theorem st5_8 {D : va_G} {A : Nat → Prop} {H : Heap} {cs : Nat → ClassId} {h : Nat} {a : Nat → Nat} {i : Nat → Int32} {r : Nat → Nat → Int32} {l : Nat → Nat → Int64} {f : Nat → Int32} (hP : va_P D vwCl ((W5 cs h a i r l).set 9 (a 8, .inl (cs 0, 120, .inl f))) H) (hD : va_D A ((W5 cs h a i r l).set 9 (a 8, .inl (cs 0, 120, .inl f)))) : va_P D vwCl (W5 cs h a i (va_up r 8 f) l) H ∧ va_D A (W5 cs h a i (va_up r 8 f) l) := ⟨hP, hD⟩
theorem st5_9 {D : va_G} {A : Nat → Prop} {H : Heap} {cs : Nat → ClassId} {h : Nat} {a : Nat → Nat} {i : Nat → Int32} {r : Nat → Nat → Int32} {l : Nat → Nat → Int64} {f : Nat → Int32} (hP : va_P D vwCl ((W5 cs h a i r l).set 10 (a 9, .inl (cs 0, 126, .inl f))) H) (hD : va_D A ((W5 cs h a i r l).set 10 (a 9, .inl (cs 0, 126, .inl f)))) : va_P D vwCl (W5 cs h a i (va_up r 9 f) l) H ∧ va_D A (W5 cs h a i (va_up r 9 f) l) := ⟨hP, hD⟩
theorem st5_10 {D : va_G} {A : Nat → Prop} {H : Heap} {cs : Nat → ClassId} {h : Nat} {a : Nat → Nat} {i : Nat → Int32} {r : Nat → Nat → Int32} {l : Nat → Nat → Int64} {f : Nat → Int32} (hP : va_P D vwCl ((W5 cs h a i r l).set 11 (a 10, .inl (cs 0, 126, .inl f))) H) (hD : va_D A ((W5 cs h a i r l).set 11 (a 10, .inl (cs 0, 126, .inl f)))) : va_P D vwCl (W5 cs h a i (va_up r 10 f) l) H ∧ va_D A (W5 cs h a i (va_up r 10 f) l) := ⟨hP, hD⟩
theorem st5_11 {D : va_G} {A : Nat → Prop} {H : Heap} {cs : Nat → ClassId} {h : Nat} {a : Nat → Nat} {i : Nat → Int32} {r : Nat → Nat → Int32} {l : Nat → Nat → Int64} {f : Nat → Int64} (hP : va_P D vwCl ((W5 cs h a i r l).set 12 (a 11, .inl (cs 1, 6, .inr (.inl f)))) H) (hD : va_D A ((W5 cs h a i r l).set 12 (a 11, .inl (cs 1, 6, .inr (.inl f))))) : va_P D vwCl (W5 cs h a i r (va_up l 11 f)) H ∧ va_D A (W5 cs h a i r (va_up l 11 f)) := ⟨hP, hD⟩
theorem st5_12 {D : va_G} {A : Nat → Prop} {H : Heap} {cs : Nat → ClassId} {h : Nat} {a : Nat → Nat} {i : Nat → Int32} {r : Nat → Nat → Int32} {l : Nat → Nat → Int64} {f : Nat → Int32} (hP : va_P D vwCl ((W5 cs h a i r l).set 13 (a 12, .inl (cs 0, 900, .inl f))) H) (hD : va_D A ((W5 cs h a i r l).set 13 (a 12, .inl (cs 0, 900, .inl f)))) : va_P D vwCl (W5 cs h a i (va_up r 12 f) l) H ∧ va_D A (W5 cs h a i (va_up r 12 f) l) := ⟨hP, hD⟩
theorem st5_13 {D : va_G} {A : Nat → Prop} {H : Heap} {cs : Nat → ClassId} {h : Nat} {a : Nat → Nat} {i : Nat → Int32} {r : Nat → Nat → Int32} {l : Nat → Nat → Int64} {v : Int32} (hP : va_P D vwCl ((W5 cs h a i r l).set 0 (h, .inr (5, (fs5 a i).set 13 (.int v)))) H) (hD : va_D A ((W5 cs h a i r l).set 0 (h, .inr (5, (fs5 a i).set 13 (.int v))))) : va_P D vwCl (W5 cs h a (upd i 13 v) r l) H ∧ va_D A (W5 cs h a (upd i 13 v) r l) := ⟨hP, hD⟩
theorem st5_14 {D : va_G} {A : Nat → Prop} {H : Heap} {cs : Nat → ClassId} {h : Nat} {a : Nat → Nat} {i : Nat → Int32} {r : Nat → Nat → Int32} {l : Nat → Nat → Int64} {v : Int32} (hP : va_P D vwCl ((W5 cs h a i r l).set 0 (h, .inr (5, (fs5 a i).set 14 (.int v)))) H) (hD : va_D A ((W5 cs h a i r l).set 0 (h, .inr (5, (fs5 a i).set 14 (.int v))))) : va_P D vwCl (W5 cs h a (upd i 14 v) r l) H ∧ va_D A (W5 cs h a (upd i 14 v) r l) := ⟨hP, hD⟩
theorem st5_15 {D : va_G} {A : Nat → Prop} {H : Heap} {cs : Nat → ClassId} {h : Nat} {a : Nat → Nat} {i : Nat → Int32} {r : Nat → Nat → Int32} {l : Nat → Nat → Int64} {v : Int32} (hP : va_P D vwCl ((W5 cs h a i r l).set 0 (h, .inr (5, (fs5 a i).set 15 (.int v)))) H) (hD : va_D A ((W5 cs h a i r l).set 0 (h, .inr (5, (fs5 a i).set 15 (.int v))))) : va_P D vwCl (W5 cs h a (upd i 15 v) r l) H ∧ va_D A (W5 cs h a (upd i 15 v) r l) := ⟨hP, hD⟩
/-! MarbleFloor$Program.clear()V -/
abbrev wlX5_clear : List Cond := Cond.code yX5_clear cX5_clear 1 none :: tbG
abbrev rmX5_clear : Room := { frames := 1, cells := 0, slots := 0, locals := 23 }
theorem qnX5_clear : yX5_clear.cls = RX5 ∧ yX5_clear.cls ≠ "java/lang/invoke/MethodHandle" ∧ yX5_clear.cls ≠ "java/lang/invoke/VarHandle" ∧ (parseMethodDescriptor yX5_clear.desc).map (fun d => d.parameters.length) = some 0 := by decide +kernel
def f_X5_clear_23 (l0 : Nat → Nat → Int64)  (i0 : Nat → Int32) (r0 : Nat → Nat → Int32) : Option ((Nat → Int32) × (Nat → Nat → Int32)) := bd (f_J7_fill_53178 126 (r0 10) (-1)) (fun q3 => some (i0, (va_up r0 10 q3)))
set_option maxRecDepth 100000 in
set_option maxHeartbeats 4000000 in
theorem w_X5_clear_23 {p : Program} {l : Launch} {e : Env} {s : State} {m : MethodId} {args : Array Value} {below : List Frame} {meth : Method} {c : Code} {A : Nat → Prop} {D : va_G} {cs zs : Nat → Nat} {h0 : Nat} {a0 : Nat → Nat} {l0 : Nat → Nat → Int64} {q : (Nat → Int32) × (Nat → Nat → Int32)} (C : Cx p s m args meth c A D cs zs cX5_clear 1 none RX5)  : ∀ (i0 : Nat → Int32) (r0 : Nat → Nat → Int32) (H : Heap) (locs : List Loc) (ls : Array Slot), f_X5_clear_23 l0 i0 r0 = some q → va_P D vwCl (W5 cs h0 a0 i0 r0 l0) H → va_D A (W5 cs h0 a0 i0 r0 l0) → va_S A s.heap H locs → lv_has ls 1 [(0, .ref h0)] → W p l e rmX5_clear s m args below meth c H locs 0 0 (MQ below (Qv D cs A (W5 cs h0 a0 q.1 q.2 l0)) args s 0 0 A) (F0 m 23 ls []) := by
  obtain ⟨hx, hb, hr, hml, hown, hts, hK, hA, hlocks, hZ⟩ := id C
  intro i0 r0 H locs ls hf hP hD hS hl
  rw [f_X5_clear_23] at hf
  refine lv_aload_n hx hb dX5_clear_23 rfl (lv_at hl 0 rfl) ?_
  refine va_get (D := D) (ci := 5) (v := .ref (a0 10)) (C := RX5) (T := TX5) (N := 16) hx hb hts hiX5 hown hK hP 0 rfl rfl 10 (by decide) (hts _ flX5_43) (fun _ h9 => h9) rfl dX5_clear_24 ?_
  refine lv_iconst (v := (-1)) hx hb dX5_clear_27 (by decide) ?_
  obtain ⟨q3, hq3, hf⟩ := bd_s hf
  refine k_pSv (wr := [(h0, .inr (5, fs5 a0 i0)), (a0 0, .inl (cs 0, 60, .inl (r0 0))), (a0 1, .inl (cs 0, 60, .inl (r0 1))), (a0 2, .inl (cs 0, 60, .inl (r0 2))), (a0 3, .inl (cs 0, 60, .inl (r0 3))), (a0 4, .inl (cs 0, 60, .inl (r0 4))), (a0 5, .inl (cs 0, 60, .inl (r0 5))), (a0 6, .inl (cs 1, 60, .inr (.inl (l0 6)))), (a0 7, .inl (cs 0, 120, .inl (r0 7))), (a0 8, .inl (cs 0, 120, .inl (r0 8))), (a0 9, .inl (cs 0, 126, .inl (r0 9))), (a0 11, .inl (cs 1, 6, .inr (.inl (l0 11)))), (a0 12, .inl (cs 0, 900, .inl (r0 12)))]) (ws2 := W5 cs h0 a0 i0 (va_up r0 10 q3) l0) (As := [.ref (a0 10), .int (-1)]) (rest := []) hx hb hml hown hts hK hA hZ hl.1 hP hD hS (c_J7_fill_53178 (h0 := (a0 10)) (n0 := 126) hq3) (gSt mlX5_67 stJ7_fill_53178 inJ7 coJ7_fill_53178) rfl qnJ7_fill_53178 rfl rfl ⟨Nat.le_of_ble_eq_true rfl, Nat.le_of_ble_eq_true rfl⟩ [11] [0, 1, 2, 3, 4, 5, 6, 7, 8, 9, 10, 12, 13] [0, 1, 2, 3, 4, 5, 6, 7, 8, 9, 10, 13, 11, 12] rfl rfl rfl (by decide) rfl rfl (Nat.le_of_ble_eq_true rfl) ⟨Nat.zero_le _, Nat.zero_le _⟩ dX5_clear_28 (fun H locs hP hD hS => ?_)
  obtain rfl := Option.some.inj hf
  exact k_vret hx hb hr hlocks hK hP hD hS dX5_clear_31
def f_X5_clear  (i0 : Nat → Int32) (r0 : Nat → Nat → Int32) (l0 : Nat → Nat → Int64)  : Option ((Nat → Int32) × (Nat → Nat → Int32)) := bd (f_J7_fill_53178 126 (r0 9) (-1)) (fun q4 => f_X5_clear_23 l0 (upd (upd (upd i0 13 0) 14 0) 15 0) (va_up r0 9 q4))
set_option maxRecDepth 100000 in
set_option maxHeartbeats 4000000 in
theorem c_X5_clear {l : Launch} {D : va_G} {cs zs : Nat → Nat} {h0 : Nat} {a0 : Nat → Nat} {i0 : Nat → Int32} {r0 : Nat → Nat → Int32} {l0 : Nat → Nat → Int64}  {q : (Nat → Int32) × (Nat → Nat → Int32)} (hf : f_X5_clear i0 r0 l0 = some q) : Mv l yX5_clear wlX5_clear rmX5_clear D cs zs [.ref h0] (W5 cs h0 a0 i0 r0 l0) (W5 cs h0 a0 q.1 q.2 l0) := by
  refine Mv.of RX5 (by decide) rfl (Nat.le_of_ble_eq_true rfl) (fun p e s m below meth c A C hP hD hS ls hl => ?_)
  generalize ([.ref h0] : List Value).toArray = args at C ⊢
  obtain ⟨hx, hb, hr, hml, hown, hts, hK, hA, hlocks, hZ⟩ := id C
  have hl : lv_has ls 1 [(0, .ref h0)] := hl
  rw [f_X5_clear] at hf
  refine lv_aload_n hx hb dX5_clear_0 rfl (lv_at hl 0 rfl) ?_
  refine lv_iconst (v := 0) hx hb dX5_clear_1 (by decide) ?_
  refine va_put (D := D) (ci := 5) (v := .int 0) (ty := .int) (C := RX5) (T := TX5) (N := 16) hx hb hts hiX5 tyX5 tyX5_ok nmX5 hown hK hP hD hS 0 rfl rfl 13 (by decide) (hts _ flX5_57) (fun _ h9 => h9) rfl (tyX5_ok 13 (by decide)) rfl rfl (Nat.le_of_ble_eq_true rfl) dX5_clear_2 (fun H locs hP hD hS => ?_)
  obtain ⟨hP, hD⟩ := st5_13 hP hD
  refine lv_aload_n hx hb dX5_clear_5 rfl (lv_at hl 0 rfl) ?_
  refine lv_iconst (v := 0) hx hb dX5_clear_6 (by decide) ?_
  refine va_put (D := D) (ci := 5) (v := .int 0) (ty := .int) (C := RX5) (T := TX5) (N := 16) hx hb hts hiX5 tyX5 tyX5_ok nmX5 hown hK hP hD hS 0 rfl rfl 14 (by decide) (hts _ flX5_61) (fun _ h9 => h9) rfl (tyX5_ok 14 (by decide)) rfl rfl (Nat.le_of_ble_eq_true rfl) dX5_clear_7 (fun H locs hP hD hS => ?_)
  obtain ⟨hP, hD⟩ := st5_14 hP hD
  refine lv_aload_n hx hb dX5_clear_10 rfl (lv_at hl 0 rfl) ?_
  refine lv_iconst (v := 0) hx hb dX5_clear_11 (by decide) ?_
  refine va_put (D := D) (ci := 5) (v := .int 0) (ty := .int) (C := RX5) (T := TX5) (N := 16) hx hb hts hiX5 tyX5 tyX5_ok nmX5 hown hK hP hD hS 0 rfl rfl 15 (by decide) (hts _ flX5_64) (fun _ h9 => h9) rfl (tyX5_ok 15 (by decide)) rfl rfl (Nat.le_of_ble_eq_true rfl) dX5_clear_12 (fun H locs hP hD hS => ?_)
  obtain ⟨hP, hD⟩ := st5_15 hP hD
  refine lv_aload_n hx hb dX5_clear_15 rfl (lv_at hl 0 rfl) ?_
  refine va_get (D := D) (ci := 5) (v := .ref (a0 9)) (C := RX5) (T := TX5) (N := 16) hx hb hts hiX5 hown hK hP 0 rfl rfl 9 (by decide) (hts _ flX5_40) (fun _ h9 => h9) rfl dX5_clear_16 ?_
  refine lv_iconst (v := (-1)) hx hb dX5_clear_19 (by decide) ?_
  obtain ⟨q4, hq4, hf⟩ := bd_s hf
  refine k_pSv (wr := [(h0, .inr (5, fs5 a0 (upd (upd (upd i0 13 0) 14 0) 15 0))), (a0 0, .inl (cs 0, 60, .inl (r0 0))), (a0 1, .inl (cs 0, 60, .inl (r0 1))), (a0 2, .inl (cs 0, 60, .inl (r0 2))), (a0 3, .inl (cs 0, 60, .inl (r0 3))), (a0 4, .inl (cs 0, 60, .inl (r0 4))), (a0 5, .inl (cs 0, 60, .inl (r0 5))), (a0 6, .inl (cs 1, 60, .inr (.inl (l0 6)))), (a0 7, .inl (cs 0, 120, .inl (r0 7))), (a0 8, .inl (cs 0, 120, .inl (r0 8))), (a0 10, .inl (cs 0, 126, .inl (r0 10))), (a0 11, .inl (cs 1, 6, .inr (.inl (l0 11)))), (a0 12, .inl (cs 0, 900, .inl (r0 12)))]) (ws2 := W5 cs h0 a0 (upd (upd (upd i0 13 0) 14 0) 15 0) (va_up r0 9 q4) l0) (As := [.ref (a0 9), .int (-1)]) (rest := []) hx hb hml hown hts hK hA hZ hl.1 hP hD hS (c_J7_fill_53178 (h0 := (a0 9)) (n0 := 126) hq4) (gSt mlX5_67 stJ7_fill_53178 inJ7 coJ7_fill_53178) rfl qnJ7_fill_53178 rfl rfl ⟨Nat.le_of_ble_eq_true rfl, Nat.le_of_ble_eq_true rfl⟩ [10] [0, 1, 2, 3, 4, 5, 6, 7, 8, 9, 11, 12, 13] [0, 1, 2, 3, 4, 5, 6, 7, 8, 9, 13, 10, 11, 12] rfl rfl rfl (by decide) rfl rfl (Nat.le_of_ble_eq_true rfl) ⟨Nat.zero_le _, Nat.zero_le _⟩ dX5_clear_20 (fun H locs hP hD hS => ?_)
  exact w_X5_clear_23 C  _ _ _ _ _ hf hP hD hS (lv_sub hl [0] rfl)
/-! MarbleFloor$Program.procs()I -/
abbrev wlX5_procs : List Cond := Cond.code yX5_procs cX5_procs 1 (some .int) :: tbG
abbrev rmX5_procs : Room := { frames := 0, cells := 0, slots := 0, locals := 0 }
theorem qnX5_procs : yX5_procs.cls = RX5 ∧ yX5_procs.cls ≠ "java/lang/invoke/MethodHandle" ∧ yX5_procs.cls ≠ "java/lang/invoke/VarHandle" ∧ (parseMethodDescriptor yX5_procs.desc).map (fun d => d.parameters.length) = some 0 := by decide +kernel
def f_X5_procs  (i0 : Nat → Int32) (r0 : Nat → Nat → Int32) (l0 : Nat → Nat → Int64)  : Option (Int32) := some (i0 14)
set_option maxRecDepth 100000 in
set_option maxHeartbeats 4000000 in
theorem c_X5_procs {l : Launch} {D : va_G} {cs zs : Nat → Nat} {h0 : Nat} {a0 : Nat → Nat} {i0 : Nat → Int32} {r0 : Nat → Nat → Int32} {l0 : Nat → Nat → Int64}  {q : Int32} (hf : f_X5_procs i0 r0 l0 = some q) : Mi l yX5_procs wlX5_procs rmX5_procs D cs zs [.ref h0] (W5 cs h0 a0 i0 r0 l0) q (W5 cs h0 a0 i0 r0 l0) := by
  refine Mi.of RX5 (by decide) rfl (Nat.le_of_ble_eq_true rfl) (fun p e s m below meth c A C hP hD hS ls hl => ?_)
  generalize ([.ref h0] : List Value).toArray = args at C ⊢
  obtain ⟨hx, hb, hr, hml, hown, hts, hK, hA, hlocks, hZ⟩ := id C
  have hl : lv_has ls 1 [(0, .ref h0)] := hl
  rw [f_X5_procs] at hf
  refine lv_aload_n hx hb dX5_procs_0 rfl (lv_at hl 0 rfl) ?_
  refine va_get (D := D) (ci := 5) (v := .int (i0 14)) (C := RX5) (T := TX5) (N := 16) hx hb hts hiX5 hown hK hP 0 rfl rfl 14 (by decide) (hts _ flX5_61) (fun _ h9 => h9) rfl dX5_procs_1 ?_
  obtain rfl := Option.some.inj hf
  exact k_iret hx hb hr hlocks hK hP hD hS dX5_procs_4
/-! MarbleFloor$Program.steps()I -/
abbrev wlX5_steps : List Cond := Cond.code yX5_steps cX5_steps 1 (some .int) :: tbG
abbrev rmX5_steps : Room := { frames := 0, cells := 0, slots := 0, locals := 0 }
theorem qnX5_steps : yX5_steps.cls = RX5 ∧ yX5_steps.cls ≠ "java/lang/invoke/MethodHandle" ∧ yX5_steps.cls ≠ "java/lang/invoke/VarHandle" ∧ (parseMethodDescriptor yX5_steps.desc).map (fun d => d.parameters.length) = some 0 := by decide +kernel
def f_X5_steps  (i0 : Nat → Int32) (r0 : Nat → Nat → Int32) (l0 : Nat → Nat → Int64)  : Option (Int32) := some (i0 13)
set_option maxRecDepth 100000 in
set_option maxHeartbeats 4000000 in
theorem c_X5_steps {l : Launch} {D : va_G} {cs zs : Nat → Nat} {h0 : Nat} {a0 : Nat → Nat} {i0 : Nat → Int32} {r0 : Nat → Nat → Int32} {l0 : Nat → Nat → Int64}  {q : Int32} (hf : f_X5_steps i0 r0 l0 = some q) : Mi l yX5_steps wlX5_steps rmX5_steps D cs zs [.ref h0] (W5 cs h0 a0 i0 r0 l0) q (W5 cs h0 a0 i0 r0 l0) := by
  refine Mi.of RX5 (by decide) rfl (Nat.le_of_ble_eq_true rfl) (fun p e s m below meth c A C hP hD hS ls hl => ?_)
  generalize ([.ref h0] : List Value).toArray = args at C ⊢
  obtain ⟨hx, hb, hr, hml, hown, hts, hK, hA, hlocks, hZ⟩ := id C
  have hl : lv_has ls 1 [(0, .ref h0)] := hl
  rw [f_X5_steps] at hf
  refine lv_aload_n hx hb dX5_steps_0 rfl (lv_at hl 0 rfl) ?_
  refine va_get (D := D) (ci := 5) (v := .int (i0 13)) (C := RX5) (T := TX5) (N := 16) hx hb hts hiX5 hown hK hP 0 rfl rfl 13 (by decide) (hts _ flX5_57) (fun _ h9 => h9) rfl dX5_steps_1 ?_
  obtain rfl := Option.some.inj hf
  exact k_iret hx hb hr hlocks hK hP hD hS dX5_steps_4
/-! MarbleFloor$Program.procNamed(J)I -/
abbrev wlX5_procNamed : List Cond := Cond.code yX5_procNamed cX5_procNamed 4 (some .int) :: tbG
abbrev rmX5_procNamed : Room := { frames := 0, cells := 0, slots := 0, locals := 0 }
theorem qnX5_procNamed : yX5_procNamed.cls = RX5 ∧ yX5_procNamed.cls ≠ "java/lang/invoke/MethodHandle" ∧ yX5_procNamed.cls ≠ "java/lang/invoke/VarHandle" ∧ (parseMethodDescriptor yX5_procNamed.desc).map (fun d => d.parameters.length) = some 1 := by decide +kernel
def f_X5_procNamed_2 (i0 : Nat → Int32) (r0 : Nat → Nat → Int32) (l0 : Nat → Nat → Int64)  : Nat → Int64 → Int32 → Option (Int32)
  | 0, _, _ => none
  | n + 1, x1, x3 => if (i0 14) ≤ x3 then (some ((-1))) else (ck (inb x3 6) (if (lg_cmp (l0 11 x3.toNatClampNeg) x1) = 0 then (some (x3)) else (f_X5_procNamed_2 i0 r0 l0 n x1 (x3 + 1))))
set_option maxRecDepth 100000 in
set_option maxHeartbeats 4000000 in
theorem w_X5_procNamed_2 {p : Program} {l : Launch} {e : Env} {s : State} {m : MethodId} {args : Array Value} {below : List Frame} {meth : Method} {c : Code} {A : Nat → Prop} {D : va_G} {cs zs : Nat → Nat} {h0 : Nat} {a0 : Nat → Nat} {i0 : Nat → Int32} {r0 : Nat → Nat → Int32} {l0 : Nat → Nat → Int64} {q : Int32} (C : Cx p s m args meth c A D cs zs cX5_procNamed 4 (some .int) RX5)  : ∀ (n : Nat), ∀ (x1 : Int64) (x3 : Int32) (H : Heap) (locs : List Loc) (ls : Array Slot), f_X5_procNamed_2 i0 r0 l0 n x1 x3 = some q → va_P D vwCl (W5 cs h0 a0 i0 r0 l0) H → va_D A (W5 cs h0 a0 i0 r0 l0) → va_S A s.heap H locs → lv_has ls 4 [(0, .ref h0), (1, .long x1), (3, .int x3)] → W p l e rmX5_procNamed s m args below meth c H locs 0 0 (MQ below (Qi D cs A q (W5 cs h0 a0 i0 r0 l0)) args s 0 0 A) (F0 m 2 ls []) := by
  obtain ⟨hx, hb, hr, hml, hown, hts, hK, hA, hlocks, hZ⟩ := id C
  intro n
  induction n with
  | zero =>
    intro x1 x3 H locs ls hf
    rw [f_X5_procNamed_2] at hf
    cases hf
  | succ n ih =>
    intro x1 x3 H locs ls hf hP hD hS hl
    rw [f_X5_procNamed_2] at hf
    refine lv_iload_n hx hb dX5_procNamed_2 rfl (lv_at hl 2 rfl) ?_
    refine lv_aload_n hx hb dX5_procNamed_3 rfl (lv_at hl 0 rfl) ?_
    refine va_get (D := D) (ci := 5) (v := .int (i0 14)) (C := RX5) (T := TX5) (N := 16) hx hb hts hiX5 hown hK hP 0 rfl rfl 14 (by decide) (hts _ flX5_61) (fun _ h9 => h9) rfl dX5_procNamed_4 ?_
    refine lv_icmp_ge (tgt := 29) hx hb dX5_procNamed_7 (by decide) (fun hc => ?_) (fun hc => ?_)
    · have hf := ite_t hf hc
      refine lv_iconst (v := (-1)) hx hb dX5_procNamed_29 (by decide) ?_
      obtain rfl := Option.some.inj hf
      exact k_iret hx hb hr hlocks hK hP hD hS dX5_procNamed_30
    · have hf := ite_f hf hc
      refine lv_aload_n hx hb dX5_procNamed_10 rfl (lv_at hl 0 rfl) ?_
      refine va_get (D := D) (ci := 5) (v := .ref (a0 11)) (C := RX5) (T := TX5) (N := 16) hx hb hts hiX5 hown hK hP 0 rfl rfl 11 (by decide) (hts _ flX5_46) (fun _ h9 => h9) rfl dX5_procNamed_11 ?_
      refine lv_iload_n hx hb dX5_procNamed_14 rfl (lv_at hl 2 rfl) ?_
      refine va_lald (f := l0 11) hx hb hK hP 12 1 rfl rfl (ck_in hf) dX5_procNamed_15 ?_
      have hf := ck_2 hf
      refine lv_lload_n hx hb dX5_procNamed_16 rfl (lv_at hl 1 rfl) ?_
      refine W.lcmp hx hb dX5_procNamed_17 ?_
      refine lv_if_ne (tgt := 23) hx hb dX5_procNamed_18 (by decide) (fun hc => ?_) (fun hc => ?_)
      · have hf := ite_f hf hc
        refine lv_iinc (v := x3 + 1) (lv' := [(3, .int (x3 + 1)), (0, .ref h0), (1, .long x1)]) hx hb dX5_procNamed_23 hl (k := 2) rfl rfl (by decide) rfl (fun ls hl => ?_)
        refine lv_goto (tgt := 2) hx hb dX5_procNamed_26 (by decide) ?_
        exact ih _ _ _ _ _ hf hP hD hS (lv_sub hl [1, 2, 0] rfl)
      · have hf := ite_t hf hc
        refine lv_iload_n hx hb dX5_procNamed_21 rfl (lv_at hl 2 rfl) ?_
        obtain rfl := Option.some.inj hf
        exact k_iret hx hb hr hlocks hK hP hD hS dX5_procNamed_22
def f_X5_procNamed  (i0 : Nat → Int32) (r0 : Nat → Nat → Int32) (l0 : Nat → Nat → Int64) (x1 : Int64) : Option (Int32) := f_X5_procNamed_2 i0 r0 l0 2000000 x1 0
set_option maxRecDepth 100000 in
set_option maxHeartbeats 4000000 in
theorem c_X5_procNamed {l : Launch} {D : va_G} {cs zs : Nat → Nat} {h0 : Nat} {a0 : Nat → Nat} {i0 : Nat → Int32} {r0 : Nat → Nat → Int32} {l0 : Nat → Nat → Int64} {x1 : Int64} {q : Int32} (hf : f_X5_procNamed i0 r0 l0 x1 = some q) : Mi l yX5_procNamed wlX5_procNamed rmX5_procNamed D cs zs [.ref h0, .long x1] (W5 cs h0 a0 i0 r0 l0) q (W5 cs h0 a0 i0 r0 l0) := by
  refine Mi.of RX5 (by decide) rfl (Nat.le_of_ble_eq_true rfl) (fun p e s m below meth c A C hP hD hS ls hl => ?_)
  generalize ([.ref h0, .long x1] : List Value).toArray = args at C ⊢
  obtain ⟨hx, hb, hr, hml, hown, hts, hK, hA, hlocks, hZ⟩ := id C
  have hl : lv_has ls 4 [(0, .ref h0), (1, .long x1)] := hl
  rw [f_X5_procNamed] at hf
  refine lv_iconst (v := 0) hx hb dX5_procNamed_0 (by decide) ?_
  refine lv_istore_n (lv' := [(3, .int 0), (0, .ref h0), (1, .long x1)]) hx hb dX5_procNamed_1 rfl hl (by decide) rfl (fun ls hl => ?_)
  exact w_X5_procNamed_2 C  2000000 _ _ _ _ _ hf hP hD hS (lv_sub hl [1, 2, 0] rfl)
/-! MarbleFloor$Program.addProc(J)I -/
abbrev wlX5_addProc : List Cond := Cond.code yX5_addProc cX5_addProc 3 (some .int) :: tbG
abbrev rmX5_addProc : Room := { frames := 0, cells := 0, slots := 0, locals := 0 }
theorem qnX5_addProc : yX5_addProc.cls = RX5 ∧ yX5_addProc.cls ≠ "java/lang/invoke/MethodHandle" ∧ yX5_addProc.cls ≠ "java/lang/invoke/VarHandle" ∧ (parseMethodDescriptor yX5_addProc.desc).map (fun d => d.parameters.length) = some 1 := by decide +kernel
def f_X5_addProc  (i0 : Nat → Int32) (r0 : Nat → Nat → Int32) (l0 : Nat → Nat → Int64) (x1 : Int64) : Option (Int32 × (Nat → Int32) × (Nat → Nat → Int64)) := if (i0 14) < 6 then (ck (inb (i0 14) 6) (some ((120 + ((i0 14) + 1)) - 1, (upd i0 14 ((i0 14) + 1)), (va_up l0 11 (vp_updL (l0 11) (i0 14).toNatClampNeg x1))))) else (some (120, i0, l0))
set_option maxRecDepth 100000 in
set_option maxHeartbeats 4000000 in
theorem c_X5_addProc {l : Launch} {D : va_G} {cs zs : Nat → Nat} {h0 : Nat} {a0 : Nat → Nat} {i0 : Nat → Int32} {r0 : Nat → Nat → Int32} {l0 : Nat → Nat → Int64} {x1 : Int64} {q : Int32 × (Nat → Int32) × (Nat → Nat → Int64)} (hf : f_X5_addProc i0 r0 l0 x1 = some q) : Mi l yX5_addProc wlX5_addProc rmX5_addProc D cs zs [.ref h0, .long x1] (W5 cs h0 a0 i0 r0 l0) q.1 (W5 cs h0 a0 q.2.1 r0 q.2.2) := by
  refine Mi.of RX5 (by decide) rfl (Nat.le_of_ble_eq_true rfl) (fun p e s m below meth c A C hP hD hS ls hl => ?_)
  generalize ([.ref h0, .long x1] : List Value).toArray = args at C ⊢
  obtain ⟨hx, hb, hr, hml, hown, hts, hK, hA, hlocks, hZ⟩ := id C
  have hl : lv_has ls 3 [(0, .ref h0), (1, .long x1)] := hl
  rw [f_X5_addProc] at hf
  refine lv_aload_n hx hb dX5_addProc_0 rfl (lv_at hl 0 rfl) ?_
  refine va_get (D := D) (ci := 5) (v := .int (i0 14)) (C := RX5) (T := TX5) (N := 16) hx hb hts hiX5 hown hK hP 0 rfl rfl 14 (by decide) (hts _ flX5_61) (fun _ h9 => h9) rfl dX5_addProc_1 ?_
  refine lv_bipush (v := 6) hx hb dX5_addProc_4 (by decide) ?_
  refine lv_icmp_lt (tgt := 12) hx hb dX5_addProc_6 (by decide) (fun hc => ?_) (fun hc => ?_)
  · have hf := ite_t hf hc
    refine lv_aload_n hx hb dX5_addProc_12 rfl (lv_at hl 0 rfl) ?_
    refine va_get (D := D) (ci := 5) (v := .ref (a0 11)) (C := RX5) (T := TX5) (N := 16) hx hb hts hiX5 hown hK hP 0 rfl rfl 11 (by decide) (hts _ flX5_46) (fun _ h9 => h9) rfl dX5_addProc_13 ?_
    refine lv_aload_n hx hb dX5_addProc_16 rfl (lv_at hl 0 rfl) ?_
    refine va_get (D := D) (ci := 5) (v := .int (i0 14)) (C := RX5) (T := TX5) (N := 16) hx hb hts hiX5 hown hK hP 0 rfl rfl 14 (by decide) (hts _ flX5_61) (fun _ h9 => h9) rfl dX5_addProc_17 ?_
    refine lv_lload_n hx hb dX5_addProc_20 rfl (lv_at hl 1 rfl) ?_
    refine va_last (f := l0 11) hx hb hK hP hD hS 12 1 rfl rfl (ck_in hf) dX5_addProc_21 (fun H locs hP hD hS => ?_)
    have hf := ck_2 hf
    obtain ⟨hP, hD⟩ := st5_11 hP hD
    refine lv_aload_n hx hb dX5_addProc_22 rfl (lv_at hl 0 rfl) ?_
    refine lv_dup hx hb dX5_addProc_23 rfl ?_
    refine va_get (D := D) (ci := 5) (v := .int (i0 14)) (C := RX5) (T := TX5) (N := 16) hx hb hts hiX5 hown hK hP 0 rfl rfl 14 (by decide) (hts _ flX5_61) (fun _ h9 => h9) rfl dX5_addProc_24 ?_
    refine lv_iconst (v := 1) hx hb dX5_addProc_27 (by decide) ?_
    refine lv_iadd hx hb dX5_addProc_28 ?_
    refine va_put (D := D) (ci := 5) (v := .int ((i0 14) + 1)) (ty := .int) (C := RX5) (T := TX5) (N := 16) hx hb hts hiX5 tyX5 tyX5_ok nmX5 hown hK hP hD hS 0 rfl rfl 14 (by decide) (hts _ flX5_61) (fun _ h9 => h9) rfl (tyX5_ok 14 (by decide)) rfl rfl (Nat.le_of_ble_eq_true rfl) dX5_addProc_29 (fun H locs hP hD hS => ?_)
    obtain ⟨hP, hD⟩ := st5_14 hP hD
    refine lv_bipush (v := 120) hx hb dX5_addProc_32 (by decide) ?_
    refine lv_aload_n hx hb dX5_addProc_34 rfl (lv_at hl 0 rfl) ?_
    refine va_get (D := D) (ci := 5) (v := .int ((i0 14) + 1)) (C := RX5) (T := TX5) (N := 16) hx hb hts hiX5 hown hK hP 0 rfl rfl 14 (by decide) (hts _ flX5_61) (fun _ h9 => h9) rfl dX5_addProc_35 ?_
    refine lv_iadd hx hb dX5_addProc_38 ?_
    refine lv_iconst (v := 1) hx hb dX5_addProc_39 (by decide) ?_
    refine lv_isub hx hb dX5_addProc_40 ?_
    obtain rfl := Option.some.inj hf
    exact k_iret hx hb hr hlocks hK hP hD hS dX5_addProc_41
  · have hf := ite_f hf hc
    refine lv_bipush (v := 120) hx hb dX5_addProc_9 (by decide) ?_
    obtain rfl := Option.some.inj hf
    exact k_iret hx hb hr hlocks hK hP hD hS dX5_addProc_11
/-! MarbleFloor$Program.addStep(II)I -/
abbrev wlX5_addStep : List Cond := Cond.code yX5_addStep cX5_addStep 4 (some .int) :: tbG
abbrev rmX5_addStep : Room := { frames := 0, cells := 0, slots := 0, locals := 0 }
theorem qnX5_addStep : yX5_addStep.cls = RX5 ∧ yX5_addStep.cls ≠ "java/lang/invoke/MethodHandle" ∧ yX5_addStep.cls ≠ "java/lang/invoke/VarHandle" ∧ (parseMethodDescriptor yX5_addStep.desc).map (fun d => d.parameters.length) = some 2 := by decide +kernel
def f_X5_addStep_59 (l0 : Nat → Nat → Int64)  (i0 : Nat → Int32) (r0 : Nat → Nat → Int32) (x2 : Int32) (x3 : Int32) : Option (Int32 × (Nat → Int32) × (Nat → Nat → Int32)) := ck (inb x2 126) (if (r0 10 x2.toNatClampNeg) = (-1) then (ck (inb x2 126) (ck (inb x2 126) (some (x3, i0, (va_up (va_up r0 9 (upd (r0 9) x2.toNatClampNeg x3)) 10 (upd (r0 10) x2.toNatClampNeg x3)))))) else (ck (inb x2 126) (ck (inb (r0 10 x2.toNatClampNeg) 60) (ck (inb x2 126) (some (x3, i0, (va_up (va_up r0 2 (upd (r0 2) (r0 10 x2.toNatClampNeg).toNatClampNeg x3)) 10 (upd (r0 10) x2.toNatClampNeg x3))))))))
set_option maxRecDepth 100000 in
set_option maxHeartbeats 4000000 in
theorem w_X5_addStep_59 {p : Program} {l : Launch} {e : Env} {s : State} {m : MethodId} {args : Array Value} {below : List Frame} {meth : Method} {c : Code} {A : Nat → Prop} {D : va_G} {cs zs : Nat → Nat} {h0 : Nat} {a0 : Nat → Nat} {l0 : Nat → Nat → Int64} {q : Int32 × (Nat → Int32) × (Nat → Nat → Int32)} (C : Cx p s m args meth c A D cs zs cX5_addStep 4 (some .int) RX5)  : ∀ (i0 : Nat → Int32) (r0 : Nat → Nat → Int32) (x2 : Int32) (x3 : Int32) (H : Heap) (locs : List Loc) (ls : Array Slot), f_X5_addStep_59 l0 i0 r0 x2 x3 = some q → va_P D vwCl (W5 cs h0 a0 i0 r0 l0) H → va_D A (W5 cs h0 a0 i0 r0 l0) → va_S A s.heap H locs → lv_has ls 4 [(0, .ref h0), (2, .int x2), (3, .int x3)] → W p l e rmX5_addStep s m args below meth c H locs 0 0 (MQ below (Qi D cs A q.1 (W5 cs h0 a0 q.2.1 q.2.2 l0)) args s 0 0 A) (F0 m 59 ls []) := by
  obtain ⟨hx, hb, hr, hml, hown, hts, hK, hA, hlocks, hZ⟩ := id C
  intro i0 r0 x2 x3 H locs ls hf hP hD hS hl
  rw [f_X5_addStep_59] at hf
  refine lv_aload_n hx hb dX5_addStep_59 rfl (lv_at hl 0 rfl) ?_
  refine va_get (D := D) (ci := 5) (v := .ref (a0 10)) (C := RX5) (T := TX5) (N := 16) hx hb hts hiX5 hown hK hP 0 rfl rfl 10 (by decide) (hts _ flX5_43) (fun _ h9 => h9) rfl dX5_addStep_60 ?_
  refine lv_iload_n hx hb dX5_addStep_63 rfl (lv_at hl 1 rfl) ?_
  refine va_iald (f := r0 10) hx hb hK hP 11 0 rfl rfl (ck_in hf) dX5_addStep_64 ?_
  have hf := ck_2 hf
  refine lv_iconst (v := (-1)) hx hb dX5_addStep_65 (by decide) ?_
  refine lv_icmp_ne (tgt := 79) hx hb dX5_addStep_66 (by decide) (fun hc => ?_) (fun hc => ?_)
  · have hf := ite_f hf hc
    refine lv_aload_n hx hb dX5_addStep_79 rfl (lv_at hl 0 rfl) ?_
    refine va_get (D := D) (ci := 5) (v := .ref (a0 2)) (C := RX5) (T := TX5) (N := 16) hx hb hts hiX5 hown hK hP 0 rfl rfl 2 (by decide) (hts _ flX5_18) (fun _ h9 => h9) rfl dX5_addStep_80 ?_
    refine lv_aload_n hx hb dX5_addStep_83 rfl (lv_at hl 0 rfl) ?_
    refine va_get (D := D) (ci := 5) (v := .ref (a0 10)) (C := RX5) (T := TX5) (N := 16) hx hb hts hiX5 hown hK hP 0 rfl rfl 10 (by decide) (hts _ flX5_43) (fun _ h9 => h9) rfl dX5_addStep_84 ?_
    refine lv_iload_n hx hb dX5_addStep_87 rfl (lv_at hl 1 rfl) ?_
    refine va_iald (f := r0 10) hx hb hK hP 11 0 rfl rfl (ck_in hf) dX5_addStep_88 ?_
    have hf := ck_2 hf
    refine lv_iload_n hx hb dX5_addStep_89 rfl (lv_at hl 2 rfl) ?_
    refine va_iast (f := r0 2) hx hb hK hP hD hS 3 0 rfl rfl (ck_in hf) dX5_addStep_90 (fun H locs hP hD hS => ?_)
    have hf := ck_2 hf
    obtain ⟨hP, hD⟩ := st5_2 hP hD
    refine lv_aload_n hx hb dX5_addStep_91 rfl (lv_at hl 0 rfl) ?_
    refine va_get (D := D) (ci := 5) (v := .ref (a0 10)) (C := RX5) (T := TX5) (N := 16) hx hb hts hiX5 hown hK hP 0 rfl rfl 10 (by decide) (hts _ flX5_43) (fun _ h9 => h9) rfl dX5_addStep_92 ?_
    refine lv_iload_n hx hb dX5_addStep_95 rfl (lv_at hl 1 rfl) ?_
    refine lv_iload_n hx hb dX5_addStep_96 rfl (lv_at hl 2 rfl) ?_
    refine va_iast (f := r0 10) hx hb hK hP hD hS 11 0 rfl rfl (ck_in hf) dX5_addStep_97 (fun H locs hP hD hS => ?_)
    have hf := ck_2 hf
    obtain ⟨hP, hD⟩ := st5_10 hP hD
    refine lv_iload_n hx hb dX5_addStep_98 rfl (lv_at hl 2 rfl) ?_
    obtain rfl := Option.some.inj hf
    exact k_iret hx hb hr hlocks hK hP hD hS dX5_addStep_99
  · have hf := ite_t hf hc
    refine lv_aload_n hx hb dX5_addStep_69 rfl (lv_at hl 0 rfl) ?_
    refine va_get (D := D) (ci := 5) (v := .ref (a0 9)) (C := RX5) (T := TX5) (N := 16) hx hb hts hiX5 hown hK hP 0 rfl rfl 9 (by decide) (hts _ flX5_40) (fun _ h9 => h9) rfl dX5_addStep_70 ?_
    refine lv_iload_n hx hb dX5_addStep_73 rfl (lv_at hl 1 rfl) ?_
    refine lv_iload_n hx hb dX5_addStep_74 rfl (lv_at hl 2 rfl) ?_
    refine va_iast (f := r0 9) hx hb hK hP hD hS 10 0 rfl rfl (ck_in hf) dX5_addStep_75 (fun H locs hP hD hS => ?_)
    have hf := ck_2 hf
    obtain ⟨hP, hD⟩ := st5_9 hP hD
    refine lv_goto (tgt := 91) hx hb dX5_addStep_76 (by decide) ?_
    refine lv_aload_n hx hb dX5_addStep_91 rfl (lv_at hl 0 rfl) ?_
    refine va_get (D := D) (ci := 5) (v := .ref (a0 10)) (C := RX5) (T := TX5) (N := 16) hx hb hts hiX5 hown hK hP 0 rfl rfl 10 (by decide) (hts _ flX5_43) (fun _ h9 => h9) rfl dX5_addStep_92 ?_
    refine lv_iload_n hx hb dX5_addStep_95 rfl (lv_at hl 1 rfl) ?_
    refine lv_iload_n hx hb dX5_addStep_96 rfl (lv_at hl 2 rfl) ?_
    refine va_iast (f := r0 10) hx hb hK hP hD hS 11 0 rfl rfl (ck_in hf) dX5_addStep_97 (fun H locs hP hD hS => ?_)
    have hf := ck_2 hf
    obtain ⟨hP, hD⟩ := st5_10 hP hD
    refine lv_iload_n hx hb dX5_addStep_98 rfl (lv_at hl 2 rfl) ?_
    obtain rfl := Option.some.inj hf
    exact k_iret hx hb hr hlocks hK hP hD hS dX5_addStep_99
def f_X5_addStep_40 (l0 : Nat → Nat → Int64)  (i0 : Nat → Int32) (r0 : Nat → Nat → Int32) (x2 : Int32) (x3 : Int32) : Option (Int32 × (Nat → Int32) × (Nat → Nat → Int32)) := ck (inb x3 60) (ck (inb x2 126) (ck (inb x3 60) (f_X5_addStep_59 l0 i0 (va_up (va_up r0 2 (upd (r0 2) x3.toNatClampNeg (-1))) 3 (upd (r0 3) x3.toNatClampNeg (r0 10 x2.toNatClampNeg))) x2 x3)))
set_option maxRecDepth 100000 in
set_option maxHeartbeats 4000000 in
theorem w_X5_addStep_40 {p : Program} {l : Launch} {e : Env} {s : State} {m : MethodId} {args : Array Value} {below : List Frame} {meth : Method} {c : Code} {A : Nat → Prop} {D : va_G} {cs zs : Nat → Nat} {h0 : Nat} {a0 : Nat → Nat} {l0 : Nat → Nat → Int64} {q : Int32 × (Nat → Int32) × (Nat → Nat → Int32)} (C : Cx p s m args meth c A D cs zs cX5_addStep 4 (some .int) RX5)  : ∀ (i0 : Nat → Int32) (r0 : Nat → Nat → Int32) (x2 : Int32) (x3 : Int32) (H : Heap) (locs : List Loc) (ls : Array Slot), f_X5_addStep_40 l0 i0 r0 x2 x3 = some q → va_P D vwCl (W5 cs h0 a0 i0 r0 l0) H → va_D A (W5 cs h0 a0 i0 r0 l0) → va_S A s.heap H locs → lv_has ls 4 [(0, .ref h0), (2, .int x2), (3, .int x3)] → W p l e rmX5_addStep s m args below meth c H locs 0 0 (MQ below (Qi D cs A q.1 (W5 cs h0 a0 q.2.1 q.2.2 l0)) args s 0 0 A) (F0 m 40 ls []) := by
  obtain ⟨hx, hb, hr, hml, hown, hts, hK, hA, hlocks, hZ⟩ := id C
  intro i0 r0 x2 x3 H locs ls hf hP hD hS hl
  rw [f_X5_addStep_40] at hf
  refine lv_aload_n hx hb dX5_addStep_40 rfl (lv_at hl 0 rfl) ?_
  refine va_get (D := D) (ci := 5) (v := .ref (a0 2)) (C := RX5) (T := TX5) (N := 16) hx hb hts hiX5 hown hK hP 0 rfl rfl 2 (by decide) (hts _ flX5_18) (fun _ h9 => h9) rfl dX5_addStep_41 ?_
  refine lv_iload_n hx hb dX5_addStep_44 rfl (lv_at hl 2 rfl) ?_
  refine lv_iconst (v := (-1)) hx hb dX5_addStep_45 (by decide) ?_
  refine va_iast (f := r0 2) hx hb hK hP hD hS 3 0 rfl rfl (ck_in hf) dX5_addStep_46 (fun H locs hP hD hS => ?_)
  have hf := ck_2 hf
  obtain ⟨hP, hD⟩ := st5_2 hP hD
  refine lv_aload_n hx hb dX5_addStep_47 rfl (lv_at hl 0 rfl) ?_
  refine va_get (D := D) (ci := 5) (v := .ref (a0 3)) (C := RX5) (T := TX5) (N := 16) hx hb hts hiX5 hown hK hP 0 rfl rfl 3 (by decide) (hts _ flX5_21) (fun _ h9 => h9) rfl dX5_addStep_48 ?_
  refine lv_iload_n hx hb dX5_addStep_51 rfl (lv_at hl 2 rfl) ?_
  refine lv_aload_n hx hb dX5_addStep_52 rfl (lv_at hl 0 rfl) ?_
  refine va_get (D := D) (ci := 5) (v := .ref (a0 10)) (C := RX5) (T := TX5) (N := 16) hx hb hts hiX5 hown hK hP 0 rfl rfl 10 (by decide) (hts _ flX5_43) (fun _ h9 => h9) rfl dX5_addStep_53 ?_
  refine lv_iload_n hx hb dX5_addStep_56 rfl (lv_at hl 1 rfl) ?_
  refine va_iald (f := r0 10) hx hb hK hP 11 0 rfl rfl (ck_in hf) dX5_addStep_57 ?_
  have hf := ck_2 hf
  refine va_iast (f := r0 3) hx hb hK hP hD hS 4 0 rfl rfl (ck_in hf) dX5_addStep_58 (fun H locs hP hD hS => ?_)
  have hf := ck_2 hf
  obtain ⟨hP, hD⟩ := st5_3 hP hD
  exact w_X5_addStep_59 C  _ _ _ _ _ _ _ hf hP hD hS (lv_sub hl [0, 1, 2] rfl)
def f_X5_addStep  (i0 : Nat → Int32) (r0 : Nat → Nat → Int32) (l0 : Nat → Nat → Int64) (x1 : Int32) (x2 : Int32) : Option (Int32 × (Nat → Int32) × (Nat → Nat → Int32)) := if (i0 13) < 60 then (ck (inb (i0 13) 60) (ck (inb (i0 13) 60) (f_X5_addStep_40 l0 (upd i0 13 ((i0 13) + 1)) (va_up (va_up r0 0 (upd (r0 0) (i0 13).toNatClampNeg x1)) 1 (upd (r0 1) (i0 13).toNatClampNeg x2)) x2 (i0 13)))) else (some ((-1), i0, r0))
set_option maxRecDepth 100000 in
set_option maxHeartbeats 4000000 in
theorem c_X5_addStep {l : Launch} {D : va_G} {cs zs : Nat → Nat} {h0 : Nat} {a0 : Nat → Nat} {i0 : Nat → Int32} {r0 : Nat → Nat → Int32} {l0 : Nat → Nat → Int64} {x1 : Int32} {x2 : Int32} {q : Int32 × (Nat → Int32) × (Nat → Nat → Int32)} (hf : f_X5_addStep i0 r0 l0 x1 x2 = some q) : Mi l yX5_addStep wlX5_addStep rmX5_addStep D cs zs [.ref h0, .int x1, .int x2] (W5 cs h0 a0 i0 r0 l0) q.1 (W5 cs h0 a0 q.2.1 q.2.2 l0) := by
  refine Mi.of RX5 (by decide) rfl (Nat.le_of_ble_eq_true rfl) (fun p e s m below meth c A C hP hD hS ls hl => ?_)
  generalize ([.ref h0, .int x1, .int x2] : List Value).toArray = args at C ⊢
  obtain ⟨hx, hb, hr, hml, hown, hts, hK, hA, hlocks, hZ⟩ := id C
  have hl : lv_has ls 4 [(0, .ref h0), (1, .int x1), (2, .int x2)] := hl
  rw [f_X5_addStep] at hf
  refine lv_aload_n hx hb dX5_addStep_0 rfl (lv_at hl 0 rfl) ?_
  refine va_get (D := D) (ci := 5) (v := .int (i0 13)) (C := RX5) (T := TX5) (N := 16) hx hb hts hiX5 hown hK hP 0 rfl rfl 13 (by decide) (hts _ flX5_57) (fun _ h9 => h9) rfl dX5_addStep_1 ?_
  refine lv_bipush (v := 60) hx hb dX5_addStep_4 (by decide) ?_
  refine lv_icmp_lt (tgt := 11) hx hb dX5_addStep_6 (by decide) (fun hc => ?_) (fun hc => ?_)
  · have hf := ite_t hf hc
    refine lv_aload_n hx hb dX5_addStep_11 rfl (lv_at hl 0 rfl) ?_
    refine va_get (D := D) (ci := 5) (v := .int (i0 13)) (C := RX5) (T := TX5) (N := 16) hx hb hts hiX5 hown hK hP 0 rfl rfl 13 (by decide) (hts _ flX5_57) (fun _ h9 => h9) rfl dX5_addStep_12 ?_
    refine lv_istore_n (lv' := [(3, .int (i0 13)), (0, .ref h0), (1, .int x1), (2, .int x2)]) hx hb dX5_addStep_15 rfl hl (by decide) rfl (fun ls hl => ?_)
    refine lv_aload_n hx hb dX5_addStep_16 rfl (lv_at hl 1 rfl) ?_
    refine lv_dup hx hb dX5_addStep_17 rfl ?_
    refine va_get (D := D) (ci := 5) (v := .int (i0 13)) (C := RX5) (T := TX5) (N := 16) hx hb hts hiX5 hown hK hP 0 rfl rfl 13 (by decide) (hts _ flX5_57) (fun _ h9 => h9) rfl dX5_addStep_18 ?_
    refine lv_iconst (v := 1) hx hb dX5_addStep_21 (by decide) ?_
    refine lv_iadd hx hb dX5_addStep_22 ?_
    refine va_put (D := D) (ci := 5) (v := .int ((i0 13) + 1)) (ty := .int) (C := RX5) (T := TX5) (N := 16) hx hb hts hiX5 tyX5 tyX5_ok nmX5 hown hK hP hD hS 0 rfl rfl 13 (by decide) (hts _ flX5_57) (fun _ h9 => h9) rfl (tyX5_ok 13 (by decide)) rfl rfl (Nat.le_of_ble_eq_true rfl) dX5_addStep_23 (fun H locs hP hD hS => ?_)
    obtain ⟨hP, hD⟩ := st5_13 hP hD
    refine lv_aload_n hx hb dX5_addStep_26 rfl (lv_at hl 1 rfl) ?_
    refine va_get (D := D) (ci := 5) (v := .ref (a0 0)) (C := RX5) (T := TX5) (N := 16) hx hb hts hiX5 hown hK hP 0 rfl rfl 0 (by decide) (hts _ flX5_9) (fun _ h9 => h9) rfl dX5_addStep_27 ?_
    refine lv_iload_n hx hb dX5_addStep_30 rfl (lv_at hl 0 rfl) ?_
    refine lv_iload_n hx hb dX5_addStep_31 rfl (lv_at hl 2 rfl) ?_
    refine va_iast (f := r0 0) hx hb hK hP hD hS 1 0 rfl rfl (ck_in hf) dX5_addStep_32 (fun H locs hP hD hS => ?_)
    have hf := ck_2 hf
    obtain ⟨hP, hD⟩ := st5_0 hP hD
    refine lv_aload_n hx hb dX5_addStep_33 rfl (lv_at hl 1 rfl) ?_
    refine va_get (D := D) (ci := 5) (v := .ref (a0 1)) (C := RX5) (T := TX5) (N := 16) hx hb hts hiX5 hown hK hP 0 rfl rfl 1 (by decide) (hts _ flX5_15) (fun _ h9 => h9) rfl dX5_addStep_34 ?_
    refine lv_iload_n hx hb dX5_addStep_37 rfl (lv_at hl 0 rfl) ?_
    refine lv_iload_n hx hb dX5_addStep_38 rfl (lv_at hl 3 rfl) ?_
    refine va_iast (f := r0 1) hx hb hK hP hD hS 2 0 rfl rfl (ck_in hf) dX5_addStep_39 (fun H locs hP hD hS => ?_)
    have hf := ck_2 hf
    obtain ⟨hP, hD⟩ := st5_1 hP hD
    exact w_X5_addStep_40 C  _ _ _ _ _ _ _ hf hP hD hS (lv_sub hl [1, 3, 0] rfl)
  · have hf := ite_f hf hc
    refine lv_iconst (v := (-1)) hx hb dX5_addStep_9 (by decide) ?_
    obtain rfl := Option.some.inj hf
    exact k_iret hx hb hr hlocks hK hP hD hS dX5_addStep_10
/-! MarbleFloor$Program.setVars(III)V -/
abbrev wlX5_setVars : List Cond := Cond.code yX5_setVars cX5_setVars 4 none :: tbG
abbrev rmX5_setVars : Room := { frames := 0, cells := 0, slots := 0, locals := 0 }
theorem qnX5_setVars : yX5_setVars.cls = RX5 ∧ yX5_setVars.cls ≠ "java/lang/invoke/MethodHandle" ∧ yX5_setVars.cls ≠ "java/lang/invoke/VarHandle" ∧ (parseMethodDescriptor yX5_setVars.desc).map (fun d => d.parameters.length) = some 3 := by decide +kernel
def f_X5_setVars  (i0 : Nat → Int32) (r0 : Nat → Nat → Int32) (l0 : Nat → Nat → Int64) (x1 : Int32) (x2 : Int32) (x3 : Int32) : Option ((Nat → Nat → Int32)) := ck (inb x1 60) (ck (inb x1 60) (some ((va_up (va_up r0 4 (upd (r0 4) x1.toNatClampNeg x2)) 5 (upd (r0 5) x1.toNatClampNeg x3)))))
set_option maxRecDepth 100000 in
set_option maxHeartbeats 4000000 in
theorem c_X5_setVars {l : Launch} {D : va_G} {cs zs : Nat → Nat} {h0 : Nat} {a0 : Nat → Nat} {i0 : Nat → Int32} {r0 : Nat → Nat → Int32} {l0 : Nat → Nat → Int64} {x1 : Int32} {x2 : Int32} {x3 : Int32} {q : (Nat → Nat → Int32)} (hf : f_X5_setVars i0 r0 l0 x1 x2 x3 = some q) : Mv l yX5_setVars wlX5_setVars rmX5_setVars D cs zs [.ref h0, .int x1, .int x2, .int x3] (W5 cs h0 a0 i0 r0 l0) (W5 cs h0 a0 i0 q l0) := by
  refine Mv.of RX5 (by decide) rfl (Nat.le_of_ble_eq_true rfl) (fun p e s m below meth c A C hP hD hS ls hl => ?_)
  generalize ([.ref h0, .int x1, .int x2, .int x3] : List Value).toArray = args at C ⊢
  obtain ⟨hx, hb, hr, hml, hown, hts, hK, hA, hlocks, hZ⟩ := id C
  have hl : lv_has ls 4 [(0, .ref h0), (1, .int x1), (2, .int x2), (3, .int x3)] := hl
  rw [f_X5_setVars] at hf
  refine lv_aload_n hx hb dX5_setVars_0 rfl (lv_at hl 0 rfl) ?_
  refine va_get (D := D) (ci := 5) (v := .ref (a0 4)) (C := RX5) (T := TX5) (N := 16) hx hb hts hiX5 hown hK hP 0 rfl rfl 4 (by decide) (hts _ flX5_24) (fun _ h9 => h9) rfl dX5_setVars_1 ?_
  refine lv_iload_n hx hb dX5_setVars_4 rfl (lv_at hl 1 rfl) ?_
  refine lv_iload_n hx hb dX5_setVars_5 rfl (lv_at hl 2 rfl) ?_
  refine va_iast (f := r0 4) hx hb hK hP hD hS 5 0 rfl rfl (ck_in hf) dX5_setVars_6 (fun H locs hP hD hS => ?_)
  have hf := ck_2 hf
  obtain ⟨hP, hD⟩ := st5_4 hP hD
  refine lv_aload_n hx hb dX5_setVars_7 rfl (lv_at hl 0 rfl) ?_
  refine va_get (D := D) (ci := 5) (v := .ref (a0 5)) (C := RX5) (T := TX5) (N := 16) hx hb hts hiX5 hown hK hP 0 rfl rfl 5 (by decide) (hts _ flX5_27) (fun _ h9 => h9) rfl dX5_setVars_8 ?_
  refine lv_iload_n hx hb dX5_setVars_11 rfl (lv_at hl 1 rfl) ?_
  refine lv_iload_n hx hb dX5_setVars_12 rfl (lv_at hl 3 rfl) ?_
  refine va_iast (f := r0 5) hx hb hK hP hD hS 6 0 rfl rfl (ck_in hf) dX5_setVars_13 (fun H locs hP hD hS => ?_)
  have hf := ck_2 hf
  obtain ⟨hP, hD⟩ := st5_5 hP hD
  obtain rfl := Option.some.inj hf
  exact k_vret hx hb hr hlocks hK hP hD hS dX5_setVars_14
/-! MarbleFloor$Program.setCalled(IJ)V -/
abbrev wlX5_setCalled : List Cond := Cond.code yX5_setCalled cX5_setCalled 4 none :: tbG
abbrev rmX5_setCalled : Room := { frames := 0, cells := 0, slots := 0, locals := 0 }
theorem qnX5_setCalled : yX5_setCalled.cls = RX5 ∧ yX5_setCalled.cls ≠ "java/lang/invoke/MethodHandle" ∧ yX5_setCalled.cls ≠ "java/lang/invoke/VarHandle" ∧ (parseMethodDescriptor yX5_setCalled.desc).map (fun d => d.parameters.length) = some 2 := by decide +kernel
def f_X5_setCalled  (i0 : Nat → Int32) (r0 : Nat → Nat → Int32) (l0 : Nat → Nat → Int64) (x1 : Int32) (x2 : Int64) : Option ((Nat → Nat → Int64)) := ck (inb x1 60) (some ((va_up l0 6 (vp_updL (l0 6) x1.toNatClampNeg x2))))
set_option maxRecDepth 100000 in
set_option maxHeartbeats 4000000 in
theorem c_X5_setCalled {l : Launch} {D : va_G} {cs zs : Nat → Nat} {h0 : Nat} {a0 : Nat → Nat} {i0 : Nat → Int32} {r0 : Nat → Nat → Int32} {l0 : Nat → Nat → Int64} {x1 : Int32} {x2 : Int64} {q : (Nat → Nat → Int64)} (hf : f_X5_setCalled i0 r0 l0 x1 x2 = some q) : Mv l yX5_setCalled wlX5_setCalled rmX5_setCalled D cs zs [.ref h0, .int x1, .long x2] (W5 cs h0 a0 i0 r0 l0) (W5 cs h0 a0 i0 r0 q) := by
  refine Mv.of RX5 (by decide) rfl (Nat.le_of_ble_eq_true rfl) (fun p e s m below meth c A C hP hD hS ls hl => ?_)
  generalize ([.ref h0, .int x1, .long x2] : List Value).toArray = args at C ⊢
  obtain ⟨hx, hb, hr, hml, hown, hts, hK, hA, hlocks, hZ⟩ := id C
  have hl : lv_has ls 4 [(0, .ref h0), (1, .int x1), (2, .long x2)] := hl
  rw [f_X5_setCalled] at hf
  refine lv_aload_n hx hb dX5_setCalled_0 rfl (lv_at hl 0 rfl) ?_
  refine va_get (D := D) (ci := 5) (v := .ref (a0 6)) (C := RX5) (T := TX5) (N := 16) hx hb hts hiX5 hown hK hP 0 rfl rfl 6 (by decide) (hts _ flX5_30) (fun _ h9 => h9) rfl dX5_setCalled_1 ?_
  refine lv_iload_n hx hb dX5_setCalled_4 rfl (lv_at hl 1 rfl) ?_
  refine lv_lload_n hx hb dX5_setCalled_5 rfl (lv_at hl 2 rfl) ?_
  refine va_last (f := l0 6) hx hb hK hP hD hS 7 1 rfl rfl (ck_in hf) dX5_setCalled_6 (fun H locs hP hD hS => ?_)
  have hf := ck_2 hf
  obtain ⟨hP, hD⟩ := st5_6 hP hD
  obtain rfl := Option.some.inj hf
  exact k_vret hx hb hr hlocks hK hP hD hS dX5_setCalled_7
/-! MarbleFloor$Program.findCalled()Z -/
abbrev wlX5_findCalled : List Cond := Cond.code yX5_findCalled cX5_findCalled 2 (some .boolean) :: tbG
abbrev rmX5_findCalled : Room := { frames := 1, cells := 0, slots := 0, locals := 23 }
theorem qnX5_findCalled : yX5_findCalled.cls = RX5 ∧ yX5_findCalled.cls ≠ "java/lang/invoke/MethodHandle" ∧ yX5_findCalled.cls ≠ "java/lang/invoke/VarHandle" ∧ (parseMethodDescriptor yX5_findCalled.desc).map (fun d => d.parameters.length) = some 0 := by decide +kernel
def f_X5_findCalled_60 (i0 : Nat → Int32) (l0 : Nat → Nat → Int64) (K2 : (Nat → Nat → Int32) → Int32 → Option (Int32 × (Nat → Nat → Int32))) (r0 : Nat → Nat → Int32) (x1 : Int32) : Option (Int32 × (Nat → Nat → Int32)) := K2 r0 (x1 + 1)
set_option maxRecDepth 100000 in
set_option maxHeartbeats 4000000 in
theorem w_X5_findCalled_60 {p : Program} {l : Launch} {e : Env} {s : State} {m : MethodId} {args : Array Value} {below : List Frame} {meth : Method} {c : Code} {A : Nat → Prop} {D : va_G} {cs zs : Nat → Nat} {h0 : Nat} {a0 : Nat → Nat} {i0 : Nat → Int32} {l0 : Nat → Nat → Int64} {q : Int32 × (Nat → Nat → Int32)} (C : Cx p s m args meth c A D cs zs cX5_findCalled 2 (some .boolean) RX5) (K2 : (Nat → Nat → Int32) → Int32 → Option (Int32 × (Nat → Nat → Int32))) (hK2 : ∀ (r0 : Nat → Nat → Int32) (x1 : Int32) (H : Heap) (locs : List Loc) (ls : Array Slot), K2 r0 x1 = some q → va_P D vwCl (W5 cs h0 a0 i0 r0 l0) H → va_D A (W5 cs h0 a0 i0 r0 l0) → va_S A s.heap H locs → lv_has ls 2 [(0, .ref h0), (1, .int x1)] → W p l e rmX5_findCalled s m args below meth c H locs 0 0 (MQ below (Qi D cs A q.1 (W5 cs h0 a0 i0 q.2 l0)) args s 0 0 A) (F0 m 2 ls [])) : ∀ (r0 : Nat → Nat → Int32) (x1 : Int32) (H : Heap) (locs : List Loc) (ls : Array Slot), f_X5_findCalled_60 i0 l0 K2 r0 x1 = some q → va_P D vwCl (W5 cs h0 a0 i0 r0 l0) H → va_D A (W5 cs h0 a0 i0 r0 l0) → va_S A s.heap H locs → lv_has ls 2 [(0, .ref h0), (1, .int x1)] → W p l e rmX5_findCalled s m args below meth c H locs 0 0 (MQ below (Qi D cs A q.1 (W5 cs h0 a0 i0 q.2 l0)) args s 0 0 A) (F0 m 60 ls []) := by
  obtain ⟨hx, hb, hr, hml, hown, hts, hK, hA, hlocks, hZ⟩ := id C
  intro r0 x1 H locs ls hf hP hD hS hl
  rw [f_X5_findCalled_60] at hf
  refine lv_iinc (v := x1 + 1) (lv' := [(1, .int (x1 + 1)), (0, .ref h0)]) hx hb dX5_findCalled_60 hl (k := 1) rfl rfl (by decide) rfl (fun ls hl => ?_)
  refine lv_goto (tgt := 2) hx hb dX5_findCalled_63 (by decide) ?_
  exact hK2 _ _ _ _ _ hf hP hD hS (lv_sub hl [1, 0] rfl)
def f_X5_findCalled_48 (i0 : Nat → Int32) (l0 : Nat → Nat → Int64) (K2 : (Nat → Nat → Int32) → Int32 → Option (Int32 × (Nat → Nat → Int32))) (r0 : Nat → Nat → Int32) (x1 : Int32) : Option (Int32 × (Nat → Nat → Int32)) := ck (inb x1 60) (if (r0 4 x1.toNatClampNeg) = (-1) then (some (0, r0)) else (f_X5_findCalled_60 i0 l0 K2 r0 x1))
set_option maxRecDepth 100000 in
set_option maxHeartbeats 4000000 in
theorem w_X5_findCalled_48 {p : Program} {l : Launch} {e : Env} {s : State} {m : MethodId} {args : Array Value} {below : List Frame} {meth : Method} {c : Code} {A : Nat → Prop} {D : va_G} {cs zs : Nat → Nat} {h0 : Nat} {a0 : Nat → Nat} {i0 : Nat → Int32} {l0 : Nat → Nat → Int64} {q : Int32 × (Nat → Nat → Int32)} (C : Cx p s m args meth c A D cs zs cX5_findCalled 2 (some .boolean) RX5) (K2 : (Nat → Nat → Int32) → Int32 → Option (Int32 × (Nat → Nat → Int32))) (hK2 : ∀ (r0 : Nat → Nat → Int32) (x1 : Int32) (H : Heap) (locs : List Loc) (ls : Array Slot), K2 r0 x1 = some q → va_P D vwCl (W5 cs h0 a0 i0 r0 l0) H → va_D A (W5 cs h0 a0 i0 r0 l0) → va_S A s.heap H locs → lv_has ls 2 [(0, .ref h0), (1, .int x1)] → W p l e rmX5_findCalled s m args below meth c H locs 0 0 (MQ below (Qi D cs A q.1 (W5 cs h0 a0 i0 q.2 l0)) args s 0 0 A) (F0 m 2 ls [])) : ∀ (r0 : Nat → Nat → Int32) (x1 : Int32) (H : Heap) (locs : List Loc) (ls : Array Slot), f_X5_findCalled_48 i0 l0 K2 r0 x1 = some q → va_P D vwCl (W5 cs h0 a0 i0 r0 l0) H → va_D A (W5 cs h0 a0 i0 r0 l0) → va_S A s.heap H locs → lv_has ls 2 [(0, .ref h0), (1, .int x1)] → W p l e rmX5_findCalled s m args below meth c H locs 0 0 (MQ below (Qi D cs A q.1 (W5 cs h0 a0 i0 q.2 l0)) args s 0 0 A) (F0 m 48 ls []) := by
  obtain ⟨hx, hb, hr, hml, hown, hts, hK, hA, hlocks, hZ⟩ := id C
  intro r0 x1 H locs ls hf hP hD hS hl
  rw [f_X5_findCalled_48] at hf
  refine lv_aload_n hx hb dX5_findCalled_48 rfl (lv_at hl 0 rfl) ?_
  refine va_get (D := D) (ci := 5) (v := .ref (a0 4)) (C := RX5) (T := TX5) (N := 16) hx hb hts hiX5 hown hK hP 0 rfl rfl 4 (by decide) (hts _ flX5_24) (fun _ h9 => h9) rfl dX5_findCalled_49 ?_
  refine lv_iload_n hx hb dX5_findCalled_52 rfl (lv_at hl 1 rfl) ?_
  refine va_iald (f := r0 4) hx hb hK hP 5 0 rfl rfl (ck_in hf) dX5_findCalled_53 ?_
  have hf := ck_2 hf
  refine lv_iconst (v := (-1)) hx hb dX5_findCalled_54 (by decide) ?_
  refine lv_icmp_ne (tgt := 60) hx hb dX5_findCalled_55 (by decide) (fun hc => ?_) (fun hc => ?_)
  · have hf := ite_f hf hc
    exact w_X5_findCalled_60 C _ (hK2) _ _ _ _ _ hf hP hD hS (lv_sub hl [0, 1] rfl)
  · have hf := ite_t hf hc
    refine lv_iconst (v := 0) hx hb dX5_findCalled_58 (by decide) ?_
    obtain rfl := Option.some.inj hf
    exact k_zret (r := 0) hx hb hr hlocks rfl hK hP hD hS dX5_findCalled_59
def f_X5_findCalled_32 (i0 : Nat → Int32) (l0 : Nat → Nat → Int64) (K2 : (Nat → Nat → Int32) → Int32 → Option (Int32 × (Nat → Nat → Int32))) (r0 : Nat → Nat → Int32) (x1 : Int32) : Option (Int32 × (Nat → Nat → Int32)) := ck (inb x1 60) (bd (f_X5_procNamed i0 r0 l0 (l0 6 x1.toNatClampNeg)) (fun q2 => ck (inb x1 60) (f_X5_findCalled_48 i0 l0 K2 (va_up r0 4 (upd (r0 4) x1.toNatClampNeg q2)) x1)))
set_option maxRecDepth 100000 in
set_option maxHeartbeats 4000000 in
theorem w_X5_findCalled_32 {p : Program} {l : Launch} {e : Env} {s : State} {m : MethodId} {args : Array Value} {below : List Frame} {meth : Method} {c : Code} {A : Nat → Prop} {D : va_G} {cs zs : Nat → Nat} {h0 : Nat} {a0 : Nat → Nat} {i0 : Nat → Int32} {l0 : Nat → Nat → Int64} {q : Int32 × (Nat → Nat → Int32)} (C : Cx p s m args meth c A D cs zs cX5_findCalled 2 (some .boolean) RX5) (K2 : (Nat → Nat → Int32) → Int32 → Option (Int32 × (Nat → Nat → Int32))) (hK2 : ∀ (r0 : Nat → Nat → Int32) (x1 : Int32) (H : Heap) (locs : List Loc) (ls : Array Slot), K2 r0 x1 = some q → va_P D vwCl (W5 cs h0 a0 i0 r0 l0) H → va_D A (W5 cs h0 a0 i0 r0 l0) → va_S A s.heap H locs → lv_has ls 2 [(0, .ref h0), (1, .int x1)] → W p l e rmX5_findCalled s m args below meth c H locs 0 0 (MQ below (Qi D cs A q.1 (W5 cs h0 a0 i0 q.2 l0)) args s 0 0 A) (F0 m 2 ls [])) : ∀ (r0 : Nat → Nat → Int32) (x1 : Int32) (H : Heap) (locs : List Loc) (ls : Array Slot), f_X5_findCalled_32 i0 l0 K2 r0 x1 = some q → va_P D vwCl (W5 cs h0 a0 i0 r0 l0) H → va_D A (W5 cs h0 a0 i0 r0 l0) → va_S A s.heap H locs → lv_has ls 2 [(0, .ref h0), (1, .int x1)] → W p l e rmX5_findCalled s m args below meth c H locs 0 0 (MQ below (Qi D cs A q.1 (W5 cs h0 a0 i0 q.2 l0)) args s 0 0 A) (F0 m 32 ls []) := by
  obtain ⟨hx, hb, hr, hml, hown, hts, hK, hA, hlocks, hZ⟩ := id C
  intro r0 x1 H locs ls hf hP hD hS hl
  rw [f_X5_findCalled_32] at hf
  refine lv_aload_n hx hb dX5_findCalled_32 rfl (lv_at hl 0 rfl) ?_
  refine va_get (D := D) (ci := 5) (v := .ref (a0 4)) (C := RX5) (T := TX5) (N := 16) hx hb hts hiX5 hown hK hP 0 rfl rfl 4 (by decide) (hts _ flX5_24) (fun _ h9 => h9) rfl dX5_findCalled_33 ?_
  refine lv_iload_n hx hb dX5_findCalled_36 rfl (lv_at hl 1 rfl) ?_
  refine lv_aload_n hx hb dX5_findCalled_37 rfl (lv_at hl 0 rfl) ?_
  refine lv_aload_n hx hb dX5_findCalled_38 rfl (lv_at hl 0 rfl) ?_
  refine va_get (D := D) (ci := 5) (v := .ref (a0 6)) (C := RX5) (T := TX5) (N := 16) hx hb hts hiX5 hown hK hP 0 rfl rfl 6 (by decide) (hts _ flX5_30) (fun _ h9 => h9) rfl dX5_findCalled_39 ?_
  refine lv_iload_n hx hb dX5_findCalled_42 rfl (lv_at hl 1 rfl) ?_
  refine va_lald (f := l0 6) hx hb hK hP 7 1 rfl rfl (ck_in hf) dX5_findCalled_43 ?_
  have hf := ck_2 hf
  obtain ⟨q2, hq2, hf⟩ := bd_s hf
  refine k_sVi (ws2 := W5 cs h0 a0 i0 r0 l0) (As := [.long (l0 6 x1.toNatClampNeg)]) (rest := [.int x1, .ref (a0 4)]) hx hb hml hown hts hK hA hZ hl.1 hP hD hS (c_X5_procNamed (h0 := h0) (a0 := a0) hq2) (gVt mlX5_73 imX5_procNamed seX5_procNamed inX5 coX5_procNamed) rfl qnX5_procNamed rfl rfl ⟨Nat.le_of_ble_eq_true rfl, Nat.le_of_ble_eq_true rfl⟩ 0 5 rfl rfl rfl rfl rfl (Nat.le_of_ble_eq_true rfl) ⟨Nat.zero_le _, Nat.zero_le _⟩ dX5_findCalled_44 (fun H locs hP hD hS => ?_)
  refine va_iast (f := r0 4) hx hb hK hP hD hS 5 0 rfl rfl (ck_in hf) dX5_findCalled_47 (fun H locs hP hD hS => ?_)
  have hf := ck_2 hf
  obtain ⟨hP, hD⟩ := st5_4 hP hD
  exact w_X5_findCalled_48 C _ (hK2) _ _ _ _ _ hf hP hD hS (lv_sub hl [0, 1] rfl)
def f_X5_findCalled_2 (i0 : Nat → Int32) (l0 : Nat → Nat → Int64)  : Nat → (Nat → Nat → Int32) → Int32 → Option (Int32 × (Nat → Nat → Int32))
  | 0, _, _ => none
  | n + 1, r0, x1 => if (i0 13) ≤ x1 then (some (1, r0)) else (ck (inb x1 60) (if (r0 0 x1.toNatClampNeg) = 6 then (f_X5_findCalled_32 i0 l0 (f_X5_findCalled_2 i0 l0 n) r0 x1) else (ck (inb x1 60) (if (r0 0 x1.toNatClampNeg) = 7 then (f_X5_findCalled_32 i0 l0 (f_X5_findCalled_2 i0 l0 n) r0 x1) else (f_X5_findCalled_60 i0 l0 (f_X5_findCalled_2 i0 l0 n) r0 x1)))))
set_option maxRecDepth 100000 in
set_option maxHeartbeats 4000000 in
theorem w_X5_findCalled_2 {p : Program} {l : Launch} {e : Env} {s : State} {m : MethodId} {args : Array Value} {below : List Frame} {meth : Method} {c : Code} {A : Nat → Prop} {D : va_G} {cs zs : Nat → Nat} {h0 : Nat} {a0 : Nat → Nat} {i0 : Nat → Int32} {l0 : Nat → Nat → Int64} {q : Int32 × (Nat → Nat → Int32)} (C : Cx p s m args meth c A D cs zs cX5_findCalled 2 (some .boolean) RX5)  : ∀ (n : Nat), ∀ (r0 : Nat → Nat → Int32) (x1 : Int32) (H : Heap) (locs : List Loc) (ls : Array Slot), f_X5_findCalled_2 i0 l0 n r0 x1 = some q → va_P D vwCl (W5 cs h0 a0 i0 r0 l0) H → va_D A (W5 cs h0 a0 i0 r0 l0) → va_S A s.heap H locs → lv_has ls 2 [(0, .ref h0), (1, .int x1)] → W p l e rmX5_findCalled s m args below meth c H locs 0 0 (MQ below (Qi D cs A q.1 (W5 cs h0 a0 i0 q.2 l0)) args s 0 0 A) (F0 m 2 ls []) := by
  obtain ⟨hx, hb, hr, hml, hown, hts, hK, hA, hlocks, hZ⟩ := id C
  intro n
  induction n with
  | zero =>
    intro r0 x1 H locs ls hf
    rw [f_X5_findCalled_2] at hf
    cases hf
  | succ n ih =>
    intro r0 x1 H locs ls hf hP hD hS hl
    rw [f_X5_findCalled_2] at hf
    refine lv_iload_n hx hb dX5_findCalled_2 rfl (lv_at hl 1 rfl) ?_
    refine lv_aload_n hx hb dX5_findCalled_3 rfl (lv_at hl 0 rfl) ?_
    refine va_get (D := D) (ci := 5) (v := .int (i0 13)) (C := RX5) (T := TX5) (N := 16) hx hb hts hiX5 hown hK hP 0 rfl rfl 13 (by decide) (hts _ flX5_57) (fun _ h9 => h9) rfl dX5_findCalled_4 ?_
    refine lv_icmp_ge (tgt := 66) hx hb dX5_findCalled_7 (by decide) (fun hc => ?_) (fun hc => ?_)
    · have hf := ite_t hf hc
      refine lv_iconst (v := 1) hx hb dX5_findCalled_66 (by decide) ?_
      obtain rfl := Option.some.inj hf
      exact k_zret (r := 1) hx hb hr hlocks rfl hK hP hD hS dX5_findCalled_67
    · have hf := ite_f hf hc
      refine lv_aload_n hx hb dX5_findCalled_10 rfl (lv_at hl 0 rfl) ?_
      refine va_get (D := D) (ci := 5) (v := .ref (a0 0)) (C := RX5) (T := TX5) (N := 16) hx hb hts hiX5 hown hK hP 0 rfl rfl 0 (by decide) (hts _ flX5_9) (fun _ h9 => h9) rfl dX5_findCalled_11 ?_
      refine lv_iload_n hx hb dX5_findCalled_14 rfl (lv_at hl 1 rfl) ?_
      refine va_iald (f := r0 0) hx hb hK hP 1 0 rfl rfl (ck_in hf) dX5_findCalled_15 ?_
      have hf := ck_2 hf
      refine lv_bipush (v := 6) hx hb dX5_findCalled_16 (by decide) ?_
      refine lv_icmp_eq (tgt := 32) hx hb dX5_findCalled_18 (by decide) (fun hc => ?_) (fun hc => ?_)
      · have hf := ite_t hf hc
        exact w_X5_findCalled_32 C _ (ih) _ _ _ _ _ hf hP hD hS (lv_sub hl [0, 1] rfl)
      · have hf := ite_f hf hc
        refine lv_aload_n hx hb dX5_findCalled_21 rfl (lv_at hl 0 rfl) ?_
        refine va_get (D := D) (ci := 5) (v := .ref (a0 0)) (C := RX5) (T := TX5) (N := 16) hx hb hts hiX5 hown hK hP 0 rfl rfl 0 (by decide) (hts _ flX5_9) (fun _ h9 => h9) rfl dX5_findCalled_22 ?_
        refine lv_iload_n hx hb dX5_findCalled_25 rfl (lv_at hl 1 rfl) ?_
        refine va_iald (f := r0 0) hx hb hK hP 1 0 rfl rfl (ck_in hf) dX5_findCalled_26 ?_
        have hf := ck_2 hf
        refine lv_bipush (v := 7) hx hb dX5_findCalled_27 (by decide) ?_
        refine lv_icmp_ne (tgt := 60) hx hb dX5_findCalled_29 (by decide) (fun hc => ?_) (fun hc => ?_)
        · have hf := ite_f hf hc
          exact w_X5_findCalled_60 C _ (ih) _ _ _ _ _ hf hP hD hS (lv_sub hl [0, 1] rfl)
        · have hf := ite_t hf hc
          exact w_X5_findCalled_32 C _ (ih) _ _ _ _ _ hf hP hD hS (lv_sub hl [0, 1] rfl)
def f_X5_findCalled  (i0 : Nat → Int32) (r0 : Nat → Nat → Int32) (l0 : Nat → Nat → Int64)  : Option (Int32 × (Nat → Nat → Int32)) := f_X5_findCalled_2 i0 l0 2000000 r0 0
set_option maxRecDepth 100000 in
set_option maxHeartbeats 4000000 in
theorem c_X5_findCalled {l : Launch} {D : va_G} {cs zs : Nat → Nat} {h0 : Nat} {a0 : Nat → Nat} {i0 : Nat → Int32} {r0 : Nat → Nat → Int32} {l0 : Nat → Nat → Int64}  {q : Int32 × (Nat → Nat → Int32)} (hf : f_X5_findCalled i0 r0 l0 = some q) : Mi l yX5_findCalled wlX5_findCalled rmX5_findCalled D cs zs [.ref h0] (W5 cs h0 a0 i0 r0 l0) q.1 (W5 cs h0 a0 i0 q.2 l0) := by
  refine Mi.of RX5 (by decide) rfl (Nat.le_of_ble_eq_true rfl) (fun p e s m below meth c A C hP hD hS ls hl => ?_)
  generalize ([.ref h0] : List Value).toArray = args at C ⊢
  obtain ⟨hx, hb, hr, hml, hown, hts, hK, hA, hlocks, hZ⟩ := id C
  have hl : lv_has ls 2 [(0, .ref h0)] := hl
  rw [f_X5_findCalled] at hf
  refine lv_iconst (v := 0) hx hb dX5_findCalled_0 (by decide) ?_
  refine lv_istore_n (lv' := [(1, .int 0), (0, .ref h0)]) hx hb dX5_findCalled_1 rfl hl (by decide) rfl (fun ls hl => ?_)
  exact w_X5_findCalled_2 C  2000000 _ _ _ _ _ hf hP hD hS (lv_sub hl [1, 0] rfl)
/-! MarbleFloor$Program.addCode(I)V -/
abbrev wlX5_addCode : List Cond := Cond.code yX5_addCode cX5_addCode 2 none :: tbG
abbrev rmX5_addCode : Room := { frames := 0, cells := 0, slots := 0, locals := 0 }
theorem qnX5_addCode : yX5_addCode.cls = RX5 ∧ yX5_addCode.cls ≠ "java/lang/invoke/MethodHandle" ∧ yX5_addCode.cls ≠ "java/lang/invoke/VarHandle" ∧ (parseMethodDescriptor yX5_addCode.desc).map (fun d => d.parameters.length) = some 1 := by decide +kernel
def f_X5_addCode  (i0 : Nat → Int32) (r0 : Nat → Nat → Int32) (l0 : Nat → Nat → Int64) (x1 : Int32) : Option ((Nat → Int32) × (Nat → Nat → Int32)) := if 900 ≤ (i0 15) then (some (i0, r0)) else (ck (inb (i0 15) 900) (some ((upd i0 15 ((i0 15) + 1)), (va_up r0 12 (upd (r0 12) (i0 15).toNatClampNeg x1)))))
set_option maxRecDepth 100000 in
set_option maxHeartbeats 4000000 in
theorem c_X5_addCode {l : Launch} {D : va_G} {cs zs : Nat → Nat} {h0 : Nat} {a0 : Nat → Nat} {i0 : Nat → Int32} {r0 : Nat → Nat → Int32} {l0 : Nat → Nat → Int64} {x1 : Int32} {q : (Nat → Int32) × (Nat → Nat → Int32)} (hf : f_X5_addCode i0 r0 l0 x1 = some q) : Mv l yX5_addCode wlX5_addCode rmX5_addCode D cs zs [.ref h0, .int x1] (W5 cs h0 a0 i0 r0 l0) (W5 cs h0 a0 q.1 q.2 l0) := by
  refine Mv.of RX5 (by decide) rfl (Nat.le_of_ble_eq_true rfl) (fun p e s m below meth c A C hP hD hS ls hl => ?_)
  generalize ([.ref h0, .int x1] : List Value).toArray = args at C ⊢
  obtain ⟨hx, hb, hr, hml, hown, hts, hK, hA, hlocks, hZ⟩ := id C
  have hl : lv_has ls 2 [(0, .ref h0), (1, .int x1)] := hl
  rw [f_X5_addCode] at hf
  refine lv_aload_n hx hb dX5_addCode_0 rfl (lv_at hl 0 rfl) ?_
  refine va_get (D := D) (ci := 5) (v := .int (i0 15)) (C := RX5) (T := TX5) (N := 16) hx hb hts hiX5 hown hK hP 0 rfl rfl 15 (by decide) (hts _ flX5_64) (fun _ h9 => h9) rfl dX5_addCode_1 ?_
  refine lv_aload_n hx hb dX5_addCode_4 rfl (lv_at hl 0 rfl) ?_
  refine va_get (D := D) (ci := 5) (v := .ref (a0 12)) (C := RX5) (T := TX5) (N := 16) hx hb hts hiX5 hown hK hP 0 rfl rfl 12 (by decide) (hts _ flX5_51) (fun _ h9 => h9) rfl dX5_addCode_5 ?_
  refine va_alen (v := 900) hx hb hK hP 13 0 rfl rfl rfl dX5_addCode_8 ?_
  refine lv_icmp_ge (tgt := 32) hx hb dX5_addCode_9 (by decide) (fun hc => ?_) (fun hc => ?_)
  · have hf := ite_t hf hc
    obtain rfl := Option.some.inj hf
    exact k_vret hx hb hr hlocks hK hP hD hS dX5_addCode_32
  · have hf := ite_f hf hc
    refine lv_aload_n hx hb dX5_addCode_12 rfl (lv_at hl 0 rfl) ?_
    refine va_get (D := D) (ci := 5) (v := .ref (a0 12)) (C := RX5) (T := TX5) (N := 16) hx hb hts hiX5 hown hK hP 0 rfl rfl 12 (by decide) (hts _ flX5_51) (fun _ h9 => h9) rfl dX5_addCode_13 ?_
    refine lv_aload_n hx hb dX5_addCode_16 rfl (lv_at hl 0 rfl) ?_
    refine va_get (D := D) (ci := 5) (v := .int (i0 15)) (C := RX5) (T := TX5) (N := 16) hx hb hts hiX5 hown hK hP 0 rfl rfl 15 (by decide) (hts _ flX5_64) (fun _ h9 => h9) rfl dX5_addCode_17 ?_
    refine lv_iload_n hx hb dX5_addCode_20 rfl (lv_at hl 1 rfl) ?_
    refine va_iast (f := r0 12) hx hb hK hP hD hS 13 0 rfl rfl (ck_in hf) dX5_addCode_21 (fun H locs hP hD hS => ?_)
    have hf := ck_2 hf
    obtain ⟨hP, hD⟩ := st5_12 hP hD
    refine lv_aload_n hx hb dX5_addCode_22 rfl (lv_at hl 0 rfl) ?_
    refine lv_dup hx hb dX5_addCode_23 rfl ?_
    refine va_get (D := D) (ci := 5) (v := .int (i0 15)) (C := RX5) (T := TX5) (N := 16) hx hb hts hiX5 hown hK hP 0 rfl rfl 15 (by decide) (hts _ flX5_64) (fun _ h9 => h9) rfl dX5_addCode_24 ?_
    refine lv_iconst (v := 1) hx hb dX5_addCode_27 (by decide) ?_
    refine lv_iadd hx hb dX5_addCode_28 ?_
    refine va_put (D := D) (ci := 5) (v := .int ((i0 15) + 1)) (ty := .int) (C := RX5) (T := TX5) (N := 16) hx hb hts hiX5 tyX5 tyX5_ok nmX5 hown hK hP hD hS 0 rfl rfl 15 (by decide) (hts _ flX5_64) (fun _ h9 => h9) rfl (tyX5_ok 15 (by decide)) rfl rfl (Nat.le_of_ble_eq_true rfl) dX5_addCode_29 (fun H locs hP hD hS => ?_)
    obtain ⟨hP, hD⟩ := st5_15 hP hD
    obtain rfl := Option.some.inj hf
    exact k_vret hx hb hr hlocks hK hP hD hS dX5_addCode_32
/-! MarbleFloor$Program.beginSum(II)V -/
abbrev wlX5_beginSum : List Cond := Cond.code yX5_beginSum cX5_beginSum 3 none :: tbG
abbrev rmX5_beginSum : Room := { frames := 0, cells := 0, slots := 0, locals := 0 }
theorem qnX5_beginSum : yX5_beginSum.cls = RX5 ∧ yX5_beginSum.cls ≠ "java/lang/invoke/MethodHandle" ∧ yX5_beginSum.cls ≠ "java/lang/invoke/VarHandle" ∧ (parseMethodDescriptor yX5_beginSum.desc).map (fun d => d.parameters.length) = some 2 := by decide +kernel
def f_X5_beginSum  (i0 : Nat → Int32) (r0 : Nat → Nat → Int32) (l0 : Nat → Nat → Int64) (x1 : Int32) (x2 : Int32) : Option ((Nat → Nat → Int32)) := ck (inb ((2 * x1) + x2) 120) (some ((va_up r0 7 (upd (r0 7) ((2 * x1) + x2).toNatClampNeg (i0 15)))))
set_option maxRecDepth 100000 in
set_option maxHeartbeats 4000000 in
theorem c_X5_beginSum {l : Launch} {D : va_G} {cs zs : Nat → Nat} {h0 : Nat} {a0 : Nat → Nat} {i0 : Nat → Int32} {r0 : Nat → Nat → Int32} {l0 : Nat → Nat → Int64} {x1 : Int32} {x2 : Int32} {q : (Nat → Nat → Int32)} (hf : f_X5_beginSum i0 r0 l0 x1 x2 = some q) : Mv l yX5_beginSum wlX5_beginSum rmX5_beginSum D cs zs [.ref h0, .int x1, .int x2] (W5 cs h0 a0 i0 r0 l0) (W5 cs h0 a0 i0 q l0) := by
  refine Mv.of RX5 (by decide) rfl (Nat.le_of_ble_eq_true rfl) (fun p e s m below meth c A C hP hD hS ls hl => ?_)
  generalize ([.ref h0, .int x1, .int x2] : List Value).toArray = args at C ⊢
  obtain ⟨hx, hb, hr, hml, hown, hts, hK, hA, hlocks, hZ⟩ := id C
  have hl : lv_has ls 3 [(0, .ref h0), (1, .int x1), (2, .int x2)] := hl
  rw [f_X5_beginSum] at hf
  refine lv_aload_n hx hb dX5_beginSum_0 rfl (lv_at hl 0 rfl) ?_
  refine va_get (D := D) (ci := 5) (v := .ref (a0 7)) (C := RX5) (T := TX5) (N := 16) hx hb hts hiX5 hown hK hP 0 rfl rfl 7 (by decide) (hts _ flX5_34) (fun _ h9 => h9) rfl dX5_beginSum_1 ?_
  refine lv_iconst (v := 2) hx hb dX5_beginSum_4 (by decide) ?_
  refine lv_iload_n hx hb dX5_beginSum_5 rfl (lv_at hl 1 rfl) ?_
  refine lv_imul hx hb dX5_beginSum_6 ?_
  refine lv_iload_n hx hb dX5_beginSum_7 rfl (lv_at hl 2 rfl) ?_
  refine lv_iadd hx hb dX5_beginSum_8 ?_
  refine lv_aload_n hx hb dX5_beginSum_9 rfl (lv_at hl 0 rfl) ?_
  refine va_get (D := D) (ci := 5) (v := .int (i0 15)) (C := RX5) (T := TX5) (N := 16) hx hb hts hiX5 hown hK hP 0 rfl rfl 15 (by decide) (hts _ flX5_64) (fun _ h9 => h9) rfl dX5_beginSum_10 ?_
  refine va_iast (f := r0 7) hx hb hK hP hD hS 8 0 rfl rfl (ck_in hf) dX5_beginSum_13 (fun H locs hP hD hS => ?_)
  have hf := ck_2 hf
  obtain ⟨hP, hD⟩ := st5_7 hP hD
  obtain rfl := Option.some.inj hf
  exact k_vret hx hb hr hlocks hK hP hD hS dX5_beginSum_14
/-! MarbleFloor$Program.endSum(II)V -/
abbrev wlX5_endSum : List Cond := Cond.code yX5_endSum cX5_endSum 3 none :: tbG
abbrev rmX5_endSum : Room := { frames := 0, cells := 0, slots := 0, locals := 0 }
theorem qnX5_endSum : yX5_endSum.cls = RX5 ∧ yX5_endSum.cls ≠ "java/lang/invoke/MethodHandle" ∧ yX5_endSum.cls ≠ "java/lang/invoke/VarHandle" ∧ (parseMethodDescriptor yX5_endSum.desc).map (fun d => d.parameters.length) = some 2 := by decide +kernel
def f_X5_endSum  (i0 : Nat → Int32) (r0 : Nat → Nat → Int32) (l0 : Nat → Nat → Int64) (x1 : Int32) (x2 : Int32) : Option ((Nat → Nat → Int32)) := ck (inb ((2 * x1) + x2) 120) (some ((va_up r0 8 (upd (r0 8) ((2 * x1) + x2).toNatClampNeg (i0 15)))))
set_option maxRecDepth 100000 in
set_option maxHeartbeats 4000000 in
theorem c_X5_endSum {l : Launch} {D : va_G} {cs zs : Nat → Nat} {h0 : Nat} {a0 : Nat → Nat} {i0 : Nat → Int32} {r0 : Nat → Nat → Int32} {l0 : Nat → Nat → Int64} {x1 : Int32} {x2 : Int32} {q : (Nat → Nat → Int32)} (hf : f_X5_endSum i0 r0 l0 x1 x2 = some q) : Mv l yX5_endSum wlX5_endSum rmX5_endSum D cs zs [.ref h0, .int x1, .int x2] (W5 cs h0 a0 i0 r0 l0) (W5 cs h0 a0 i0 q l0) := by
  refine Mv.of RX5 (by decide) rfl (Nat.le_of_ble_eq_true rfl) (fun p e s m below meth c A C hP hD hS ls hl => ?_)
  generalize ([.ref h0, .int x1, .int x2] : List Value).toArray = args at C ⊢
  obtain ⟨hx, hb, hr, hml, hown, hts, hK, hA, hlocks, hZ⟩ := id C
  have hl : lv_has ls 3 [(0, .ref h0), (1, .int x1), (2, .int x2)] := hl
  rw [f_X5_endSum] at hf
  refine lv_aload_n hx hb dX5_endSum_0 rfl (lv_at hl 0 rfl) ?_
  refine va_get (D := D) (ci := 5) (v := .ref (a0 8)) (C := RX5) (T := TX5) (N := 16) hx hb hts hiX5 hown hK hP 0 rfl rfl 8 (by decide) (hts _ flX5_37) (fun _ h9 => h9) rfl dX5_endSum_1 ?_
  refine lv_iconst (v := 2) hx hb dX5_endSum_4 (by decide) ?_
  refine lv_iload_n hx hb dX5_endSum_5 rfl (lv_at hl 1 rfl) ?_
  refine lv_imul hx hb dX5_endSum_6 ?_
  refine lv_iload_n hx hb dX5_endSum_7 rfl (lv_at hl 2 rfl) ?_
  refine lv_iadd hx hb dX5_endSum_8 ?_
  refine lv_aload_n hx hb dX5_endSum_9 rfl (lv_at hl 0 rfl) ?_
  refine va_get (D := D) (ci := 5) (v := .int (i0 15)) (C := RX5) (T := TX5) (N := 16) hx hb hts hiX5 hown hK hP 0 rfl rfl 15 (by decide) (hts _ flX5_64) (fun _ h9 => h9) rfl dX5_endSum_10 ?_
  refine va_iast (f := r0 8) hx hb hK hP hD hS 9 0 rfl rfl (ck_in hf) dX5_endSum_13 (fun H locs hP hD hS => ?_)
  have hf := ck_2 hf
  obtain ⟨hP, hD⟩ := st5_8 hP hD
  obtain rfl := Option.some.inj hf
  exact k_vret hx hb hr hlocks hK hP hD hS dX5_endSum_14
/-! MarbleFloor$Program.kindOf(I)I -/
abbrev wlX5_kindOf : List Cond := Cond.code yX5_kindOf cX5_kindOf 2 (some .int) :: tbG
abbrev rmX5_kindOf : Room := { frames := 0, cells := 0, slots := 0, locals := 0 }
theorem qnX5_kindOf : yX5_kindOf.cls = RX5 ∧ yX5_kindOf.cls ≠ "java/lang/invoke/MethodHandle" ∧ yX5_kindOf.cls ≠ "java/lang/invoke/VarHandle" ∧ (parseMethodDescriptor yX5_kindOf.desc).map (fun d => d.parameters.length) = some 1 := by decide +kernel
def f_X5_kindOf  (i0 : Nat → Int32) (r0 : Nat → Nat → Int32) (l0 : Nat → Nat → Int64) (x1 : Int32) : Option (Int32) := ck (inb x1 60) (some (r0 0 x1.toNatClampNeg))
set_option maxRecDepth 100000 in
set_option maxHeartbeats 4000000 in
theorem c_X5_kindOf {l : Launch} {D : va_G} {cs zs : Nat → Nat} {h0 : Nat} {a0 : Nat → Nat} {i0 : Nat → Int32} {r0 : Nat → Nat → Int32} {l0 : Nat → Nat → Int64} {x1 : Int32} {q : Int32} (hf : f_X5_kindOf i0 r0 l0 x1 = some q) : Mi l yX5_kindOf wlX5_kindOf rmX5_kindOf D cs zs [.ref h0, .int x1] (W5 cs h0 a0 i0 r0 l0) q (W5 cs h0 a0 i0 r0 l0) := by
  refine Mi.of RX5 (by decide) rfl (Nat.le_of_ble_eq_true rfl) (fun p e s m below meth c A C hP hD hS ls hl => ?_)
  generalize ([.ref h0, .int x1] : List Value).toArray = args at C ⊢
  obtain ⟨hx, hb, hr, hml, hown, hts, hK, hA, hlocks, hZ⟩ := id C
  have hl : lv_has ls 2 [(0, .ref h0), (1, .int x1)] := hl
  rw [f_X5_kindOf] at hf
  refine lv_aload_n hx hb dX5_kindOf_0 rfl (lv_at hl 0 rfl) ?_
  refine va_get (D := D) (ci := 5) (v := .ref (a0 0)) (C := RX5) (T := TX5) (N := 16) hx hb hts hiX5 hown hK hP 0 rfl rfl 0 (by decide) (hts _ flX5_9) (fun _ h9 => h9) rfl dX5_kindOf_1 ?_
  refine lv_iload_n hx hb dX5_kindOf_4 rfl (lv_at hl 1 rfl) ?_
  refine va_iald (f := r0 0) hx hb hK hP 1 0 rfl rfl (ck_in hf) dX5_kindOf_5 ?_
  have hf := ck_2 hf
  obtain rfl := Option.some.inj hf
  exact k_iret hx hb hr hlocks hK hP hD hS dX5_kindOf_6
/-! MarbleFloor$Program.bodyOf(I)I -/
abbrev wlX5_bodyOf : List Cond := Cond.code yX5_bodyOf cX5_bodyOf 2 (some .int) :: tbG
abbrev rmX5_bodyOf : Room := { frames := 0, cells := 0, slots := 0, locals := 0 }
theorem qnX5_bodyOf : yX5_bodyOf.cls = RX5 ∧ yX5_bodyOf.cls ≠ "java/lang/invoke/MethodHandle" ∧ yX5_bodyOf.cls ≠ "java/lang/invoke/VarHandle" ∧ (parseMethodDescriptor yX5_bodyOf.desc).map (fun d => d.parameters.length) = some 1 := by decide +kernel
def f_X5_bodyOf  (i0 : Nat → Int32) (r0 : Nat → Nat → Int32) (l0 : Nat → Nat → Int64) (x1 : Int32) : Option (Int32) := ck (inb x1 60) (some (r0 1 x1.toNatClampNeg))
set_option maxRecDepth 100000 in
set_option maxHeartbeats 4000000 in
theorem c_X5_bodyOf {l : Launch} {D : va_G} {cs zs : Nat → Nat} {h0 : Nat} {a0 : Nat → Nat} {i0 : Nat → Int32} {r0 : Nat → Nat → Int32} {l0 : Nat → Nat → Int64} {x1 : Int32} {q : Int32} (hf : f_X5_bodyOf i0 r0 l0 x1 = some q) : Mi l yX5_bodyOf wlX5_bodyOf rmX5_bodyOf D cs zs [.ref h0, .int x1] (W5 cs h0 a0 i0 r0 l0) q (W5 cs h0 a0 i0 r0 l0) := by
  refine Mi.of RX5 (by decide) rfl (Nat.le_of_ble_eq_true rfl) (fun p e s m below meth c A C hP hD hS ls hl => ?_)
  generalize ([.ref h0, .int x1] : List Value).toArray = args at C ⊢
  obtain ⟨hx, hb, hr, hml, hown, hts, hK, hA, hlocks, hZ⟩ := id C
  have hl : lv_has ls 2 [(0, .ref h0), (1, .int x1)] := hl
  rw [f_X5_bodyOf] at hf
  refine lv_aload_n hx hb dX5_bodyOf_0 rfl (lv_at hl 0 rfl) ?_
  refine va_get (D := D) (ci := 5) (v := .ref (a0 1)) (C := RX5) (T := TX5) (N := 16) hx hb hts hiX5 hown hK hP 0 rfl rfl 1 (by decide) (hts _ flX5_15) (fun _ h9 => h9) rfl dX5_bodyOf_1 ?_
  refine lv_iload_n hx hb dX5_bodyOf_4 rfl (lv_at hl 1 rfl) ?_
  refine va_iald (f := r0 1) hx hb hK hP 2 0 rfl rfl (ck_in hf) dX5_bodyOf_5 ?_
  have hf := ck_2 hf
  obtain rfl := Option.some.inj hf
  exact k_iret hx hb hr hlocks hK hP hD hS dX5_bodyOf_6
/-! MarbleFloor$Program.leftOf(I)I -/
abbrev wlX5_leftOf : List Cond := Cond.code yX5_leftOf cX5_leftOf 2 (some .int) :: tbG
abbrev rmX5_leftOf : Room := { frames := 0, cells := 0, slots := 0, locals := 0 }
theorem qnX5_leftOf : yX5_leftOf.cls = RX5 ∧ yX5_leftOf.cls ≠ "java/lang/invoke/MethodHandle" ∧ yX5_leftOf.cls ≠ "java/lang/invoke/VarHandle" ∧ (parseMethodDescriptor yX5_leftOf.desc).map (fun d => d.parameters.length) = some 1 := by decide +kernel
def f_X5_leftOf  (i0 : Nat → Int32) (r0 : Nat → Nat → Int32) (l0 : Nat → Nat → Int64) (x1 : Int32) : Option (Int32) := ck (inb x1 60) (some (r0 4 x1.toNatClampNeg))
set_option maxRecDepth 100000 in
set_option maxHeartbeats 4000000 in
theorem c_X5_leftOf {l : Launch} {D : va_G} {cs zs : Nat → Nat} {h0 : Nat} {a0 : Nat → Nat} {i0 : Nat → Int32} {r0 : Nat → Nat → Int32} {l0 : Nat → Nat → Int64} {x1 : Int32} {q : Int32} (hf : f_X5_leftOf i0 r0 l0 x1 = some q) : Mi l yX5_leftOf wlX5_leftOf rmX5_leftOf D cs zs [.ref h0, .int x1] (W5 cs h0 a0 i0 r0 l0) q (W5 cs h0 a0 i0 r0 l0) := by
  refine Mi.of RX5 (by decide) rfl (Nat.le_of_ble_eq_true rfl) (fun p e s m below meth c A C hP hD hS ls hl => ?_)
  generalize ([.ref h0, .int x1] : List Value).toArray = args at C ⊢
  obtain ⟨hx, hb, hr, hml, hown, hts, hK, hA, hlocks, hZ⟩ := id C
  have hl : lv_has ls 2 [(0, .ref h0), (1, .int x1)] := hl
  rw [f_X5_leftOf] at hf
  refine lv_aload_n hx hb dX5_leftOf_0 rfl (lv_at hl 0 rfl) ?_
  refine va_get (D := D) (ci := 5) (v := .ref (a0 4)) (C := RX5) (T := TX5) (N := 16) hx hb hts hiX5 hown hK hP 0 rfl rfl 4 (by decide) (hts _ flX5_24) (fun _ h9 => h9) rfl dX5_leftOf_1 ?_
  refine lv_iload_n hx hb dX5_leftOf_4 rfl (lv_at hl 1 rfl) ?_
  refine va_iald (f := r0 4) hx hb hK hP 5 0 rfl rfl (ck_in hf) dX5_leftOf_5 ?_
  have hf := ck_2 hf
  obtain rfl := Option.some.inj hf
  exact k_iret hx hb hr hlocks hK hP hD hS dX5_leftOf_6
/-! MarbleFloor$Program.rightOf(I)I -/
abbrev wlX5_rightOf : List Cond := Cond.code yX5_rightOf cX5_rightOf 2 (some .int) :: tbG
abbrev rmX5_rightOf : Room := { frames := 0, cells := 0, slots := 0, locals := 0 }
theorem qnX5_rightOf : yX5_rightOf.cls = RX5 ∧ yX5_rightOf.cls ≠ "java/lang/invoke/MethodHandle" ∧ yX5_rightOf.cls ≠ "java/lang/invoke/VarHandle" ∧ (parseMethodDescriptor yX5_rightOf.desc).map (fun d => d.parameters.length) = some 1 := by decide +kernel
def f_X5_rightOf  (i0 : Nat → Int32) (r0 : Nat → Nat → Int32) (l0 : Nat → Nat → Int64) (x1 : Int32) : Option (Int32) := ck (inb x1 60) (some (r0 5 x1.toNatClampNeg))
set_option maxRecDepth 100000 in
set_option maxHeartbeats 4000000 in
theorem c_X5_rightOf {l : Launch} {D : va_G} {cs zs : Nat → Nat} {h0 : Nat} {a0 : Nat → Nat} {i0 : Nat → Int32} {r0 : Nat → Nat → Int32} {l0 : Nat → Nat → Int64} {x1 : Int32} {q : Int32} (hf : f_X5_rightOf i0 r0 l0 x1 = some q) : Mi l yX5_rightOf wlX5_rightOf rmX5_rightOf D cs zs [.ref h0, .int x1] (W5 cs h0 a0 i0 r0 l0) q (W5 cs h0 a0 i0 r0 l0) := by
  refine Mi.of RX5 (by decide) rfl (Nat.le_of_ble_eq_true rfl) (fun p e s m below meth c A C hP hD hS ls hl => ?_)
  generalize ([.ref h0, .int x1] : List Value).toArray = args at C ⊢
  obtain ⟨hx, hb, hr, hml, hown, hts, hK, hA, hlocks, hZ⟩ := id C
  have hl : lv_has ls 2 [(0, .ref h0), (1, .int x1)] := hl
  rw [f_X5_rightOf] at hf
  refine lv_aload_n hx hb dX5_rightOf_0 rfl (lv_at hl 0 rfl) ?_
  refine va_get (D := D) (ci := 5) (v := .ref (a0 5)) (C := RX5) (T := TX5) (N := 16) hx hb hts hiX5 hown hK hP 0 rfl rfl 5 (by decide) (hts _ flX5_27) (fun _ h9 => h9) rfl dX5_rightOf_1 ?_
  refine lv_iload_n hx hb dX5_rightOf_4 rfl (lv_at hl 1 rfl) ?_
  refine va_iald (f := r0 5) hx hb hK hP 6 0 rfl rfl (ck_in hf) dX5_rightOf_5 ?_
  have hf := ck_2 hf
  obtain rfl := Option.some.inj hf
  exact k_iret hx hb hr hlocks hK hP hD hS dX5_rightOf_6
/-! MarbleFloor$Program.beginOf(II)I -/
abbrev wlX5_beginOf : List Cond := Cond.code yX5_beginOf cX5_beginOf 3 (some .int) :: tbG
abbrev rmX5_beginOf : Room := { frames := 0, cells := 0, slots := 0, locals := 0 }
theorem qnX5_beginOf : yX5_beginOf.cls = RX5 ∧ yX5_beginOf.cls ≠ "java/lang/invoke/MethodHandle" ∧ yX5_beginOf.cls ≠ "java/lang/invoke/VarHandle" ∧ (parseMethodDescriptor yX5_beginOf.desc).map (fun d => d.parameters.length) = some 2 := by decide +kernel
def f_X5_beginOf  (i0 : Nat → Int32) (r0 : Nat → Nat → Int32) (l0 : Nat → Nat → Int64) (x1 : Int32) (x2 : Int32) : Option (Int32) := ck (inb ((2 * x1) + x2) 120) (some (r0 7 ((2 * x1) + x2).toNatClampNeg))
set_option maxRecDepth 100000 in
set_option maxHeartbeats 4000000 in
theorem c_X5_beginOf {l : Launch} {D : va_G} {cs zs : Nat → Nat} {h0 : Nat} {a0 : Nat → Nat} {i0 : Nat → Int32} {r0 : Nat → Nat → Int32} {l0 : Nat → Nat → Int64} {x1 : Int32} {x2 : Int32} {q : Int32} (hf : f_X5_beginOf i0 r0 l0 x1 x2 = some q) : Mi l yX5_beginOf wlX5_beginOf rmX5_beginOf D cs zs [.ref h0, .int x1, .int x2] (W5 cs h0 a0 i0 r0 l0) q (W5 cs h0 a0 i0 r0 l0) := by
  refine Mi.of RX5 (by decide) rfl (Nat.le_of_ble_eq_true rfl) (fun p e s m below meth c A C hP hD hS ls hl => ?_)
  generalize ([.ref h0, .int x1, .int x2] : List Value).toArray = args at C ⊢
  obtain ⟨hx, hb, hr, hml, hown, hts, hK, hA, hlocks, hZ⟩ := id C
  have hl : lv_has ls 3 [(0, .ref h0), (1, .int x1), (2, .int x2)] := hl
  rw [f_X5_beginOf] at hf
  refine lv_aload_n hx hb dX5_beginOf_0 rfl (lv_at hl 0 rfl) ?_
  refine va_get (D := D) (ci := 5) (v := .ref (a0 7)) (C := RX5) (T := TX5) (N := 16) hx hb hts hiX5 hown hK hP 0 rfl rfl 7 (by decide) (hts _ flX5_34) (fun _ h9 => h9) rfl dX5_beginOf_1 ?_
  refine lv_iconst (v := 2) hx hb dX5_beginOf_4 (by decide) ?_
  refine lv_iload_n hx hb dX5_beginOf_5 rfl (lv_at hl 1 rfl) ?_
  refine lv_imul hx hb dX5_beginOf_6 ?_
  refine lv_iload_n hx hb dX5_beginOf_7 rfl (lv_at hl 2 rfl) ?_
  refine lv_iadd hx hb dX5_beginOf_8 ?_
  refine va_iald (f := r0 7) hx hb hK hP 8 0 rfl rfl (ck_in hf) dX5_beginOf_9 ?_
  have hf := ck_2 hf
  obtain rfl := Option.some.inj hf
  exact k_iret hx hb hr hlocks hK hP hD hS dX5_beginOf_10
/-! MarbleFloor$Program.endOf(II)I -/
abbrev wlX5_endOf : List Cond := Cond.code yX5_endOf cX5_endOf 3 (some .int) :: tbG
abbrev rmX5_endOf : Room := { frames := 0, cells := 0, slots := 0, locals := 0 }
theorem qnX5_endOf : yX5_endOf.cls = RX5 ∧ yX5_endOf.cls ≠ "java/lang/invoke/MethodHandle" ∧ yX5_endOf.cls ≠ "java/lang/invoke/VarHandle" ∧ (parseMethodDescriptor yX5_endOf.desc).map (fun d => d.parameters.length) = some 2 := by decide +kernel
def f_X5_endOf  (i0 : Nat → Int32) (r0 : Nat → Nat → Int32) (l0 : Nat → Nat → Int64) (x1 : Int32) (x2 : Int32) : Option (Int32) := ck (inb ((2 * x1) + x2) 120) (some (r0 8 ((2 * x1) + x2).toNatClampNeg))
set_option maxRecDepth 100000 in
set_option maxHeartbeats 4000000 in
theorem c_X5_endOf {l : Launch} {D : va_G} {cs zs : Nat → Nat} {h0 : Nat} {a0 : Nat → Nat} {i0 : Nat → Int32} {r0 : Nat → Nat → Int32} {l0 : Nat → Nat → Int64} {x1 : Int32} {x2 : Int32} {q : Int32} (hf : f_X5_endOf i0 r0 l0 x1 x2 = some q) : Mi l yX5_endOf wlX5_endOf rmX5_endOf D cs zs [.ref h0, .int x1, .int x2] (W5 cs h0 a0 i0 r0 l0) q (W5 cs h0 a0 i0 r0 l0) := by
  refine Mi.of RX5 (by decide) rfl (Nat.le_of_ble_eq_true rfl) (fun p e s m below meth c A C hP hD hS ls hl => ?_)
  generalize ([.ref h0, .int x1, .int x2] : List Value).toArray = args at C ⊢
  obtain ⟨hx, hb, hr, hml, hown, hts, hK, hA, hlocks, hZ⟩ := id C
  have hl : lv_has ls 3 [(0, .ref h0), (1, .int x1), (2, .int x2)] := hl
  rw [f_X5_endOf] at hf
  refine lv_aload_n hx hb dX5_endOf_0 rfl (lv_at hl 0 rfl) ?_
  refine va_get (D := D) (ci := 5) (v := .ref (a0 8)) (C := RX5) (T := TX5) (N := 16) hx hb hts hiX5 hown hK hP 0 rfl rfl 8 (by decide) (hts _ flX5_37) (fun _ h9 => h9) rfl dX5_endOf_1 ?_
  refine lv_iconst (v := 2) hx hb dX5_endOf_4 (by decide) ?_
  refine lv_iload_n hx hb dX5_endOf_5 rfl (lv_at hl 1 rfl) ?_
  refine lv_imul hx hb dX5_endOf_6 ?_
  refine lv_iload_n hx hb dX5_endOf_7 rfl (lv_at hl 2 rfl) ?_
  refine lv_iadd hx hb dX5_endOf_8 ?_
  refine va_iald (f := r0 8) hx hb hK hP 9 0 rfl rfl (ck_in hf) dX5_endOf_9 ?_
  have hf := ck_2 hf
  obtain rfl := Option.some.inj hf
  exact k_iret hx hb hr hlocks hK hP hD hS dX5_endOf_10
/-! MarbleFloor$Program.codeAt(I)I -/
abbrev wlX5_codeAt : List Cond := Cond.code yX5_codeAt cX5_codeAt 2 (some .int) :: tbG
abbrev rmX5_codeAt : Room := { frames := 0, cells := 0, slots := 0, locals := 0 }
theorem qnX5_codeAt : yX5_codeAt.cls = RX5 ∧ yX5_codeAt.cls ≠ "java/lang/invoke/MethodHandle" ∧ yX5_codeAt.cls ≠ "java/lang/invoke/VarHandle" ∧ (parseMethodDescriptor yX5_codeAt.desc).map (fun d => d.parameters.length) = some 1 := by decide +kernel
def f_X5_codeAt  (i0 : Nat → Int32) (r0 : Nat → Nat → Int32) (l0 : Nat → Nat → Int64) (x1 : Int32) : Option (Int32) := ck (inb x1 900) (some (r0 12 x1.toNatClampNeg))
set_option maxRecDepth 100000 in
set_option maxHeartbeats 4000000 in
theorem c_X5_codeAt {l : Launch} {D : va_G} {cs zs : Nat → Nat} {h0 : Nat} {a0 : Nat → Nat} {i0 : Nat → Int32} {r0 : Nat → Nat → Int32} {l0 : Nat → Nat → Int64} {x1 : Int32} {q : Int32} (hf : f_X5_codeAt i0 r0 l0 x1 = some q) : Mi l yX5_codeAt wlX5_codeAt rmX5_codeAt D cs zs [.ref h0, .int x1] (W5 cs h0 a0 i0 r0 l0) q (W5 cs h0 a0 i0 r0 l0) := by
  refine Mi.of RX5 (by decide) rfl (Nat.le_of_ble_eq_true rfl) (fun p e s m below meth c A C hP hD hS ls hl => ?_)
  generalize ([.ref h0, .int x1] : List Value).toArray = args at C ⊢
  obtain ⟨hx, hb, hr, hml, hown, hts, hK, hA, hlocks, hZ⟩ := id C
  have hl : lv_has ls 2 [(0, .ref h0), (1, .int x1)] := hl
  rw [f_X5_codeAt] at hf
  refine lv_aload_n hx hb dX5_codeAt_0 rfl (lv_at hl 0 rfl) ?_
  refine va_get (D := D) (ci := 5) (v := .ref (a0 12)) (C := RX5) (T := TX5) (N := 16) hx hb hts hiX5 hown hK hP 0 rfl rfl 12 (by decide) (hts _ flX5_51) (fun _ h9 => h9) rfl dX5_codeAt_1 ?_
  refine lv_iload_n hx hb dX5_codeAt_4 rfl (lv_at hl 1 rfl) ?_
  refine va_iald (f := r0 12) hx hb hK hP 13 0 rfl rfl (ck_in hf) dX5_codeAt_5 ?_
  have hf := ck_2 hf
  obtain rfl := Option.some.inj hf
  exact k_iret hx hb hr hlocks hK hP hD hS dX5_codeAt_6
/-! MarbleFloor$Program.startOf(IZ)I -/
abbrev wlX5_startOf : List Cond := Cond.code yX5_startOf cX5_startOf 3 (some .int) :: tbG
abbrev rmX5_startOf : Room := { frames := 0, cells := 0, slots := 0, locals := 0 }
theorem qnX5_startOf : yX5_startOf.cls = RX5 ∧ yX5_startOf.cls ≠ "java/lang/invoke/MethodHandle" ∧ yX5_startOf.cls ≠ "java/lang/invoke/VarHandle" ∧ (parseMethodDescriptor yX5_startOf.desc).map (fun d => d.parameters.length) = some 2 := by decide +kernel
def f_X5_startOf  (i0 : Nat → Int32) (r0 : Nat → Nat → Int32) (l0 : Nat → Nat → Int64) (x1 : Int32) (x2 : Int32) : Option (Int32) := if x2 = 0 then (ck (inb x1 126) (some (r0 9 x1.toNatClampNeg))) else (ck (inb x1 126) (some (r0 10 x1.toNatClampNeg)))
set_option maxRecDepth 100000 in
set_option maxHeartbeats 4000000 in
theorem c_X5_startOf {l : Launch} {D : va_G} {cs zs : Nat → Nat} {h0 : Nat} {a0 : Nat → Nat} {i0 : Nat → Int32} {r0 : Nat → Nat → Int32} {l0 : Nat → Nat → Int64} {x1 : Int32} {x2 : Int32} {q : Int32} (hf : f_X5_startOf i0 r0 l0 x1 x2 = some q) : Mi l yX5_startOf wlX5_startOf rmX5_startOf D cs zs [.ref h0, .int x1, .int x2] (W5 cs h0 a0 i0 r0 l0) q (W5 cs h0 a0 i0 r0 l0) := by
  refine Mi.of RX5 (by decide) rfl (Nat.le_of_ble_eq_true rfl) (fun p e s m below meth c A C hP hD hS ls hl => ?_)
  generalize ([.ref h0, .int x1, .int x2] : List Value).toArray = args at C ⊢
  obtain ⟨hx, hb, hr, hml, hown, hts, hK, hA, hlocks, hZ⟩ := id C
  have hl : lv_has ls 3 [(0, .ref h0), (1, .int x1), (2, .int x2)] := hl
  rw [f_X5_startOf] at hf
  refine lv_iload_n hx hb dX5_startOf_0 rfl (lv_at hl 2 rfl) ?_
  refine lv_if_eq (tgt := 13) hx hb dX5_startOf_1 (by decide) (fun hc => ?_) (fun hc => ?_)
  · have hf := ite_t hf hc
    refine lv_aload_n hx hb dX5_startOf_13 rfl (lv_at hl 0 rfl) ?_
    refine va_get (D := D) (ci := 5) (v := .ref (a0 9)) (C := RX5) (T := TX5) (N := 16) hx hb hts hiX5 hown hK hP 0 rfl rfl 9 (by decide) (hts _ flX5_40) (fun _ h9 => h9) rfl dX5_startOf_14 ?_
    refine lv_iload_n hx hb dX5_startOf_17 rfl (lv_at hl 1 rfl) ?_
    refine va_iald (f := r0 9) hx hb hK hP 10 0 rfl rfl (ck_in hf) dX5_startOf_18 ?_
    have hf := ck_2 hf
    obtain rfl := Option.some.inj hf
    exact k_iret hx hb hr hlocks hK hP hD hS dX5_startOf_19
  · have hf := ite_f hf hc
    refine lv_aload_n hx hb dX5_startOf_4 rfl (lv_at hl 0 rfl) ?_
    refine va_get (D := D) (ci := 5) (v := .ref (a0 10)) (C := RX5) (T := TX5) (N := 16) hx hb hts hiX5 hown hK hP 0 rfl rfl 10 (by decide) (hts _ flX5_43) (fun _ h9 => h9) rfl dX5_startOf_5 ?_
    refine lv_iload_n hx hb dX5_startOf_8 rfl (lv_at hl 1 rfl) ?_
    refine va_iald (f := r0 10) hx hb hK hP 11 0 rfl rfl (ck_in hf) dX5_startOf_9 ?_
    have hf := ck_2 hf
    refine lv_goto (tgt := 19) hx hb dX5_startOf_10 (by decide) ?_
    obtain rfl := Option.some.inj hf
    exact k_iret hx hb hr hlocks hK hP hD hS dX5_startOf_19
/-! MarbleFloor$Program.behind(IZ)I -/
abbrev wlX5_behind : List Cond := Cond.code yX5_behind cX5_behind 3 (some .int) :: tbG
abbrev rmX5_behind : Room := { frames := 0, cells := 0, slots := 0, locals := 0 }
theorem qnX5_behind : yX5_behind.cls = RX5 ∧ yX5_behind.cls ≠ "java/lang/invoke/MethodHandle" ∧ yX5_behind.cls ≠ "java/lang/invoke/VarHandle" ∧ (parseMethodDescriptor yX5_behind.desc).map (fun d => d.parameters.length) = some 2 := by decide +kernel
def f_X5_behind  (i0 : Nat → Int32) (r0 : Nat → Nat → Int32) (l0 : Nat → Nat → Int64) (x1 : Int32) (x2 : Int32) : Option (Int32) := if x2 = 0 then (ck (inb x1 60) (some (r0 2 x1.toNatClampNeg))) else (ck (inb x1 60) (some (r0 3 x1.toNatClampNeg)))
set_option maxRecDepth 100000 in
set_option maxHeartbeats 4000000 in
theorem c_X5_behind {l : Launch} {D : va_G} {cs zs : Nat → Nat} {h0 : Nat} {a0 : Nat → Nat} {i0 : Nat → Int32} {r0 : Nat → Nat → Int32} {l0 : Nat → Nat → Int64} {x1 : Int32} {x2 : Int32} {q : Int32} (hf : f_X5_behind i0 r0 l0 x1 x2 = some q) : Mi l yX5_behind wlX5_behind rmX5_behind D cs zs [.ref h0, .int x1, .int x2] (W5 cs h0 a0 i0 r0 l0) q (W5 cs h0 a0 i0 r0 l0) := by
  refine Mi.of RX5 (by decide) rfl (Nat.le_of_ble_eq_true rfl) (fun p e s m below meth c A C hP hD hS ls hl => ?_)
  generalize ([.ref h0, .int x1, .int x2] : List Value).toArray = args at C ⊢
  obtain ⟨hx, hb, hr, hml, hown, hts, hK, hA, hlocks, hZ⟩ := id C
  have hl : lv_has ls 3 [(0, .ref h0), (1, .int x1), (2, .int x2)] := hl
  rw [f_X5_behind] at hf
  refine lv_iload_n hx hb dX5_behind_0 rfl (lv_at hl 2 rfl) ?_
  refine lv_if_eq (tgt := 13) hx hb dX5_behind_1 (by decide) (fun hc => ?_) (fun hc => ?_)
  · have hf := ite_t hf hc
    refine lv_aload_n hx hb dX5_behind_13 rfl (lv_at hl 0 rfl) ?_
    refine va_get (D := D) (ci := 5) (v := .ref (a0 2)) (C := RX5) (T := TX5) (N := 16) hx hb hts hiX5 hown hK hP 0 rfl rfl 2 (by decide) (hts _ flX5_18) (fun _ h9 => h9) rfl dX5_behind_14 ?_
    refine lv_iload_n hx hb dX5_behind_17 rfl (lv_at hl 1 rfl) ?_
    refine va_iald (f := r0 2) hx hb hK hP 3 0 rfl rfl (ck_in hf) dX5_behind_18 ?_
    have hf := ck_2 hf
    obtain rfl := Option.some.inj hf
    exact k_iret hx hb hr hlocks hK hP hD hS dX5_behind_19
  · have hf := ite_f hf hc
    refine lv_aload_n hx hb dX5_behind_4 rfl (lv_at hl 0 rfl) ?_
    refine va_get (D := D) (ci := 5) (v := .ref (a0 3)) (C := RX5) (T := TX5) (N := 16) hx hb hts hiX5 hown hK hP 0 rfl rfl 3 (by decide) (hts _ flX5_21) (fun _ h9 => h9) rfl dX5_behind_5 ?_
    refine lv_iload_n hx hb dX5_behind_8 rfl (lv_at hl 1 rfl) ?_
    refine va_iald (f := r0 3) hx hb hK hP 4 0 rfl rfl (ck_in hf) dX5_behind_9 ?_
    have hf := ck_2 hf
    refine lv_goto (tgt := 19) hx hb dX5_behind_10 (by decide) ?_
    obtain rfl := Option.some.inj hf
    exact k_iret hx hb hr hlocks hK hP hD hS dX5_behind_19
