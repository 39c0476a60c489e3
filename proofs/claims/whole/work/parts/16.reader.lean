def fs6 (a : Nat → Nat) (i : Nat → Int32) : List Value := [.ref (a 0), .ref (a 1), .ref (a 2), .ref (a 3), .int (i 4), .int (i 5), .int (i 6), .int (i 7), .int (i 8)]
def W6 (cs : Nat → ClassId) (h : Nat) (a : Nat → Nat) (i : Nat → Int32) (r : Nat → Nat → Int32) : va_W := [(h, .inr (6, fs6 a i)), (a 1, .inl (cs 0, 6, .inl (r 1))), (a 2, .inl (cs 0, 7, .inl (r 2)))]
theorem st6_1 {D : va_G} {A : Nat → Prop} {H : Heap} {cs : Nat → ClassId} {h : Nat} {a : Nat → Nat} {i : Nat → Int32} {r : Nat → Nat → Int32} {f : Nat → Int32} (hP : va_P D vwCl ((W6 cs h a i r).set 1 (a 1, .inl (cs 0, 6, .inl f))) H) (hD : va_D A ((W6 cs h a i r).set 1 (a 1, .inl (cs 0, 6, .inl f)))) : va_P D vwCl (W6 cs h a i (va_up r 1 f)) H ∧ va_D A (W6 cs h a i (va_up r 1 f)) := ⟨hP, hD⟩
theorem st6_1_T {D : va_G} {A : Nat → Prop} {H : Heap} {cs : Nat → ClassId} {h : Nat} {a : Nat → Nat} {i : Nat → Int32} {r : Nat → Nat → Int32} {f : Nat → Int32} {T : va_W} (hP : va_P D vwCl ((W6 cs h a i r ++ T).set 1 (a 1, .inl (cs 0, 6, .inl f))) H) (hD : va_D A ((W6 cs h a i r ++ T).set 1 (a 1, .inl (cs 0, 6, .inl f)))) : va_P D vwCl (W6 cs h a i (va_up r 1 f) ++ T) H ∧ va_D A (W6 cs h a i (va_up r 1 f) ++ T) := ⟨hP, hD⟩
theorem st6_2 {D : va_G} {A : Nat → Prop} {H : Heap} {cs : Nat → ClassId} {h : Nat} {a : Nat → Nat} {i : Nat → Int32} {r : Nat → Nat → Int32} {f : Nat → Int32} (hP : va_P D vwCl ((W6 cs h a i r).set 2 (a 2, .inl (cs 0, 7, .inl f))) H) (hD : va_D A ((W6 cs h a i r).set 2 (a 2, .inl (cs 0, 7, .inl f)))) : va_P D vwCl (W6 cs h a i (va_up r 2 f)) H ∧ va_D A (W6 cs h a i (va_up r 2 f)) := ⟨hP, hD⟩
theorem st6_2_T {D : va_G} {A : Nat → Prop} {H : Heap} {cs : Nat → ClassId} {h : Nat} {a : Nat → Nat} {i : Nat → Int32} {r : Nat → Nat → Int32} {f : Nat → Int32} {T : va_W} (hP : va_P D vwCl ((W6 cs h a i r ++ T).set 2 (a 2, .inl (cs 0, 7, .inl f))) H) (hD : va_D A ((W6 cs h a i r ++ T).set 2 (a 2, .inl (cs 0, 7, .inl f)))) : va_P D vwCl (W6 cs h a i (va_up r 2 f) ++ T) H ∧ va_D A (W6 cs h a i (va_up r 2 f) ++ T) := ⟨hP, hD⟩
theorem st6_4 {D : va_G} {A : Nat → Prop} {H : Heap} {cs : Nat → ClassId} {h : Nat} {a : Nat → Nat} {i : Nat → Int32} {r : Nat → Nat → Int32} {v : Int32} (hP : va_P D vwCl ((W6 cs h a i r).set 0 (h, .inr (6, (fs6 a i).set 4 (.int v)))) H) (hD : va_D A ((W6 cs h a i r).set 0 (h, .inr (6, (fs6 a i).set 4 (.int v))))) : va_P D vwCl (W6 cs h a (upd i 4 v) r) H ∧ va_D A (W6 cs h a (upd i 4 v) r) := ⟨hP, hD⟩
theorem st6_4_T {D : va_G} {A : Nat → Prop} {H : Heap} {cs : Nat → ClassId} {h : Nat} {a : Nat → Nat} {i : Nat → Int32} {r : Nat → Nat → Int32} {v : Int32} {T : va_W} (hP : va_P D vwCl ((W6 cs h a i r ++ T).set 0 (h, .inr (6, (fs6 a i).set 4 (.int v)))) H) (hD : va_D A ((W6 cs h a i r ++ T).set 0 (h, .inr (6, (fs6 a i).set 4 (.int v))))) : va_P D vwCl (W6 cs h a (upd i 4 v) r ++ T) H ∧ va_D A (W6 cs h a (upd i 4 v) r ++ T) := ⟨hP, hD⟩
theorem st6_5 {D : va_G} {A : Nat → Prop} {H : Heap} {cs : Nat → ClassId} {h : Nat} {a : Nat → Nat} {i : Nat → Int32} {r : Nat → Nat → Int32} {v : Int32} (hP : va_P D vwCl ((W6 cs h a i r).set 0 (h, .inr (6, (fs6 a i).set 5 (.int v)))) H) (hD : va_D A ((W6 cs h a i r).set 0 (h, .inr (6, (fs6 a i).set 5 (.int v))))) : va_P D vwCl (W6 cs h a (upd i 5 v) r) H ∧ va_D A (W6 cs h a (upd i 5 v) r) := ⟨hP, hD⟩
theorem st6_5_T {D : va_G} {A : Nat → Prop} {H : Heap} {cs : Nat → ClassId} {h : Nat} {a : Nat → Nat} {i : Nat → Int32} {r : Nat → Nat → Int32} {v : Int32} {T : va_W} (hP : va_P D vwCl ((W6 cs h a i r ++ T).set 0 (h, .inr (6, (fs6 a i).set 5 (.int v)))) H) (hD : va_D A ((W6 cs h a i r ++ T).set 0 (h, .inr (6, (fs6 a i).set 5 (.int v))))) : va_P D vwCl (W6 cs h a (upd i 5 v) r ++ T) H ∧ va_D A (W6 cs h a (upd i 5 v) r ++ T) := ⟨hP, hD⟩
theorem st6_6 {D : va_G} {A : Nat → Prop} {H : Heap} {cs : Nat → ClassId} {h : Nat} {a : Nat → Nat} {i : Nat → Int32} {r : Nat → Nat → Int32} {v : Int32} (hP : va_P D vwCl ((W6 cs h a i r).set 0 (h, .inr (6, (fs6 a i).set 6 (.int v)))) H) (hD : va_D A ((W6 cs h a i r).set 0 (h, .inr (6, (fs6 a i).set 6 (.int v))))) : va_P D vwCl (W6 cs h a (upd i 6 v) r) H ∧ va_D A (W6 cs h a (upd i 6 v) r) := ⟨hP, hD⟩
theorem st6_6_T {D : va_G} {A : Nat → Prop} {H : Heap} {cs : Nat → ClassId} {h : Nat} {a : Nat → Nat} {i : Nat → Int32} {r : Nat → Nat → Int32} {v : Int32} {T : va_W} (hP : va_P D vwCl ((W6 cs h a i r ++ T).set 0 (h, .inr (6, (fs6 a i).set 6 (.int v)))) H) (hD : va_D A ((W6 cs h a i r ++ T).set 0 (h, .inr (6, (fs6 a i).set 6 (.int v))))) : va_P D vwCl (W6 cs h a (upd i 6 v) r ++ T) H ∧ va_D A (W6 cs h a (upd i 6 v) r ++ T) := ⟨hP, hD⟩
theorem st6_7 {D : va_G} {A : Nat → Prop} {H : Heap} {cs : Nat → ClassId} {h : Nat} {a : Nat → Nat} {i : Nat → Int32} {r : Nat → Nat → Int32} {v : Int32} (hP : va_P D vwCl ((W6 cs h a i r).set 0 (h, .inr (6, (fs6 a i).set 7 (.int v)))) H) (hD : va_D A ((W6 cs h a i r).set 0 (h, .inr (6, (fs6 a i).set 7 (.int v))))) : va_P D vwCl (W6 cs h a (upd i 7 v) r) H ∧ va_D A (W6 cs h a (upd i 7 v) r) := ⟨hP, hD⟩
theorem st6_7_T {D : va_G} {A : Nat → Prop} {H : Heap} {cs : Nat → ClassId} {h : Nat} {a : Nat → Nat} {i : Nat → Int32} {r : Nat → Nat → Int32} {v : Int32} {T : va_W} (hP : va_P D vwCl ((W6 cs h a i r ++ T).set 0 (h, .inr (6, (fs6 a i).set 7 (.int v)))) H) (hD : va_D A ((W6 cs h a i r ++ T).set 0 (h, .inr (6, (fs6 a i).set 7 (.int v))))) : va_P D vwCl (W6 cs h a (upd i 7 v) r ++ T) H ∧ va_D A (W6 cs h a (upd i 7 v) r ++ T) := ⟨hP, hD⟩
theorem st6_8 {D : va_G} {A : Nat → Prop} {H : Heap} {cs : Nat → ClassId} {h : Nat} {a : Nat → Nat} {i : Nat → Int32} {r : Nat → Nat → Int32} {v : Int32} (hP : va_P D vwCl ((W6 cs h a i r).set 0 (h, .inr (6, (fs6 a i).set 8 (.int v)))) H) (hD : va_D A ((W6 cs h a i r).set 0 (h, .inr (6, (fs6 a i).set 8 (.int v))))) : va_P D vwCl (W6 cs h a (upd i 8 v) r) H ∧ va_D A (W6 cs h a (upd i 8 v) r) := ⟨hP, hD⟩
theorem st6_8_T {D : va_G} {A : Nat → Prop} {H : Heap} {cs : Nat → ClassId} {h : Nat} {a : Nat → Nat} {i : Nat → Int32} {r : Nat → Nat → Int32} {v : Int32} {T : va_W} (hP : va_P D vwCl ((W6 cs h a i r ++ T).set 0 (h, .inr (6, (fs6 a i).set 8 (.int v)))) H) (hD : va_D A ((W6 cs h a i r ++ T).set 0 (h, .inr (6, (fs6 a i).set 8 (.int v))))) : va_P D vwCl (W6 cs h a (upd i 8 v) r ++ T) H ∧ va_D A (W6 cs h a (upd i 8 v) r ++ T) := ⟨hP, hD⟩
/-! MarbleFloor$ProgramReader.readHead()V -/
abbrev wlX6_readHead : List Cond := Cond.code yX6_readHead cX6_readHead 3 none :: tbG
abbrev rmX6_readHead : Room := { frames := 2, cells := 0, slots := 0, locals := 42 }
theorem qnX6_readHead : yX6_readHead.cls = RX6 ∧ yX6_readHead.cls ≠ "java/lang/invoke/MethodHandle" ∧ yX6_readHead.cls ≠ "java/lang/invoke/VarHandle" ∧ (parseMethodDescriptor yX6_readHead.desc).map (fun d => d.parameters.length) = some 0 := by decide +kernel
def f_X6_readHead_79 (r0 : Nat → Nat → Int32) (r1 : Nat → Nat → Int32) (l1 : Nat → Nat → Int64) (r2 : Nat → Nat → Int32)  (i0 : Nat → Int32) (i1 : Nat → Int32) (i2 : Nat → Int32) (l2 : Nat → Nat → Int64) (x1 : Int64) : Option ((Nat → Int32) × (Nat → Int32) × (Nat → Int32) × (Nat → Nat → Int64)) := bd (f_X9_wantName i1 r1 l1) (fun q13 => bd (f_X9_wantKey q13 r1 l1 9) (fun q14 => bd (f_X9_failed q14 r1 l1) (fun q15 => if q15 = 0 then (bd (f_X5_addProc i2 r2 l2 x1) (fun q16 => some ((upd i0 4 q16.1), q14, q16.2.1, q16.2.2))) else (some (i0, q14, i2, l2)))))
set_option maxRecDepth 100000 in
set_option maxHeartbeats 4000000 in
theorem w_X6_readHead_79 {p : Program} {l : Launch} {e : Env} {s : State} {m : MethodId} {args : Array Value} {below : List Frame} {meth : Method} {c : Code} {A : Nat → Prop} {D : va_G} {cs zs : Nat → Nat} {h0 : Nat} {a0 : Nat → Nat} {a1 : Nat → Nat} {a2 : Nat → Nat} {r0 : Nat → Nat → Int32} {r1 : Nat → Nat → Int32} {l1 : Nat → Nat → Int64} {r2 : Nat → Nat → Int32} {q : (Nat → Int32) × (Nat → Int32) × (Nat → Int32) × (Nat → Nat → Int64)} (C : Cx p s m args meth c A D cs zs cX6_readHead 3 none RX6)  : ∀ (i0 : Nat → Int32) (i1 : Nat → Int32) (i2 : Nat → Int32) (l2 : Nat → Nat → Int64) (x1 : Int64) (H : Heap) (locs : List Loc) (ls : Array Slot), f_X6_readHead_79 r0 r1 l1 r2 i0 i1 i2 l2 x1 = some q → va_P D vwCl (W6 cs h0 a0 i0 r0 ++ (W9 cs (a0 0) a1 i1 r1 l1 ++ W5 cs (a0 3) a2 i2 r2 l2)) H → va_D A (W6 cs h0 a0 i0 r0 ++ (W9 cs (a0 0) a1 i1 r1 l1 ++ W5 cs (a0 3) a2 i2 r2 l2)) → va_S A s.heap H locs → lv_has ls 3 [(0, .ref h0), (1, .long x1)] → W p l e rmX6_readHead s m args below meth c H locs 0 0 (MQ below (Qv D cs A (W6 cs h0 a0 q.1 r0 ++ (W9 cs (a0 0) a1 q.2.1 r1 l1 ++ W5 cs (a0 3) a2 q.2.2.1 r2 q.2.2.2))) args s 0 0 A) (F0 m 79 ls []) := by
  obtain ⟨hx, hb, hr, hml, hown, hts, hK, hA, hlocks, hZ⟩ := id C
  intro i0 i1 i2 l2 x1 H locs ls hf hP hD hS hl
  rw [f_X6_readHead_79] at hf
  refine lv_aload_n hx hb dX6_readHead_79 rfl (lv_at hl 0 rfl) ?_
  refine va_get (D := D) (ci := 6) (v := .ref (a0 0)) (C := RX6) (T := TX6) (N := 9) hx hb hts hiX6 hown hK hP 0 rfl rfl 0 (by decide) (hts _ flX6_18) (fun _ h9 => h9) rfl dX6_readHead_80 ?_
  obtain ⟨q13, hq13, hf⟩ := bd_s hf
  refine k_pVv (wr := W6 cs h0 a0 i0 r0 ++ W5 cs (a0 3) a2 i2 r2 l2) (ws2 := W6 cs h0 a0 i0 r0 ++ (W9 cs (a0 0) a1 q13 r1 l1 ++ W5 cs (a0 3) a2 i2 r2 l2)) (As := []) (rest := []) hx hb hml hown hts hK hA hZ hl.1 hP hD hS (c_X9_wantName (h0 := (a0 0)) (a0 := a1) hq13) (gVt mlX6_93 imX9_wantName seX9_wantName inX9 coX9_wantName) rfl qnX9_wantName rfl rfl ⟨Nat.le_of_ble_eq_true rfl, Nat.le_of_ble_eq_true rfl⟩ [3, 4, 5, 6, 7, 8] [0, 1, 2, 9, 10, 11, 12, 13, 14, 15, 16, 17, 18, 19, 20, 21, 22] [0, 1, 2, 17, 18, 19, 20, 21, 22, 3, 4, 5, 6, 7, 8, 9, 10, 11, 12, 13, 14, 15, 16] rfl rfl rfl (by decide) 0 9 rfl rfl rfl rfl rfl (Nat.le_of_ble_eq_true rfl) ⟨Nat.zero_le _, Nat.zero_le _⟩ dX6_readHead_83 (fun H locs hP hD hS => ?_)
  refine lv_aload_n hx hb dX6_readHead_86 rfl (lv_at hl 0 rfl) ?_
  refine va_get (D := D) (ci := 6) (v := .ref (a0 0)) (C := RX6) (T := TX6) (N := 9) hx hb hts hiX6 hown hK hP 0 rfl rfl 0 (by decide) (hts _ flX6_18) (fun _ h9 => h9) rfl dX6_readHead_87 ?_
  refine lv_bipush (v := 9) hx hb dX6_readHead_90 (by decide) ?_
  obtain ⟨q14, hq14, hf⟩ := bd_s hf
  refine k_pVv (wr := W6 cs h0 a0 i0 r0 ++ W5 cs (a0 3) a2 i2 r2 l2) (ws2 := W6 cs h0 a0 i0 r0 ++ (W9 cs (a0 0) a1 q14 r1 l1 ++ W5 cs (a0 3) a2 i2 r2 l2)) (As := [.int 9]) (rest := []) hx hb hml hown hts hK hA hZ hl.1 hP hD hS (c_X9_wantKey (h0 := (a0 0)) (a0 := a1) hq14) (gVt mlX6_79 imX9_wantKey seX9_wantKey inX9 coX9_wantKey) rfl qnX9_wantKey rfl rfl ⟨Nat.le_of_ble_eq_true rfl, Nat.le_of_ble_eq_true rfl⟩ [3, 4, 5, 6, 7, 8] [0, 1, 2, 9, 10, 11, 12, 13, 14, 15, 16, 17, 18, 19, 20, 21, 22] [0, 1, 2, 17, 18, 19, 20, 21, 22, 3, 4, 5, 6, 7, 8, 9, 10, 11, 12, 13, 14, 15, 16] rfl rfl rfl (by decide) 0 9 rfl rfl rfl rfl rfl (Nat.le_of_ble_eq_true rfl) ⟨Nat.zero_le _, Nat.zero_le _⟩ dX6_readHead_92 (fun H locs hP hD hS => ?_)
  refine lv_aload_n hx hb dX6_readHead_95 rfl (lv_at hl 0 rfl) ?_
  refine va_get (D := D) (ci := 6) (v := .ref (a0 0)) (C := RX6) (T := TX6) (N := 9) hx hb hts hiX6 hown hK hP 0 rfl rfl 0 (by decide) (hts _ flX6_18) (fun _ h9 => h9) rfl dX6_readHead_96 ?_
  obtain ⟨q15, hq15, hf⟩ := bd_s hf
  refine k_pVi (wr := W6 cs h0 a0 i0 r0 ++ W5 cs (a0 3) a2 i2 r2 l2) (ws2 := W6 cs h0 a0 i0 r0 ++ (W9 cs (a0 0) a1 q14 r1 l1 ++ W5 cs (a0 3) a2 i2 r2 l2)) (As := []) (rest := []) hx hb hml hown hts hK hA hZ hl.1 hP hD hS (c_X9_failed (h0 := (a0 0)) (a0 := a1) hq15) (gVt mlX6_50 imX9_failed seX9_failed inX9 coX9_failed) rfl qnX9_failed rfl rfl ⟨Nat.le_of_ble_eq_true rfl, Nat.le_of_ble_eq_true rfl⟩ [3, 4, 5, 6, 7, 8] [0, 1, 2, 9, 10, 11, 12, 13, 14, 15, 16, 17, 18, 19, 20, 21, 22] [0, 1, 2, 17, 18, 19, 20, 21, 22, 3, 4, 5, 6, 7, 8, 9, 10, 11, 12, 13, 14, 15, 16] rfl rfl rfl (by decide) 0 9 rfl rfl rfl rfl rfl (Nat.le_of_ble_eq_true rfl) ⟨Nat.zero_le _, Nat.zero_le _⟩ dX6_readHead_99 (fun H locs hP hD hS => ?_)
  refine lv_if_ne (tgt := 117) hx hb dX6_readHead_102 (by decide) (fun hc => ?_) (fun hc => ?_)
  · have hf := ite_f hf hc
    obtain rfl := Option.some.inj hf
    exact k_vret hx hb hr hlocks hK hP hD hS dX6_readHead_117
  · have hf := ite_t hf hc
    refine lv_aload_n hx hb dX6_readHead_105 rfl (lv_at hl 0 rfl) ?_
    refine lv_aload_n hx hb dX6_readHead_106 rfl (lv_at hl 0 rfl) ?_
    refine va_get (D := D) (ci := 6) (v := .ref (a0 3)) (C := RX6) (T := TX6) (N := 9) hx hb hts hiX6 hown hK hP 0 rfl rfl 3 (by decide) (hts _ flX6_22) (fun _ h9 => h9) rfl dX6_readHead_107 ?_
    refine lv_lload_n hx hb dX6_readHead_110 rfl (lv_at hl 1 rfl) ?_
    obtain ⟨q16, hq16, hf⟩ := bd_s hf
    refine k_pVi (wr := W6 cs h0 a0 i0 r0 ++ W9 cs (a0 0) a1 q14 r1 l1) (ws2 := W6 cs h0 a0 i0 r0 ++ (W9 cs (a0 0) a1 q14 r1 l1 ++ W5 cs (a0 3) a2 q16.2.1 r2 q16.2.2)) (As := [.long x1]) (rest := [.ref h0]) hx hb hml hown hts hK hA hZ hl.1 hP hD hS (c_X5_addProc (h0 := (a0 3)) (a0 := a2) hq16) (gVt mlX6_96 imX5_addProc seX5_addProc inX5 coX5_addProc) rfl qnX5_addProc rfl rfl ⟨Nat.le_of_ble_eq_true rfl, Nat.le_of_ble_eq_true rfl⟩ [9, 10, 11, 12, 13, 14, 15, 16, 17, 18, 19, 20, 21, 22] [0, 1, 2, 3, 4, 5, 6, 7, 8] [0, 1, 2, 3, 4, 5, 6, 7, 8, 9, 10, 11, 12, 13, 14, 15, 16, 17, 18, 19, 20, 21, 22] rfl rfl rfl (by decide) 0 5 rfl rfl rfl rfl rfl (Nat.le_of_ble_eq_true rfl) ⟨Nat.zero_le _, Nat.zero_le _⟩ dX6_readHead_111 (fun H locs hP hD hS => ?_)
    refine va_put (D := D) (ci := 6) (v := .int q16.1) (ty := .int) (C := RX6) (T := TX6) (N := 9) hx hb hts hiX6 tyX6 tyX6_ok nmX6 hown hK hP hD hS 0 rfl rfl 4 (by decide) (hts _ flX6_31) (fun _ h9 => h9) rfl (tyX6_ok 4 (by decide)) rfl rfl (Nat.le_of_ble_eq_true rfl) dX6_readHead_114 (fun H locs hP hD hS => ?_)
    obtain ⟨hP, hD⟩ := st6_4_T hP hD
    obtain rfl := Option.some.inj hf
    exact k_vret hx hb hr hlocks hK hP hD hS dX6_readHead_117
def f_X6_readHead_32 (r0 : Nat → Nat → Int32) (r1 : Nat → Nat → Int32) (l1 : Nat → Nat → Int64) (r2 : Nat → Nat → Int32)  (i0 : Nat → Int32) (i1 : Nat → Int32) (i2 : Nat → Int32) (l2 : Nat → Nat → Int64) : Option ((Nat → Int32) × (Nat → Int32) × (Nat → Int32) × (Nat → Nat → Int64)) := bd (f_X9_wantKey i1 r1 l1 8) (fun q17 => bd (f_X9_word q17 r1 l1) (fun q18 => bd (f_X9_seesName q17 r1 l1) (fun q19 => if q19 = 0 then (f_X6_readHead_79 r0 r1 l1 r2 i0 q17 i2 l2 q18) else (bd (f_X5_procNamed i2 r2 l2 q18) (fun q20 => if q20 = (-1) then (f_X6_readHead_79 r0 r1 l1 r2 i0 q17 i2 l2 q18) else (bd (f_X9_fail q17 r1 l1 3) (fun q21 => f_X6_readHead_79 r0 r1 l1 r2 i0 q21 i2 l2 q18)))))))
set_option maxRecDepth 100000 in
set_option maxHeartbeats 4000000 in
theorem w_X6_readHead_32 {p : Program} {l : Launch} {e : Env} {s : State} {m : MethodId} {args : Array Value} {below : List Frame} {meth : Method} {c : Code} {A : Nat → Prop} {D : va_G} {cs zs : Nat → Nat} {h0 : Nat} {a0 : Nat → Nat} {a1 : Nat → Nat} {a2 : Nat → Nat} {r0 : Nat → Nat → Int32} {r1 : Nat → Nat → Int32} {l1 : Nat → Nat → Int64} {r2 : Nat → Nat → Int32} {q : (Nat → Int32) × (Nat → Int32) × (Nat → Int32) × (Nat → Nat → Int64)} (C : Cx p s m args meth c A D cs zs cX6_readHead 3 none RX6)  : ∀ (i0 : Nat → Int32) (i1 : Nat → Int32) (i2 : Nat → Int32) (l2 : Nat → Nat → Int64) (H : Heap) (locs : List Loc) (ls : Array Slot), f_X6_readHead_32 r0 r1 l1 r2 i0 i1 i2 l2 = some q → va_P D vwCl (W6 cs h0 a0 i0 r0 ++ (W9 cs (a0 0) a1 i1 r1 l1 ++ W5 cs (a0 3) a2 i2 r2 l2)) H → va_D A (W6 cs h0 a0 i0 r0 ++ (W9 cs (a0 0) a1 i1 r1 l1 ++ W5 cs (a0 3) a2 i2 r2 l2)) → va_S A s.heap H locs → lv_has ls 3 [(0, .ref h0)] → W p l e rmX6_readHead s m args below meth c H locs 0 0 (MQ below (Qv D cs A (W6 cs h0 a0 q.1 r0 ++ (W9 cs (a0 0) a1 q.2.1 r1 l1 ++ W5 cs (a0 3) a2 q.2.2.1 r2 q.2.2.2))) args s 0 0 A) (F0 m 32 ls []) := by
  obtain ⟨hx, hb, hr, hml, hown, hts, hK, hA, hlocks, hZ⟩ := id C
  intro i0 i1 i2 l2 H locs ls hf hP hD hS hl
  rw [f_X6_readHead_32] at hf
  refine lv_aload_n hx hb dX6_readHead_32 rfl (lv_at hl 0 rfl) ?_
  refine va_get (D := D) (ci := 6) (v := .ref (a0 0)) (C := RX6) (T := TX6) (N := 9) hx hb hts hiX6 hown hK hP 0 rfl rfl 0 (by decide) (hts _ flX6_18) (fun _ h9 => h9) rfl dX6_readHead_33 ?_
  refine lv_bipush (v := 8) hx hb dX6_readHead_36 (by decide) ?_
  obtain ⟨q17, hq17, hf⟩ := bd_s hf
  refine k_pVv (wr := W6 cs h0 a0 i0 r0 ++ W5 cs (a0 3) a2 i2 r2 l2) (ws2 := W6 cs h0 a0 i0 r0 ++ (W9 cs (a0 0) a1 q17 r1 l1 ++ W5 cs (a0 3) a2 i2 r2 l2)) (As := [.int 8]) (rest := []) hx hb hml hown hts hK hA hZ hl.1 hP hD hS (c_X9_wantKey (h0 := (a0 0)) (a0 := a1) hq17) (gVt mlX6_79 imX9_wantKey seX9_wantKey inX9 coX9_wantKey) rfl qnX9_wantKey rfl rfl ⟨Nat.le_of_ble_eq_true rfl, Nat.le_of_ble_eq_true rfl⟩ [3, 4, 5, 6, 7, 8] [0, 1, 2, 9, 10, 11, 12, 13, 14, 15, 16, 17, 18, 19, 20, 21, 22] [0, 1, 2, 17, 18, 19, 20, 21, 22, 3, 4, 5, 6, 7, 8, 9, 10, 11, 12, 13, 14, 15, 16] rfl rfl rfl (by decide) 0 9 rfl rfl rfl rfl rfl (Nat.le_of_ble_eq_true rfl) ⟨Nat.zero_le _, Nat.zero_le _⟩ dX6_readHead_38 (fun H locs hP hD hS => ?_)
  refine lv_aload_n hx hb dX6_readHead_41 rfl (lv_at hl 0 rfl) ?_
  refine va_get (D := D) (ci := 6) (v := .ref (a0 0)) (C := RX6) (T := TX6) (N := 9) hx hb hts hiX6 hown hK hP 0 rfl rfl 0 (by decide) (hts _ flX6_18) (fun _ h9 => h9) rfl dX6_readHead_42 ?_
  obtain ⟨q18, hq18, hf⟩ := bd_s hf
  refine k_pVl (wr := W6 cs h0 a0 i0 r0 ++ W5 cs (a0 3) a2 i2 r2 l2) (ws2 := W6 cs h0 a0 i0 r0 ++ (W9 cs (a0 0) a1 q17 r1 l1 ++ W5 cs (a0 3) a2 i2 r2 l2)) (As := []) (rest := []) hx hb hml hown hts hK hA hZ hl.1 hP hD hS (c_X9_word (h0 := (a0 0)) (a0 := a1) hq18) (gVt mlX6_82 imX9_word seX9_word inX9 coX9_word) rfl qnX9_word rfl rfl ⟨Nat.le_of_ble_eq_true rfl, Nat.le_of_ble_eq_true rfl⟩ [3, 4, 5, 6, 7, 8] [0, 1, 2, 9, 10, 11, 12, 13, 14, 15, 16, 17, 18, 19, 20, 21, 22] [0, 1, 2, 17, 18, 19, 20, 21, 22, 3, 4, 5, 6, 7, 8, 9, 10, 11, 12, 13, 14, 15, 16] rfl rfl rfl (by decide) 0 9 rfl rfl rfl rfl rfl (Nat.le_of_ble_eq_true rfl) ⟨Nat.zero_le _, Nat.zero_le _⟩ dX6_readHead_45 (fun H locs hP hD hS => ?_)
  refine lv_lstore_n (lv' := [(1, .long q18), (0, .ref h0)]) hx hb dX6_readHead_48 rfl hl (by decide) rfl (fun ls hl => ?_)
  refine lv_aload_n hx hb dX6_readHead_49 rfl (lv_at hl 1 rfl) ?_
  refine va_get (D := D) (ci := 6) (v := .ref (a0 0)) (C := RX6) (T := TX6) (N := 9) hx hb hts hiX6 hown hK hP 0 rfl rfl 0 (by decide) (hts _ flX6_18) (fun _ h9 => h9) rfl dX6_readHead_50 ?_
  obtain ⟨q19, hq19, hf⟩ := bd_s hf
  refine k_pVi (wr := W6 cs h0 a0 i0 r0 ++ W5 cs (a0 3) a2 i2 r2 l2) (ws2 := W6 cs h0 a0 i0 r0 ++ (W9 cs (a0 0) a1 q17 r1 l1 ++ W5 cs (a0 3) a2 i2 r2 l2)) (As := []) (rest := []) hx hb hml hown hts hK hA hZ hl.1 hP hD hS (c_X9_seesName (h0 := (a0 0)) (a0 := a1) hq19) (gVt mlX6_86 imX9_seesName seX9_seesName inX9 coX9_seesName) rfl qnX9_seesName rfl rfl ⟨Nat.le_of_ble_eq_true rfl, Nat.le_of_ble_eq_true rfl⟩ [3, 4, 5, 6, 7, 8] [0, 1, 2, 9, 10, 11, 12, 13, 14, 15, 16, 17, 18, 19, 20, 21, 22] [0, 1, 2, 17, 18, 19, 20, 21, 22, 3, 4, 5, 6, 7, 8, 9, 10, 11, 12, 13, 14, 15, 16] rfl rfl rfl (by decide) 0 9 rfl rfl rfl rfl rfl (Nat.le_of_ble_eq_true rfl) ⟨Nat.zero_le _, Nat.zero_le _⟩ dX6_readHead_53 (fun H locs hP hD hS => ?_)
  refine lv_if_eq (tgt := 79) hx hb dX6_readHead_56 (by decide) (fun hc => ?_) (fun hc => ?_)
  · have hf := ite_t hf hc
    exact w_X6_readHead_79 C  _ _ _ _ _ _ _ _ hf hP hD hS (lv_sub hl [1, 0] rfl)
  · have hf := ite_f hf hc
    refine lv_aload_n hx hb dX6_readHead_59 rfl (lv_at hl 1 rfl) ?_
    refine va_get (D := D) (ci := 6) (v := .ref (a0 3)) (C := RX6) (T := TX6) (N := 9) hx hb hts hiX6 hown hK hP 0 rfl rfl 3 (by decide) (hts _ flX6_22) (fun _ h9 => h9) rfl dX6_readHead_60 ?_
    refine lv_lload_n hx hb dX6_readHead_63 rfl (lv_at hl 0 rfl) ?_
    obtain ⟨q20, hq20, hf⟩ := bd_s hf
    refine k_pVi (wr := W6 cs h0 a0 i0 r0 ++ W9 cs (a0 0) a1 q17 r1 l1) (ws2 := W6 cs h0 a0 i0 r0 ++ (W9 cs (a0 0) a1 q17 r1 l1 ++ W5 cs (a0 3) a2 i2 r2 l2)) (As := [.long q18]) (rest := []) hx hb hml hown hts hK hA hZ hl.1 hP hD hS (c_X5_procNamed (h0 := (a0 3)) (a0 := a2) hq20) (gVt mlX6_89 imX5_procNamed seX5_procNamed inX5 coX5_procNamed) rfl qnX5_procNamed rfl rfl ⟨Nat.le_of_ble_eq_true rfl, Nat.le_of_ble_eq_true rfl⟩ [9, 10, 11, 12, 13, 14, 15, 16, 17, 18, 19, 20, 21, 22] [0, 1, 2, 3, 4, 5, 6, 7, 8] [0, 1, 2, 3, 4, 5, 6, 7, 8, 9, 10, 11, 12, 13, 14, 15, 16, 17, 18, 19, 20, 21, 22] rfl rfl rfl (by decide) 0 5 rfl rfl rfl rfl rfl (Nat.le_of_ble_eq_true rfl) ⟨Nat.zero_le _, Nat.zero_le _⟩ dX6_readHead_64 (fun H locs hP hD hS => ?_)
    refine lv_iconst (v := (-1)) hx hb dX6_readHead_67 (by decide) ?_
    refine lv_icmp_eq (tgt := 79) hx hb dX6_readHead_68 (by decide) (fun hc => ?_) (fun hc => ?_)
    · have hf := ite_t hf hc
      exact w_X6_readHead_79 C  _ _ _ _ _ _ _ _ hf hP hD hS (lv_sub hl [1, 0] rfl)
    · have hf := ite_f hf hc
      refine lv_aload_n hx hb dX6_readHead_71 rfl (lv_at hl 1 rfl) ?_
      refine va_get (D := D) (ci := 6) (v := .ref (a0 0)) (C := RX6) (T := TX6) (N := 9) hx hb hts hiX6 hown hK hP 0 rfl rfl 0 (by decide) (hts _ flX6_18) (fun _ h9 => h9) rfl dX6_readHead_72 ?_
      refine lv_iconst (v := 3) hx hb dX6_readHead_75 (by decide) ?_
      obtain ⟨q21, hq21, hf⟩ := bd_s hf
      refine k_pVv (wr := W6 cs h0 a0 i0 r0 ++ W5 cs (a0 3) a2 i2 r2 l2) (ws2 := W6 cs h0 a0 i0 r0 ++ (W9 cs (a0 0) a1 q21 r1 l1 ++ W5 cs (a0 3) a2 i2 r2 l2)) (As := [.int 3]) (rest := []) hx hb hml hown hts hK hA hZ hl.1 hP hD hS (c_X9_fail (h0 := (a0 0)) (a0 := a1) hq21) (gVt mlX6_69 imX9_fail seX9_fail inX9 coX9_fail) rfl qnX9_fail rfl rfl ⟨Nat.le_of_ble_eq_true rfl, Nat.le_of_ble_eq_true rfl⟩ [3, 4, 5, 6, 7, 8] [0, 1, 2, 9, 10, 11, 12, 13, 14, 15, 16, 17, 18, 19, 20, 21, 22] [0, 1, 2, 17, 18, 19, 20, 21, 22, 3, 4, 5, 6, 7, 8, 9, 10, 11, 12, 13, 14, 15, 16] rfl rfl rfl (by decide) 0 9 rfl rfl rfl rfl rfl (Nat.le_of_ble_eq_true rfl) ⟨Nat.zero_le _, Nat.zero_le _⟩ dX6_readHead_76 (fun H locs hP hD hS => ?_)
      exact w_X6_readHead_79 C  _ _ _ _ _ _ _ _ hf hP hD hS (lv_sub hl [1, 0] rfl)
def f_X6_readHead  (i0 : Nat → Int32) (r0 : Nat → Nat → Int32) (i1 : Nat → Int32) (r1 : Nat → Nat → Int32) (l1 : Nat → Nat → Int64) (i2 : Nat → Int32) (r2 : Nat → Nat → Int32) (l2 : Nat → Nat → Int64)  : Option ((Nat → Int32) × (Nat → Int32) × (Nat → Int32) × (Nat → Nat → Int64)) := bd (f_X9_key i1 r1 l1) (fun q22 => if q22 = 8 then (bd (f_X5_procs i2 r2 l2) (fun q23 => if q23 < 6 then (f_X6_readHead_32 r0 r1 l1 r2 i0 i1 i2 l2) else (bd (f_X9_fail i1 r1 l1 4) (fun q24 => f_X6_readHead_32 r0 r1 l1 r2 i0 q24 i2 l2)))) else (f_X6_readHead_32 r0 r1 l1 r2 i0 i1 i2 l2))
set_option maxRecDepth 100000 in
set_option maxHeartbeats 4000000 in
theorem c_X6_readHead {l : Launch} {D : va_G} {cs zs : Nat → Nat} {h0 : Nat} {a0 : Nat → Nat} {a1 : Nat → Nat} {a2 : Nat → Nat} {i0 : Nat → Int32} {r0 : Nat → Nat → Int32} {i1 : Nat → Int32} {r1 : Nat → Nat → Int32} {l1 : Nat → Nat → Int64} {i2 : Nat → Int32} {r2 : Nat → Nat → Int32} {l2 : Nat → Nat → Int64}  {q : (Nat → Int32) × (Nat → Int32) × (Nat → Int32) × (Nat → Nat → Int64)} (hf : f_X6_readHead i0 r0 i1 r1 l1 i2 r2 l2 = some q) : Mv l yX6_readHead wlX6_readHead rmX6_readHead D cs zs [.ref h0] (W6 cs h0 a0 i0 r0 ++ (W9 cs (a0 0) a1 i1 r1 l1 ++ W5 cs (a0 3) a2 i2 r2 l2)) (W6 cs h0 a0 q.1 r0 ++ (W9 cs (a0 0) a1 q.2.1 r1 l1 ++ W5 cs (a0 3) a2 q.2.2.1 r2 q.2.2.2)) := by
  refine Mv.of RX6 (by decide) rfl (Nat.le_of_ble_eq_true rfl) (fun p e s m below meth c A C hP hD hS ls hl => ?_)
  generalize ([.ref h0] : List Value).toArray = args at C ⊢
  obtain ⟨hx, hb, hr, hml, hown, hts, hK, hA, hlocks, hZ⟩ := id C
  have hl : lv_has ls 3 [(0, .ref h0)] := hl
  rw [f_X6_readHead] at hf
  refine lv_aload_n hx hb dX6_readHead_0 rfl (lv_at hl 0 rfl) ?_
  refine va_get (D := D) (ci := 6) (v := .ref (a0 0)) (C := RX6) (T := TX6) (N := 9) hx hb hts hiX6 hown hK hP 0 rfl rfl 0 (by decide) (hts _ flX6_18) (fun _ h9 => h9) rfl dX6_readHead_1 ?_
  obtain ⟨q22, hq22, hf⟩ := bd_s hf
  refine k_pVi (wr := W6 cs h0 a0 i0 r0 ++ W5 cs (a0 3) a2 i2 r2 l2) (ws2 := W6 cs h0 a0 i0 r0 ++ (W9 cs (a0 0) a1 i1 r1 l1 ++ W5 cs (a0 3) a2 i2 r2 l2)) (As := []) (rest := []) hx hb hml hown hts hK hA hZ hl.1 hP hD hS (c_X9_key (h0 := (a0 0)) (a0 := a1) hq22) (gVt mlX6_57 imX9_key seX9_key inX9 coX9_key) rfl qnX9_key rfl rfl ⟨Nat.le_of_ble_eq_true rfl, Nat.le_of_ble_eq_true rfl⟩ [3, 4, 5, 6, 7, 8] [0, 1, 2, 9, 10, 11, 12, 13, 14, 15, 16, 17, 18, 19, 20, 21, 22] [0, 1, 2, 17, 18, 19, 20, 21, 22, 3, 4, 5, 6, 7, 8, 9, 10, 11, 12, 13, 14, 15, 16] rfl rfl rfl (by decide) 0 9 rfl rfl rfl rfl rfl (Nat.le_of_ble_eq_true rfl) ⟨Nat.zero_le _, Nat.zero_le _⟩ dX6_readHead_4 (fun H locs hP hD hS => ?_)
  refine lv_bipush (v := 8) hx hb dX6_readHead_7 (by decide) ?_
  refine lv_icmp_ne (tgt := 32) hx hb dX6_readHead_9 (by decide) (fun hc => ?_) (fun hc => ?_)
  · have hf := ite_f hf hc
    exact w_X6_readHead_32 C  _ _ _ _ _ _ _ hf hP hD hS (lv_sub hl [0] rfl)
  · have hf := ite_t hf hc
    refine lv_aload_n hx hb dX6_readHead_12 rfl (lv_at hl 0 rfl) ?_
    refine va_get (D := D) (ci := 6) (v := .ref (a0 3)) (C := RX6) (T := TX6) (N := 9) hx hb hts hiX6 hown hK hP 0 rfl rfl 3 (by decide) (hts _ flX6_22) (fun _ h9 => h9) rfl dX6_readHead_13 ?_
    obtain ⟨q23, hq23, hf⟩ := bd_s hf
    refine k_pVi (wr := W6 cs h0 a0 i0 r0 ++ W9 cs (a0 0) a1 i1 r1 l1) (ws2 := W6 cs h0 a0 i0 r0 ++ (W9 cs (a0 0) a1 i1 r1 l1 ++ W5 cs (a0 3) a2 i2 r2 l2)) (As := []) (rest := []) hx hb hml hown hts hK hA hZ hl.1 hP hD hS (c_X5_procs (h0 := (a0 3)) (a0 := a2) hq23) (gVt mlX6_76 imX5_procs seX5_procs inX5 coX5_procs) rfl qnX5_procs rfl rfl ⟨Nat.le_of_ble_eq_true rfl, Nat.le_of_ble_eq_true rfl⟩ [9, 10, 11, 12, 13, 14, 15, 16, 17, 18, 19, 20, 21, 22] [0, 1, 2, 3, 4, 5, 6, 7, 8] [0, 1, 2, 3, 4, 5, 6, 7, 8, 9, 10, 11, 12, 13, 14, 15, 16, 17, 18, 19, 20, 21, 22] rfl rfl rfl (by decide) 0 5 rfl rfl rfl rfl rfl (Nat.le_of_ble_eq_true rfl) ⟨Nat.zero_le _, Nat.zero_le _⟩ dX6_readHead_16 (fun H locs hP hD hS => ?_)
    refine lv_bipush (v := 6) hx hb dX6_readHead_19 (by decide) ?_
    refine lv_icmp_lt (tgt := 32) hx hb dX6_readHead_21 (by decide) (fun hc => ?_) (fun hc => ?_)
    · have hf := ite_t hf hc
      exact w_X6_readHead_32 C  _ _ _ _ _ _ _ hf hP hD hS (lv_sub hl [0] rfl)
    · have hf := ite_f hf hc
      refine lv_aload_n hx hb dX6_readHead_24 rfl (lv_at hl 0 rfl) ?_
      refine va_get (D := D) (ci := 6) (v := .ref (a0 0)) (C := RX6) (T := TX6) (N := 9) hx hb hts hiX6 hown hK hP 0 rfl rfl 0 (by decide) (hts _ flX6_18) (fun _ h9 => h9) rfl dX6_readHead_25 ?_
      refine lv_iconst (v := 4) hx hb dX6_readHead_28 (by decide) ?_
      obtain ⟨q24, hq24, hf⟩ := bd_s hf
      refine k_pVv (wr := W6 cs h0 a0 i0 r0 ++ W5 cs (a0 3) a2 i2 r2 l2) (ws2 := W6 cs h0 a0 i0 r0 ++ (W9 cs (a0 0) a1 q24 r1 l1 ++ W5 cs (a0 3) a2 i2 r2 l2)) (As := [.int 4]) (rest := []) hx hb hml hown hts hK hA hZ hl.1 hP hD hS (c_X9_fail (h0 := (a0 0)) (a0 := a1) hq24) (gVt mlX6_69 imX9_fail seX9_fail inX9 coX9_fail) rfl qnX9_fail rfl rfl ⟨Nat.le_of_ble_eq_true rfl, Nat.le_of_ble_eq_true rfl⟩ [3, 4, 5, 6, 7, 8] [0, 1, 2, 9, 10, 11, 12, 13, 14, 15, 16, 17, 18, 19, 20, 21, 22] [0, 1, 2, 17, 18, 19, 20, 21, 22, 3, 4, 5, 6, 7, 8, 9, 10, 11, 12, 13, 14, 15, 16] rfl rfl rfl (by decide) 0 9 rfl rfl rfl rfl rfl (Nat.le_of_ble_eq_true rfl) ⟨Nat.zero_le _, Nat.zero_le _⟩ dX6_readHead_29 (fun H locs hP hD hS => ?_)
      exact w_X6_readHead_32 C  _ _ _ _ _ _ _ hf hP hD hS (lv_sub hl [0] rfl)
/-! MarbleFloor$ProgramReader.readPlace()I -/
abbrev wlX6_readPlace : List Cond := Cond.code yX6_readPlace cX6_readPlace 4 (some .int) :: tbG
abbrev rmX6_readPlace : Room := { frames := 1, cells := 0, slots := 0, locals := 22 }
theorem qnX6_readPlace : yX6_readPlace.cls = RX6 ∧ yX6_readPlace.cls ≠ "java/lang/invoke/MethodHandle" ∧ yX6_readPlace.cls ≠ "java/lang/invoke/VarHandle" ∧ (parseMethodDescriptor yX6_readPlace.desc).map (fun d => d.parameters.length) = some 0 := by decide +kernel
def f_X6_readPlace_48 (i0 : Nat → Int32) (r0 : Nat → Nat → Int32) (r1 : Nat → Nat → Int32) (l1 : Nat → Nat → Int64) (i2 : Nat → Int32) (r2 : Nat → Nat → Int32) (l2 : Nat → Nat → Int64)  (i1 : Nat → Int32) : Option (Int32 × (Nat → Int32)) := bd (f_X9_fail i1 r1 l1 1) (fun q8 => some (0, q8))
set_option maxRecDepth 100000 in
set_option maxHeartbeats 4000000 in
theorem w_X6_readPlace_48 {p : Program} {l : Launch} {e : Env} {s : State} {m : MethodId} {args : Array Value} {below : List Frame} {meth : Method} {c : Code} {A : Nat → Prop} {D : va_G} {cs zs : Nat → Nat} {h0 : Nat} {a0 : Nat → Nat} {a1 : Nat → Nat} {a2 : Nat → Nat} {i0 : Nat → Int32} {r0 : Nat → Nat → Int32} {r1 : Nat → Nat → Int32} {l1 : Nat → Nat → Int64} {i2 : Nat → Int32} {r2 : Nat → Nat → Int32} {l2 : Nat → Nat → Int64} {q : Int32 × (Nat → Int32)} (C : Cx p s m args meth c A D cs zs cX6_readPlace 4 (some .int) RX6)  : ∀ (i1 : Nat → Int32) (H : Heap) (locs : List Loc) (ls : Array Slot), f_X6_readPlace_48 i0 r0 r1 l1 i2 r2 l2 i1 = some q → va_P D vwCl (W6 cs h0 a0 i0 r0 ++ (W9 cs (a0 0) a1 i1 r1 l1 ++ W5 cs (a0 3) a2 i2 r2 l2)) H → va_D A (W6 cs h0 a0 i0 r0 ++ (W9 cs (a0 0) a1 i1 r1 l1 ++ W5 cs (a0 3) a2 i2 r2 l2)) → va_S A s.heap H locs → lv_has ls 4 [(0, .ref h0)] → W p l e rmX6_readPlace s m args below meth c H locs 0 0 (MQ below (Qi D cs A q.1 (W6 cs h0 a0 i0 r0 ++ (W9 cs (a0 0) a1 q.2 r1 l1 ++ W5 cs (a0 3) a2 i2 r2 l2))) args s 0 0 A) (F0 m 48 ls []) := by
  obtain ⟨hx, hb, hr, hml, hown, hts, hK, hA, hlocks, hZ⟩ := id C
  intro i1 H locs ls hf hP hD hS hl
  rw [f_X6_readPlace_48] at hf
  refine lv_aload_n hx hb dX6_readPlace_48 rfl (lv_at hl 0 rfl) ?_
  refine va_get (D := D) (ci := 6) (v := .ref (a0 0)) (C := RX6) (T := TX6) (N := 9) hx hb hts hiX6 hown hK hP 0 rfl rfl 0 (by decide) (hts _ flX6_18) (fun _ h9 => h9) rfl dX6_readPlace_49 ?_
  refine lv_iconst (v := 1) hx hb dX6_readPlace_52 (by decide) ?_
  obtain ⟨q8, hq8, hf⟩ := bd_s hf
  refine k_pVv (wr := W6 cs h0 a0 i0 r0 ++ W5 cs (a0 3) a2 i2 r2 l2) (ws2 := W6 cs h0 a0 i0 r0 ++ (W9 cs (a0 0) a1 q8 r1 l1 ++ W5 cs (a0 3) a2 i2 r2 l2)) (As := [.int 1]) (rest := []) hx hb hml hown hts hK hA hZ hl.1 hP hD hS (c_X9_fail (h0 := (a0 0)) (a0 := a1) hq8) (gVt mlX6_69 imX9_fail seX9_fail inX9 coX9_fail) rfl qnX9_fail rfl rfl ⟨Nat.le_of_ble_eq_true rfl, Nat.le_of_ble_eq_true rfl⟩ [3, 4, 5, 6, 7, 8] [0, 1, 2, 9, 10, 11, 12, 13, 14, 15, 16, 17, 18, 19, 20, 21, 22] [0, 1, 2, 17, 18, 19, 20, 21, 22, 3, 4, 5, 6, 7, 8, 9, 10, 11, 12, 13, 14, 15, 16] rfl rfl rfl (by decide) 0 9 rfl rfl rfl rfl rfl (Nat.le_of_ble_eq_true rfl) ⟨Nat.zero_le _, Nat.zero_le _⟩ dX6_readPlace_53 (fun H locs hP hD hS => ?_)
  refine lv_iconst (v := 0) hx hb dX6_readPlace_56 (by decide) ?_
  obtain rfl := Option.some.inj hf
  exact k_iret hx hb hr hlocks hK hP hD hS dX6_readPlace_57
def f_X6_readPlace_103 (i0 : Nat → Int32) (r0 : Nat → Nat → Int32) (r1 : Nat → Nat → Int32) (l1 : Nat → Nat → Int64) (i2 : Nat → Int32) (r2 : Nat → Nat → Int32) (l2 : Nat → Nat → Int64)  (i1 : Nat → Int32) (x1 : Int32) (x2 : Int32) (x3 : Int32) : Option (Int32 × (Nat → Int32)) := bd (f_X9_advance i1 r1 l1) (fun q9 => if x3 = 0 then (some (20 + x1, q9)) else (some (10 + x2, q9)))
set_option maxRecDepth 100000 in
set_option maxHeartbeats 4000000 in
theorem w_X6_readPlace_103 {p : Program} {l : Launch} {e : Env} {s : State} {m : MethodId} {args : Array Value} {below : List Frame} {meth : Method} {c : Code} {A : Nat → Prop} {D : va_G} {cs zs : Nat → Nat} {h0 : Nat} {a0 : Nat → Nat} {a1 : Nat → Nat} {a2 : Nat → Nat} {i0 : Nat → Int32} {r0 : Nat → Nat → Int32} {r1 : Nat → Nat → Int32} {l1 : Nat → Nat → Int64} {i2 : Nat → Int32} {r2 : Nat → Nat → Int32} {l2 : Nat → Nat → Int64} {q : Int32 × (Nat → Int32)} (C : Cx p s m args meth c A D cs zs cX6_readPlace 4 (some .int) RX6)  : ∀ (i1 : Nat → Int32) (x1 : Int32) (x2 : Int32) (x3 : Int32) (H : Heap) (locs : List Loc) (ls : Array Slot), f_X6_readPlace_103 i0 r0 r1 l1 i2 r2 l2 i1 x1 x2 x3 = some q → va_P D vwCl (W6 cs h0 a0 i0 r0 ++ (W9 cs (a0 0) a1 i1 r1 l1 ++ W5 cs (a0 3) a2 i2 r2 l2)) H → va_D A (W6 cs h0 a0 i0 r0 ++ (W9 cs (a0 0) a1 i1 r1 l1 ++ W5 cs (a0 3) a2 i2 r2 l2)) → va_S A s.heap H locs → lv_has ls 4 [(0, .ref h0), (1, .int x1), (2, .int x2), (3, .int x3)] → W p l e rmX6_readPlace s m args below meth c H locs 0 0 (MQ below (Qi D cs A q.1 (W6 cs h0 a0 i0 r0 ++ (W9 cs (a0 0) a1 q.2 r1 l1 ++ W5 cs (a0 3) a2 i2 r2 l2))) args s 0 0 A) (F0 m 103 ls []) := by
  obtain ⟨hx, hb, hr, hml, hown, hts, hK, hA, hlocks, hZ⟩ := id C
  intro i1 x1 x2 x3 H locs ls hf hP hD hS hl
  rw [f_X6_readPlace_103] at hf
  refine lv_aload_n hx hb dX6_readPlace_103 rfl (lv_at hl 0 rfl) ?_
  refine va_get (D := D) (ci := 6) (v := .ref (a0 0)) (C := RX6) (T := TX6) (N := 9) hx hb hts hiX6 hown hK hP 0 rfl rfl 0 (by decide) (hts _ flX6_18) (fun _ h9 => h9) rfl dX6_readPlace_104 ?_
  obtain ⟨q9, hq9, hf⟩ := bd_s hf
  refine k_pVv (wr := W6 cs h0 a0 i0 r0 ++ W5 cs (a0 3) a2 i2 r2 l2) (ws2 := W6 cs h0 a0 i0 r0 ++ (W9 cs (a0 0) a1 q9 r1 l1 ++ W5 cs (a0 3) a2 i2 r2 l2)) (As := []) (rest := []) hx hb hml hown hts hK hA hZ hl.1 hP hD hS (c_X9_advance (h0 := (a0 0)) (a0 := a1) hq9) (gVt mlX6_109 imX9_advance seX9_advance inX9 coX9_advance) rfl qnX9_advance rfl rfl ⟨Nat.le_of_ble_eq_true rfl, Nat.le_of_ble_eq_true rfl⟩ [3, 4, 5, 6, 7, 8] [0, 1, 2, 9, 10, 11, 12, 13, 14, 15, 16, 17, 18, 19, 20, 21, 22] [0, 1, 2, 17, 18, 19, 20, 21, 22, 3, 4, 5, 6, 7, 8, 9, 10, 11, 12, 13, 14, 15, 16] rfl rfl rfl (by decide) 0 9 rfl rfl rfl rfl rfl (Nat.le_of_ble_eq_true rfl) ⟨Nat.zero_le _, Nat.zero_le _⟩ dX6_readPlace_107 (fun H locs hP hD hS => ?_)
  refine lv_iload_n hx hb dX6_readPlace_110 rfl (lv_at hl 3 rfl) ?_
  refine lv_if_eq (tgt := 121) hx hb dX6_readPlace_111 (by decide) (fun hc => ?_) (fun hc => ?_)
  · have hf := ite_t hf hc
    refine lv_bipush (v := 20) hx hb dX6_readPlace_121 (by decide) ?_
    refine lv_iload_n hx hb dX6_readPlace_123 rfl (lv_at hl 1 rfl) ?_
    refine lv_iadd hx hb dX6_readPlace_124 ?_
    obtain rfl := Option.some.inj hf
    exact k_iret hx hb hr hlocks hK hP hD hS dX6_readPlace_125
  · have hf := ite_f hf hc
    refine lv_bipush (v := 10) hx hb dX6_readPlace_114 (by decide) ?_
    refine lv_iload_n hx hb dX6_readPlace_116 rfl (lv_at hl 2 rfl) ?_
    refine lv_iadd hx hb dX6_readPlace_117 ?_
    refine lv_goto (tgt := 125) hx hb dX6_readPlace_118 (by decide) ?_
    obtain rfl := Option.some.inj hf
    exact k_iret hx hb hr hlocks hK hP hD hS dX6_readPlace_125
def f_X6_readPlace_78 (i0 : Nat → Int32) (r0 : Nat → Nat → Int32) (r1 : Nat → Nat → Int32) (l1 : Nat → Nat → Int64) (i2 : Nat → Int32) (r2 : Nat → Nat → Int32) (l2 : Nat → Nat → Int64)  (i1 : Nat → Int32) (x1 : Int32) (x2 : Int32) (x3 : Int32) : Option (Int32 × (Nat → Int32)) := if x3 = 0 then (if (((i0 8) >>> (x1 &&& 31)) &&& 1) = 0 then (f_X6_readPlace_103 i0 r0 r1 l1 i2 r2 l2 i1 x1 x2 x3) else (bd (f_X9_fail i1 r1 l1 3) (fun q10 => some (0, q10)))) else (f_X6_readPlace_103 i0 r0 r1 l1 i2 r2 l2 i1 x1 x2 x3)
set_option maxRecDepth 100000 in
set_option maxHeartbeats 4000000 in
theorem w_X6_readPlace_78 {p : Program} {l : Launch} {e : Env} {s : State} {m : MethodId} {args : Array Value} {below : List Frame} {meth : Method} {c : Code} {A : Nat → Prop} {D : va_G} {cs zs : Nat → Nat} {h0 : Nat} {a0 : Nat → Nat} {a1 : Nat → Nat} {a2 : Nat → Nat} {i0 : Nat → Int32} {r0 : Nat → Nat → Int32} {r1 : Nat → Nat → Int32} {l1 : Nat → Nat → Int64} {i2 : Nat → Int32} {r2 : Nat → Nat → Int32} {l2 : Nat → Nat → Int64} {q : Int32 × (Nat → Int32)} (C : Cx p s m args meth c A D cs zs cX6_readPlace 4 (some .int) RX6)  : ∀ (i1 : Nat → Int32) (x1 : Int32) (x2 : Int32) (x3 : Int32) (H : Heap) (locs : List Loc) (ls : Array Slot), f_X6_readPlace_78 i0 r0 r1 l1 i2 r2 l2 i1 x1 x2 x3 = some q → va_P D vwCl (W6 cs h0 a0 i0 r0 ++ (W9 cs (a0 0) a1 i1 r1 l1 ++ W5 cs (a0 3) a2 i2 r2 l2)) H → va_D A (W6 cs h0 a0 i0 r0 ++ (W9 cs (a0 0) a1 i1 r1 l1 ++ W5 cs (a0 3) a2 i2 r2 l2)) → va_S A s.heap H locs → lv_has ls 4 [(0, .ref h0), (1, .int x1), (2, .int x2), (3, .int x3)] → W p l e rmX6_readPlace s m args below meth c H locs 0 0 (MQ below (Qi D cs A q.1 (W6 cs h0 a0 i0 r0 ++ (W9 cs (a0 0) a1 q.2 r1 l1 ++ W5 cs (a0 3) a2 i2 r2 l2))) args s 0 0 A) (F0 m 78 ls []) := by
  obtain ⟨hx, hb, hr, hml, hown, hts, hK, hA, hlocks, hZ⟩ := id C
  intro i1 x1 x2 x3 H locs ls hf hP hD hS hl
  rw [f_X6_readPlace_78] at hf
  refine lv_iload_n hx hb dX6_readPlace_78 rfl (lv_at hl 3 rfl) ?_
  refine lv_if_ne (tgt := 103) hx hb dX6_readPlace_79 (by decide) (fun hc => ?_) (fun hc => ?_)
  · have hf := ite_f hf hc
    exact w_X6_readPlace_103 C  _ _ _ _ _ _ _ hf hP hD hS (lv_sub hl [0, 1, 2, 3] rfl)
  · have hf := ite_t hf hc
    refine lv_aload_n hx hb dX6_readPlace_82 rfl (lv_at hl 0 rfl) ?_
    refine va_get (D := D) (ci := 6) (v := .int (i0 8)) (C := RX6) (T := TX6) (N := 9) hx hb hts hiX6 hown hK hP 0 rfl rfl 8 (by decide) (hts _ flX6_38) (fun _ h9 => h9) rfl dX6_readPlace_83 ?_
    refine lv_iload_n hx hb dX6_readPlace_86 rfl (lv_at hl 1 rfl) ?_
    refine lv_ishr hx hb dX6_readPlace_87 ?_
    refine lv_iconst (v := 1) hx hb dX6_readPlace_88 (by decide) ?_
    refine lv_iand hx hb dX6_readPlace_89 ?_
    refine lv_if_eq (tgt := 103) hx hb dX6_readPlace_90 (by decide) (fun hc => ?_) (fun hc => ?_)
    · have hf := ite_t hf hc
      exact w_X6_readPlace_103 C  _ _ _ _ _ _ _ hf hP hD hS (lv_sub hl [0, 1, 2, 3] rfl)
    · have hf := ite_f hf hc
      refine lv_aload_n hx hb dX6_readPlace_93 rfl (lv_at hl 0 rfl) ?_
      refine va_get (D := D) (ci := 6) (v := .ref (a0 0)) (C := RX6) (T := TX6) (N := 9) hx hb hts hiX6 hown hK hP 0 rfl rfl 0 (by decide) (hts _ flX6_18) (fun _ h9 => h9) rfl dX6_readPlace_94 ?_
      refine lv_iconst (v := 3) hx hb dX6_readPlace_97 (by decide) ?_
      obtain ⟨q10, hq10, hf⟩ := bd_s hf
      refine k_pVv (wr := W6 cs h0 a0 i0 r0 ++ W5 cs (a0 3) a2 i2 r2 l2) (ws2 := W6 cs h0 a0 i0 r0 ++ (W9 cs (a0 0) a1 q10 r1 l1 ++ W5 cs (a0 3) a2 i2 r2 l2)) (As := [.int 3]) (rest := []) hx hb hml hown hts hK hA hZ hl.1 hP hD hS (c_X9_fail (h0 := (a0 0)) (a0 := a1) hq10) (gVt mlX6_69 imX9_fail seX9_fail inX9 coX9_fail) rfl qnX9_fail rfl rfl ⟨Nat.le_of_ble_eq_true rfl, Nat.le_of_ble_eq_true rfl⟩ [3, 4, 5, 6, 7, 8] [0, 1, 2, 9, 10, 11, 12, 13, 14, 15, 16, 17, 18, 19, 20, 21, 22] [0, 1, 2, 17, 18, 19, 20, 21, 22, 3, 4, 5, 6, 7, 8, 9, 10, 11, 12, 13, 14, 15, 16] rfl rfl rfl (by decide) 0 9 rfl rfl rfl rfl rfl (Nat.le_of_ble_eq_true rfl) ⟨Nat.zero_le _, Nat.zero_le _⟩ dX6_readPlace_98 (fun H locs hP hD hS => ?_)
      refine lv_iconst (v := 0) hx hb dX6_readPlace_101 (by decide) ?_
      obtain rfl := Option.some.inj hf
      exact k_iret hx hb hr hlocks hK hP hD hS dX6_readPlace_102
def f_X6_readPlace_58 (i0 : Nat → Int32) (r0 : Nat → Nat → Int32) (r1 : Nat → Nat → Int32) (l1 : Nat → Nat → Int64) (i2 : Nat → Int32) (r2 : Nat → Nat → Int32) (l2 : Nat → Nat → Int64)  (i1 : Nat → Int32) (x1 : Int32) (x2 : Int32) (x3 : Int32) : Option (Int32 × (Nat → Int32)) := if x3 = 0 then (f_X6_readPlace_78 i0 r0 r1 l1 i2 r2 l2 i1 x1 x2 x3) else (if x2 < 10 then (f_X6_readPlace_78 i0 r0 r1 l1 i2 r2 l2 i1 x1 x2 x3) else (bd (f_X9_fail i1 r1 l1 2) (fun q11 => some (0, q11))))
set_option maxRecDepth 100000 in
set_option maxHeartbeats 4000000 in
theorem w_X6_readPlace_58 {p : Program} {l : Launch} {e : Env} {s : State} {m : MethodId} {args : Array Value} {below : List Frame} {meth : Method} {c : Code} {A : Nat → Prop} {D : va_G} {cs zs : Nat → Nat} {h0 : Nat} {a0 : Nat → Nat} {a1 : Nat → Nat} {a2 : Nat → Nat} {i0 : Nat → Int32} {r0 : Nat → Nat → Int32} {r1 : Nat → Nat → Int32} {l1 : Nat → Nat → Int64} {i2 : Nat → Int32} {r2 : Nat → Nat → Int32} {l2 : Nat → Nat → Int64} {q : Int32 × (Nat → Int32)} (C : Cx p s m args meth c A D cs zs cX6_readPlace 4 (some .int) RX6)  : ∀ (i1 : Nat → Int32) (x1 : Int32) (x2 : Int32) (x3 : Int32) (H : Heap) (locs : List Loc) (ls : Array Slot), f_X6_readPlace_58 i0 r0 r1 l1 i2 r2 l2 i1 x1 x2 x3 = some q → va_P D vwCl (W6 cs h0 a0 i0 r0 ++ (W9 cs (a0 0) a1 i1 r1 l1 ++ W5 cs (a0 3) a2 i2 r2 l2)) H → va_D A (W6 cs h0 a0 i0 r0 ++ (W9 cs (a0 0) a1 i1 r1 l1 ++ W5 cs (a0 3) a2 i2 r2 l2)) → va_S A s.heap H locs → lv_has ls 4 [(0, .ref h0), (1, .int x1), (2, .int x2), (3, .int x3)] → W p l e rmX6_readPlace s m args below meth c H locs 0 0 (MQ below (Qi D cs A q.1 (W6 cs h0 a0 i0 r0 ++ (W9 cs (a0 0) a1 q.2 r1 l1 ++ W5 cs (a0 3) a2 i2 r2 l2))) args s 0 0 A) (F0 m 58 ls []) := by
  obtain ⟨hx, hb, hr, hml, hown, hts, hK, hA, hlocks, hZ⟩ := id C
  intro i1 x1 x2 x3 H locs ls hf hP hD hS hl
  rw [f_X6_readPlace_58] at hf
  refine lv_iload_n hx hb dX6_readPlace_58 rfl (lv_at hl 3 rfl) ?_
  refine lv_if_eq (tgt := 78) hx hb dX6_readPlace_59 (by decide) (fun hc => ?_) (fun hc => ?_)
  · have hf := ite_t hf hc
    exact w_X6_readPlace_78 C  _ _ _ _ _ _ _ hf hP hD hS (lv_sub hl [0, 1, 2, 3] rfl)
  · have hf := ite_f hf hc
    refine lv_iload_n hx hb dX6_readPlace_62 rfl (lv_at hl 2 rfl) ?_
    refine lv_bipush (v := 10) hx hb dX6_readPlace_63 (by decide) ?_
    refine lv_icmp_lt (tgt := 78) hx hb dX6_readPlace_65 (by decide) (fun hc => ?_) (fun hc => ?_)
    · have hf := ite_t hf hc
      exact w_X6_readPlace_78 C  _ _ _ _ _ _ _ hf hP hD hS (lv_sub hl [0, 1, 2, 3] rfl)
    · have hf := ite_f hf hc
      refine lv_aload_n hx hb dX6_readPlace_68 rfl (lv_at hl 0 rfl) ?_
      refine va_get (D := D) (ci := 6) (v := .ref (a0 0)) (C := RX6) (T := TX6) (N := 9) hx hb hts hiX6 hown hK hP 0 rfl rfl 0 (by decide) (hts _ flX6_18) (fun _ h9 => h9) rfl dX6_readPlace_69 ?_
      refine lv_iconst (v := 2) hx hb dX6_readPlace_72 (by decide) ?_
      obtain ⟨q11, hq11, hf⟩ := bd_s hf
      refine k_pVv (wr := W6 cs h0 a0 i0 r0 ++ W5 cs (a0 3) a2 i2 r2 l2) (ws2 := W6 cs h0 a0 i0 r0 ++ (W9 cs (a0 0) a1 q11 r1 l1 ++ W5 cs (a0 3) a2 i2 r2 l2)) (As := [.int 2]) (rest := []) hx hb hml hown hts hK hA hZ hl.1 hP hD hS (c_X9_fail (h0 := (a0 0)) (a0 := a1) hq11) (gVt mlX6_69 imX9_fail seX9_fail inX9 coX9_fail) rfl qnX9_fail rfl rfl ⟨Nat.le_of_ble_eq_true rfl, Nat.le_of_ble_eq_true rfl⟩ [3, 4, 5, 6, 7, 8] [0, 1, 2, 9, 10, 11, 12, 13, 14, 15, 16, 17, 18, 19, 20, 21, 22] [0, 1, 2, 17, 18, 19, 20, 21, 22, 3, 4, 5, 6, 7, 8, 9, 10, 11, 12, 13, 14, 15, 16] rfl rfl rfl (by decide) 0 9 rfl rfl rfl rfl rfl (Nat.le_of_ble_eq_true rfl) ⟨Nat.zero_le _, Nat.zero_le _⟩ dX6_readPlace_73 (fun H locs hP hD hS => ?_)
      refine lv_iconst (v := 0) hx hb dX6_readPlace_76 (by decide) ?_
      obtain rfl := Option.some.inj hf
      exact k_iret hx hb hr hlocks hK hP hD hS dX6_readPlace_77
def f_X6_readPlace_32 (i0 : Nat → Int32) (r0 : Nat → Nat → Int32) (r1 : Nat → Nat → Int32) (l1 : Nat → Nat → Int64) (i2 : Nat → Int32) (r2 : Nat → Nat → Int32) (l2 : Nat → Nat → Int64)  (i1 : Nat → Int32) (x1 : Int32) (x2 : Int32) (y0 : Int32) : Option (Int32 × (Nat → Int32)) := if y0 = 0 then (if x1 = (-1) then (f_X6_readPlace_48 i0 r0 r1 l1 i2 r2 l2 i1) else (if x1 = 8 then (f_X6_readPlace_48 i0 r0 r1 l1 i2 r2 l2 i1) else (f_X6_readPlace_58 i0 r0 r1 l1 i2 r2 l2 i1 x1 x2 y0))) else (f_X6_readPlace_58 i0 r0 r1 l1 i2 r2 l2 i1 x1 x2 y0)
set_option maxRecDepth 100000 in
set_option maxHeartbeats 4000000 in
theorem w_X6_readPlace_32 {p : Program} {l : Launch} {e : Env} {s : State} {m : MethodId} {args : Array Value} {below : List Frame} {meth : Method} {c : Code} {A : Nat → Prop} {D : va_G} {cs zs : Nat → Nat} {h0 : Nat} {a0 : Nat → Nat} {a1 : Nat → Nat} {a2 : Nat → Nat} {i0 : Nat → Int32} {r0 : Nat → Nat → Int32} {r1 : Nat → Nat → Int32} {l1 : Nat → Nat → Int64} {i2 : Nat → Int32} {r2 : Nat → Nat → Int32} {l2 : Nat → Nat → Int64} {q : Int32 × (Nat → Int32)} (C : Cx p s m args meth c A D cs zs cX6_readPlace 4 (some .int) RX6)  : ∀ (i1 : Nat → Int32) (x1 : Int32) (x2 : Int32) (y0 : Int32) (H : Heap) (locs : List Loc) (ls : Array Slot), f_X6_readPlace_32 i0 r0 r1 l1 i2 r2 l2 i1 x1 x2 y0 = some q → va_P D vwCl (W6 cs h0 a0 i0 r0 ++ (W9 cs (a0 0) a1 i1 r1 l1 ++ W5 cs (a0 3) a2 i2 r2 l2)) H → va_D A (W6 cs h0 a0 i0 r0 ++ (W9 cs (a0 0) a1 i1 r1 l1 ++ W5 cs (a0 3) a2 i2 r2 l2)) → va_S A s.heap H locs → lv_has ls 4 [(0, .ref h0), (1, .int x1), (2, .int x2)] → W p l e rmX6_readPlace s m args below meth c H locs 0 0 (MQ below (Qi D cs A q.1 (W6 cs h0 a0 i0 r0 ++ (W9 cs (a0 0) a1 q.2 r1 l1 ++ W5 cs (a0 3) a2 i2 r2 l2))) args s 0 0 A) (F0 m 32 ls [.int y0]) := by
  obtain ⟨hx, hb, hr, hml, hown, hts, hK, hA, hlocks, hZ⟩ := id C
  intro i1 x1 x2 y0 H locs ls hf hP hD hS hl
  rw [f_X6_readPlace_32] at hf
  refine lv_istore_n (lv' := [(3, .int y0), (0, .ref h0), (1, .int x1), (2, .int x2)]) hx hb dX6_readPlace_32 rfl hl (by decide) rfl (fun ls hl => ?_)
  refine lv_iload_n hx hb dX6_readPlace_33 rfl (lv_at hl 0 rfl) ?_
  refine lv_if_ne (tgt := 58) hx hb dX6_readPlace_34 (by decide) (fun hc => ?_) (fun hc => ?_)
  · have hf := ite_f hf hc
    exact w_X6_readPlace_58 C  _ _ _ _ _ _ _ hf hP hD hS (lv_sub hl [1, 2, 3, 0] rfl)
  · have hf := ite_t hf hc
    refine lv_iload_n hx hb dX6_readPlace_37 rfl (lv_at hl 2 rfl) ?_
    refine lv_iconst (v := (-1)) hx hb dX6_readPlace_38 (by decide) ?_
    refine lv_icmp_eq (tgt := 48) hx hb dX6_readPlace_39 (by decide) (fun hc => ?_) (fun hc => ?_)
    · have hf := ite_t hf hc
      exact w_X6_readPlace_48 C  _ _ _ _ hf hP hD hS (lv_sub hl [1] rfl)
    · have hf := ite_f hf hc
      refine lv_iload_n hx hb dX6_readPlace_42 rfl (lv_at hl 2 rfl) ?_
      refine lv_bipush (v := 8) hx hb dX6_readPlace_43 (by decide) ?_
      refine lv_icmp_ne (tgt := 58) hx hb dX6_readPlace_45 (by decide) (fun hc => ?_) (fun hc => ?_)
      · have hf := ite_f hf hc
        exact w_X6_readPlace_58 C  _ _ _ _ _ _ _ hf hP hD hS (lv_sub hl [1, 2, 3, 0] rfl)
      · have hf := ite_t hf hc
        exact w_X6_readPlace_48 C  _ _ _ _ hf hP hD hS (lv_sub hl [1] rfl)
def f_X6_readPlace  (i0 : Nat → Int32) (r0 : Nat → Nat → Int32) (i1 : Nat → Int32) (r1 : Nat → Nat → Int32) (l1 : Nat → Nat → Int64) (i2 : Nat → Int32) (r2 : Nat → Nat → Int32) (l2 : Nat → Nat → Int64)  : Option (Int32 × (Nat → Int32)) := bd (f_X9_letter i1 r1 l1) (fun q12 => bd (f_X9_number i1 r1 l1) (fun q13 => bd (f_X9_kind i1 r1 l1) (fun q14 => if q14 = 2 then (f_X6_readPlace_32 i0 r0 r1 l1 i2 r2 l2 i1 q12 q13 1) else (f_X6_readPlace_32 i0 r0 r1 l1 i2 r2 l2 i1 q12 q13 0))))
set_option maxRecDepth 100000 in
set_option maxHeartbeats 4000000 in
theorem c_X6_readPlace {l : Launch} {D : va_G} {cs zs : Nat → Nat} {h0 : Nat} {a0 : Nat → Nat} {a1 : Nat → Nat} {a2 : Nat → Nat} {i0 : Nat → Int32} {r0 : Nat → Nat → Int32} {i1 : Nat → Int32} {r1 : Nat → Nat → Int32} {l1 : Nat → Nat → Int64} {i2 : Nat → Int32} {r2 : Nat → Nat → Int32} {l2 : Nat → Nat → Int64}  {q : Int32 × (Nat → Int32)} (hf : f_X6_readPlace i0 r0 i1 r1 l1 i2 r2 l2 = some q) : Mi l yX6_readPlace wlX6_readPlace rmX6_readPlace D cs zs [.ref h0] (W6 cs h0 a0 i0 r0 ++ (W9 cs (a0 0) a1 i1 r1 l1 ++ W5 cs (a0 3) a2 i2 r2 l2)) q.1 (W6 cs h0 a0 i0 r0 ++ (W9 cs (a0 0) a1 q.2 r1 l1 ++ W5 cs (a0 3) a2 i2 r2 l2)) := by
  refine Mi.of RX6 (by decide) rfl (Nat.le_of_ble_eq_true rfl) (fun p e s m below meth c A C hP hD hS ls hl => ?_)
  generalize ([.ref h0] : List Value).toArray = args at C ⊢
  obtain ⟨hx, hb, hr, hml, hown, hts, hK, hA, hlocks, hZ⟩ := id C
  have hl : lv_has ls 4 [(0, .ref h0)] := hl
  rw [f_X6_readPlace] at hf
  refine lv_aload_n hx hb dX6_readPlace_0 rfl (lv_at hl 0 rfl) ?_
  refine va_get (D := D) (ci := 6) (v := .ref (a0 0)) (C := RX6) (T := TX6) (N := 9) hx hb hts hiX6 hown hK hP 0 rfl rfl 0 (by decide) (hts _ flX6_18) (fun _ h9 => h9) rfl dX6_readPlace_1 ?_
  obtain ⟨q12, hq12, hf⟩ := bd_s hf
  refine k_pVi (wr := W6 cs h0 a0 i0 r0 ++ W5 cs (a0 3) a2 i2 r2 l2) (ws2 := W6 cs h0 a0 i0 r0 ++ (W9 cs (a0 0) a1 i1 r1 l1 ++ W5 cs (a0 3) a2 i2 r2 l2)) (As := []) (rest := []) hx hb hml hown hts hK hA hZ hl.1 hP hD hS (c_X9_letter (h0 := (a0 0)) (a0 := a1) hq12) (gVt mlX6_170 imX9_letter seX9_letter inX9 coX9_letter) rfl qnX9_letter rfl rfl ⟨Nat.le_of_ble_eq_true rfl, Nat.le_of_ble_eq_true rfl⟩ [3, 4, 5, 6, 7, 8] [0, 1, 2, 9, 10, 11, 12, 13, 14, 15, 16, 17, 18, 19, 20, 21, 22] [0, 1, 2, 17, 18, 19, 20, 21, 22, 3, 4, 5, 6, 7, 8, 9, 10, 11, 12, 13, 14, 15, 16] rfl rfl rfl (by decide) 0 9 rfl rfl rfl rfl rfl (Nat.le_of_ble_eq_true rfl) ⟨Nat.zero_le _, Nat.zero_le _⟩ dX6_readPlace_4 (fun H locs hP hD hS => ?_)
  refine lv_istore_n (lv' := [(1, .int q12), (0, .ref h0)]) hx hb dX6_readPlace_7 rfl hl (by decide) rfl (fun ls hl => ?_)
  refine lv_aload_n hx hb dX6_readPlace_8 rfl (lv_at hl 1 rfl) ?_
  refine va_get (D := D) (ci := 6) (v := .ref (a0 0)) (C := RX6) (T := TX6) (N := 9) hx hb hts hiX6 hown hK hP 0 rfl rfl 0 (by decide) (hts _ flX6_18) (fun _ h9 => h9) rfl dX6_readPlace_9 ?_
  obtain ⟨q13, hq13, hf⟩ := bd_s hf
  refine k_pVi (wr := W6 cs h0 a0 i0 r0 ++ W5 cs (a0 3) a2 i2 r2 l2) (ws2 := W6 cs h0 a0 i0 r0 ++ (W9 cs (a0 0) a1 i1 r1 l1 ++ W5 cs (a0 3) a2 i2 r2 l2)) (As := []) (rest := []) hx hb hml hown hts hK hA hZ hl.1 hP hD hS (c_X9_number (h0 := (a0 0)) (a0 := a1) hq13) (gVt mlX6_164 imX9_number seX9_number inX9 coX9_number) rfl qnX9_number rfl rfl ⟨Nat.le_of_ble_eq_true rfl, Nat.le_of_ble_eq_true rfl⟩ [3, 4, 5, 6, 7, 8] [0, 1, 2, 9, 10, 11, 12, 13, 14, 15, 16, 17, 18, 19, 20, 21, 22] [0, 1, 2, 17, 18, 19, 20, 21, 22, 3, 4, 5, 6, 7, 8, 9, 10, 11, 12, 13, 14, 15, 16] rfl rfl rfl (by decide) 0 9 rfl rfl rfl rfl rfl (Nat.le_of_ble_eq_true rfl) ⟨Nat.zero_le _, Nat.zero_le _⟩ dX6_readPlace_12 (fun H locs hP hD hS => ?_)
  refine lv_istore_n (lv' := [(2, .int q13), (1, .int q12), (0, .ref h0)]) hx hb dX6_readPlace_15 rfl hl (by decide) rfl (fun ls hl => ?_)
  refine lv_aload_n hx hb dX6_readPlace_16 rfl (lv_at hl 2 rfl) ?_
  refine va_get (D := D) (ci := 6) (v := .ref (a0 0)) (C := RX6) (T := TX6) (N := 9) hx hb hts hiX6 hown hK hP 0 rfl rfl 0 (by decide) (hts _ flX6_18) (fun _ h9 => h9) rfl dX6_readPlace_17 ?_
  obtain ⟨q14, hq14, hf⟩ := bd_s hf
  refine k_pVi (wr := W6 cs h0 a0 i0 r0 ++ W5 cs (a0 3) a2 i2 r2 l2) (ws2 := W6 cs h0 a0 i0 r0 ++ (W9 cs (a0 0) a1 i1 r1 l1 ++ W5 cs (a0 3) a2 i2 r2 l2)) (As := []) (rest := []) hx hb hml hown hts hK hA hZ hl.1 hP hD hS (c_X9_kind (h0 := (a0 0)) (a0 := a1) hq14) (gVt mlX6_46 imX9_kind seX9_kind inX9 coX9_kind) rfl qnX9_kind rfl rfl ⟨Nat.le_of_ble_eq_true rfl, Nat.le_of_ble_eq_true rfl⟩ [3, 4, 5, 6, 7, 8] [0, 1, 2, 9, 10, 11, 12, 13, 14, 15, 16, 17, 18, 19, 20, 21, 22] [0, 1, 2, 17, 18, 19, 20, 21, 22, 3, 4, 5, 6, 7, 8, 9, 10, 11, 12, 13, 14, 15, 16] rfl rfl rfl (by decide) 0 9 rfl rfl rfl rfl rfl (Nat.le_of_ble_eq_true rfl) ⟨Nat.zero_le _, Nat.zero_le _⟩ dX6_readPlace_20 (fun H locs hP hD hS => ?_)
  refine lv_iconst (v := 2) hx hb dX6_readPlace_23 (by decide) ?_
  refine lv_icmp_ne (tgt := 31) hx hb dX6_readPlace_24 (by decide) (fun hc => ?_) (fun hc => ?_)
  · have hf := ite_f hf hc
    refine lv_iconst (v := 0) hx hb dX6_readPlace_31 (by decide) ?_
    exact w_X6_readPlace_32 C  _ _ _ _ _ _ _ hf hP hD hS (lv_sub hl [2, 1, 0] rfl)
  · have hf := ite_t hf hc
    refine lv_iconst (v := 1) hx hb dX6_readPlace_27 (by decide) ?_
    refine lv_goto (tgt := 32) hx hb dX6_readPlace_28 (by decide) ?_
    exact w_X6_readPlace_32 C  _ _ _ _ _ _ _ hf hP hD hS (lv_sub hl [2, 1, 0] rfl)
/-! MarbleFloor$ProgramReader.readVar()I -/
abbrev wlX6_readVar : List Cond := Cond.code yX6_readVar cX6_readVar 3 (some .int) :: tbG
abbrev rmX6_readVar : Room := { frames := 2, cells := 0, slots := 0, locals := 45 }
theorem qnX6_readVar : yX6_readVar.cls = RX6 ∧ yX6_readVar.cls ≠ "java/lang/invoke/MethodHandle" ∧ yX6_readVar.cls ≠ "java/lang/invoke/VarHandle" ∧ (parseMethodDescriptor yX6_readVar.desc).map (fun d => d.parameters.length) = some 0 := by decide +kernel
def f_X6_readVar  (i0 : Nat → Int32) (r0 : Nat → Nat → Int32) (i1 : Nat → Int32) (r1 : Nat → Nat → Int32) (l1 : Nat → Nat → Int64) (i2 : Nat → Int32) (r2 : Nat → Nat → Int32) (l2 : Nat → Nat → Int64)  : Option (Int32 × (Nat → Int32)) := bd (f_X9_letter i1 r1 l1) (fun q8 => if q8 = (-1) then (bd (f_X9_fail i1 r1 l1 1) (fun q14 => some (0, q14))) else (if (((i0 8) >>> (q8 &&& 31)) &&& 1) = 0 then (bd (f_X9_advance i1 r1 l1) (fun q9 => if q8 = 8 then (bd (f_X9_wantKind q9 r1 l1 91) (fun q10 => bd (f_X6_readPlace i0 r0 q10 r1 l1 i2 r2 l2) (fun q11 => bd (f_X9_wantKind q11.2 r1 l1 93) (fun q12 => some (q11.1, q12))))) else (some (q8, q9)))) else (bd (f_X9_fail i1 r1 l1 3) (fun q13 => some (0, q13)))))
set_option maxRecDepth 100000 in
set_option maxHeartbeats 4000000 in
theorem c_X6_readVar {l : Launch} {D : va_G} {cs zs : Nat → Nat} {h0 : Nat} {a0 : Nat → Nat} {a1 : Nat → Nat} {a2 : Nat → Nat} {i0 : Nat → Int32} {r0 : Nat → Nat → Int32} {i1 : Nat → Int32} {r1 : Nat → Nat → Int32} {l1 : Nat → Nat → Int64} {i2 : Nat → Int32} {r2 : Nat → Nat → Int32} {l2 : Nat → Nat → Int64}  {q : Int32 × (Nat → Int32)} (hf : f_X6_readVar i0 r0 i1 r1 l1 i2 r2 l2 = some q) : Mi l yX6_readVar wlX6_readVar rmX6_readVar D cs zs [.ref h0] (W6 cs h0 a0 i0 r0 ++ (W9 cs (a0 0) a1 i1 r1 l1 ++ W5 cs (a0 3) a2 i2 r2 l2)) q.1 (W6 cs h0 a0 i0 r0 ++ (W9 cs (a0 0) a1 q.2 r1 l1 ++ W5 cs (a0 3) a2 i2 r2 l2)) := by
  refine Mi.of RX6 (by decide) rfl (Nat.le_of_ble_eq_true rfl) (fun p e s m below meth c A C hP hD hS ls hl => ?_)
  generalize ([.ref h0] : List Value).toArray = args at C ⊢
  obtain ⟨hx, hb, hr, hml, hown, hts, hK, hA, hlocks, hZ⟩ := id C
  have hl : lv_has ls 3 [(0, .ref h0)] := hl
  rw [f_X6_readVar] at hf
  refine lv_aload_n hx hb dX6_readVar_0 rfl (lv_at hl 0 rfl) ?_
  refine va_get (D := D) (ci := 6) (v := .ref (a0 0)) (C := RX6) (T := TX6) (N := 9) hx hb hts hiX6 hown hK hP 0 rfl rfl 0 (by decide) (hts _ flX6_18) (fun _ h9 => h9) rfl dX6_readVar_1 ?_
  obtain ⟨q8, hq8, hf⟩ := bd_s hf
  refine k_pVi (wr := W6 cs h0 a0 i0 r0 ++ W5 cs (a0 3) a2 i2 r2 l2) (ws2 := W6 cs h0 a0 i0 r0 ++ (W9 cs (a0 0) a1 i1 r1 l1 ++ W5 cs (a0 3) a2 i2 r2 l2)) (As := []) (rest := []) hx hb hml hown hts hK hA hZ hl.1 hP hD hS (c_X9_letter (h0 := (a0 0)) (a0 := a1) hq8) (gVt mlX6_170 imX9_letter seX9_letter inX9 coX9_letter) rfl qnX9_letter rfl rfl ⟨Nat.le_of_ble_eq_true rfl, Nat.le_of_ble_eq_true rfl⟩ [3, 4, 5, 6, 7, 8] [0, 1, 2, 9, 10, 11, 12, 13, 14, 15, 16, 17, 18, 19, 20, 21, 22] [0, 1, 2, 17, 18, 19, 20, 21, 22, 3, 4, 5, 6, 7, 8, 9, 10, 11, 12, 13, 14, 15, 16] rfl rfl rfl (by decide) 0 9 rfl rfl rfl rfl rfl (Nat.le_of_ble_eq_true rfl) ⟨Nat.zero_le _, Nat.zero_le _⟩ dX6_readVar_4 (fun H locs hP hD hS => ?_)
  refine lv_istore_n (lv' := [(1, .int q8), (0, .ref h0)]) hx hb dX6_readVar_7 rfl hl (by decide) rfl (fun ls hl => ?_)
  refine lv_iload_n hx hb dX6_readVar_8 rfl (lv_at hl 0 rfl) ?_
  refine lv_iconst (v := (-1)) hx hb dX6_readVar_9 (by decide) ?_
  refine lv_icmp_ne (tgt := 23) hx hb dX6_readVar_10 (by decide) (fun hc => ?_) (fun hc => ?_)
  · have hf := ite_f hf hc
    refine lv_aload_n hx hb dX6_readVar_23 rfl (lv_at hl 1 rfl) ?_
    refine va_get (D := D) (ci := 6) (v := .int (i0 8)) (C := RX6) (T := TX6) (N := 9) hx hb hts hiX6 hown hK hP 0 rfl rfl 8 (by decide) (hts _ flX6_38) (fun _ h9 => h9) rfl dX6_readVar_24 ?_
    refine lv_iload_n hx hb dX6_readVar_27 rfl (lv_at hl 0 rfl) ?_
    refine lv_ishr hx hb dX6_readVar_28 ?_
    refine lv_iconst (v := 1) hx hb dX6_readVar_29 (by decide) ?_
    refine lv_iand hx hb dX6_readVar_30 ?_
    refine lv_if_eq (tgt := 44) hx hb dX6_readVar_31 (by decide) (fun hc => ?_) (fun hc => ?_)
    · have hf := ite_t hf hc
      refine lv_aload_n hx hb dX6_readVar_44 rfl (lv_at hl 1 rfl) ?_
      refine va_get (D := D) (ci := 6) (v := .ref (a0 0)) (C := RX6) (T := TX6) (N := 9) hx hb hts hiX6 hown hK hP 0 rfl rfl 0 (by decide) (hts _ flX6_18) (fun _ h9 => h9) rfl dX6_readVar_45 ?_
      obtain ⟨q9, hq9, hf⟩ := bd_s hf
      refine k_pVv (wr := W6 cs h0 a0 i0 r0 ++ W5 cs (a0 3) a2 i2 r2 l2) (ws2 := W6 cs h0 a0 i0 r0 ++ (W9 cs (a0 0) a1 q9 r1 l1 ++ W5 cs (a0 3) a2 i2 r2 l2)) (As := []) (rest := []) hx hb hml hown hts hK hA hZ hl.1 hP hD hS (c_X9_advance (h0 := (a0 0)) (a0 := a1) hq9) (gVt mlX6_109 imX9_advance seX9_advance inX9 coX9_advance) rfl qnX9_advance rfl rfl ⟨Nat.le_of_ble_eq_true rfl, Nat.le_of_ble_eq_true rfl⟩ [3, 4, 5, 6, 7, 8] [0, 1, 2, 9, 10, 11, 12, 13, 14, 15, 16, 17, 18, 19, 20, 21, 22] [0, 1, 2, 17, 18, 19, 20, 21, 22, 3, 4, 5, 6, 7, 8, 9, 10, 11, 12, 13, 14, 15, 16] rfl rfl rfl (by decide) 0 9 rfl rfl rfl rfl rfl (Nat.le_of_ble_eq_true rfl) ⟨Nat.zero_le _, Nat.zero_le _⟩ dX6_readVar_48 (fun H locs hP hD hS => ?_)
      refine lv_iload_n hx hb dX6_readVar_51 rfl (lv_at hl 0 rfl) ?_
      refine lv_bipush (v := 8) hx hb dX6_readVar_52 (by decide) ?_
      refine lv_icmp_eq (tgt := 59) hx hb dX6_readVar_54 (by decide) (fun hc => ?_) (fun hc => ?_)
      · have hf := ite_t hf hc
        refine lv_aload_n hx hb dX6_readVar_59 rfl (lv_at hl 1 rfl) ?_
        refine va_get (D := D) (ci := 6) (v := .ref (a0 0)) (C := RX6) (T := TX6) (N := 9) hx hb hts hiX6 hown hK hP 0 rfl rfl 0 (by decide) (hts _ flX6_18) (fun _ h9 => h9) rfl dX6_readVar_60 ?_
        refine lv_bipush (v := 91) hx hb dX6_readVar_63 (by decide) ?_
        obtain ⟨q10, hq10, hf⟩ := bd_s hf
        refine k_pVv (wr := W6 cs h0 a0 i0 r0 ++ W5 cs (a0 3) a2 i2 r2 l2) (ws2 := W6 cs h0 a0 i0 r0 ++ (W9 cs (a0 0) a1 q10 r1 l1 ++ W5 cs (a0 3) a2 i2 r2 l2)) (As := [.int 91]) (rest := []) hx hb hml hown hts hK hA hZ hl.1 hP hD hS (c_X9_wantKind (h0 := (a0 0)) (a0 := a1) hq10) (gVt mlX6_99 imX9_wantKind seX9_wantKind inX9 coX9_wantKind) rfl qnX9_wantKind rfl rfl ⟨Nat.le_of_ble_eq_true rfl, Nat.le_of_ble_eq_true rfl⟩ [3, 4, 5, 6, 7, 8] [0, 1, 2, 9, 10, 11, 12, 13, 14, 15, 16, 17, 18, 19, 20, 21, 22] [0, 1, 2, 17, 18, 19, 20, 21, 22, 3, 4, 5, 6, 7, 8, 9, 10, 11, 12, 13, 14, 15, 16] rfl rfl rfl (by decide) 0 9 rfl rfl rfl rfl rfl (Nat.le_of_ble_eq_true rfl) ⟨Nat.zero_le _, Nat.zero_le _⟩ dX6_readVar_65 (fun H locs hP hD hS => ?_)
        refine lv_aload_n hx hb dX6_readVar_68 rfl (lv_at hl 1 rfl) ?_
        obtain ⟨q11, hq11, hf⟩ := bd_s hf
        refine k_sVi (ws2 := W6 cs h0 a0 i0 r0 ++ (W9 cs (a0 0) a1 q11.2 r1 l1 ++ W5 cs (a0 3) a2 i2 r2 l2)) (As := []) (rest := []) hx hb hml hown hts hK hA hZ hl.1 hP hD hS (c_X6_readPlace (h0 := h0) (a0 := a0) (a1 := a1) (a2 := a2) hq11) (gVt mlX6_176 imX6_readPlace seX6_readPlace inX6 coX6_readPlace) rfl qnX6_readPlace rfl rfl ⟨Nat.le_of_ble_eq_true rfl, Nat.le_of_ble_eq_true rfl⟩ 0 6 rfl rfl rfl rfl rfl (Nat.le_of_ble_eq_true rfl) ⟨Nat.zero_le _, Nat.zero_le _⟩ dX6_readVar_69 (fun H locs hP hD hS => ?_)
        refine lv_istore_n (lv' := [(2, .int q11.1), (1, .int q8), (0, .ref h0)]) hx hb dX6_readVar_72 rfl hl (by decide) rfl (fun ls hl => ?_)
        refine lv_aload_n hx hb dX6_readVar_73 rfl (lv_at hl 2 rfl) ?_
        refine va_get (D := D) (ci := 6) (v := .ref (a0 0)) (C := RX6) (T := TX6) (N := 9) hx hb hts hiX6 hown hK hP 0 rfl rfl 0 (by decide) (hts _ flX6_18) (fun _ h9 => h9) rfl dX6_readVar_74 ?_
        refine lv_bipush (v := 93) hx hb dX6_readVar_77 (by decide) ?_
        obtain ⟨q12, hq12, hf⟩ := bd_s hf
        refine k_pVv (wr := W6 cs h0 a0 i0 r0 ++ W5 cs (a0 3) a2 i2 r2 l2) (ws2 := W6 cs h0 a0 i0 r0 ++ (W9 cs (a0 0) a1 q12 r1 l1 ++ W5 cs (a0 3) a2 i2 r2 l2)) (As := [.int 93]) (rest := []) hx hb hml hown hts hK hA hZ hl.1 hP hD hS (c_X9_wantKind (h0 := (a0 0)) (a0 := a1) hq12) (gVt mlX6_99 imX9_wantKind seX9_wantKind inX9 coX9_wantKind) rfl qnX9_wantKind rfl rfl ⟨Nat.le_of_ble_eq_true rfl, Nat.le_of_ble_eq_true rfl⟩ [3, 4, 5, 6, 7, 8] [0, 1, 2, 9, 10, 11, 12, 13, 14, 15, 16, 17, 18, 19, 20, 21, 22] [0, 1, 2, 17, 18, 19, 20, 21, 22, 3, 4, 5, 6, 7, 8, 9, 10, 11, 12, 13, 14, 15, 16] rfl rfl rfl (by decide) 0 9 rfl rfl rfl rfl rfl (Nat.le_of_ble_eq_true rfl) ⟨Nat.zero_le _, Nat.zero_le _⟩ dX6_readVar_79 (fun H locs hP hD hS => ?_)
        refine lv_iload_n hx hb dX6_readVar_82 rfl (lv_at hl 0 rfl) ?_
        obtain rfl := Option.some.inj hf
        exact k_iret hx hb hr hlocks hK hP hD hS dX6_readVar_83
      · have hf := ite_f hf hc
        refine lv_iload_n hx hb dX6_readVar_57 rfl (lv_at hl 0 rfl) ?_
        obtain rfl := Option.some.inj hf
        exact k_iret hx hb hr hlocks hK hP hD hS dX6_readVar_58
    · have hf := ite_f hf hc
      refine lv_aload_n hx hb dX6_readVar_34 rfl (lv_at hl 1 rfl) ?_
      refine va_get (D := D) (ci := 6) (v := .ref (a0 0)) (C := RX6) (T := TX6) (N := 9) hx hb hts hiX6 hown hK hP 0 rfl rfl 0 (by decide) (hts _ flX6_18) (fun _ h9 => h9) rfl dX6_readVar_35 ?_
      refine lv_iconst (v := 3) hx hb dX6_readVar_38 (by decide) ?_
      obtain ⟨q13, hq13, hf⟩ := bd_s hf
      refine k_pVv (wr := W6 cs h0 a0 i0 r0 ++ W5 cs (a0 3) a2 i2 r2 l2) (ws2 := W6 cs h0 a0 i0 r0 ++ (W9 cs (a0 0) a1 q13 r1 l1 ++ W5 cs (a0 3) a2 i2 r2 l2)) (As := [.int 3]) (rest := []) hx hb hml hown hts hK hA hZ hl.1 hP hD hS (c_X9_fail (h0 := (a0 0)) (a0 := a1) hq13) (gVt mlX6_69 imX9_fail seX9_fail inX9 coX9_fail) rfl qnX9_fail rfl rfl ⟨Nat.le_of_ble_eq_true rfl, Nat.le_of_ble_eq_true rfl⟩ [3, 4, 5, 6, 7, 8] [0, 1, 2, 9, 10, 11, 12, 13, 14, 15, 16, 17, 18, 19, 20, 21, 22] [0, 1, 2, 17, 18, 19, 20, 21, 22, 3, 4, 5, 6, 7, 8, 9, 10, 11, 12, 13, 14, 15, 16] rfl rfl rfl (by decide) 0 9 rfl rfl rfl rfl rfl (Nat.le_of_ble_eq_true rfl) ⟨Nat.zero_le _, Nat.zero_le _⟩ dX6_readVar_39 (fun H locs hP hD hS => ?_)
      refine lv_iconst (v := 0) hx hb dX6_readVar_42 (by decide) ?_
      obtain rfl := Option.some.inj hf
      exact k_iret hx hb hr hlocks hK hP hD hS dX6_readVar_43
  · have hf := ite_t hf hc
    refine lv_aload_n hx hb dX6_readVar_13 rfl (lv_at hl 1 rfl) ?_
    refine va_get (D := D) (ci := 6) (v := .ref (a0 0)) (C := RX6) (T := TX6) (N := 9) hx hb hts hiX6 hown hK hP 0 rfl rfl 0 (by decide) (hts _ flX6_18) (fun _ h9 => h9) rfl dX6_readVar_14 ?_
    refine lv_iconst (v := 1) hx hb dX6_readVar_17 (by decide) ?_
    obtain ⟨q14, hq14, hf⟩ := bd_s hf
    refine k_pVv (wr := W6 cs h0 a0 i0 r0 ++ W5 cs (a0 3) a2 i2 r2 l2) (ws2 := W6 cs h0 a0 i0 r0 ++ (W9 cs (a0 0) a1 q14 r1 l1 ++ W5 cs (a0 3) a2 i2 r2 l2)) (As := [.int 1]) (rest := []) hx hb hml hown hts hK hA hZ hl.1 hP hD hS (c_X9_fail (h0 := (a0 0)) (a0 := a1) hq14) (gVt mlX6_69 imX9_fail seX9_fail inX9 coX9_fail) rfl qnX9_fail rfl rfl ⟨Nat.le_of_ble_eq_true rfl, Nat.le_of_ble_eq_true rfl⟩ [3, 4, 5, 6, 7, 8] [0, 1, 2, 9, 10, 11, 12, 13, 14, 15, 16, 17, 18, 19, 20, 21, 22] [0, 1, 2, 17, 18, 19, 20, 21, 22, 3, 4, 5, 6, 7, 8, 9, 10, 11, 12, 13, 14, 15, 16] rfl rfl rfl (by decide) 0 9 rfl rfl rfl rfl rfl (Nat.le_of_ble_eq_true rfl) ⟨Nat.zero_le _, Nat.zero_le _⟩ dX6_readVar_18 (fun H locs hP hD hS => ?_)
    refine lv_iconst (v := 0) hx hb dX6_readVar_21 (by decide) ?_
    obtain rfl := Option.some.inj hf
    exact k_iret hx hb hr hlocks hK hP hD hS dX6_readVar_22
/-! MarbleFloor$ProgramReader.openBracket()V -/
abbrev wlX6_openBracket : List Cond := Cond.code yX6_openBracket cX6_openBracket 1 none :: tbG
abbrev rmX6_openBracket : Room := { frames := 1, cells := 0, slots := 0, locals := 21 }
theorem qnX6_openBracket : yX6_openBracket.cls = RX6 ∧ yX6_openBracket.cls ≠ "java/lang/invoke/MethodHandle" ∧ yX6_openBracket.cls ≠ "java/lang/invoke/VarHandle" ∧ (parseMethodDescriptor yX6_openBracket.desc).map (fun d => d.parameters.length) = some 0 := by decide +kernel
def f_X6_openBracket  (i0 : Nat → Int32) (r0 : Nat → Nat → Int32) (i1 : Nat → Int32) (r1 : Nat → Nat → Int32) (l1 : Nat → Nat → Int64) (i2 : Nat → Int32) (r2 : Nat → Nat → Int32) (l2 : Nat → Nat → Int64)  : Option ((Nat → Int32) × (Nat → Nat → Int32) × (Nat → Int32)) := if (i0 6) < 6 then (ck (inb ((i0 6) + 1) 7) (bd (f_X9_advance i1 r1 l1) (fun q3 => some ((upd i0 6 ((i0 6) + 1)), (va_up r0 2 (upd (r0 2) ((i0 6) + 1).toNatClampNeg 0)), q3)))) else (bd (f_X9_fail i1 r1 l1 4) (fun q4 => some (i0, r0, q4)))
set_option maxRecDepth 100000 in
set_option maxHeartbeats 4000000 in
theorem c_X6_openBracket {l : Launch} {D : va_G} {cs zs : Nat → Nat} {h0 : Nat} {a0 : Nat → Nat} {a1 : Nat → Nat} {a2 : Nat → Nat} {i0 : Nat → Int32} {r0 : Nat → Nat → Int32} {i1 : Nat → Int32} {r1 : Nat → Nat → Int32} {l1 : Nat → Nat → Int64} {i2 : Nat → Int32} {r2 : Nat → Nat → Int32} {l2 : Nat → Nat → Int64}  {q : (Nat → Int32) × (Nat → Nat → Int32) × (Nat → Int32)} (hf : f_X6_openBracket i0 r0 i1 r1 l1 i2 r2 l2 = some q) : Mv l yX6_openBracket wlX6_openBracket rmX6_openBracket D cs zs [.ref h0] (W6 cs h0 a0 i0 r0 ++ (W9 cs (a0 0) a1 i1 r1 l1 ++ W5 cs (a0 3) a2 i2 r2 l2)) (W6 cs h0 a0 q.1 q.2.1 ++ (W9 cs (a0 0) a1 q.2.2 r1 l1 ++ W5 cs (a0 3) a2 i2 r2 l2)) := by
  refine Mv.of RX6 (by decide) rfl (Nat.le_of_ble_eq_true rfl) (fun p e s m below meth c A C hP hD hS ls hl => ?_)
  generalize ([.ref h0] : List Value).toArray = args at C ⊢
  obtain ⟨hx, hb, hr, hml, hown, hts, hK, hA, hlocks, hZ⟩ := id C
  have hl : lv_has ls 1 [(0, .ref h0)] := hl
  rw [f_X6_openBracket] at hf
  refine lv_aload_n hx hb dX6_openBracket_0 rfl (lv_at hl 0 rfl) ?_
  refine va_get (D := D) (ci := 6) (v := .int (i0 6)) (C := RX6) (T := TX6) (N := 9) hx hb hts hiX6 hown hK hP 0 rfl rfl 6 (by decide) (hts _ flX6_155) (fun _ h9 => h9) rfl dX6_openBracket_1 ?_
  refine lv_bipush (v := 6) hx hb dX6_openBracket_4 (by decide) ?_
  refine lv_icmp_lt (tgt := 18) hx hb dX6_openBracket_6 (by decide) (fun hc => ?_) (fun hc => ?_)
  · have hf := ite_t hf hc
    refine lv_aload_n hx hb dX6_openBracket_18 rfl (lv_at hl 0 rfl) ?_
    refine lv_dup hx hb dX6_openBracket_19 rfl ?_
    refine va_get (D := D) (ci := 6) (v := .int (i0 6)) (C := RX6) (T := TX6) (N := 9) hx hb hts hiX6 hown hK hP 0 rfl rfl 6 (by decide) (hts _ flX6_155) (fun _ h9 => h9) rfl dX6_openBracket_20 ?_
    refine lv_iconst (v := 1) hx hb dX6_openBracket_23 (by decide) ?_
    refine lv_iadd hx hb dX6_openBracket_24 ?_
    refine va_put (D := D) (ci := 6) (v := .int ((i0 6) + 1)) (ty := .int) (C := RX6) (T := TX6) (N := 9) hx hb hts hiX6 tyX6 tyX6_ok nmX6 hown hK hP hD hS 0 rfl rfl 6 (by decide) (hts _ flX6_155) (fun _ h9 => h9) rfl (tyX6_ok 6 (by decide)) rfl rfl (Nat.le_of_ble_eq_true rfl) dX6_openBracket_25 (fun H locs hP hD hS => ?_)
    obtain ⟨hP, hD⟩ := st6_6_T hP hD
    refine lv_aload_n hx hb dX6_openBracket_28 rfl (lv_at hl 0 rfl) ?_
    refine va_get (D := D) (ci := 6) (v := .ref (a0 2)) (C := RX6) (T := TX6) (N := 9) hx hb hts hiX6 hown hK hP 0 rfl rfl 2 (by decide) (hts _ flX6_15) (fun _ h9 => h9) rfl dX6_openBracket_29 ?_
    refine lv_aload_n hx hb dX6_openBracket_32 rfl (lv_at hl 0 rfl) ?_
    refine va_get (D := D) (ci := 6) (v := .int ((i0 6) + 1)) (C := RX6) (T := TX6) (N := 9) hx hb hts hiX6 hown hK hP 0 rfl rfl 6 (by decide) (hts _ flX6_155) (fun _ h9 => h9) rfl dX6_openBracket_33 ?_
    refine lv_iconst (v := 0) hx hb dX6_openBracket_36 (by decide) ?_
    refine va_iast (f := r0 2) hx hb hK hP hD hS 2 0 rfl rfl (ck_in hf) dX6_openBracket_37 (fun H locs hP hD hS => ?_)
    have hf := ck_2 hf
    obtain ⟨hP, hD⟩ := st6_2_T hP hD
    refine lv_aload_n hx hb dX6_openBracket_38 rfl (lv_at hl 0 rfl) ?_
    refine va_get (D := D) (ci := 6) (v := .ref (a0 0)) (C := RX6) (T := TX6) (N := 9) hx hb hts hiX6 hown hK hP 0 rfl rfl 0 (by decide) (hts _ flX6_18) (fun _ h9 => h9) rfl dX6_openBracket_39 ?_
    obtain ⟨q3, hq3, hf⟩ := bd_s hf
    refine k_pVv (wr := W6 cs h0 a0 (upd i0 6 ((i0 6) + 1)) (va_up r0 2 (upd (r0 2) ((i0 6) + 1).toNatClampNeg 0)) ++ W5 cs (a0 3) a2 i2 r2 l2) (ws2 := W6 cs h0 a0 (upd i0 6 ((i0 6) + 1)) (va_up r0 2 (upd (r0 2) ((i0 6) + 1).toNatClampNeg 0)) ++ (W9 cs (a0 0) a1 q3 r1 l1 ++ W5 cs (a0 3) a2 i2 r2 l2)) (As := []) (rest := []) hx hb hml hown hts hK hA hZ hl.1 hP hD hS (c_X9_advance (h0 := (a0 0)) (a0 := a1) hq3) (gVt mlX6_109 imX9_advance seX9_advance inX9 coX9_advance) rfl qnX9_advance rfl rfl ⟨Nat.le_of_ble_eq_true rfl, Nat.le_of_ble_eq_true rfl⟩ [3, 4, 5, 6, 7, 8] [0, 1, 2, 9, 10, 11, 12, 13, 14, 15, 16, 17, 18, 19, 20, 21, 22] [0, 1, 2, 17, 18, 19, 20, 21, 22, 3, 4, 5, 6, 7, 8, 9, 10, 11, 12, 13, 14, 15, 16] rfl rfl rfl (by decide) 0 9 rfl rfl rfl rfl rfl (Nat.le_of_ble_eq_true rfl) ⟨Nat.zero_le _, Nat.zero_le _⟩ dX6_openBracket_42 (fun H locs hP hD hS => ?_)
    obtain rfl := Option.some.inj hf
    exact k_vret hx hb hr hlocks hK hP hD hS dX6_openBracket_45
  · have hf := ite_f hf hc
    refine lv_aload_n hx hb dX6_openBracket_9 rfl (lv_at hl 0 rfl) ?_
    refine va_get (D := D) (ci := 6) (v := .ref (a0 0)) (C := RX6) (T := TX6) (N := 9) hx hb hts hiX6 hown hK hP 0 rfl rfl 0 (by decide) (hts _ flX6_18) (fun _ h9 => h9) rfl dX6_openBracket_10 ?_
    refine lv_iconst (v := 4) hx hb dX6_openBracket_13 (by decide) ?_
    obtain ⟨q4, hq4, hf⟩ := bd_s hf
    refine k_pVv (wr := W6 cs h0 a0 i0 r0 ++ W5 cs (a0 3) a2 i2 r2 l2) (ws2 := W6 cs h0 a0 i0 r0 ++ (W9 cs (a0 0) a1 q4 r1 l1 ++ W5 cs (a0 3) a2 i2 r2 l2)) (As := [.int 4]) (rest := []) hx hb hml hown hts hK hA hZ hl.1 hP hD hS (c_X9_fail (h0 := (a0 0)) (a0 := a1) hq4) (gVt mlX6_69 imX9_fail seX9_fail inX9 coX9_fail) rfl qnX9_fail rfl rfl ⟨Nat.le_of_ble_eq_true rfl, Nat.le_of_ble_eq_true rfl⟩ [3, 4, 5, 6, 7, 8] [0, 1, 2, 9, 10, 11, 12, 13, 14, 15, 16, 17, 18, 19, 20, 21, 22] [0, 1, 2, 17, 18, 19, 20, 21, 22, 3, 4, 5, 6, 7, 8, 9, 10, 11, 12, 13, 14, 15, 16] rfl rfl rfl (by decide) 0 9 rfl rfl rfl rfl rfl (Nat.le_of_ble_eq_true rfl) ⟨Nat.zero_le _, Nat.zero_le _⟩ dX6_openBracket_14 (fun H locs hP hD hS => ?_)
    obtain rfl := Option.some.inj hf
    exact k_vret hx hb hr hlocks hK hP hD hS dX6_openBracket_17
/-! MarbleFloor$ProgramReader.countAtom()V -/
abbrev wlX6_countAtom : List Cond := Cond.code yX6_countAtom cX6_countAtom 3 none :: tbG
abbrev rmX6_countAtom : Room := { frames := 1, cells := 0, slots := 0, locals := 22 }
theorem qnX6_countAtom : yX6_countAtom.cls = RX6 ∧ yX6_countAtom.cls ≠ "java/lang/invoke/MethodHandle" ∧ yX6_countAtom.cls ≠ "java/lang/invoke/VarHandle" ∧ (parseMethodDescriptor yX6_countAtom.desc).map (fun d => d.parameters.length) = some 0 := by decide +kernel
def f_X6_countAtom_40 (r0 : Nat → Nat → Int32) (r1 : Nat → Nat → Int32) (l1 : Nat → Nat → Int64) (i2 : Nat → Int32) (r2 : Nat → Nat → Int32) (l2 : Nat → Nat → Int64)  (i0 : Nat → Int32) (i1 : Nat → Int32) (y0 : Int32) : Option ((Nat → Int32) × (Nat → Int32)) := if y0 = 0 then (some ((upd i0 7 ((i0 7) + 1)), i1)) else (if (i0 7) < 12 then (some ((upd i0 7 ((i0 7) + 1)), i1)) else (bd (f_X9_fail i1 r1 l1 4) (fun q4 => some ((upd i0 7 ((i0 7) + 1)), q4))))
set_option maxRecDepth 100000 in
set_option maxHeartbeats 4000000 in
theorem w_X6_countAtom_40 {p : Program} {l : Launch} {e : Env} {s : State} {m : MethodId} {args : Array Value} {below : List Frame} {meth : Method} {c : Code} {A : Nat → Prop} {D : va_G} {cs zs : Nat → Nat} {h0 : Nat} {a0 : Nat → Nat} {a1 : Nat → Nat} {a2 : Nat → Nat} {r0 : Nat → Nat → Int32} {r1 : Nat → Nat → Int32} {l1 : Nat → Nat → Int64} {i2 : Nat → Int32} {r2 : Nat → Nat → Int32} {l2 : Nat → Nat → Int64} {q : (Nat → Int32) × (Nat → Int32)} (C : Cx p s m args meth c A D cs zs cX6_countAtom 3 none RX6)  : ∀ (i0 : Nat → Int32) (i1 : Nat → Int32) (y0 : Int32) (H : Heap) (locs : List Loc) (ls : Array Slot), f_X6_countAtom_40 r0 r1 l1 i2 r2 l2 i0 i1 y0 = some q → va_P D vwCl (W6 cs h0 a0 i0 r0 ++ (W9 cs (a0 0) a1 i1 r1 l1 ++ W5 cs (a0 3) a2 i2 r2 l2)) H → va_D A (W6 cs h0 a0 i0 r0 ++ (W9 cs (a0 0) a1 i1 r1 l1 ++ W5 cs (a0 3) a2 i2 r2 l2)) → va_S A s.heap H locs → lv_has ls 3 [(0, .ref h0)] → W p l e rmX6_countAtom s m args below meth c H locs 0 0 (MQ below (Qv D cs A (W6 cs h0 a0 q.1 r0 ++ (W9 cs (a0 0) a1 q.2 r1 l1 ++ W5 cs (a0 3) a2 i2 r2 l2))) args s 0 0 A) (F0 m 40 ls [.int y0]) := by
  obtain ⟨hx, hb, hr, hml, hown, hts, hK, hA, hlocks, hZ⟩ := id C
  intro i0 i1 y0 H locs ls hf hP hD hS hl
  rw [f_X6_countAtom_40] at hf
  refine lv_istore_n (lv' := [(2, .int y0), (0, .ref h0)]) hx hb dX6_countAtom_40 rfl hl (by decide) rfl (fun ls hl => ?_)
  refine lv_iload_n hx hb dX6_countAtom_41 rfl (lv_at hl 0 rfl) ?_
  refine lv_if_eq (tgt := 62) hx hb dX6_countAtom_42 (by decide) (fun hc => ?_) (fun hc => ?_)
  · have hf := ite_t hf hc
    refine lv_aload_n hx hb dX6_countAtom_62 rfl (lv_at hl 1 rfl) ?_
    refine lv_dup hx hb dX6_countAtom_63 rfl ?_
    refine va_get (D := D) (ci := 6) (v := .int (i0 7)) (C := RX6) (T := TX6) (N := 9) hx hb hts hiX6 hown hK hP 0 rfl rfl 7 (by decide) (hts _ flX6_152) (fun _ h9 => h9) rfl dX6_countAtom_64 ?_
    refine lv_iconst (v := 1) hx hb dX6_countAtom_67 (by decide) ?_
    refine lv_iadd hx hb dX6_countAtom_68 ?_
    refine va_put (D := D) (ci := 6) (v := .int ((i0 7) + 1)) (ty := .int) (C := RX6) (T := TX6) (N := 9) hx hb hts hiX6 tyX6 tyX6_ok nmX6 hown hK hP hD hS 0 rfl rfl 7 (by decide) (hts _ flX6_152) (fun _ h9 => h9) rfl (tyX6_ok 7 (by decide)) rfl rfl (Nat.le_of_ble_eq_true rfl) dX6_countAtom_69 (fun H locs hP hD hS => ?_)
    obtain ⟨hP, hD⟩ := st6_7_T hP hD
    obtain rfl := Option.some.inj hf
    exact k_vret hx hb hr hlocks hK hP hD hS dX6_countAtom_72
  · have hf := ite_f hf hc
    refine lv_aload_n hx hb dX6_countAtom_45 rfl (lv_at hl 1 rfl) ?_
    refine va_get (D := D) (ci := 6) (v := .int (i0 7)) (C := RX6) (T := TX6) (N := 9) hx hb hts hiX6 hown hK hP 0 rfl rfl 7 (by decide) (hts _ flX6_152) (fun _ h9 => h9) rfl dX6_countAtom_46 ?_
    refine lv_bipush (v := 12) hx hb dX6_countAtom_49 (by decide) ?_
    refine lv_icmp_lt (tgt := 62) hx hb dX6_countAtom_51 (by decide) (fun hc => ?_) (fun hc => ?_)
    · have hf := ite_t hf hc
      refine lv_aload_n hx hb dX6_countAtom_62 rfl (lv_at hl 1 rfl) ?_
      refine lv_dup hx hb dX6_countAtom_63 rfl ?_
      refine va_get (D := D) (ci := 6) (v := .int (i0 7)) (C := RX6) (T := TX6) (N := 9) hx hb hts hiX6 hown hK hP 0 rfl rfl 7 (by decide) (hts _ flX6_152) (fun _ h9 => h9) rfl dX6_countAtom_64 ?_
      refine lv_iconst (v := 1) hx hb dX6_countAtom_67 (by decide) ?_
      refine lv_iadd hx hb dX6_countAtom_68 ?_
      refine va_put (D := D) (ci := 6) (v := .int ((i0 7) + 1)) (ty := .int) (C := RX6) (T := TX6) (N := 9) hx hb hts hiX6 tyX6 tyX6_ok nmX6 hown hK hP hD hS 0 rfl rfl 7 (by decide) (hts _ flX6_152) (fun _ h9 => h9) rfl (tyX6_ok 7 (by decide)) rfl rfl (Nat.le_of_ble_eq_true rfl) dX6_countAtom_69 (fun H locs hP hD hS => ?_)
      obtain ⟨hP, hD⟩ := st6_7_T hP hD
      obtain rfl := Option.some.inj hf
      exact k_vret hx hb hr hlocks hK hP hD hS dX6_countAtom_72
    · have hf := ite_f hf hc
      refine lv_aload_n hx hb dX6_countAtom_54 rfl (lv_at hl 1 rfl) ?_
      refine va_get (D := D) (ci := 6) (v := .ref (a0 0)) (C := RX6) (T := TX6) (N := 9) hx hb hts hiX6 hown hK hP 0 rfl rfl 0 (by decide) (hts _ flX6_18) (fun _ h9 => h9) rfl dX6_countAtom_55 ?_
      refine lv_iconst (v := 4) hx hb dX6_countAtom_58 (by decide) ?_
      obtain ⟨q4, hq4, hf⟩ := bd_s hf
      refine k_pVv (wr := W6 cs h0 a0 i0 r0 ++ W5 cs (a0 3) a2 i2 r2 l2) (ws2 := W6 cs h0 a0 i0 r0 ++ (W9 cs (a0 0) a1 q4 r1 l1 ++ W5 cs (a0 3) a2 i2 r2 l2)) (As := [.int 4]) (rest := []) hx hb hml hown hts hK hA hZ hl.1 hP hD hS (c_X9_fail (h0 := (a0 0)) (a0 := a1) hq4) (gVt mlX6_69 imX9_fail seX9_fail inX9 coX9_fail) rfl qnX9_fail rfl rfl ⟨Nat.le_of_ble_eq_true rfl, Nat.le_of_ble_eq_true rfl⟩ [3, 4, 5, 6, 7, 8] [0, 1, 2, 9, 10, 11, 12, 13, 14, 15, 16, 17, 18, 19, 20, 21, 22] [0, 1, 2, 17, 18, 19, 20, 21, 22, 3, 4, 5, 6, 7, 8, 9, 10, 11, 12, 13, 14, 15, 16] rfl rfl rfl (by decide) 0 9 rfl rfl rfl rfl rfl (Nat.le_of_ble_eq_true rfl) ⟨Nat.zero_le _, Nat.zero_le _⟩ dX6_countAtom_59 (fun H locs hP hD hS => ?_)
      refine lv_aload_n hx hb dX6_countAtom_62 rfl (lv_at hl 1 rfl) ?_
      refine lv_dup hx hb dX6_countAtom_63 rfl ?_
      refine va_get (D := D) (ci := 6) (v := .int (i0 7)) (C := RX6) (T := TX6) (N := 9) hx hb hts hiX6 hown hK hP 0 rfl rfl 7 (by decide) (hts _ flX6_152) (fun _ h9 => h9) rfl dX6_countAtom_64 ?_
      refine lv_iconst (v := 1) hx hb dX6_countAtom_67 (by decide) ?_
      refine lv_iadd hx hb dX6_countAtom_68 ?_
      refine va_put (D := D) (ci := 6) (v := .int ((i0 7) + 1)) (ty := .int) (C := RX6) (T := TX6) (N := 9) hx hb hts hiX6 tyX6 tyX6_ok nmX6 hown hK hP hD hS 0 rfl rfl 7 (by decide) (hts _ flX6_152) (fun _ h9 => h9) rfl (tyX6_ok 7 (by decide)) rfl rfl (Nat.le_of_ble_eq_true rfl) dX6_countAtom_69 (fun H locs hP hD hS => ?_)
      obtain ⟨hP, hD⟩ := st6_7_T hP hD
      obtain rfl := Option.some.inj hf
      exact k_vret hx hb hr hlocks hK hP hD hS dX6_countAtom_72
def f_X6_countAtom_35 (r0 : Nat → Nat → Int32) (r1 : Nat → Nat → Int32) (l1 : Nat → Nat → Int64) (i2 : Nat → Int32) (r2 : Nat → Nat → Int32) (l2 : Nat → Nat → Int64)  (i0 : Nat → Int32) (i1 : Nat → Int32) : Option ((Nat → Int32) × (Nat → Int32)) := f_X6_countAtom_40 r0 r1 l1 i2 r2 l2 i0 i1 1
set_option maxRecDepth 100000 in
set_option maxHeartbeats 4000000 in
theorem w_X6_countAtom_35 {p : Program} {l : Launch} {e : Env} {s : State} {m : MethodId} {args : Array Value} {below : List Frame} {meth : Method} {c : Code} {A : Nat → Prop} {D : va_G} {cs zs : Nat → Nat} {h0 : Nat} {a0 : Nat → Nat} {a1 : Nat → Nat} {a2 : Nat → Nat} {r0 : Nat → Nat → Int32} {r1 : Nat → Nat → Int32} {l1 : Nat → Nat → Int64} {i2 : Nat → Int32} {r2 : Nat → Nat → Int32} {l2 : Nat → Nat → Int64} {q : (Nat → Int32) × (Nat → Int32)} (C : Cx p s m args meth c A D cs zs cX6_countAtom 3 none RX6)  : ∀ (i0 : Nat → Int32) (i1 : Nat → Int32) (H : Heap) (locs : List Loc) (ls : Array Slot), f_X6_countAtom_35 r0 r1 l1 i2 r2 l2 i0 i1 = some q → va_P D vwCl (W6 cs h0 a0 i0 r0 ++ (W9 cs (a0 0) a1 i1 r1 l1 ++ W5 cs (a0 3) a2 i2 r2 l2)) H → va_D A (W6 cs h0 a0 i0 r0 ++ (W9 cs (a0 0) a1 i1 r1 l1 ++ W5 cs (a0 3) a2 i2 r2 l2)) → va_S A s.heap H locs → lv_has ls 3 [(0, .ref h0)] → W p l e rmX6_countAtom s m args below meth c H locs 0 0 (MQ below (Qv D cs A (W6 cs h0 a0 q.1 r0 ++ (W9 cs (a0 0) a1 q.2 r1 l1 ++ W5 cs (a0 3) a2 i2 r2 l2))) args s 0 0 A) (F0 m 35 ls []) := by
  obtain ⟨hx, hb, hr, hml, hown, hts, hK, hA, hlocks, hZ⟩ := id C
  intro i0 i1 H locs ls hf hP hD hS hl
  rw [f_X6_countAtom_35] at hf
  refine lv_iconst (v := 1) hx hb dX6_countAtom_35 (by decide) ?_
  refine lv_goto (tgt := 40) hx hb dX6_countAtom_36 (by decide) ?_
  exact w_X6_countAtom_40 C  _ _ _ _ _ _ hf hP hD hS (lv_sub hl [0] rfl)
def f_X6_countAtom_39 (r0 : Nat → Nat → Int32) (r1 : Nat → Nat → Int32) (l1 : Nat → Nat → Int64) (i2 : Nat → Int32) (r2 : Nat → Nat → Int32) (l2 : Nat → Nat → Int64)  (i0 : Nat → Int32) (i1 : Nat → Int32) : Option ((Nat → Int32) × (Nat → Int32)) := f_X6_countAtom_40 r0 r1 l1 i2 r2 l2 i0 i1 0
set_option maxRecDepth 100000 in
set_option maxHeartbeats 4000000 in
theorem w_X6_countAtom_39 {p : Program} {l : Launch} {e : Env} {s : State} {m : MethodId} {args : Array Value} {below : List Frame} {meth : Method} {c : Code} {A : Nat → Prop} {D : va_G} {cs zs : Nat → Nat} {h0 : Nat} {a0 : Nat → Nat} {a1 : Nat → Nat} {a2 : Nat → Nat} {r0 : Nat → Nat → Int32} {r1 : Nat → Nat → Int32} {l1 : Nat → Nat → Int64} {i2 : Nat → Int32} {r2 : Nat → Nat → Int32} {l2 : Nat → Nat → Int64} {q : (Nat → Int32) × (Nat → Int32)} (C : Cx p s m args meth c A D cs zs cX6_countAtom 3 none RX6)  : ∀ (i0 : Nat → Int32) (i1 : Nat → Int32) (H : Heap) (locs : List Loc) (ls : Array Slot), f_X6_countAtom_39 r0 r1 l1 i2 r2 l2 i0 i1 = some q → va_P D vwCl (W6 cs h0 a0 i0 r0 ++ (W9 cs (a0 0) a1 i1 r1 l1 ++ W5 cs (a0 3) a2 i2 r2 l2)) H → va_D A (W6 cs h0 a0 i0 r0 ++ (W9 cs (a0 0) a1 i1 r1 l1 ++ W5 cs (a0 3) a2 i2 r2 l2)) → va_S A s.heap H locs → lv_has ls 3 [(0, .ref h0)] → W p l e rmX6_countAtom s m args below meth c H locs 0 0 (MQ below (Qv D cs A (W6 cs h0 a0 q.1 r0 ++ (W9 cs (a0 0) a1 q.2 r1 l1 ++ W5 cs (a0 3) a2 i2 r2 l2))) args s 0 0 A) (F0 m 39 ls []) := by
  obtain ⟨hx, hb, hr, hml, hown, hts, hK, hA, hlocks, hZ⟩ := id C
  intro i0 i1 H locs ls hf hP hD hS hl
  rw [f_X6_countAtom_39] at hf
  refine lv_iconst (v := 0) hx hb dX6_countAtom_39 (by decide) ?_
  exact w_X6_countAtom_40 C  _ _ _ _ _ _ hf hP hD hS (lv_sub hl [0] rfl)
def f_X6_countAtom  (i0 : Nat → Int32) (r0 : Nat → Nat → Int32) (i1 : Nat → Int32) (r1 : Nat → Nat → Int32) (l1 : Nat → Nat → Int64) (i2 : Nat → Int32) (r2 : Nat → Nat → Int32) (l2 : Nat → Nat → Int64)  : Option ((Nat → Int32) × (Nat → Int32)) := bd (f_X9_letter i1 r1 l1) (fun q5 => bd (f_X9_kind i1 r1 l1) (fun q6 => if q6 = 2 then (f_X6_countAtom_35 r0 r1 l1 i2 r2 l2 i0 i1) else (if q5 = (-1) then (f_X6_countAtom_39 r0 r1 l1 i2 r2 l2 i0 i1) else (if (((i0 8) >>> (q5 &&& 31)) &&& 1) = 0 then (f_X6_countAtom_35 r0 r1 l1 i2 r2 l2 i0 i1) else (f_X6_countAtom_39 r0 r1 l1 i2 r2 l2 i0 i1)))))
set_option maxRecDepth 100000 in
set_option maxHeartbeats 4000000 in
theorem c_X6_countAtom {l : Launch} {D : va_G} {cs zs : Nat → Nat} {h0 : Nat} {a0 : Nat → Nat} {a1 : Nat → Nat} {a2 : Nat → Nat} {i0 : Nat → Int32} {r0 : Nat → Nat → Int32} {i1 : Nat → Int32} {r1 : Nat → Nat → Int32} {l1 : Nat → Nat → Int64} {i2 : Nat → Int32} {r2 : Nat → Nat → Int32} {l2 : Nat → Nat → Int64}  {q : (Nat → Int32) × (Nat → Int32)} (hf : f_X6_countAtom i0 r0 i1 r1 l1 i2 r2 l2 = some q) : Mv l yX6_countAtom wlX6_countAtom rmX6_countAtom D cs zs [.ref h0] (W6 cs h0 a0 i0 r0 ++ (W9 cs (a0 0) a1 i1 r1 l1 ++ W5 cs (a0 3) a2 i2 r2 l2)) (W6 cs h0 a0 q.1 r0 ++ (W9 cs (a0 0) a1 q.2 r1 l1 ++ W5 cs (a0 3) a2 i2 r2 l2)) := by
  refine Mv.of RX6 (by decide) rfl (Nat.le_of_ble_eq_true rfl) (fun p e s m below meth c A C hP hD hS ls hl => ?_)
  generalize ([.ref h0] : List Value).toArray = args at C ⊢
  obtain ⟨hx, hb, hr, hml, hown, hts, hK, hA, hlocks, hZ⟩ := id C
  have hl : lv_has ls 3 [(0, .ref h0)] := hl
  rw [f_X6_countAtom] at hf
  refine lv_aload_n hx hb dX6_countAtom_0 rfl (lv_at hl 0 rfl) ?_
  refine va_get (D := D) (ci := 6) (v := .ref (a0 0)) (C := RX6) (T := TX6) (N := 9) hx hb hts hiX6 hown hK hP 0 rfl rfl 0 (by decide) (hts _ flX6_18) (fun _ h9 => h9) rfl dX6_countAtom_1 ?_
  obtain ⟨q5, hq5, hf⟩ := bd_s hf
  refine k_pVi (wr := W6 cs h0 a0 i0 r0 ++ W5 cs (a0 3) a2 i2 r2 l2) (ws2 := W6 cs h0 a0 i0 r0 ++ (W9 cs (a0 0) a1 i1 r1 l1 ++ W5 cs (a0 3) a2 i2 r2 l2)) (As := []) (rest := []) hx hb hml hown hts hK hA hZ hl.1 hP hD hS (c_X9_letter (h0 := (a0 0)) (a0 := a1) hq5) (gVt mlX6_170 imX9_letter seX9_letter inX9 coX9_letter) rfl qnX9_letter rfl rfl ⟨Nat.le_of_ble_eq_true rfl, Nat.le_of_ble_eq_true rfl⟩ [3, 4, 5, 6, 7, 8] [0, 1, 2, 9, 10, 11, 12, 13, 14, 15, 16, 17, 18, 19, 20, 21, 22] [0, 1, 2, 17, 18, 19, 20, 21, 22, 3, 4, 5, 6, 7, 8, 9, 10, 11, 12, 13, 14, 15, 16] rfl rfl rfl (by decide) 0 9 rfl rfl rfl rfl rfl (Nat.le_of_ble_eq_true rfl) ⟨Nat.zero_le _, Nat.zero_le _⟩ dX6_countAtom_4 (fun H locs hP hD hS => ?_)
  refine lv_istore_n (lv' := [(1, .int q5), (0, .ref h0)]) hx hb dX6_countAtom_7 rfl hl (by decide) rfl (fun ls hl => ?_)
  refine lv_aload_n hx hb dX6_countAtom_8 rfl (lv_at hl 1 rfl) ?_
  refine va_get (D := D) (ci := 6) (v := .ref (a0 0)) (C := RX6) (T := TX6) (N := 9) hx hb hts hiX6 hown hK hP 0 rfl rfl 0 (by decide) (hts _ flX6_18) (fun _ h9 => h9) rfl dX6_countAtom_9 ?_
  obtain ⟨q6, hq6, hf⟩ := bd_s hf
  refine k_pVi (wr := W6 cs h0 a0 i0 r0 ++ W5 cs (a0 3) a2 i2 r2 l2) (ws2 := W6 cs h0 a0 i0 r0 ++ (W9 cs (a0 0) a1 i1 r1 l1 ++ W5 cs (a0 3) a2 i2 r2 l2)) (As := []) (rest := []) hx hb hml hown hts hK hA hZ hl.1 hP hD hS (c_X9_kind (h0 := (a0 0)) (a0 := a1) hq6) (gVt mlX6_46 imX9_kind seX9_kind inX9 coX9_kind) rfl qnX9_kind rfl rfl ⟨Nat.le_of_ble_eq_true rfl, Nat.le_of_ble_eq_true rfl⟩ [3, 4, 5, 6, 7, 8] [0, 1, 2, 9, 10, 11, 12, 13, 14, 15, 16, 17, 18, 19, 20, 21, 22] [0, 1, 2, 17, 18, 19, 20, 21, 22, 3, 4, 5, 6, 7, 8, 9, 10, 11, 12, 13, 14, 15, 16] rfl rfl rfl (by decide) 0 9 rfl rfl rfl rfl rfl (Nat.le_of_ble_eq_true rfl) ⟨Nat.zero_le _, Nat.zero_le _⟩ dX6_countAtom_12 (fun H locs hP hD hS => ?_)
  refine lv_iconst (v := 2) hx hb dX6_countAtom_15 (by decide) ?_
  refine lv_icmp_eq (tgt := 35) hx hb dX6_countAtom_16 (by decide) (fun hc => ?_) (fun hc => ?_)
  · have hf := ite_t hf hc
    exact w_X6_countAtom_35 C  _ _ _ _ _ hf hP hD hS (lv_sub hl [1] rfl)
  · have hf := ite_f hf hc
    refine lv_iload_n hx hb dX6_countAtom_19 rfl (lv_at hl 0 rfl) ?_
    refine lv_iconst (v := (-1)) hx hb dX6_countAtom_20 (by decide) ?_
    refine lv_icmp_eq (tgt := 39) hx hb dX6_countAtom_21 (by decide) (fun hc => ?_) (fun hc => ?_)
    · have hf := ite_t hf hc
      exact w_X6_countAtom_39 C  _ _ _ _ _ hf hP hD hS (lv_sub hl [1] rfl)
    · have hf := ite_f hf hc
      refine lv_aload_n hx hb dX6_countAtom_24 rfl (lv_at hl 1 rfl) ?_
      refine va_get (D := D) (ci := 6) (v := .int (i0 8)) (C := RX6) (T := TX6) (N := 9) hx hb hts hiX6 hown hK hP 0 rfl rfl 8 (by decide) (hts _ flX6_38) (fun _ h9 => h9) rfl dX6_countAtom_25 ?_
      refine lv_iload_n hx hb dX6_countAtom_28 rfl (lv_at hl 0 rfl) ?_
      refine lv_ishr hx hb dX6_countAtom_29 ?_
      refine lv_iconst (v := 1) hx hb dX6_countAtom_30 (by decide) ?_
      refine lv_iand hx hb dX6_countAtom_31 ?_
      refine lv_if_ne (tgt := 39) hx hb dX6_countAtom_32 (by decide) (fun hc => ?_) (fun hc => ?_)
      · have hf := ite_f hf hc
        exact w_X6_countAtom_39 C  _ _ _ _ _ hf hP hD hS (lv_sub hl [1] rfl)
      · have hf := ite_t hf hc
        exact w_X6_countAtom_35 C  _ _ _ _ _ hf hP hD hS (lv_sub hl [1] rfl)
/-! MarbleFloor$ProgramReader.doWaiting()V -/
abbrev wlX6_doWaiting : List Cond := Cond.code yX6_doWaiting cX6_doWaiting 1 none :: tbG
abbrev rmX6_doWaiting : Room := { frames := 1, cells := 0, slots := 0, locals := 21 }
theorem qnX6_doWaiting : yX6_doWaiting.cls = RX6 ∧ yX6_doWaiting.cls ≠ "java/lang/invoke/MethodHandle" ∧ yX6_doWaiting.cls ≠ "java/lang/invoke/VarHandle" ∧ (parseMethodDescriptor yX6_doWaiting.desc).map (fun d => d.parameters.length) = some 0 := by decide +kernel
def f_X6_doWaiting  (i0 : Nat → Int32) (r0 : Nat → Nat → Int32) (i1 : Nat → Int32) (r1 : Nat → Nat → Int32) (l1 : Nat → Nat → Int64) (i2 : Nat → Int32) (r2 : Nat → Nat → Int32) (l2 : Nat → Nat → Int64)  : Option ((Nat → Nat → Int32) × (Nat → Int32) × (Nat → Nat → Int32)) := ck (inb (i0 6) 7) (if (r0 2 (i0 6).toNatClampNeg) = 0 then (some (r0, i2, r2)) else (ck (inb (i0 6) 7) (bd (f_X5_addCode i2 r2 l2 (-(r0 2 (i0 6).toNatClampNeg))) (fun q2 => ck (inb (i0 6) 7) (some ((va_up r0 2 (upd (r0 2) (i0 6).toNatClampNeg 0)), q2.1, q2.2))))))
set_option maxRecDepth 100000 in
set_option maxHeartbeats 4000000 in
theorem c_X6_doWaiting {l : Launch} {D : va_G} {cs zs : Nat → Nat} {h0 : Nat} {a0 : Nat → Nat} {a1 : Nat → Nat} {a2 : Nat → Nat} {i0 : Nat → Int32} {r0 : Nat → Nat → Int32} {i1 : Nat → Int32} {r1 : Nat → Nat → Int32} {l1 : Nat → Nat → Int64} {i2 : Nat → Int32} {r2 : Nat → Nat → Int32} {l2 : Nat → Nat → Int64}  {q : (Nat → Nat → Int32) × (Nat → Int32) × (Nat → Nat → Int32)} (hf : f_X6_doWaiting i0 r0 i1 r1 l1 i2 r2 l2 = some q) : Mv l yX6_doWaiting wlX6_doWaiting rmX6_doWaiting D cs zs [.ref h0] (W6 cs h0 a0 i0 r0 ++ (W9 cs (a0 0) a1 i1 r1 l1 ++ W5 cs (a0 3) a2 i2 r2 l2)) (W6 cs h0 a0 i0 q.1 ++ (W9 cs (a0 0) a1 i1 r1 l1 ++ W5 cs (a0 3) a2 q.2.1 q.2.2 l2)) := by
  refine Mv.of RX6 (by decide) rfl (Nat.le_of_ble_eq_true rfl) (fun p e s m below meth c A C hP hD hS ls hl => ?_)
  generalize ([.ref h0] : List Value).toArray = args at C ⊢
  obtain ⟨hx, hb, hr, hml, hown, hts, hK, hA, hlocks, hZ⟩ := id C
  have hl : lv_has ls 1 [(0, .ref h0)] := hl
  rw [f_X6_doWaiting] at hf
  refine lv_aload_n hx hb dX6_doWaiting_0 rfl (lv_at hl 0 rfl) ?_
  refine va_get (D := D) (ci := 6) (v := .ref (a0 2)) (C := RX6) (T := TX6) (N := 9) hx hb hts hiX6 hown hK hP 0 rfl rfl 2 (by decide) (hts _ flX6_15) (fun _ h9 => h9) rfl dX6_doWaiting_1 ?_
  refine lv_aload_n hx hb dX6_doWaiting_4 rfl (lv_at hl 0 rfl) ?_
  refine va_get (D := D) (ci := 6) (v := .int (i0 6)) (C := RX6) (T := TX6) (N := 9) hx hb hts hiX6 hown hK hP 0 rfl rfl 6 (by decide) (hts _ flX6_155) (fun _ h9 => h9) rfl dX6_doWaiting_5 ?_
  refine va_iald (f := r0 2) hx hb hK hP 2 0 rfl rfl (ck_in hf) dX6_doWaiting_8 ?_
  have hf := ck_2 hf
  refine lv_if_eq (tgt := 39) hx hb dX6_doWaiting_9 (by decide) (fun hc => ?_) (fun hc => ?_)
  · have hf := ite_t hf hc
    obtain rfl := Option.some.inj hf
    exact k_vret hx hb hr hlocks hK hP hD hS dX6_doWaiting_39
  · have hf := ite_f hf hc
    refine lv_aload_n hx hb dX6_doWaiting_12 rfl (lv_at hl 0 rfl) ?_
    refine va_get (D := D) (ci := 6) (v := .ref (a0 3)) (C := RX6) (T := TX6) (N := 9) hx hb hts hiX6 hown hK hP 0 rfl rfl 3 (by decide) (hts _ flX6_22) (fun _ h9 => h9) rfl dX6_doWaiting_13 ?_
    refine lv_aload_n hx hb dX6_doWaiting_16 rfl (lv_at hl 0 rfl) ?_
    refine va_get (D := D) (ci := 6) (v := .ref (a0 2)) (C := RX6) (T := TX6) (N := 9) hx hb hts hiX6 hown hK hP 0 rfl rfl 2 (by decide) (hts _ flX6_15) (fun _ h9 => h9) rfl dX6_doWaiting_17 ?_
    refine lv_aload_n hx hb dX6_doWaiting_20 rfl (lv_at hl 0 rfl) ?_
    refine va_get (D := D) (ci := 6) (v := .int (i0 6)) (C := RX6) (T := TX6) (N := 9) hx hb hts hiX6 hown hK hP 0 rfl rfl 6 (by decide) (hts _ flX6_155) (fun _ h9 => h9) rfl dX6_doWaiting_21 ?_
    refine va_iald (f := r0 2) hx hb hK hP 2 0 rfl rfl (ck_in hf) dX6_doWaiting_24 ?_
    have hf := ck_2 hf
    refine lv_ineg hx hb dX6_doWaiting_25 ?_
    obtain ⟨q2, hq2, hf⟩ := bd_s hf
    refine k_pVv (wr := W6 cs h0 a0 i0 r0 ++ W9 cs (a0 0) a1 i1 r1 l1) (ws2 := W6 cs h0 a0 i0 r0 ++ (W9 cs (a0 0) a1 i1 r1 l1 ++ W5 cs (a0 3) a2 q2.1 q2.2 l2)) (As := [.int (-(r0 2 (i0 6).toNatClampNeg))]) (rest := []) hx hb hml hown hts hK hA hZ hl.1 hP hD hS (c_X5_addCode (h0 := (a0 3)) (a0 := a2) hq2) (gVt mlX6_149 imX5_addCode seX5_addCode inX5 coX5_addCode) rfl qnX5_addCode rfl rfl ⟨Nat.le_of_ble_eq_true rfl, Nat.le_of_ble_eq_true rfl⟩ [9, 10, 11, 12, 13, 14, 15, 16, 17, 18, 19, 20, 21, 22] [0, 1, 2, 3, 4, 5, 6, 7, 8] [0, 1, 2, 3, 4, 5, 6, 7, 8, 9, 10, 11, 12, 13, 14, 15, 16, 17, 18, 19, 20, 21, 22] rfl rfl rfl (by decide) 0 5 rfl rfl rfl rfl rfl (Nat.le_of_ble_eq_true rfl) ⟨Nat.zero_le _, Nat.zero_le _⟩ dX6_doWaiting_26 (fun H locs hP hD hS => ?_)
    refine lv_aload_n hx hb dX6_doWaiting_29 rfl (lv_at hl 0 rfl) ?_
    refine va_get (D := D) (ci := 6) (v := .ref (a0 2)) (C := RX6) (T := TX6) (N := 9) hx hb hts hiX6 hown hK hP 0 rfl rfl 2 (by decide) (hts _ flX6_15) (fun _ h9 => h9) rfl dX6_doWaiting_30 ?_
    refine lv_aload_n hx hb dX6_doWaiting_33 rfl (lv_at hl 0 rfl) ?_
    refine va_get (D := D) (ci := 6) (v := .int (i0 6)) (C := RX6) (T := TX6) (N := 9) hx hb hts hiX6 hown hK hP 0 rfl rfl 6 (by decide) (hts _ flX6_155) (fun _ h9 => h9) rfl dX6_doWaiting_34 ?_
    refine lv_iconst (v := 0) hx hb dX6_doWaiting_37 (by decide) ?_
    refine va_iast (f := r0 2) hx hb hK hP hD hS 2 0 rfl rfl (ck_in hf) dX6_doWaiting_38 (fun H locs hP hD hS => ?_)
    have hf := ck_2 hf
    obtain ⟨hP, hD⟩ := st6_2_T hP hD
    obtain rfl := Option.some.inj hf
    exact k_vret hx hb hr hlocks hK hP hD hS dX6_doWaiting_39
/-! MarbleFloor$ProgramReader.endFactor()Z -/
abbrev wlX6_endFactor : List Cond := Cond.code yX6_endFactor cX6_endFactor 1 (some .boolean) :: tbG
abbrev rmX6_endFactor : Room := { frames := 2, cells := 0, slots := 0, locals := 41 }
theorem qnX6_endFactor : yX6_endFactor.cls = RX6 ∧ yX6_endFactor.cls ≠ "java/lang/invoke/MethodHandle" ∧ yX6_endFactor.cls ≠ "java/lang/invoke/VarHandle" ∧ (parseMethodDescriptor yX6_endFactor.desc).map (fun d => d.parameters.length) = some 0 := by decide +kernel
def f_X6_endFactor_47 (r1 : Nat → Nat → Int32) (l1 : Nat → Nat → Int64) (l2 : Nat → Nat → Int64)  (i0 : Nat → Int32) (r0 : Nat → Nat → Int32) (i1 : Nat → Int32) (i2 : Nat → Int32) (r2 : Nat → Nat → Int32) : Option (Int32 × (Nat → Int32) × (Nat → Nat → Int32) × (Nat → Int32) × (Nat → Int32) × (Nat → Nat → Int32)) := bd (f_X9_kind i1 r1 l1) (fun q9 => if q9 = 37 then (bd (f_X9_kind i1 r1 l1) (fun q10 => ck (inb (i0 6) 7) (bd (f_X9_advance i1 r1 l1) (fun q11 => some (1, i0, (va_up r0 2 (upd (r0 2) (i0 6).toNatClampNeg q10)), q11, i2, r2))))) else (if q9 = 38 then (bd (f_X9_kind i1 r1 l1) (fun q12 => ck (inb (i0 6) 7) (bd (f_X9_advance i1 r1 l1) (fun q13 => some (1, i0, (va_up r0 2 (upd (r0 2) (i0 6).toNatClampNeg q12)), q13, i2, r2))))) else (if q9 = 42 then (bd (f_X9_kind i1 r1 l1) (fun q14 => ck (inb (i0 6) 7) (bd (f_X9_advance i1 r1 l1) (fun q15 => some (1, i0, (va_up r0 2 (upd (r0 2) (i0 6).toNatClampNeg q14)), q15, i2, r2))))) else (if q9 = 43 then (bd (f_X9_kind i1 r1 l1) (fun q16 => ck (inb (i0 6) 7) (bd (f_X9_advance i1 r1 l1) (fun q17 => some (1, i0, (va_up r0 2 (upd (r0 2) (i0 6).toNatClampNeg q16)), q17, i2, r2))))) else (if q9 = 45 then (bd (f_X9_kind i1 r1 l1) (fun q18 => ck (inb (i0 6) 7) (bd (f_X9_advance i1 r1 l1) (fun q19 => some (1, i0, (va_up r0 2 (upd (r0 2) (i0 6).toNatClampNeg q18)), q19, i2, r2))))) else (if q9 = 47 then (bd (f_X9_kind i1 r1 l1) (fun q20 => ck (inb (i0 6) 7) (bd (f_X9_advance i1 r1 l1) (fun q21 => some (1, i0, (va_up r0 2 (upd (r0 2) (i0 6).toNatClampNeg q20)), q21, i2, r2))))) else (if (i0 6) ≤ 0 then (some (0, i0, r0, i1, i2, r2)) else (bd (f_X9_fail i1 r1 l1 1) (fun q22 => some (0, i0, r0, q22, i2, r2))))))))))
set_option maxRecDepth 100000 in
set_option maxHeartbeats 4000000 in
theorem w_X6_endFactor_47 {p : Program} {l : Launch} {e : Env} {s : State} {m : MethodId} {args : Array Value} {below : List Frame} {meth : Method} {c : Code} {A : Nat → Prop} {D : va_G} {cs zs : Nat → Nat} {h0 : Nat} {a0 : Nat → Nat} {a1 : Nat → Nat} {a2 : Nat → Nat} {r1 : Nat → Nat → Int32} {l1 : Nat → Nat → Int64} {l2 : Nat → Nat → Int64} {q : Int32 × (Nat → Int32) × (Nat → Nat → Int32) × (Nat → Int32) × (Nat → Int32) × (Nat → Nat → Int32)} (C : Cx p s m args meth c A D cs zs cX6_endFactor 1 (some .boolean) RX6)  : ∀ (i0 : Nat → Int32) (r0 : Nat → Nat → Int32) (i1 : Nat → Int32) (i2 : Nat → Int32) (r2 : Nat → Nat → Int32) (H : Heap) (locs : List Loc) (ls : Array Slot), f_X6_endFactor_47 r1 l1 l2 i0 r0 i1 i2 r2 = some q → va_P D vwCl (W6 cs h0 a0 i0 r0 ++ (W9 cs (a0 0) a1 i1 r1 l1 ++ W5 cs (a0 3) a2 i2 r2 l2)) H → va_D A (W6 cs h0 a0 i0 r0 ++ (W9 cs (a0 0) a1 i1 r1 l1 ++ W5 cs (a0 3) a2 i2 r2 l2)) → va_S A s.heap H locs → lv_has ls 1 [(0, .ref h0)] → W p l e rmX6_endFactor s m args below meth c H locs 0 0 (MQ below (Qi D cs A q.1 (W6 cs h0 a0 q.2.1 q.2.2.1 ++ (W9 cs (a0 0) a1 q.2.2.2.1 r1 l1 ++ W5 cs (a0 3) a2 q.2.2.2.2.1 q.2.2.2.2.2 l2))) args s 0 0 A) (F0 m 47 ls []) := by
  obtain ⟨hx, hb, hr, hml, hown, hts, hK, hA, hlocks, hZ⟩ := id C
  intro i0 r0 i1 i2 r2 H locs ls hf hP hD hS hl
  rw [f_X6_endFactor_47] at hf
  refine lv_aload_n hx hb dX6_endFactor_47 rfl (lv_at hl 0 rfl) ?_
  refine va_get (D := D) (ci := 6) (v := .ref (a0 0)) (C := RX6) (T := TX6) (N := 9) hx hb hts hiX6 hown hK hP 0 rfl rfl 0 (by decide) (hts _ flX6_18) (fun _ h9 => h9) rfl dX6_endFactor_48 ?_
  obtain ⟨q9, hq9, hf⟩ := bd_s hf
  refine k_pVi (wr := W6 cs h0 a0 i0 r0 ++ W5 cs (a0 3) a2 i2 r2 l2) (ws2 := W6 cs h0 a0 i0 r0 ++ (W9 cs (a0 0) a1 i1 r1 l1 ++ W5 cs (a0 3) a2 i2 r2 l2)) (As := []) (rest := []) hx hb hml hown hts hK hA hZ hl.1 hP hD hS (c_X9_kind (h0 := (a0 0)) (a0 := a1) hq9) (gVt mlX6_46 imX9_kind seX9_kind inX9 coX9_kind) rfl qnX9_kind rfl rfl ⟨Nat.le_of_ble_eq_true rfl, Nat.le_of_ble_eq_true rfl⟩ [3, 4, 5, 6, 7, 8] [0, 1, 2, 9, 10, 11, 12, 13, 14, 15, 16, 17, 18, 19, 20, 21, 22] [0, 1, 2, 17, 18, 19, 20, 21, 22, 3, 4, 5, 6, 7, 8, 9, 10, 11, 12, 13, 14, 15, 16] rfl rfl rfl (by decide) 0 9 rfl rfl rfl rfl rfl (Nat.le_of_ble_eq_true rfl) ⟨Nat.zero_le _, Nat.zero_le _⟩ dX6_endFactor_51 (fun H locs hP hD hS => ?_)
  by_cases hc37 : q9 = 37
  · have hf := ite_t hf hc37
    refine lv_tableIn (off := 58) (tgt := 112) hx hb dX6_endFactor_54 (by rw [hc37]; decide) (by rw [hc37]; decide) (by rw [hc37]; rfl) (by decide) ?_
    refine lv_aload_n hx hb dX6_endFactor_112 rfl (lv_at hl 0 rfl) ?_
    refine va_get (D := D) (ci := 6) (v := .ref (a0 2)) (C := RX6) (T := TX6) (N := 9) hx hb hts hiX6 hown hK hP 0 rfl rfl 2 (by decide) (hts _ flX6_15) (fun _ h9 => h9) rfl dX6_endFactor_113 ?_
    refine lv_aload_n hx hb dX6_endFactor_116 rfl (lv_at hl 0 rfl) ?_
    refine va_get (D := D) (ci := 6) (v := .int (i0 6)) (C := RX6) (T := TX6) (N := 9) hx hb hts hiX6 hown hK hP 0 rfl rfl 6 (by decide) (hts _ flX6_155) (fun _ h9 => h9) rfl dX6_endFactor_117 ?_
    refine lv_aload_n hx hb dX6_endFactor_120 rfl (lv_at hl 0 rfl) ?_
    refine va_get (D := D) (ci := 6) (v := .ref (a0 0)) (C := RX6) (T := TX6) (N := 9) hx hb hts hiX6 hown hK hP 0 rfl rfl 0 (by decide) (hts _ flX6_18) (fun _ h9 => h9) rfl dX6_endFactor_121 ?_
    obtain ⟨q10, hq10, hf⟩ := bd_s hf
    refine k_pVi (wr := W6 cs h0 a0 i0 r0 ++ W5 cs (a0 3) a2 i2 r2 l2) (ws2 := W6 cs h0 a0 i0 r0 ++ (W9 cs (a0 0) a1 i1 r1 l1 ++ W5 cs (a0 3) a2 i2 r2 l2)) (As := []) (rest := [.int (i0 6), .ref (a0 2)]) hx hb hml hown hts hK hA hZ hl.1 hP hD hS (c_X9_kind (h0 := (a0 0)) (a0 := a1) hq10) (gVt mlX6_46 imX9_kind seX9_kind inX9 coX9_kind) rfl qnX9_kind rfl rfl ⟨Nat.le_of_ble_eq_true rfl, Nat.le_of_ble_eq_true rfl⟩ [3, 4, 5, 6, 7, 8] [0, 1, 2, 9, 10, 11, 12, 13, 14, 15, 16, 17, 18, 19, 20, 21, 22] [0, 1, 2, 17, 18, 19, 20, 21, 22, 3, 4, 5, 6, 7, 8, 9, 10, 11, 12, 13, 14, 15, 16] rfl rfl rfl (by decide) 0 9 rfl rfl rfl rfl rfl (Nat.le_of_ble_eq_true rfl) ⟨Nat.zero_le _, Nat.zero_le _⟩ dX6_endFactor_124 (fun H locs hP hD hS => ?_)
    refine va_iast (f := r0 2) hx hb hK hP hD hS 2 0 rfl rfl (ck_in hf) dX6_endFactor_127 (fun H locs hP hD hS => ?_)
    have hf := ck_2 hf
    obtain ⟨hP, hD⟩ := st6_2_T hP hD
    refine lv_aload_n hx hb dX6_endFactor_128 rfl (lv_at hl 0 rfl) ?_
    refine va_get (D := D) (ci := 6) (v := .ref (a0 0)) (C := RX6) (T := TX6) (N := 9) hx hb hts hiX6 hown hK hP 0 rfl rfl 0 (by decide) (hts _ flX6_18) (fun _ h9 => h9) rfl dX6_endFactor_129 ?_
    obtain ⟨q11, hq11, hf⟩ := bd_s hf
    refine k_pVv (wr := W6 cs h0 a0 i0 (va_up r0 2 (upd (r0 2) (i0 6).toNatClampNeg q10)) ++ W5 cs (a0 3) a2 i2 r2 l2) (ws2 := W6 cs h0 a0 i0 (va_up r0 2 (upd (r0 2) (i0 6).toNatClampNeg q10)) ++ (W9 cs (a0 0) a1 q11 r1 l1 ++ W5 cs (a0 3) a2 i2 r2 l2)) (As := []) (rest := []) hx hb hml hown hts hK hA hZ hl.1 hP hD hS (c_X9_advance (h0 := (a0 0)) (a0 := a1) hq11) (gVt mlX6_109 imX9_advance seX9_advance inX9 coX9_advance) rfl qnX9_advance rfl rfl ⟨Nat.le_of_ble_eq_true rfl, Nat.le_of_ble_eq_true rfl⟩ [3, 4, 5, 6, 7, 8] [0, 1, 2, 9, 10, 11, 12, 13, 14, 15, 16, 17, 18, 19, 20, 21, 22] [0, 1, 2, 17, 18, 19, 20, 21, 22, 3, 4, 5, 6, 7, 8, 9, 10, 11, 12, 13, 14, 15, 16] rfl rfl rfl (by decide) 0 9 rfl rfl rfl rfl rfl (Nat.le_of_ble_eq_true rfl) ⟨Nat.zero_le _, Nat.zero_le _⟩ dX6_endFactor_132 (fun H locs hP hD hS => ?_)
    refine lv_iconst (v := 1) hx hb dX6_endFactor_135 (by decide) ?_
    obtain rfl := Option.some.inj hf
    exact k_zret (r := 1) hx hb hr hlocks rfl hK hP hD hS dX6_endFactor_136
  · have hf := ite_f hf hc37
    by_cases hc38 : q9 = 38
    · have hf := ite_t hf hc38
      refine lv_tableIn (off := 58) (tgt := 112) hx hb dX6_endFactor_54 (by rw [hc38]; decide) (by rw [hc38]; decide) (by rw [hc38]; rfl) (by decide) ?_
      refine lv_aload_n hx hb dX6_endFactor_112 rfl (lv_at hl 0 rfl) ?_
      refine va_get (D := D) (ci := 6) (v := .ref (a0 2)) (C := RX6) (T := TX6) (N := 9) hx hb hts hiX6 hown hK hP 0 rfl rfl 2 (by decide) (hts _ flX6_15) (fun _ h9 => h9) rfl dX6_endFactor_113 ?_
      refine lv_aload_n hx hb dX6_endFactor_116 rfl (lv_at hl 0 rfl) ?_
      refine va_get (D := D) (ci := 6) (v := .int (i0 6)) (C := RX6) (T := TX6) (N := 9) hx hb hts hiX6 hown hK hP 0 rfl rfl 6 (by decide) (hts _ flX6_155) (fun _ h9 => h9) rfl dX6_endFactor_117 ?_
      refine lv_aload_n hx hb dX6_endFactor_120 rfl (lv_at hl 0 rfl) ?_
      refine va_get (D := D) (ci := 6) (v := .ref (a0 0)) (C := RX6) (T := TX6) (N := 9) hx hb hts hiX6 hown hK hP 0 rfl rfl 0 (by decide) (hts _ flX6_18) (fun _ h9 => h9) rfl dX6_endFactor_121 ?_
      obtain ⟨q12, hq12, hf⟩ := bd_s hf
      refine k_pVi (wr := W6 cs h0 a0 i0 r0 ++ W5 cs (a0 3) a2 i2 r2 l2) (ws2 := W6 cs h0 a0 i0 r0 ++ (W9 cs (a0 0) a1 i1 r1 l1 ++ W5 cs (a0 3) a2 i2 r2 l2)) (As := []) (rest := [.int (i0 6), .ref (a0 2)]) hx hb hml hown hts hK hA hZ hl.1 hP hD hS (c_X9_kind (h0 := (a0 0)) (a0 := a1) hq12) (gVt mlX6_46 imX9_kind seX9_kind inX9 coX9_kind) rfl qnX9_kind rfl rfl ⟨Nat.le_of_ble_eq_true rfl, Nat.le_of_ble_eq_true rfl⟩ [3, 4, 5, 6, 7, 8] [0, 1, 2, 9, 10, 11, 12, 13, 14, 15, 16, 17, 18, 19, 20, 21, 22] [0, 1, 2, 17, 18, 19, 20, 21, 22, 3, 4, 5, 6, 7, 8, 9, 10, 11, 12, 13, 14, 15, 16] rfl rfl rfl (by decide) 0 9 rfl rfl rfl rfl rfl (Nat.le_of_ble_eq_true rfl) ⟨Nat.zero_le _, Nat.zero_le _⟩ dX6_endFactor_124 (fun H locs hP hD hS => ?_)
      refine va_iast (f := r0 2) hx hb hK hP hD hS 2 0 rfl rfl (ck_in hf) dX6_endFactor_127 (fun H locs hP hD hS => ?_)
      have hf := ck_2 hf
      obtain ⟨hP, hD⟩ := st6_2_T hP hD
      refine lv_aload_n hx hb dX6_endFactor_128 rfl (lv_at hl 0 rfl) ?_
      refine va_get (D := D) (ci := 6) (v := .ref (a0 0)) (C := RX6) (T := TX6) (N := 9) hx hb hts hiX6 hown hK hP 0 rfl rfl 0 (by decide) (hts _ flX6_18) (fun _ h9 => h9) rfl dX6_endFactor_129 ?_
      obtain ⟨q13, hq13, hf⟩ := bd_s hf
      refine k_pVv (wr := W6 cs h0 a0 i0 (va_up r0 2 (upd (r0 2) (i0 6).toNatClampNeg q12)) ++ W5 cs (a0 3) a2 i2 r2 l2) (ws2 := W6 cs h0 a0 i0 (va_up r0 2 (upd (r0 2) (i0 6).toNatClampNeg q12)) ++ (W9 cs (a0 0) a1 q13 r1 l1 ++ W5 cs (a0 3) a2 i2 r2 l2)) (As := []) (rest := []) hx hb hml hown hts hK hA hZ hl.1 hP hD hS (c_X9_advance (h0 := (a0 0)) (a0 := a1) hq13) (gVt mlX6_109 imX9_advance seX9_advance inX9 coX9_advance) rfl qnX9_advance rfl rfl ⟨Nat.le_of_ble_eq_true rfl, Nat.le_of_ble_eq_true rfl⟩ [3, 4, 5, 6, 7, 8] [0, 1, 2, 9, 10, 11, 12, 13, 14, 15, 16, 17, 18, 19, 20, 21, 22] [0, 1, 2, 17, 18, 19, 20, 21, 22, 3, 4, 5, 6, 7, 8, 9, 10, 11, 12, 13, 14, 15, 16] rfl rfl rfl (by decide) 0 9 rfl rfl rfl rfl rfl (Nat.le_of_ble_eq_true rfl) ⟨Nat.zero_le _, Nat.zero_le _⟩ dX6_endFactor_132 (fun H locs hP hD hS => ?_)
      refine lv_iconst (v := 1) hx hb dX6_endFactor_135 (by decide) ?_
      obtain rfl := Option.some.inj hf
      exact k_zret (r := 1) hx hb hr hlocks rfl hK hP hD hS dX6_endFactor_136
    · have hf := ite_f hf hc38
      by_cases hc42 : q9 = 42
      · have hf := ite_t hf hc42
        refine lv_tableIn (off := 58) (tgt := 112) hx hb dX6_endFactor_54 (by rw [hc42]; decide) (by rw [hc42]; decide) (by rw [hc42]; rfl) (by decide) ?_
        refine lv_aload_n hx hb dX6_endFactor_112 rfl (lv_at hl 0 rfl) ?_
        refine va_get (D := D) (ci := 6) (v := .ref (a0 2)) (C := RX6) (T := TX6) (N := 9) hx hb hts hiX6 hown hK hP 0 rfl rfl 2 (by decide) (hts _ flX6_15) (fun _ h9 => h9) rfl dX6_endFactor_113 ?_
        refine lv_aload_n hx hb dX6_endFactor_116 rfl (lv_at hl 0 rfl) ?_
        refine va_get (D := D) (ci := 6) (v := .int (i0 6)) (C := RX6) (T := TX6) (N := 9) hx hb hts hiX6 hown hK hP 0 rfl rfl 6 (by decide) (hts _ flX6_155) (fun _ h9 => h9) rfl dX6_endFactor_117 ?_
        refine lv_aload_n hx hb dX6_endFactor_120 rfl (lv_at hl 0 rfl) ?_
        refine va_get (D := D) (ci := 6) (v := .ref (a0 0)) (C := RX6) (T := TX6) (N := 9) hx hb hts hiX6 hown hK hP 0 rfl rfl 0 (by decide) (hts _ flX6_18) (fun _ h9 => h9) rfl dX6_endFactor_121 ?_
        obtain ⟨q14, hq14, hf⟩ := bd_s hf
        refine k_pVi (wr := W6 cs h0 a0 i0 r0 ++ W5 cs (a0 3) a2 i2 r2 l2) (ws2 := W6 cs h0 a0 i0 r0 ++ (W9 cs (a0 0) a1 i1 r1 l1 ++ W5 cs (a0 3) a2 i2 r2 l2)) (As := []) (rest := [.int (i0 6), .ref (a0 2)]) hx hb hml hown hts hK hA hZ hl.1 hP hD hS (c_X9_kind (h0 := (a0 0)) (a0 := a1) hq14) (gVt mlX6_46 imX9_kind seX9_kind inX9 coX9_kind) rfl qnX9_kind rfl rfl ⟨Nat.le_of_ble_eq_true rfl, Nat.le_of_ble_eq_true rfl⟩ [3, 4, 5, 6, 7, 8] [0, 1, 2, 9, 10, 11, 12, 13, 14, 15, 16, 17, 18, 19, 20, 21, 22] [0, 1, 2, 17, 18, 19, 20, 21, 22, 3, 4, 5, 6, 7, 8, 9, 10, 11, 12, 13, 14, 15, 16] rfl rfl rfl (by decide) 0 9 rfl rfl rfl rfl rfl (Nat.le_of_ble_eq_true rfl) ⟨Nat.zero_le _, Nat.zero_le _⟩ dX6_endFactor_124 (fun H locs hP hD hS => ?_)
        refine va_iast (f := r0 2) hx hb hK hP hD hS 2 0 rfl rfl (ck_in hf) dX6_endFactor_127 (fun H locs hP hD hS => ?_)
        have hf := ck_2 hf
        obtain ⟨hP, hD⟩ := st6_2_T hP hD
        refine lv_aload_n hx hb dX6_endFactor_128 rfl (lv_at hl 0 rfl) ?_
        refine va_get (D := D) (ci := 6) (v := .ref (a0 0)) (C := RX6) (T := TX6) (N := 9) hx hb hts hiX6 hown hK hP 0 rfl rfl 0 (by decide) (hts _ flX6_18) (fun _ h9 => h9) rfl dX6_endFactor_129 ?_
        obtain ⟨q15, hq15, hf⟩ := bd_s hf
        refine k_pVv (wr := W6 cs h0 a0 i0 (va_up r0 2 (upd (r0 2) (i0 6).toNatClampNeg q14)) ++ W5 cs (a0 3) a2 i2 r2 l2) (ws2 := W6 cs h0 a0 i0 (va_up r0 2 (upd (r0 2) (i0 6).toNatClampNeg q14)) ++ (W9 cs (a0 0) a1 q15 r1 l1 ++ W5 cs (a0 3) a2 i2 r2 l2)) (As := []) (rest := []) hx hb hml hown hts hK hA hZ hl.1 hP hD hS (c_X9_advance (h0 := (a0 0)) (a0 := a1) hq15) (gVt mlX6_109 imX9_advance seX9_advance inX9 coX9_advance) rfl qnX9_advance rfl rfl ⟨Nat.le_of_ble_eq_true rfl, Nat.le_of_ble_eq_true rfl⟩ [3, 4, 5, 6, 7, 8] [0, 1, 2, 9, 10, 11, 12, 13, 14, 15, 16, 17, 18, 19, 20, 21, 22] [0, 1, 2, 17, 18, 19, 20, 21, 22, 3, 4, 5, 6, 7, 8, 9, 10, 11, 12, 13, 14, 15, 16] rfl rfl rfl (by decide) 0 9 rfl rfl rfl rfl rfl (Nat.le_of_ble_eq_true rfl) ⟨Nat.zero_le _, Nat.zero_le _⟩ dX6_endFactor_132 (fun H locs hP hD hS => ?_)
        refine lv_iconst (v := 1) hx hb dX6_endFactor_135 (by decide) ?_
        obtain rfl := Option.some.inj hf
        exact k_zret (r := 1) hx hb hr hlocks rfl hK hP hD hS dX6_endFactor_136
      · have hf := ite_f hf hc42
        by_cases hc43 : q9 = 43
        · have hf := ite_t hf hc43
          refine lv_tableIn (off := 58) (tgt := 112) hx hb dX6_endFactor_54 (by rw [hc43]; decide) (by rw [hc43]; decide) (by rw [hc43]; rfl) (by decide) ?_
          refine lv_aload_n hx hb dX6_endFactor_112 rfl (lv_at hl 0 rfl) ?_
          refine va_get (D := D) (ci := 6) (v := .ref (a0 2)) (C := RX6) (T := TX6) (N := 9) hx hb hts hiX6 hown hK hP 0 rfl rfl 2 (by decide) (hts _ flX6_15) (fun _ h9 => h9) rfl dX6_endFactor_113 ?_
          refine lv_aload_n hx hb dX6_endFactor_116 rfl (lv_at hl 0 rfl) ?_
          refine va_get (D := D) (ci := 6) (v := .int (i0 6)) (C := RX6) (T := TX6) (N := 9) hx hb hts hiX6 hown hK hP 0 rfl rfl 6 (by decide) (hts _ flX6_155) (fun _ h9 => h9) rfl dX6_endFactor_117 ?_
          refine lv_aload_n hx hb dX6_endFactor_120 rfl (lv_at hl 0 rfl) ?_
          refine va_get (D := D) (ci := 6) (v := .ref (a0 0)) (C := RX6) (T := TX6) (N := 9) hx hb hts hiX6 hown hK hP 0 rfl rfl 0 (by decide) (hts _ flX6_18) (fun _ h9 => h9) rfl dX6_endFactor_121 ?_
          obtain ⟨q16, hq16, hf⟩ := bd_s hf
          refine k_pVi (wr := W6 cs h0 a0 i0 r0 ++ W5 cs (a0 3) a2 i2 r2 l2) (ws2 := W6 cs h0 a0 i0 r0 ++ (W9 cs (a0 0) a1 i1 r1 l1 ++ W5 cs (a0 3) a2 i2 r2 l2)) (As := []) (rest := [.int (i0 6), .ref (a0 2)]) hx hb hml hown hts hK hA hZ hl.1 hP hD hS (c_X9_kind (h0 := (a0 0)) (a0 := a1) hq16) (gVt mlX6_46 imX9_kind seX9_kind inX9 coX9_kind) rfl qnX9_kind rfl rfl ⟨Nat.le_of_ble_eq_true rfl, Nat.le_of_ble_eq_true rfl⟩ [3, 4, 5, 6, 7, 8] [0, 1, 2, 9, 10, 11, 12, 13, 14, 15, 16, 17, 18, 19, 20, 21, 22] [0, 1, 2, 17, 18, 19, 20, 21, 22, 3, 4, 5, 6, 7, 8, 9, 10, 11, 12, 13, 14, 15, 16] rfl rfl rfl (by decide) 0 9 rfl rfl rfl rfl rfl (Nat.le_of_ble_eq_true rfl) ⟨Nat.zero_le _, Nat.zero_le _⟩ dX6_endFactor_124 (fun H locs hP hD hS => ?_)
          refine va_iast (f := r0 2) hx hb hK hP hD hS 2 0 rfl rfl (ck_in hf) dX6_endFactor_127 (fun H locs hP hD hS => ?_)
          have hf := ck_2 hf
          obtain ⟨hP, hD⟩ := st6_2_T hP hD
          refine lv_aload_n hx hb dX6_endFactor_128 rfl (lv_at hl 0 rfl) ?_
          refine va_get (D := D) (ci := 6) (v := .ref (a0 0)) (C := RX6) (T := TX6) (N := 9) hx hb hts hiX6 hown hK hP 0 rfl rfl 0 (by decide) (hts _ flX6_18) (fun _ h9 => h9) rfl dX6_endFactor_129 ?_
          obtain ⟨q17, hq17, hf⟩ := bd_s hf
          refine k_pVv (wr := W6 cs h0 a0 i0 (va_up r0 2 (upd (r0 2) (i0 6).toNatClampNeg q16)) ++ W5 cs (a0 3) a2 i2 r2 l2) (ws2 := W6 cs h0 a0 i0 (va_up r0 2 (upd (r0 2) (i0 6).toNatClampNeg q16)) ++ (W9 cs (a0 0) a1 q17 r1 l1 ++ W5 cs (a0 3) a2 i2 r2 l2)) (As := []) (rest := []) hx hb hml hown hts hK hA hZ hl.1 hP hD hS (c_X9_advance (h0 := (a0 0)) (a0 := a1) hq17) (gVt mlX6_109 imX9_advance seX9_advance inX9 coX9_advance) rfl qnX9_advance rfl rfl ⟨Nat.le_of_ble_eq_true rfl, Nat.le_of_ble_eq_true rfl⟩ [3, 4, 5, 6, 7, 8] [0, 1, 2, 9, 10, 11, 12, 13, 14, 15, 16, 17, 18, 19, 20, 21, 22] [0, 1, 2, 17, 18, 19, 20, 21, 22, 3, 4, 5, 6, 7, 8, 9, 10, 11, 12, 13, 14, 15, 16] rfl rfl rfl (by decide) 0 9 rfl rfl rfl rfl rfl (Nat.le_of_ble_eq_true rfl) ⟨Nat.zero_le _, Nat.zero_le _⟩ dX6_endFactor_132 (fun H locs hP hD hS => ?_)
          refine lv_iconst (v := 1) hx hb dX6_endFactor_135 (by decide) ?_
          obtain rfl := Option.some.inj hf
          exact k_zret (r := 1) hx hb hr hlocks rfl hK hP hD hS dX6_endFactor_136
        · have hf := ite_f hf hc43
          by_cases hc45 : q9 = 45
          · have hf := ite_t hf hc45
            refine lv_tableIn (off := 58) (tgt := 112) hx hb dX6_endFactor_54 (by rw [hc45]; decide) (by rw [hc45]; decide) (by rw [hc45]; rfl) (by decide) ?_
            refine lv_aload_n hx hb dX6_endFactor_112 rfl (lv_at hl 0 rfl) ?_
            refine va_get (D := D) (ci := 6) (v := .ref (a0 2)) (C := RX6) (T := TX6) (N := 9) hx hb hts hiX6 hown hK hP 0 rfl rfl 2 (by decide) (hts _ flX6_15) (fun _ h9 => h9) rfl dX6_endFactor_113 ?_
            refine lv_aload_n hx hb dX6_endFactor_116 rfl (lv_at hl 0 rfl) ?_
            refine va_get (D := D) (ci := 6) (v := .int (i0 6)) (C := RX6) (T := TX6) (N := 9) hx hb hts hiX6 hown hK hP 0 rfl rfl 6 (by decide) (hts _ flX6_155) (fun _ h9 => h9) rfl dX6_endFactor_117 ?_
            refine lv_aload_n hx hb dX6_endFactor_120 rfl (lv_at hl 0 rfl) ?_
            refine va_get (D := D) (ci := 6) (v := .ref (a0 0)) (C := RX6) (T := TX6) (N := 9) hx hb hts hiX6 hown hK hP 0 rfl rfl 0 (by decide) (hts _ flX6_18) (fun _ h9 => h9) rfl dX6_endFactor_121 ?_
            obtain ⟨q18, hq18, hf⟩ := bd_s hf
            refine k_pVi (wr := W6 cs h0 a0 i0 r0 ++ W5 cs (a0 3) a2 i2 r2 l2) (ws2 := W6 cs h0 a0 i0 r0 ++ (W9 cs (a0 0) a1 i1 r1 l1 ++ W5 cs (a0 3) a2 i2 r2 l2)) (As := []) (rest := [.int (i0 6), .ref (a0 2)]) hx hb hml hown hts hK hA hZ hl.1 hP hD hS (c_X9_kind (h0 := (a0 0)) (a0 := a1) hq18) (gVt mlX6_46 imX9_kind seX9_kind inX9 coX9_kind) rfl qnX9_kind rfl rfl ⟨Nat.le_of_ble_eq_true rfl, Nat.le_of_ble_eq_true rfl⟩ [3, 4, 5, 6, 7, 8] [0, 1, 2, 9, 10, 11, 12, 13, 14, 15, 16, 17, 18, 19, 20, 21, 22] [0, 1, 2, 17, 18, 19, 20, 21, 22, 3, 4, 5, 6, 7, 8, 9, 10, 11, 12, 13, 14, 15, 16] rfl rfl rfl (by decide) 0 9 rfl rfl rfl rfl rfl (Nat.le_of_ble_eq_true rfl) ⟨Nat.zero_le _, Nat.zero_le _⟩ dX6_endFactor_124 (fun H locs hP hD hS => ?_)
            refine va_iast (f := r0 2) hx hb hK hP hD hS 2 0 rfl rfl (ck_in hf) dX6_endFactor_127 (fun H locs hP hD hS => ?_)
            have hf := ck_2 hf
            obtain ⟨hP, hD⟩ := st6_2_T hP hD
            refine lv_aload_n hx hb dX6_endFactor_128 rfl (lv_at hl 0 rfl) ?_
            refine va_get (D := D) (ci := 6) (v := .ref (a0 0)) (C := RX6) (T := TX6) (N := 9) hx hb hts hiX6 hown hK hP 0 rfl rfl 0 (by decide) (hts _ flX6_18) (fun _ h9 => h9) rfl dX6_endFactor_129 ?_
            obtain ⟨q19, hq19, hf⟩ := bd_s hf
            refine k_pVv (wr := W6 cs h0 a0 i0 (va_up r0 2 (upd (r0 2) (i0 6).toNatClampNeg q18)) ++ W5 cs (a0 3) a2 i2 r2 l2) (ws2 := W6 cs h0 a0 i0 (va_up r0 2 (upd (r0 2) (i0 6).toNatClampNeg q18)) ++ (W9 cs (a0 0) a1 q19 r1 l1 ++ W5 cs (a0 3) a2 i2 r2 l2)) (As := []) (rest := []) hx hb hml hown hts hK hA hZ hl.1 hP hD hS (c_X9_advance (h0 := (a0 0)) (a0 := a1) hq19) (gVt mlX6_109 imX9_advance seX9_advance inX9 coX9_advance) rfl qnX9_advance rfl rfl ⟨Nat.le_of_ble_eq_true rfl, Nat.le_of_ble_eq_true rfl⟩ [3, 4, 5, 6, 7, 8] [0, 1, 2, 9, 10, 11, 12, 13, 14, 15, 16, 17, 18, 19, 20, 21, 22] [0, 1, 2, 17, 18, 19, 20, 21, 22, 3, 4, 5, 6, 7, 8, 9, 10, 11, 12, 13, 14, 15, 16] rfl rfl rfl (by decide) 0 9 rfl rfl rfl rfl rfl (Nat.le_of_ble_eq_true rfl) ⟨Nat.zero_le _, Nat.zero_le _⟩ dX6_endFactor_132 (fun H locs hP hD hS => ?_)
            refine lv_iconst (v := 1) hx hb dX6_endFactor_135 (by decide) ?_
            obtain rfl := Option.some.inj hf
            exact k_zret (r := 1) hx hb hr hlocks rfl hK hP hD hS dX6_endFactor_136
          · have hf := ite_f hf hc45
            by_cases hc47 : q9 = 47
            · have hf := ite_t hf hc47
              refine lv_tableIn (off := 58) (tgt := 112) hx hb dX6_endFactor_54 (by rw [hc47]; decide) (by rw [hc47]; decide) (by rw [hc47]; rfl) (by decide) ?_
              refine lv_aload_n hx hb dX6_endFactor_112 rfl (lv_at hl 0 rfl) ?_
              refine va_get (D := D) (ci := 6) (v := .ref (a0 2)) (C := RX6) (T := TX6) (N := 9) hx hb hts hiX6 hown hK hP 0 rfl rfl 2 (by decide) (hts _ flX6_15) (fun _ h9 => h9) rfl dX6_endFactor_113 ?_
              refine lv_aload_n hx hb dX6_endFactor_116 rfl (lv_at hl 0 rfl) ?_
              refine va_get (D := D) (ci := 6) (v := .int (i0 6)) (C := RX6) (T := TX6) (N := 9) hx hb hts hiX6 hown hK hP 0 rfl rfl 6 (by decide) (hts _ flX6_155) (fun _ h9 => h9) rfl dX6_endFactor_117 ?_
              refine lv_aload_n hx hb dX6_endFactor_120 rfl (lv_at hl 0 rfl) ?_
              refine va_get (D := D) (ci := 6) (v := .ref (a0 0)) (C := RX6) (T := TX6) (N := 9) hx hb hts hiX6 hown hK hP 0 rfl rfl 0 (by decide) (hts _ flX6_18) (fun _ h9 => h9) rfl dX6_endFactor_121 ?_
              obtain ⟨q20, hq20, hf⟩ := bd_s hf
              refine k_pVi (wr := W6 cs h0 a0 i0 r0 ++ W5 cs (a0 3) a2 i2 r2 l2) (ws2 := W6 cs h0 a0 i0 r0 ++ (W9 cs (a0 0) a1 i1 r1 l1 ++ W5 cs (a0 3) a2 i2 r2 l2)) (As := []) (rest := [.int (i0 6), .ref (a0 2)]) hx hb hml hown hts hK hA hZ hl.1 hP hD hS (c_X9_kind (h0 := (a0 0)) (a0 := a1) hq20) (gVt mlX6_46 imX9_kind seX9_kind inX9 coX9_kind) rfl qnX9_kind rfl rfl ⟨Nat.le_of_ble_eq_true rfl, Nat.le_of_ble_eq_true rfl⟩ [3, 4, 5, 6, 7, 8] [0, 1, 2, 9, 10, 11, 12, 13, 14, 15, 16, 17, 18, 19, 20, 21, 22] [0, 1, 2, 17, 18, 19, 20, 21, 22, 3, 4, 5, 6, 7, 8, 9, 10, 11, 12, 13, 14, 15, 16] rfl rfl rfl (by decide) 0 9 rfl rfl rfl rfl rfl (Nat.le_of_ble_eq_true rfl) ⟨Nat.zero_le _, Nat.zero_le _⟩ dX6_endFactor_124 (fun H locs hP hD hS => ?_)
              refine va_iast (f := r0 2) hx hb hK hP hD hS 2 0 rfl rfl (ck_in hf) dX6_endFactor_127 (fun H locs hP hD hS => ?_)
              have hf := ck_2 hf
              obtain ⟨hP, hD⟩ := st6_2_T hP hD
              refine lv_aload_n hx hb dX6_endFactor_128 rfl (lv_at hl 0 rfl) ?_
              refine va_get (D := D) (ci := 6) (v := .ref (a0 0)) (C := RX6) (T := TX6) (N := 9) hx hb hts hiX6 hown hK hP 0 rfl rfl 0 (by decide) (hts _ flX6_18) (fun _ h9 => h9) rfl dX6_endFactor_129 ?_
              obtain ⟨q21, hq21, hf⟩ := bd_s hf
              refine k_pVv (wr := W6 cs h0 a0 i0 (va_up r0 2 (upd (r0 2) (i0 6).toNatClampNeg q20)) ++ W5 cs (a0 3) a2 i2 r2 l2) (ws2 := W6 cs h0 a0 i0 (va_up r0 2 (upd (r0 2) (i0 6).toNatClampNeg q20)) ++ (W9 cs (a0 0) a1 q21 r1 l1 ++ W5 cs (a0 3) a2 i2 r2 l2)) (As := []) (rest := []) hx hb hml hown hts hK hA hZ hl.1 hP hD hS (c_X9_advance (h0 := (a0 0)) (a0 := a1) hq21) (gVt mlX6_109 imX9_advance seX9_advance inX9 coX9_advance) rfl qnX9_advance rfl rfl ⟨Nat.le_of_ble_eq_true rfl, Nat.le_of_ble_eq_true rfl⟩ [3, 4, 5, 6, 7, 8] [0, 1, 2, 9, 10, 11, 12, 13, 14, 15, 16, 17, 18, 19, 20, 21, 22] [0, 1, 2, 17, 18, 19, 20, 21, 22, 3, 4, 5, 6, 7, 8, 9, 10, 11, 12, 13, 14, 15, 16] rfl rfl rfl (by decide) 0 9 rfl rfl rfl rfl rfl (Nat.le_of_ble_eq_true rfl) ⟨Nat.zero_le _, Nat.zero_le _⟩ dX6_endFactor_132 (fun H locs hP hD hS => ?_)
              refine lv_iconst (v := 1) hx hb dX6_endFactor_135 (by decide) ?_
              obtain rfl := Option.some.inj hf
              exact k_zret (r := 1) hx hb hr hlocks rfl hK hP hD hS dX6_endFactor_136
            · have hf := ite_f hf hc47
              by_cases hc39 : q9 = 39
              · refine lv_tableIn (off := 83) (tgt := 137) hx hb dX6_endFactor_54 (by rw [hc39]; decide) (by rw [hc39]; decide) (by rw [hc39]; rfl) (by decide) ?_
                refine lv_aload_n hx hb dX6_endFactor_137 rfl (lv_at hl 0 rfl) ?_
                refine va_get (D := D) (ci := 6) (v := .int (i0 6)) (C := RX6) (T := TX6) (N := 9) hx hb hts hiX6 hown hK hP 0 rfl rfl 6 (by decide) (hts _ flX6_155) (fun _ h9 => h9) rfl dX6_endFactor_138 ?_
                refine lv_if_le (tgt := 152) hx hb dX6_endFactor_141 (by decide) (fun hc => ?_) (fun hc => ?_)
                · have hf := ite_t hf hc
                  refine lv_iconst (v := 0) hx hb dX6_endFactor_152 (by decide) ?_
                  obtain rfl := Option.some.inj hf
                  exact k_zret (r := 0) hx hb hr hlocks rfl hK hP hD hS dX6_endFactor_153
                · have hf := ite_f hf hc
                  refine lv_aload_n hx hb dX6_endFactor_144 rfl (lv_at hl 0 rfl) ?_
                  refine va_get (D := D) (ci := 6) (v := .ref (a0 0)) (C := RX6) (T := TX6) (N := 9) hx hb hts hiX6 hown hK hP 0 rfl rfl 0 (by decide) (hts _ flX6_18) (fun _ h9 => h9) rfl dX6_endFactor_145 ?_
                  refine lv_iconst (v := 1) hx hb dX6_endFactor_148 (by decide) ?_
                  obtain ⟨q22, hq22, hf⟩ := bd_s hf
                  refine k_pVv (wr := W6 cs h0 a0 i0 r0 ++ W5 cs (a0 3) a2 i2 r2 l2) (ws2 := W6 cs h0 a0 i0 r0 ++ (W9 cs (a0 0) a1 q22 r1 l1 ++ W5 cs (a0 3) a2 i2 r2 l2)) (As := [.int 1]) (rest := []) hx hb hml hown hts hK hA hZ hl.1 hP hD hS (c_X9_fail (h0 := (a0 0)) (a0 := a1) hq22) (gVt mlX6_69 imX9_fail seX9_fail inX9 coX9_fail) rfl qnX9_fail rfl rfl ⟨Nat.le_of_ble_eq_true rfl, Nat.le_of_ble_eq_true rfl⟩ [3, 4, 5, 6, 7, 8] [0, 1, 2, 9, 10, 11, 12, 13, 14, 15, 16, 17, 18, 19, 20, 21, 22] [0, 1, 2, 17, 18, 19, 20, 21, 22, 3, 4, 5, 6, 7, 8, 9, 10, 11, 12, 13, 14, 15, 16] rfl rfl rfl (by decide) 0 9 rfl rfl rfl rfl rfl (Nat.le_of_ble_eq_true rfl) ⟨Nat.zero_le _, Nat.zero_le _⟩ dX6_endFactor_149 (fun H locs hP hD hS => ?_)
                  refine lv_iconst (v := 0) hx hb dX6_endFactor_152 (by decide) ?_
                  obtain rfl := Option.some.inj hf
                  exact k_zret (r := 0) hx hb hr hlocks rfl hK hP hD hS dX6_endFactor_153
              · by_cases hc40 : q9 = 40
                · refine lv_tableIn (off := 83) (tgt := 137) hx hb dX6_endFactor_54 (by rw [hc40]; decide) (by rw [hc40]; decide) (by rw [hc40]; rfl) (by decide) ?_
                  refine lv_aload_n hx hb dX6_endFactor_137 rfl (lv_at hl 0 rfl) ?_
                  refine va_get (D := D) (ci := 6) (v := .int (i0 6)) (C := RX6) (T := TX6) (N := 9) hx hb hts hiX6 hown hK hP 0 rfl rfl 6 (by decide) (hts _ flX6_155) (fun _ h9 => h9) rfl dX6_endFactor_138 ?_
                  refine lv_if_le (tgt := 152) hx hb dX6_endFactor_141 (by decide) (fun hc => ?_) (fun hc => ?_)
                  · have hf := ite_t hf hc
                    refine lv_iconst (v := 0) hx hb dX6_endFactor_152 (by decide) ?_
                    obtain rfl := Option.some.inj hf
                    exact k_zret (r := 0) hx hb hr hlocks rfl hK hP hD hS dX6_endFactor_153
                  · have hf := ite_f hf hc
                    refine lv_aload_n hx hb dX6_endFactor_144 rfl (lv_at hl 0 rfl) ?_
                    refine va_get (D := D) (ci := 6) (v := .ref (a0 0)) (C := RX6) (T := TX6) (N := 9) hx hb hts hiX6 hown hK hP 0 rfl rfl 0 (by decide) (hts _ flX6_18) (fun _ h9 => h9) rfl dX6_endFactor_145 ?_
                    refine lv_iconst (v := 1) hx hb dX6_endFactor_148 (by decide) ?_
                    obtain ⟨q22, hq22, hf⟩ := bd_s hf
                    refine k_pVv (wr := W6 cs h0 a0 i0 r0 ++ W5 cs (a0 3) a2 i2 r2 l2) (ws2 := W6 cs h0 a0 i0 r0 ++ (W9 cs (a0 0) a1 q22 r1 l1 ++ W5 cs (a0 3) a2 i2 r2 l2)) (As := [.int 1]) (rest := []) hx hb hml hown hts hK hA hZ hl.1 hP hD hS (c_X9_fail (h0 := (a0 0)) (a0 := a1) hq22) (gVt mlX6_69 imX9_fail seX9_fail inX9 coX9_fail) rfl qnX9_fail rfl rfl ⟨Nat.le_of_ble_eq_true rfl, Nat.le_of_ble_eq_true rfl⟩ [3, 4, 5, 6, 7, 8] [0, 1, 2, 9, 10, 11, 12, 13, 14, 15, 16, 17, 18, 19, 20, 21, 22] [0, 1, 2, 17, 18, 19, 20, 21, 22, 3, 4, 5, 6, 7, 8, 9, 10, 11, 12, 13, 14, 15, 16] rfl rfl rfl (by decide) 0 9 rfl rfl rfl rfl rfl (Nat.le_of_ble_eq_true rfl) ⟨Nat.zero_le _, Nat.zero_le _⟩ dX6_endFactor_149 (fun H locs hP hD hS => ?_)
                    refine lv_iconst (v := 0) hx hb dX6_endFactor_152 (by decide) ?_
                    obtain rfl := Option.some.inj hf
                    exact k_zret (r := 0) hx hb hr hlocks rfl hK hP hD hS dX6_endFactor_153
                · by_cases hc41 : q9 = 41
                  · refine lv_tableIn (off := 83) (tgt := 137) hx hb dX6_endFactor_54 (by rw [hc41]; decide) (by rw [hc41]; decide) (by rw [hc41]; rfl) (by decide) ?_
                    refine lv_aload_n hx hb dX6_endFactor_137 rfl (lv_at hl 0 rfl) ?_
                    refine va_get (D := D) (ci := 6) (v := .int (i0 6)) (C := RX6) (T := TX6) (N := 9) hx hb hts hiX6 hown hK hP 0 rfl rfl 6 (by decide) (hts _ flX6_155) (fun _ h9 => h9) rfl dX6_endFactor_138 ?_
                    refine lv_if_le (tgt := 152) hx hb dX6_endFactor_141 (by decide) (fun hc => ?_) (fun hc => ?_)
                    · have hf := ite_t hf hc
                      refine lv_iconst (v := 0) hx hb dX6_endFactor_152 (by decide) ?_
                      obtain rfl := Option.some.inj hf
                      exact k_zret (r := 0) hx hb hr hlocks rfl hK hP hD hS dX6_endFactor_153
                    · have hf := ite_f hf hc
                      refine lv_aload_n hx hb dX6_endFactor_144 rfl (lv_at hl 0 rfl) ?_
                      refine va_get (D := D) (ci := 6) (v := .ref (a0 0)) (C := RX6) (T := TX6) (N := 9) hx hb hts hiX6 hown hK hP 0 rfl rfl 0 (by decide) (hts _ flX6_18) (fun _ h9 => h9) rfl dX6_endFactor_145 ?_
                      refine lv_iconst (v := 1) hx hb dX6_endFactor_148 (by decide) ?_
                      obtain ⟨q22, hq22, hf⟩ := bd_s hf
                      refine k_pVv (wr := W6 cs h0 a0 i0 r0 ++ W5 cs (a0 3) a2 i2 r2 l2) (ws2 := W6 cs h0 a0 i0 r0 ++ (W9 cs (a0 0) a1 q22 r1 l1 ++ W5 cs (a0 3) a2 i2 r2 l2)) (As := [.int 1]) (rest := []) hx hb hml hown hts hK hA hZ hl.1 hP hD hS (c_X9_fail (h0 := (a0 0)) (a0 := a1) hq22) (gVt mlX6_69 imX9_fail seX9_fail inX9 coX9_fail) rfl qnX9_fail rfl rfl ⟨Nat.le_of_ble_eq_true rfl, Nat.le_of_ble_eq_true rfl⟩ [3, 4, 5, 6, 7, 8] [0, 1, 2, 9, 10, 11, 12, 13, 14, 15, 16, 17, 18, 19, 20, 21, 22] [0, 1, 2, 17, 18, 19, 20, 21, 22, 3, 4, 5, 6, 7, 8, 9, 10, 11, 12, 13, 14, 15, 16] rfl rfl rfl (by decide) 0 9 rfl rfl rfl rfl rfl (Nat.le_of_ble_eq_true rfl) ⟨Nat.zero_le _, Nat.zero_le _⟩ dX6_endFactor_149 (fun H locs hP hD hS => ?_)
                      refine lv_iconst (v := 0) hx hb dX6_endFactor_152 (by decide) ?_
                      obtain rfl := Option.some.inj hf
                      exact k_zret (r := 0) hx hb hr hlocks rfl hK hP hD hS dX6_endFactor_153
                  · by_cases hc44 : q9 = 44
                    · refine lv_tableIn (off := 83) (tgt := 137) hx hb dX6_endFactor_54 (by rw [hc44]; decide) (by rw [hc44]; decide) (by rw [hc44]; rfl) (by decide) ?_
                      refine lv_aload_n hx hb dX6_endFactor_137 rfl (lv_at hl 0 rfl) ?_
                      refine va_get (D := D) (ci := 6) (v := .int (i0 6)) (C := RX6) (T := TX6) (N := 9) hx hb hts hiX6 hown hK hP 0 rfl rfl 6 (by decide) (hts _ flX6_155) (fun _ h9 => h9) rfl dX6_endFactor_138 ?_
                      refine lv_if_le (tgt := 152) hx hb dX6_endFactor_141 (by decide) (fun hc => ?_) (fun hc => ?_)
                      · have hf := ite_t hf hc
                        refine lv_iconst (v := 0) hx hb dX6_endFactor_152 (by decide) ?_
                        obtain rfl := Option.some.inj hf
                        exact k_zret (r := 0) hx hb hr hlocks rfl hK hP hD hS dX6_endFactor_153
                      · have hf := ite_f hf hc
                        refine lv_aload_n hx hb dX6_endFactor_144 rfl (lv_at hl 0 rfl) ?_
                        refine va_get (D := D) (ci := 6) (v := .ref (a0 0)) (C := RX6) (T := TX6) (N := 9) hx hb hts hiX6 hown hK hP 0 rfl rfl 0 (by decide) (hts _ flX6_18) (fun _ h9 => h9) rfl dX6_endFactor_145 ?_
                        refine lv_iconst (v := 1) hx hb dX6_endFactor_148 (by decide) ?_
                        obtain ⟨q22, hq22, hf⟩ := bd_s hf
                        refine k_pVv (wr := W6 cs h0 a0 i0 r0 ++ W5 cs (a0 3) a2 i2 r2 l2) (ws2 := W6 cs h0 a0 i0 r0 ++ (W9 cs (a0 0) a1 q22 r1 l1 ++ W5 cs (a0 3) a2 i2 r2 l2)) (As := [.int 1]) (rest := []) hx hb hml hown hts hK hA hZ hl.1 hP hD hS (c_X9_fail (h0 := (a0 0)) (a0 := a1) hq22) (gVt mlX6_69 imX9_fail seX9_fail inX9 coX9_fail) rfl qnX9_fail rfl rfl ⟨Nat.le_of_ble_eq_true rfl, Nat.le_of_ble_eq_true rfl⟩ [3, 4, 5, 6, 7, 8] [0, 1, 2, 9, 10, 11, 12, 13, 14, 15, 16, 17, 18, 19, 20, 21, 22] [0, 1, 2, 17, 18, 19, 20, 21, 22, 3, 4, 5, 6, 7, 8, 9, 10, 11, 12, 13, 14, 15, 16] rfl rfl rfl (by decide) 0 9 rfl rfl rfl rfl rfl (Nat.le_of_ble_eq_true rfl) ⟨Nat.zero_le _, Nat.zero_le _⟩ dX6_endFactor_149 (fun H locs hP hD hS => ?_)
                        refine lv_iconst (v := 0) hx hb dX6_endFactor_152 (by decide) ?_
                        obtain rfl := Option.some.inj hf
                        exact k_zret (r := 0) hx hb hr hlocks rfl hK hP hD hS dX6_endFactor_153
                    · by_cases hc46 : q9 = 46
                      · refine lv_tableIn (off := 83) (tgt := 137) hx hb dX6_endFactor_54 (by rw [hc46]; decide) (by rw [hc46]; decide) (by rw [hc46]; rfl) (by decide) ?_
                        refine lv_aload_n hx hb dX6_endFactor_137 rfl (lv_at hl 0 rfl) ?_
                        refine va_get (D := D) (ci := 6) (v := .int (i0 6)) (C := RX6) (T := TX6) (N := 9) hx hb hts hiX6 hown hK hP 0 rfl rfl 6 (by decide) (hts _ flX6_155) (fun _ h9 => h9) rfl dX6_endFactor_138 ?_
                        refine lv_if_le (tgt := 152) hx hb dX6_endFactor_141 (by decide) (fun hc => ?_) (fun hc => ?_)
                        · have hf := ite_t hf hc
                          refine lv_iconst (v := 0) hx hb dX6_endFactor_152 (by decide) ?_
                          obtain rfl := Option.some.inj hf
                          exact k_zret (r := 0) hx hb hr hlocks rfl hK hP hD hS dX6_endFactor_153
                        · have hf := ite_f hf hc
                          refine lv_aload_n hx hb dX6_endFactor_144 rfl (lv_at hl 0 rfl) ?_
                          refine va_get (D := D) (ci := 6) (v := .ref (a0 0)) (C := RX6) (T := TX6) (N := 9) hx hb hts hiX6 hown hK hP 0 rfl rfl 0 (by decide) (hts _ flX6_18) (fun _ h9 => h9) rfl dX6_endFactor_145 ?_
                          refine lv_iconst (v := 1) hx hb dX6_endFactor_148 (by decide) ?_
                          obtain ⟨q22, hq22, hf⟩ := bd_s hf
                          refine k_pVv (wr := W6 cs h0 a0 i0 r0 ++ W5 cs (a0 3) a2 i2 r2 l2) (ws2 := W6 cs h0 a0 i0 r0 ++ (W9 cs (a0 0) a1 q22 r1 l1 ++ W5 cs (a0 3) a2 i2 r2 l2)) (As := [.int 1]) (rest := []) hx hb hml hown hts hK hA hZ hl.1 hP hD hS (c_X9_fail (h0 := (a0 0)) (a0 := a1) hq22) (gVt mlX6_69 imX9_fail seX9_fail inX9 coX9_fail) rfl qnX9_fail rfl rfl ⟨Nat.le_of_ble_eq_true rfl, Nat.le_of_ble_eq_true rfl⟩ [3, 4, 5, 6, 7, 8] [0, 1, 2, 9, 10, 11, 12, 13, 14, 15, 16, 17, 18, 19, 20, 21, 22] [0, 1, 2, 17, 18, 19, 20, 21, 22, 3, 4, 5, 6, 7, 8, 9, 10, 11, 12, 13, 14, 15, 16] rfl rfl rfl (by decide) 0 9 rfl rfl rfl rfl rfl (Nat.le_of_ble_eq_true rfl) ⟨Nat.zero_le _, Nat.zero_le _⟩ dX6_endFactor_149 (fun H locs hP hD hS => ?_)
                          refine lv_iconst (v := 0) hx hb dX6_endFactor_152 (by decide) ?_
                          obtain rfl := Option.some.inj hf
                          exact k_zret (r := 0) hx hb hr hlocks rfl hK hP hD hS dX6_endFactor_153
                      · have z37 := sw_ne (k := 37) (by decide) hc37
                        have z38 := sw_ne (k := 38) (by decide) hc38
                        have z39 := sw_ne (k := 39) (by decide) hc39
                        have z40 := sw_ne (k := 40) (by decide) hc40
                        have z41 := sw_ne (k := 41) (by decide) hc41
                        have z42 := sw_ne (k := 42) (by decide) hc42
                        have z43 := sw_ne (k := 43) (by decide) hc43
                        have z44 := sw_ne (k := 44) (by decide) hc44
                        have z45 := sw_ne (k := 45) (by decide) hc45
                        have z46 := sw_ne (k := 46) (by decide) hc46
                        have z47 := sw_ne (k := 47) (by decide) hc47
                        refine lv_tableOut (tgt := 137) hx hb dX6_endFactor_54 (by omega) (by decide) ?_
                        refine lv_aload_n hx hb dX6_endFactor_137 rfl (lv_at hl 0 rfl) ?_
                        refine va_get (D := D) (ci := 6) (v := .int (i0 6)) (C := RX6) (T := TX6) (N := 9) hx hb hts hiX6 hown hK hP 0 rfl rfl 6 (by decide) (hts _ flX6_155) (fun _ h9 => h9) rfl dX6_endFactor_138 ?_
                        refine lv_if_le (tgt := 152) hx hb dX6_endFactor_141 (by decide) (fun hc => ?_) (fun hc => ?_)
                        · have hf := ite_t hf hc
                          refine lv_iconst (v := 0) hx hb dX6_endFactor_152 (by decide) ?_
                          obtain rfl := Option.some.inj hf
                          exact k_zret (r := 0) hx hb hr hlocks rfl hK hP hD hS dX6_endFactor_153
                        · have hf := ite_f hf hc
                          refine lv_aload_n hx hb dX6_endFactor_144 rfl (lv_at hl 0 rfl) ?_
                          refine va_get (D := D) (ci := 6) (v := .ref (a0 0)) (C := RX6) (T := TX6) (N := 9) hx hb hts hiX6 hown hK hP 0 rfl rfl 0 (by decide) (hts _ flX6_18) (fun _ h9 => h9) rfl dX6_endFactor_145 ?_
                          refine lv_iconst (v := 1) hx hb dX6_endFactor_148 (by decide) ?_
                          obtain ⟨q22, hq22, hf⟩ := bd_s hf
                          refine k_pVv (wr := W6 cs h0 a0 i0 r0 ++ W5 cs (a0 3) a2 i2 r2 l2) (ws2 := W6 cs h0 a0 i0 r0 ++ (W9 cs (a0 0) a1 q22 r1 l1 ++ W5 cs (a0 3) a2 i2 r2 l2)) (As := [.int 1]) (rest := []) hx hb hml hown hts hK hA hZ hl.1 hP hD hS (c_X9_fail (h0 := (a0 0)) (a0 := a1) hq22) (gVt mlX6_69 imX9_fail seX9_fail inX9 coX9_fail) rfl qnX9_fail rfl rfl ⟨Nat.le_of_ble_eq_true rfl, Nat.le_of_ble_eq_true rfl⟩ [3, 4, 5, 6, 7, 8] [0, 1, 2, 9, 10, 11, 12, 13, 14, 15, 16, 17, 18, 19, 20, 21, 22] [0, 1, 2, 17, 18, 19, 20, 21, 22, 3, 4, 5, 6, 7, 8, 9, 10, 11, 12, 13, 14, 15, 16] rfl rfl rfl (by decide) 0 9 rfl rfl rfl rfl rfl (Nat.le_of_ble_eq_true rfl) ⟨Nat.zero_le _, Nat.zero_le _⟩ dX6_endFactor_149 (fun H locs hP hD hS => ?_)
                          refine lv_iconst (v := 0) hx hb dX6_endFactor_152 (by decide) ?_
                          obtain rfl := Option.some.inj hf
                          exact k_zret (r := 0) hx hb hr hlocks rfl hK hP hD hS dX6_endFactor_153
def f_X6_endFactor_4 (r1 : Nat → Nat → Int32) (l1 : Nat → Nat → Int64) (l2 : Nat → Nat → Int64)  : Nat → (Nat → Int32) → (Nat → Nat → Int32) → (Nat → Int32) → (Nat → Int32) → (Nat → Nat → Int32) → Option (Int32 × (Nat → Int32) × (Nat → Nat → Int32) × (Nat → Int32) × (Nat → Int32) × (Nat → Nat → Int32))
  | 0, _, _, _, _, _ => none
  | n + 1, i0, r0, i1, i2, r2 => if (i0 6) ≤ 0 then (f_X6_endFactor_47 r1 l1 l2 i0 r0 i1 i2 r2) else (bd (f_X9_kind i1 r1 l1) (fun q23 => if q23 = 41 then (bd (f_X9_advance i1 r1 l1) (fun q24 => bd (f_X6_doWaiting (upd i0 6 ((i0 6) - 1)) r0 q24 r1 l1 i2 r2 l2) (fun q25 => f_X6_endFactor_4 r1 l1 l2 n (upd i0 6 ((i0 6) - 1)) q25.1 q24 q25.2.1 q25.2.2))) else (f_X6_endFactor_47 r1 l1 l2 i0 r0 i1 i2 r2)))
set_option maxRecDepth 100000 in
set_option maxHeartbeats 4000000 in
theorem w_X6_endFactor_4 {p : Program} {l : Launch} {e : Env} {s : State} {m : MethodId} {args : Array Value} {below : List Frame} {meth : Method} {c : Code} {A : Nat → Prop} {D : va_G} {cs zs : Nat → Nat} {h0 : Nat} {a0 : Nat → Nat} {a1 : Nat → Nat} {a2 : Nat → Nat} {r1 : Nat → Nat → Int32} {l1 : Nat → Nat → Int64} {l2 : Nat → Nat → Int64} {q : Int32 × (Nat → Int32) × (Nat → Nat → Int32) × (Nat → Int32) × (Nat → Int32) × (Nat → Nat → Int32)} (C : Cx p s m args meth c A D cs zs cX6_endFactor 1 (some .boolean) RX6)  : ∀ (n : Nat), ∀ (i0 : Nat → Int32) (r0 : Nat → Nat → Int32) (i1 : Nat → Int32) (i2 : Nat → Int32) (r2 : Nat → Nat → Int32) (H : Heap) (locs : List Loc) (ls : Array Slot), f_X6_endFactor_4 r1 l1 l2 n i0 r0 i1 i2 r2 = some q → va_P D vwCl (W6 cs h0 a0 i0 r0 ++ (W9 cs (a0 0) a1 i1 r1 l1 ++ W5 cs (a0 3) a2 i2 r2 l2)) H → va_D A (W6 cs h0 a0 i0 r0 ++ (W9 cs (a0 0) a1 i1 r1 l1 ++ W5 cs (a0 3) a2 i2 r2 l2)) → va_S A s.heap H locs → lv_has ls 1 [(0, .ref h0)] → W p l e rmX6_endFactor s m args below meth c H locs 0 0 (MQ below (Qi D cs A q.1 (W6 cs h0 a0 q.2.1 q.2.2.1 ++ (W9 cs (a0 0) a1 q.2.2.2.1 r1 l1 ++ W5 cs (a0 3) a2 q.2.2.2.2.1 q.2.2.2.2.2 l2))) args s 0 0 A) (F0 m 4 ls []) := by
  obtain ⟨hx, hb, hr, hml, hown, hts, hK, hA, hlocks, hZ⟩ := id C
  intro n
  induction n with
  | zero =>
    intro i0 r0 i1 i2 r2 H locs ls hf
    rw [f_X6_endFactor_4] at hf
    cases hf
  | succ n ih =>
    intro i0 r0 i1 i2 r2 H locs ls hf hP hD hS hl
    rw [f_X6_endFactor_4] at hf
    refine lv_aload_n hx hb dX6_endFactor_4 rfl (lv_at hl 0 rfl) ?_
    refine va_get (D := D) (ci := 6) (v := .int (i0 6)) (C := RX6) (T := TX6) (N := 9) hx hb hts hiX6 hown hK hP 0 rfl rfl 6 (by decide) (hts _ flX6_155) (fun _ h9 => h9) rfl dX6_endFactor_5 ?_
    refine lv_if_le (tgt := 47) hx hb dX6_endFactor_8 (by decide) (fun hc => ?_) (fun hc => ?_)
    · have hf := ite_t hf hc
      exact w_X6_endFactor_47 C  _ _ _ _ _ _ _ _ hf hP hD hS (lv_sub hl [0] rfl)
    · have hf := ite_f hf hc
      refine lv_aload_n hx hb dX6_endFactor_11 rfl (lv_at hl 0 rfl) ?_
      refine va_get (D := D) (ci := 6) (v := .ref (a0 0)) (C := RX6) (T := TX6) (N := 9) hx hb hts hiX6 hown hK hP 0 rfl rfl 0 (by decide) (hts _ flX6_18) (fun _ h9 => h9) rfl dX6_endFactor_12 ?_
      obtain ⟨q23, hq23, hf⟩ := bd_s hf
      refine k_pVi (wr := W6 cs h0 a0 i0 r0 ++ W5 cs (a0 3) a2 i2 r2 l2) (ws2 := W6 cs h0 a0 i0 r0 ++ (W9 cs (a0 0) a1 i1 r1 l1 ++ W5 cs (a0 3) a2 i2 r2 l2)) (As := []) (rest := []) hx hb hml hown hts hK hA hZ hl.1 hP hD hS (c_X9_kind (h0 := (a0 0)) (a0 := a1) hq23) (gVt mlX6_46 imX9_kind seX9_kind inX9 coX9_kind) rfl qnX9_kind rfl rfl ⟨Nat.le_of_ble_eq_true rfl, Nat.le_of_ble_eq_true rfl⟩ [3, 4, 5, 6, 7, 8] [0, 1, 2, 9, 10, 11, 12, 13, 14, 15, 16, 17, 18, 19, 20, 21, 22] [0, 1, 2, 17, 18, 19, 20, 21, 22, 3, 4, 5, 6, 7, 8, 9, 10, 11, 12, 13, 14, 15, 16] rfl rfl rfl (by decide) 0 9 rfl rfl rfl rfl rfl (Nat.le_of_ble_eq_true rfl) ⟨Nat.zero_le _, Nat.zero_le _⟩ dX6_endFactor_15 (fun H locs hP hD hS => ?_)
      refine lv_bipush (v := 41) hx hb dX6_endFactor_18 (by decide) ?_
      refine lv_icmp_ne (tgt := 47) hx hb dX6_endFactor_20 (by decide) (fun hc => ?_) (fun hc => ?_)
      · have hf := ite_f hf hc
        exact w_X6_endFactor_47 C  _ _ _ _ _ _ _ _ hf hP hD hS (lv_sub hl [0] rfl)
      · have hf := ite_t hf hc
        refine lv_aload_n hx hb dX6_endFactor_23 rfl (lv_at hl 0 rfl) ?_
        refine va_get (D := D) (ci := 6) (v := .ref (a0 0)) (C := RX6) (T := TX6) (N := 9) hx hb hts hiX6 hown hK hP 0 rfl rfl 0 (by decide) (hts _ flX6_18) (fun _ h9 => h9) rfl dX6_endFactor_24 ?_
        obtain ⟨q24, hq24, hf⟩ := bd_s hf
        refine k_pVv (wr := W6 cs h0 a0 i0 r0 ++ W5 cs (a0 3) a2 i2 r2 l2) (ws2 := W6 cs h0 a0 i0 r0 ++ (W9 cs (a0 0) a1 q24 r1 l1 ++ W5 cs (a0 3) a2 i2 r2 l2)) (As := []) (rest := []) hx hb hml hown hts hK hA hZ hl.1 hP hD hS (c_X9_advance (h0 := (a0 0)) (a0 := a1) hq24) (gVt mlX6_109 imX9_advance seX9_advance inX9 coX9_advance) rfl qnX9_advance rfl rfl ⟨Nat.le_of_ble_eq_true rfl, Nat.le_of_ble_eq_true rfl⟩ [3, 4, 5, 6, 7, 8] [0, 1, 2, 9, 10, 11, 12, 13, 14, 15, 16, 17, 18, 19, 20, 21, 22] [0, 1, 2, 17, 18, 19, 20, 21, 22, 3, 4, 5, 6, 7, 8, 9, 10, 11, 12, 13, 14, 15, 16] rfl rfl rfl (by decide) 0 9 rfl rfl rfl rfl rfl (Nat.le_of_ble_eq_true rfl) ⟨Nat.zero_le _, Nat.zero_le _⟩ dX6_endFactor_27 (fun H locs hP hD hS => ?_)
        refine lv_aload_n hx hb dX6_endFactor_30 rfl (lv_at hl 0 rfl) ?_
        refine lv_dup hx hb dX6_endFactor_31 rfl ?_
        refine va_get (D := D) (ci := 6) (v := .int (i0 6)) (C := RX6) (T := TX6) (N := 9) hx hb hts hiX6 hown hK hP 0 rfl rfl 6 (by decide) (hts _ flX6_155) (fun _ h9 => h9) rfl dX6_endFactor_32 ?_
        refine lv_iconst (v := 1) hx hb dX6_endFactor_35 (by decide) ?_
        refine lv_isub hx hb dX6_endFactor_36 ?_
        refine va_put (D := D) (ci := 6) (v := .int ((i0 6) - 1)) (ty := .int) (C := RX6) (T := TX6) (N := 9) hx hb hts hiX6 tyX6 tyX6_ok nmX6 hown hK hP hD hS 0 rfl rfl 6 (by decide) (hts _ flX6_155) (fun _ h9 => h9) rfl (tyX6_ok 6 (by decide)) rfl rfl (Nat.le_of_ble_eq_true rfl) dX6_endFactor_37 (fun H locs hP hD hS => ?_)
        obtain ⟨hP, hD⟩ := st6_6_T hP hD
        refine lv_aload_n hx hb dX6_endFactor_40 rfl (lv_at hl 0 rfl) ?_
        obtain ⟨q25, hq25, hf⟩ := bd_s hf
        refine k_sVv (ws2 := W6 cs h0 a0 (upd i0 6 ((i0 6) - 1)) q25.1 ++ (W9 cs (a0 0) a1 q24 r1 l1 ++ W5 cs (a0 3) a2 q25.2.1 q25.2.2 l2)) (As := []) (rest := []) hx hb hml hown hts hK hA hZ hl.1 hP hD hS (c_X6_doWaiting (h0 := h0) (a0 := a0) (a1 := a1) (a2 := a2) hq25) (gVt mlX6_173 imX6_doWaiting seX6_doWaiting inX6 coX6_doWaiting) rfl qnX6_doWaiting rfl rfl ⟨Nat.le_of_ble_eq_true rfl, Nat.le_of_ble_eq_true rfl⟩ 0 6 rfl rfl rfl rfl rfl (Nat.le_of_ble_eq_true rfl) ⟨Nat.zero_le _, Nat.zero_le _⟩ dX6_endFactor_41 (fun H locs hP hD hS => ?_)
        refine lv_goto (tgt := 4) hx hb dX6_endFactor_44 (by decide) ?_
        exact ih _ _ _ _ _ _ _ _ hf hP hD hS (lv_sub hl [0] rfl)
def f_X6_endFactor  (i0 : Nat → Int32) (r0 : Nat → Nat → Int32) (i1 : Nat → Int32) (r1 : Nat → Nat → Int32) (l1 : Nat → Nat → Int64) (i2 : Nat → Int32) (r2 : Nat → Nat → Int32) (l2 : Nat → Nat → Int64)  : Option (Int32 × (Nat → Int32) × (Nat → Nat → Int32) × (Nat → Int32) × (Nat → Int32) × (Nat → Nat → Int32)) := bd (f_X6_doWaiting i0 r0 i1 r1 l1 i2 r2 l2) (fun q26 => f_X6_endFactor_4 r1 l1 l2 2000000 i0 q26.1 i1 q26.2.1 q26.2.2)
set_option maxRecDepth 100000 in
set_option maxHeartbeats 4000000 in
theorem c_X6_endFactor {l : Launch} {D : va_G} {cs zs : Nat → Nat} {h0 : Nat} {a0 : Nat → Nat} {a1 : Nat → Nat} {a2 : Nat → Nat} {i0 : Nat → Int32} {r0 : Nat → Nat → Int32} {i1 : Nat → Int32} {r1 : Nat → Nat → Int32} {l1 : Nat → Nat → Int64} {i2 : Nat → Int32} {r2 : Nat → Nat → Int32} {l2 : Nat → Nat → Int64}  {q : Int32 × (Nat → Int32) × (Nat → Nat → Int32) × (Nat → Int32) × (Nat → Int32) × (Nat → Nat → Int32)} (hf : f_X6_endFactor i0 r0 i1 r1 l1 i2 r2 l2 = some q) : Mi l yX6_endFactor wlX6_endFactor rmX6_endFactor D cs zs [.ref h0] (W6 cs h0 a0 i0 r0 ++ (W9 cs (a0 0) a1 i1 r1 l1 ++ W5 cs (a0 3) a2 i2 r2 l2)) q.1 (W6 cs h0 a0 q.2.1 q.2.2.1 ++ (W9 cs (a0 0) a1 q.2.2.2.1 r1 l1 ++ W5 cs (a0 3) a2 q.2.2.2.2.1 q.2.2.2.2.2 l2)) := by
  refine Mi.of RX6 (by decide) rfl (Nat.le_of_ble_eq_true rfl) (fun p e s m below meth c A C hP hD hS ls hl => ?_)
  generalize ([.ref h0] : List Value).toArray = args at C ⊢
  obtain ⟨hx, hb, hr, hml, hown, hts, hK, hA, hlocks, hZ⟩ := id C
  have hl : lv_has ls 1 [(0, .ref h0)] := hl
  rw [f_X6_endFactor] at hf
  refine lv_aload_n hx hb dX6_endFactor_0 rfl (lv_at hl 0 rfl) ?_
  obtain ⟨q26, hq26, hf⟩ := bd_s hf
  refine k_sVv (ws2 := W6 cs h0 a0 i0 q26.1 ++ (W9 cs (a0 0) a1 i1 r1 l1 ++ W5 cs (a0 3) a2 q26.2.1 q26.2.2 l2)) (As := []) (rest := []) hx hb hml hown hts hK hA hZ hl.1 hP hD hS (c_X6_doWaiting (h0 := h0) (a0 := a0) (a1 := a1) (a2 := a2) hq26) (gVt mlX6_173 imX6_doWaiting seX6_doWaiting inX6 coX6_doWaiting) rfl qnX6_doWaiting rfl rfl ⟨Nat.le_of_ble_eq_true rfl, Nat.le_of_ble_eq_true rfl⟩ 0 6 rfl rfl rfl rfl rfl (Nat.le_of_ble_eq_true rfl) ⟨Nat.zero_le _, Nat.zero_le _⟩ dX6_endFactor_1 (fun H locs hP hD hS => ?_)
  exact w_X6_endFactor_4 C  2000000 _ _ _ _ _ _ _ _ hf hP hD hS (lv_sub hl [0] rfl)
/-! MarbleFloor$ProgramReader.readSum()V -/
abbrev wlX6_readSum : List Cond := Cond.code yX6_readSum cX6_readSum 3 none :: tbG
abbrev rmX6_readSum : Room := { frames := 3, cells := 0, slots := 0, locals := 67 }
theorem qnX6_readSum : yX6_readSum.cls = RX6 ∧ yX6_readSum.cls ≠ "java/lang/invoke/MethodHandle" ∧ yX6_readSum.cls ≠ "java/lang/invoke/VarHandle" ∧ (parseMethodDescriptor yX6_readSum.desc).map (fun d => d.parameters.length) = some 0 := by decide +kernel
def f_X6_readSum_110 (r1 : Nat → Nat → Int32) (l1 : Nat → Nat → Int64) (l2 : Nat → Nat → Int64) (K21 : (Nat → Int32) → (Nat → Nat → Int32) → (Nat → Int32) → (Nat → Int32) → (Nat → Nat → Int32) → Int32 → Int32 → Option ((Nat → Int32) × (Nat → Nat → Int32) × (Nat → Int32) × (Nat → Int32) × (Nat → Nat → Int32))) (i0 : Nat → Int32) (r0 : Nat → Nat → Int32) (i1 : Nat → Int32) (i2 : Nat → Int32) (r2 : Nat → Nat → Int32) (x1 : Int32) (x2 : Int32) : Option ((Nat → Int32) × (Nat → Nat → Int32) × (Nat → Int32) × (Nat → Int32) × (Nat → Nat → Int32)) := K21 i0 r0 i1 i2 r2 x1 (x2 + 1)
set_option maxRecDepth 100000 in
set_option maxHeartbeats 4000000 in
theorem w_X6_readSum_110 {p : Program} {l : Launch} {e : Env} {s : State} {m : MethodId} {args : Array Value} {below : List Frame} {meth : Method} {c : Code} {A : Nat → Prop} {D : va_G} {cs zs : Nat → Nat} {h0 : Nat} {a0 : Nat → Nat} {a1 : Nat → Nat} {a2 : Nat → Nat} {r1 : Nat → Nat → Int32} {l1 : Nat → Nat → Int64} {l2 : Nat → Nat → Int64} {q : (Nat → Int32) × (Nat → Nat → Int32) × (Nat → Int32) × (Nat → Int32) × (Nat → Nat → Int32)} (C : Cx p s m args meth c A D cs zs cX6_readSum 3 none RX6) (K21 : (Nat → Int32) → (Nat → Nat → Int32) → (Nat → Int32) → (Nat → Int32) → (Nat → Nat → Int32) → Int32 → Int32 → Option ((Nat → Int32) × (Nat → Nat → Int32) × (Nat → Int32) × (Nat → Int32) × (Nat → Nat → Int32))) (hK21 : ∀ (i0 : Nat → Int32) (r0 : Nat → Nat → Int32) (i1 : Nat → Int32) (i2 : Nat → Int32) (r2 : Nat → Nat → Int32) (x1 : Int32) (x2 : Int32) (H : Heap) (locs : List Loc) (ls : Array Slot), K21 i0 r0 i1 i2 r2 x1 x2 = some q → va_P D vwCl (W6 cs h0 a0 i0 r0 ++ (W9 cs (a0 0) a1 i1 r1 l1 ++ W5 cs (a0 3) a2 i2 r2 l2)) H → va_D A (W6 cs h0 a0 i0 r0 ++ (W9 cs (a0 0) a1 i1 r1 l1 ++ W5 cs (a0 3) a2 i2 r2 l2)) → va_S A s.heap H locs → lv_has ls 3 [(0, .ref h0), (1, .int x1), (2, .int x2)] → W p l e rmX6_readSum s m args below meth c H locs 0 0 (MQ below (Qv D cs A (W6 cs h0 a0 q.1 q.2.1 ++ (W9 cs (a0 0) a1 q.2.2.1 r1 l1 ++ W5 cs (a0 3) a2 q.2.2.2.1 q.2.2.2.2 l2))) args s 0 0 A) (F0 m 21 ls [])) : ∀ (i0 : Nat → Int32) (r0 : Nat → Nat → Int32) (i1 : Nat → Int32) (i2 : Nat → Int32) (r2 : Nat → Nat → Int32) (x1 : Int32) (x2 : Int32) (H : Heap) (locs : List Loc) (ls : Array Slot), f_X6_readSum_110 r1 l1 l2 K21 i0 r0 i1 i2 r2 x1 x2 = some q → va_P D vwCl (W6 cs h0 a0 i0 r0 ++ (W9 cs (a0 0) a1 i1 r1 l1 ++ W5 cs (a0 3) a2 i2 r2 l2)) H → va_D A (W6 cs h0 a0 i0 r0 ++ (W9 cs (a0 0) a1 i1 r1 l1 ++ W5 cs (a0 3) a2 i2 r2 l2)) → va_S A s.heap H locs → lv_has ls 3 [(0, .ref h0), (1, .int x1), (2, .int x2)] → W p l e rmX6_readSum s m args below meth c H locs 0 0 (MQ below (Qv D cs A (W6 cs h0 a0 q.1 q.2.1 ++ (W9 cs (a0 0) a1 q.2.2.1 r1 l1 ++ W5 cs (a0 3) a2 q.2.2.2.1 q.2.2.2.2 l2))) args s 0 0 A) (F0 m 110 ls []) := by
  obtain ⟨hx, hb, hr, hml, hown, hts, hK, hA, hlocks, hZ⟩ := id C
  intro i0 r0 i1 i2 r2 x1 x2 H locs ls hf hP hD hS hl
  rw [f_X6_readSum_110] at hf
  refine lv_iinc (v := x2 + 1) (lv' := [(2, .int (x2 + 1)), (0, .ref h0), (1, .int x1)]) hx hb dX6_readSum_110 hl (k := 2) rfl rfl (by decide) rfl (fun ls hl => ?_)
  refine lv_goto (tgt := 21) hx hb dX6_readSum_113 (by decide) ?_
  exact hK21 _ _ _ _ _ _ _ _ _ _ hf hP hD hS (lv_sub hl [1, 2, 0] rfl)
def f_X6_readSum_105 (r1 : Nat → Nat → Int32) (l1 : Nat → Nat → Int64) (l2 : Nat → Nat → Int64) (K21 : (Nat → Int32) → (Nat → Nat → Int32) → (Nat → Int32) → (Nat → Int32) → (Nat → Nat → Int32) → Int32 → Int32 → Option ((Nat → Int32) × (Nat → Nat → Int32) × (Nat → Int32) × (Nat → Int32) × (Nat → Nat → Int32))) (i0 : Nat → Int32) (r0 : Nat → Nat → Int32) (i1 : Nat → Int32) (i2 : Nat → Int32) (r2 : Nat → Nat → Int32) (x2 : Int32) : Option ((Nat → Int32) × (Nat → Nat → Int32) × (Nat → Int32) × (Nat → Int32) × (Nat → Nat → Int32)) := bd (f_X6_endFactor i0 r0 i1 r1 l1 i2 r2 l2) (fun q11 => f_X6_readSum_110 r1 l1 l2 K21 q11.2.1 q11.2.2.1 q11.2.2.2.1 q11.2.2.2.2.1 q11.2.2.2.2.2 q11.1 x2)
set_option maxRecDepth 100000 in
set_option maxHeartbeats 4000000 in
theorem w_X6_readSum_105 {p : Program} {l : Launch} {e : Env} {s : State} {m : MethodId} {args : Array Value} {below : List Frame} {meth : Method} {c : Code} {A : Nat → Prop} {D : va_G} {cs zs : Nat → Nat} {h0 : Nat} {a0 : Nat → Nat} {a1 : Nat → Nat} {a2 : Nat → Nat} {r1 : Nat → Nat → Int32} {l1 : Nat → Nat → Int64} {l2 : Nat → Nat → Int64} {q : (Nat → Int32) × (Nat → Nat → Int32) × (Nat → Int32) × (Nat → Int32) × (Nat → Nat → Int32)} (C : Cx p s m args meth c A D cs zs cX6_readSum 3 none RX6) (K21 : (Nat → Int32) → (Nat → Nat → Int32) → (Nat → Int32) → (Nat → Int32) → (Nat → Nat → Int32) → Int32 → Int32 → Option ((Nat → Int32) × (Nat → Nat → Int32) × (Nat → Int32) × (Nat → Int32) × (Nat → Nat → Int32))) (hK21 : ∀ (i0 : Nat → Int32) (r0 : Nat → Nat → Int32) (i1 : Nat → Int32) (i2 : Nat → Int32) (r2 : Nat → Nat → Int32) (x1 : Int32) (x2 : Int32) (H : Heap) (locs : List Loc) (ls : Array Slot), K21 i0 r0 i1 i2 r2 x1 x2 = some q → va_P D vwCl (W6 cs h0 a0 i0 r0 ++ (W9 cs (a0 0) a1 i1 r1 l1 ++ W5 cs (a0 3) a2 i2 r2 l2)) H → va_D A (W6 cs h0 a0 i0 r0 ++ (W9 cs (a0 0) a1 i1 r1 l1 ++ W5 cs (a0 3) a2 i2 r2 l2)) → va_S A s.heap H locs → lv_has ls 3 [(0, .ref h0), (1, .int x1), (2, .int x2)] → W p l e rmX6_readSum s m args below meth c H locs 0 0 (MQ below (Qv D cs A (W6 cs h0 a0 q.1 q.2.1 ++ (W9 cs (a0 0) a1 q.2.2.1 r1 l1 ++ W5 cs (a0 3) a2 q.2.2.2.1 q.2.2.2.2 l2))) args s 0 0 A) (F0 m 21 ls [])) : ∀ (i0 : Nat → Int32) (r0 : Nat → Nat → Int32) (i1 : Nat → Int32) (i2 : Nat → Int32) (r2 : Nat → Nat → Int32) (x2 : Int32) (H : Heap) (locs : List Loc) (ls : Array Slot), f_X6_readSum_105 r1 l1 l2 K21 i0 r0 i1 i2 r2 x2 = some q → va_P D vwCl (W6 cs h0 a0 i0 r0 ++ (W9 cs (a0 0) a1 i1 r1 l1 ++ W5 cs (a0 3) a2 i2 r2 l2)) H → va_D A (W6 cs h0 a0 i0 r0 ++ (W9 cs (a0 0) a1 i1 r1 l1 ++ W5 cs (a0 3) a2 i2 r2 l2)) → va_S A s.heap H locs → lv_has ls 3 [(0, .ref h0), (2, .int x2)] → W p l e rmX6_readSum s m args below meth c H locs 0 0 (MQ below (Qv D cs A (W6 cs h0 a0 q.1 q.2.1 ++ (W9 cs (a0 0) a1 q.2.2.1 r1 l1 ++ W5 cs (a0 3) a2 q.2.2.2.1 q.2.2.2.2 l2))) args s 0 0 A) (F0 m 105 ls []) := by
  obtain ⟨hx, hb, hr, hml, hown, hts, hK, hA, hlocks, hZ⟩ := id C
  intro i0 r0 i1 i2 r2 x2 H locs ls hf hP hD hS hl
  rw [f_X6_readSum_105] at hf
  refine lv_aload_n hx hb dX6_readSum_105 rfl (lv_at hl 0 rfl) ?_
  obtain ⟨q11, hq11, hf⟩ := bd_s hf
  refine k_sVi (ws2 := W6 cs h0 a0 q11.2.1 q11.2.2.1 ++ (W9 cs (a0 0) a1 q11.2.2.2.1 r1 l1 ++ W5 cs (a0 3) a2 q11.2.2.2.2.1 q11.2.2.2.2.2 l2)) (As := []) (rest := []) hx hb hml hown hts hK hA hZ hl.1 hP hD hS (c_X6_endFactor (h0 := h0) (a0 := a0) (a1 := a1) (a2 := a2) hq11) (gVt mlX6_167 imX6_endFactor seX6_endFactor inX6 coX6_endFactor) rfl qnX6_endFactor rfl rfl ⟨Nat.le_of_ble_eq_true rfl, Nat.le_of_ble_eq_true rfl⟩ 0 6 rfl rfl rfl rfl rfl (Nat.le_of_ble_eq_true rfl) ⟨Nat.zero_le _, Nat.zero_le _⟩ dX6_readSum_106 (fun H locs hP hD hS => ?_)
  refine lv_istore_n (lv' := [(1, .int q11.1), (0, .ref h0), (2, .int x2)]) hx hb dX6_readSum_109 rfl hl (by decide) rfl (fun ls hl => ?_)
  exact w_X6_readSum_110 C _ (hK21) _ _ _ _ _ _ _ _ _ _ hf hP hD hS (lv_sub hl [1, 0, 2] rfl)
def f_X6_readSum_21 (r1 : Nat → Nat → Int32) (l1 : Nat → Nat → Int64) (l2 : Nat → Nat → Int64)  : Nat → (Nat → Int32) → (Nat → Nat → Int32) → (Nat → Int32) → (Nat → Int32) → (Nat → Nat → Int32) → Int32 → Int32 → Option ((Nat → Int32) × (Nat → Nat → Int32) × (Nat → Int32) × (Nat → Int32) × (Nat → Nat → Int32))
  | 0, _, _, _, _, _, _, _ => none
  | n + 1, i0, r0, i1, i2, r2, x1, x2 => if 900 < x2 then (some (i0, r0, i1, i2, r2)) else (if x1 = 0 then (some (i0, r0, i1, i2, r2)) else (bd (f_X9_kind i1 r1 l1) (fun q12 => if q12 = 40 then (bd (f_X6_openBracket i0 r0 i1 r1 l1 i2 r2 l2) (fun q20 => f_X6_readSum_110 r1 l1 l2 (f_X6_readSum_21 r1 l1 l2 n) q20.1 q20.2.1 q20.2.2 i2 r2 x1 x2)) else (bd (f_X6_countAtom i0 r0 i1 r1 l1 i2 r2 l2) (fun q13 => bd (f_X9_kind q13.2 r1 l1) (fun q14 => if q14 = 2 then (bd (f_X9_number q13.2 r1 l1) (fun q17 => bd (f_X5_addCode i2 r2 l2 q17) (fun q18 => bd (f_X9_advance q13.2 r1 l1) (fun q19 => f_X6_readSum_105 r1 l1 l2 (f_X6_readSum_21 r1 l1 l2 n) q13.1 r0 q19 q18.1 q18.2 x2)))) else (bd (f_X6_readVar q13.1 r0 q13.2 r1 l1 i2 r2 l2) (fun q15 => bd (f_X5_addCode i2 r2 l2 (10000 + q15.1)) (fun q16 => f_X6_readSum_105 r1 l1 l2 (f_X6_readSum_21 r1 l1 l2 n) q13.1 r0 q15.2 q16.1 q16.2 x2)))))))))
set_option maxRecDepth 100000 in
set_option maxHeartbeats 4000000 in
theorem w_X6_readSum_21 {p : Program} {l : Launch} {e : Env} {s : State} {m : MethodId} {args : Array Value} {below : List Frame} {meth : Method} {c : Code} {A : Nat → Prop} {D : va_G} {cs zs : Nat → Nat} {h0 : Nat} {a0 : Nat → Nat} {a1 : Nat → Nat} {a2 : Nat → Nat} {r1 : Nat → Nat → Int32} {l1 : Nat → Nat → Int64} {l2 : Nat → Nat → Int64} {q : (Nat → Int32) × (Nat → Nat → Int32) × (Nat → Int32) × (Nat → Int32) × (Nat → Nat → Int32)} (C : Cx p s m args meth c A D cs zs cX6_readSum 3 none RX6)  : ∀ (n : Nat), ∀ (i0 : Nat → Int32) (r0 : Nat → Nat → Int32) (i1 : Nat → Int32) (i2 : Nat → Int32) (r2 : Nat → Nat → Int32) (x1 : Int32) (x2 : Int32) (H : Heap) (locs : List Loc) (ls : Array Slot), f_X6_readSum_21 r1 l1 l2 n i0 r0 i1 i2 r2 x1 x2 = some q → va_P D vwCl (W6 cs h0 a0 i0 r0 ++ (W9 cs (a0 0) a1 i1 r1 l1 ++ W5 cs (a0 3) a2 i2 r2 l2)) H → va_D A (W6 cs h0 a0 i0 r0 ++ (W9 cs (a0 0) a1 i1 r1 l1 ++ W5 cs (a0 3) a2 i2 r2 l2)) → va_S A s.heap H locs → lv_has ls 3 [(0, .ref h0), (1, .int x1), (2, .int x2)] → W p l e rmX6_readSum s m args below meth c H locs 0 0 (MQ below (Qv D cs A (W6 cs h0 a0 q.1 q.2.1 ++ (W9 cs (a0 0) a1 q.2.2.1 r1 l1 ++ W5 cs (a0 3) a2 q.2.2.2.1 q.2.2.2.2 l2))) args s 0 0 A) (F0 m 21 ls []) := by
  obtain ⟨hx, hb, hr, hml, hown, hts, hK, hA, hlocks, hZ⟩ := id C
  intro n
  induction n with
  | zero =>
    intro i0 r0 i1 i2 r2 x1 x2 H locs ls hf
    rw [f_X6_readSum_21] at hf
    cases hf
  | succ n ih =>
    intro i0 r0 i1 i2 r2 x1 x2 H locs ls hf hP hD hS hl
    rw [f_X6_readSum_21] at hf
    refine lv_iload_n hx hb dX6_readSum_21 rfl (lv_at hl 2 rfl) ?_
    refine lv_sipush (v := 900) hx hb dX6_readSum_22 (by decide) ?_
    refine lv_icmp_gt (tgt := 116) hx hb dX6_readSum_25 (by decide) (fun hc => ?_) (fun hc => ?_)
    · have hf := ite_t hf hc
      obtain rfl := Option.some.inj hf
      exact k_vret hx hb hr hlocks hK hP hD hS dX6_readSum_116
    · have hf := ite_f hf hc
      refine lv_iload_n hx hb dX6_readSum_28 rfl (lv_at hl 1 rfl) ?_
      refine lv_if_eq (tgt := 116) hx hb dX6_readSum_29 (by decide) (fun hc => ?_) (fun hc => ?_)
      · have hf := ite_t hf hc
        obtain rfl := Option.some.inj hf
        exact k_vret hx hb hr hlocks hK hP hD hS dX6_readSum_116
      · have hf := ite_f hf hc
        refine lv_aload_n hx hb dX6_readSum_32 rfl (lv_at hl 0 rfl) ?_
        refine va_get (D := D) (ci := 6) (v := .ref (a0 0)) (C := RX6) (T := TX6) (N := 9) hx hb hts hiX6 hown hK hP 0 rfl rfl 0 (by decide) (hts _ flX6_18) (fun _ h9 => h9) rfl dX6_readSum_33 ?_
        obtain ⟨q12, hq12, hf⟩ := bd_s hf
        refine k_pVi (wr := W6 cs h0 a0 i0 r0 ++ W5 cs (a0 3) a2 i2 r2 l2) (ws2 := W6 cs h0 a0 i0 r0 ++ (W9 cs (a0 0) a1 i1 r1 l1 ++ W5 cs (a0 3) a2 i2 r2 l2)) (As := []) (rest := []) hx hb hml hown hts hK hA hZ hl.1 hP hD hS (c_X9_kind (h0 := (a0 0)) (a0 := a1) hq12) (gVt mlX6_46 imX9_kind seX9_kind inX9 coX9_kind) rfl qnX9_kind rfl rfl ⟨Nat.le_of_ble_eq_true rfl, Nat.le_of_ble_eq_true rfl⟩ [3, 4, 5, 6, 7, 8] [0, 1, 2, 9, 10, 11, 12, 13, 14, 15, 16, 17, 18, 19, 20, 21, 22] [0, 1, 2, 17, 18, 19, 20, 21, 22, 3, 4, 5, 6, 7, 8, 9, 10, 11, 12, 13, 14, 15, 16] rfl rfl rfl (by decide) 0 9 rfl rfl rfl rfl rfl (Nat.le_of_ble_eq_true rfl) ⟨Nat.zero_le _, Nat.zero_le _⟩ dX6_readSum_36 (fun H locs hP hD hS => ?_)
        refine lv_bipush (v := 40) hx hb dX6_readSum_39 (by decide) ?_
        refine lv_icmp_ne (tgt := 51) hx hb dX6_readSum_41 (by decide) (fun hc => ?_) (fun hc => ?_)
        · have hf := ite_f hf hc
          refine lv_aload_n hx hb dX6_readSum_51 rfl (lv_at hl 0 rfl) ?_
          obtain ⟨q13, hq13, hf⟩ := bd_s hf
          refine k_sVv (ws2 := W6 cs h0 a0 q13.1 r0 ++ (W9 cs (a0 0) a1 q13.2 r1 l1 ++ W5 cs (a0 3) a2 i2 r2 l2)) (As := []) (rest := []) hx hb hml hown hts hK hA hZ hl.1 hP hD hS (c_X6_countAtom (h0 := h0) (a0 := a0) (a1 := a1) (a2 := a2) hq13) (gVt mlX6_161 imX6_countAtom seX6_countAtom inX6 coX6_countAtom) rfl qnX6_countAtom rfl rfl ⟨Nat.le_of_ble_eq_true rfl, Nat.le_of_ble_eq_true rfl⟩ 0 6 rfl rfl rfl rfl rfl (Nat.le_of_ble_eq_true rfl) ⟨Nat.zero_le _, Nat.zero_le _⟩ dX6_readSum_52 (fun H locs hP hD hS => ?_)
          refine lv_aload_n hx hb dX6_readSum_55 rfl (lv_at hl 0 rfl) ?_
          refine va_get (D := D) (ci := 6) (v := .ref (a0 0)) (C := RX6) (T := TX6) (N := 9) hx hb hts hiX6 hown hK hP 0 rfl rfl 0 (by decide) (hts _ flX6_18) (fun _ h9 => h9) rfl dX6_readSum_56 ?_
          obtain ⟨q14, hq14, hf⟩ := bd_s hf
          refine k_pVi (wr := W6 cs h0 a0 q13.1 r0 ++ W5 cs (a0 3) a2 i2 r2 l2) (ws2 := W6 cs h0 a0 q13.1 r0 ++ (W9 cs (a0 0) a1 q13.2 r1 l1 ++ W5 cs (a0 3) a2 i2 r2 l2)) (As := []) (rest := []) hx hb hml hown hts hK hA hZ hl.1 hP hD hS (c_X9_kind (h0 := (a0 0)) (a0 := a1) hq14) (gVt mlX6_46 imX9_kind seX9_kind inX9 coX9_kind) rfl qnX9_kind rfl rfl ⟨Nat.le_of_ble_eq_true rfl, Nat.le_of_ble_eq_true rfl⟩ [3, 4, 5, 6, 7, 8] [0, 1, 2, 9, 10, 11, 12, 13, 14, 15, 16, 17, 18, 19, 20, 21, 22] [0, 1, 2, 17, 18, 19, 20, 21, 22, 3, 4, 5, 6, 7, 8, 9, 10, 11, 12, 13, 14, 15, 16] rfl rfl rfl (by decide) 0 9 rfl rfl rfl rfl rfl (Nat.le_of_ble_eq_true rfl) ⟨Nat.zero_le _, Nat.zero_le _⟩ dX6_readSum_59 (fun H locs hP hD hS => ?_)
          refine lv_iconst (v := 2) hx hb dX6_readSum_62 (by decide) ?_
          refine lv_icmp_ne (tgt := 90) hx hb dX6_readSum_63 (by decide) (fun hc => ?_) (fun hc => ?_)
          · have hf := ite_f hf hc
            refine lv_aload_n hx hb dX6_readSum_90 rfl (lv_at hl 0 rfl) ?_
            refine va_get (D := D) (ci := 6) (v := .ref (a0 3)) (C := RX6) (T := TX6) (N := 9) hx hb hts hiX6 hown hK hP 0 rfl rfl 3 (by decide) (hts _ flX6_22) (fun _ h9 => h9) rfl dX6_readSum_91 ?_
            refine lv_sipush (v := 10000) hx hb dX6_readSum_94 (by decide) ?_
            refine lv_aload_n hx hb dX6_readSum_97 rfl (lv_at hl 0 rfl) ?_
            obtain ⟨q15, hq15, hf⟩ := bd_s hf
            refine k_sVi (ws2 := W6 cs h0 a0 q13.1 r0 ++ (W9 cs (a0 0) a1 q15.2 r1 l1 ++ W5 cs (a0 3) a2 i2 r2 l2)) (As := []) (rest := [.int 10000, .ref (a0 3)]) hx hb hml hown hts hK hA hZ hl.1 hP hD hS (c_X6_readVar (h0 := h0) (a0 := a0) (a1 := a1) (a2 := a2) hq15) (gVt mlX6_133 imX6_readVar seX6_readVar inX6 coX6_readVar) rfl qnX6_readVar rfl rfl ⟨Nat.le_of_ble_eq_true rfl, Nat.le_of_ble_eq_true rfl⟩ 0 6 rfl rfl rfl rfl rfl (Nat.le_of_ble_eq_true rfl) ⟨Nat.zero_le _, Nat.zero_le _⟩ dX6_readSum_98 (fun H locs hP hD hS => ?_)
            refine lv_iadd hx hb dX6_readSum_101 ?_
            obtain ⟨q16, hq16, hf⟩ := bd_s hf
            refine k_pVv (wr := W6 cs h0 a0 q13.1 r0 ++ W9 cs (a0 0) a1 q15.2 r1 l1) (ws2 := W6 cs h0 a0 q13.1 r0 ++ (W9 cs (a0 0) a1 q15.2 r1 l1 ++ W5 cs (a0 3) a2 q16.1 q16.2 l2)) (As := [.int (10000 + q15.1)]) (rest := []) hx hb hml hown hts hK hA hZ hl.1 hP hD hS (c_X5_addCode (h0 := (a0 3)) (a0 := a2) hq16) (gVt mlX6_149 imX5_addCode seX5_addCode inX5 coX5_addCode) rfl qnX5_addCode rfl rfl ⟨Nat.le_of_ble_eq_true rfl, Nat.le_of_ble_eq_true rfl⟩ [9, 10, 11, 12, 13, 14, 15, 16, 17, 18, 19, 20, 21, 22] [0, 1, 2, 3, 4, 5, 6, 7, 8] [0, 1, 2, 3, 4, 5, 6, 7, 8, 9, 10, 11, 12, 13, 14, 15, 16, 17, 18, 19, 20, 21, 22] rfl rfl rfl (by decide) 0 5 rfl rfl rfl rfl rfl (Nat.le_of_ble_eq_true rfl) ⟨Nat.zero_le _, Nat.zero_le _⟩ dX6_readSum_102 (fun H locs hP hD hS => ?_)
            exact w_X6_readSum_105 C _ (ih) _ _ _ _ _ _ _ _ _ hf hP hD hS (lv_sub hl [0, 2] rfl)
          · have hf := ite_t hf hc
            refine lv_aload_n hx hb dX6_readSum_66 rfl (lv_at hl 0 rfl) ?_
            refine va_get (D := D) (ci := 6) (v := .ref (a0 3)) (C := RX6) (T := TX6) (N := 9) hx hb hts hiX6 hown hK hP 0 rfl rfl 3 (by decide) (hts _ flX6_22) (fun _ h9 => h9) rfl dX6_readSum_67 ?_
            refine lv_aload_n hx hb dX6_readSum_70 rfl (lv_at hl 0 rfl) ?_
            refine va_get (D := D) (ci := 6) (v := .ref (a0 0)) (C := RX6) (T := TX6) (N := 9) hx hb hts hiX6 hown hK hP 0 rfl rfl 0 (by decide) (hts _ flX6_18) (fun _ h9 => h9) rfl dX6_readSum_71 ?_
            obtain ⟨q17, hq17, hf⟩ := bd_s hf
            refine k_pVi (wr := W6 cs h0 a0 q13.1 r0 ++ W5 cs (a0 3) a2 i2 r2 l2) (ws2 := W6 cs h0 a0 q13.1 r0 ++ (W9 cs (a0 0) a1 q13.2 r1 l1 ++ W5 cs (a0 3) a2 i2 r2 l2)) (As := []) (rest := [.ref (a0 3)]) hx hb hml hown hts hK hA hZ hl.1 hP hD hS (c_X9_number (h0 := (a0 0)) (a0 := a1) hq17) (gVt mlX6_164 imX9_number seX9_number inX9 coX9_number) rfl qnX9_number rfl rfl ⟨Nat.le_of_ble_eq_true rfl, Nat.le_of_ble_eq_true rfl⟩ [3, 4, 5, 6, 7, 8] [0, 1, 2, 9, 10, 11, 12, 13, 14, 15, 16, 17, 18, 19, 20, 21, 22] [0, 1, 2, 17, 18, 19, 20, 21, 22, 3, 4, 5, 6, 7, 8, 9, 10, 11, 12, 13, 14, 15, 16] rfl rfl rfl (by decide) 0 9 rfl rfl rfl rfl rfl (Nat.le_of_ble_eq_true rfl) ⟨Nat.zero_le _, Nat.zero_le _⟩ dX6_readSum_74 (fun H locs hP hD hS => ?_)
            obtain ⟨q18, hq18, hf⟩ := bd_s hf
            refine k_pVv (wr := W6 cs h0 a0 q13.1 r0 ++ W9 cs (a0 0) a1 q13.2 r1 l1) (ws2 := W6 cs h0 a0 q13.1 r0 ++ (W9 cs (a0 0) a1 q13.2 r1 l1 ++ W5 cs (a0 3) a2 q18.1 q18.2 l2)) (As := [.int q17]) (rest := []) hx hb hml hown hts hK hA hZ hl.1 hP hD hS (c_X5_addCode (h0 := (a0 3)) (a0 := a2) hq18) (gVt mlX6_149 imX5_addCode seX5_addCode inX5 coX5_addCode) rfl qnX5_addCode rfl rfl ⟨Nat.le_of_ble_eq_true rfl, Nat.le_of_ble_eq_true rfl⟩ [9, 10, 11, 12, 13, 14, 15, 16, 17, 18, 19, 20, 21, 22] [0, 1, 2, 3, 4, 5, 6, 7, 8] [0, 1, 2, 3, 4, 5, 6, 7, 8, 9, 10, 11, 12, 13, 14, 15, 16, 17, 18, 19, 20, 21, 22] rfl rfl rfl (by decide) 0 5 rfl rfl rfl rfl rfl (Nat.le_of_ble_eq_true rfl) ⟨Nat.zero_le _, Nat.zero_le _⟩ dX6_readSum_77 (fun H locs hP hD hS => ?_)
            refine lv_aload_n hx hb dX6_readSum_80 rfl (lv_at hl 0 rfl) ?_
            refine va_get (D := D) (ci := 6) (v := .ref (a0 0)) (C := RX6) (T := TX6) (N := 9) hx hb hts hiX6 hown hK hP 0 rfl rfl 0 (by decide) (hts _ flX6_18) (fun _ h9 => h9) rfl dX6_readSum_81 ?_
            obtain ⟨q19, hq19, hf⟩ := bd_s hf
            refine k_pVv (wr := W6 cs h0 a0 q13.1 r0 ++ W5 cs (a0 3) a2 q18.1 q18.2 l2) (ws2 := W6 cs h0 a0 q13.1 r0 ++ (W9 cs (a0 0) a1 q19 r1 l1 ++ W5 cs (a0 3) a2 q18.1 q18.2 l2)) (As := []) (rest := []) hx hb hml hown hts hK hA hZ hl.1 hP hD hS (c_X9_advance (h0 := (a0 0)) (a0 := a1) hq19) (gVt mlX6_109 imX9_advance seX9_advance inX9 coX9_advance) rfl qnX9_advance rfl rfl ⟨Nat.le_of_ble_eq_true rfl, Nat.le_of_ble_eq_true rfl⟩ [3, 4, 5, 6, 7, 8] [0, 1, 2, 9, 10, 11, 12, 13, 14, 15, 16, 17, 18, 19, 20, 21, 22] [0, 1, 2, 17, 18, 19, 20, 21, 22, 3, 4, 5, 6, 7, 8, 9, 10, 11, 12, 13, 14, 15, 16] rfl rfl rfl (by decide) 0 9 rfl rfl rfl rfl rfl (Nat.le_of_ble_eq_true rfl) ⟨Nat.zero_le _, Nat.zero_le _⟩ dX6_readSum_84 (fun H locs hP hD hS => ?_)
            refine lv_goto (tgt := 105) hx hb dX6_readSum_87 (by decide) ?_
            exact w_X6_readSum_105 C _ (ih) _ _ _ _ _ _ _ _ _ hf hP hD hS (lv_sub hl [0, 2] rfl)
        · have hf := ite_t hf hc
          refine lv_aload_n hx hb dX6_readSum_44 rfl (lv_at hl 0 rfl) ?_
          obtain ⟨q20, hq20, hf⟩ := bd_s hf
          refine k_sVv (ws2 := W6 cs h0 a0 q20.1 q20.2.1 ++ (W9 cs (a0 0) a1 q20.2.2 r1 l1 ++ W5 cs (a0 3) a2 i2 r2 l2)) (As := []) (rest := []) hx hb hml hown hts hK hA hZ hl.1 hP hD hS (c_X6_openBracket (h0 := h0) (a0 := a0) (a1 := a1) (a2 := a2) hq20) (gVt mlX6_158 imX6_openBracket seX6_openBracket inX6 coX6_openBracket) rfl qnX6_openBracket rfl rfl ⟨Nat.le_of_ble_eq_true rfl, Nat.le_of_ble_eq_true rfl⟩ 0 6 rfl rfl rfl rfl rfl (Nat.le_of_ble_eq_true rfl) ⟨Nat.zero_le _, Nat.zero_le _⟩ dX6_readSum_45 (fun H locs hP hD hS => ?_)
          refine lv_goto (tgt := 110) hx hb dX6_readSum_48 (by decide) ?_
          exact w_X6_readSum_110 C _ (ih) _ _ _ _ _ _ _ _ _ _ hf hP hD hS (lv_sub hl [0, 1, 2] rfl)
def f_X6_readSum_17 (r1 : Nat → Nat → Int32) (l1 : Nat → Nat → Int64) (l2 : Nat → Nat → Int64)  (i0 : Nat → Int32) (r0 : Nat → Nat → Int32) (i1 : Nat → Int32) (i2 : Nat → Int32) (r2 : Nat → Nat → Int32) : Option ((Nat → Int32) × (Nat → Nat → Int32) × (Nat → Int32) × (Nat → Int32) × (Nat → Nat → Int32)) := f_X6_readSum_21 r1 l1 l2 2000000 i0 r0 i1 i2 r2 1 0
set_option maxRecDepth 100000 in
set_option maxHeartbeats 4000000 in
theorem w_X6_readSum_17 {p : Program} {l : Launch} {e : Env} {s : State} {m : MethodId} {args : Array Value} {below : List Frame} {meth : Method} {c : Code} {A : Nat → Prop} {D : va_G} {cs zs : Nat → Nat} {h0 : Nat} {a0 : Nat → Nat} {a1 : Nat → Nat} {a2 : Nat → Nat} {r1 : Nat → Nat → Int32} {l1 : Nat → Nat → Int64} {l2 : Nat → Nat → Int64} {q : (Nat → Int32) × (Nat → Nat → Int32) × (Nat → Int32) × (Nat → Int32) × (Nat → Nat → Int32)} (C : Cx p s m args meth c A D cs zs cX6_readSum 3 none RX6)  : ∀ (i0 : Nat → Int32) (r0 : Nat → Nat → Int32) (i1 : Nat → Int32) (i2 : Nat → Int32) (r2 : Nat → Nat → Int32) (H : Heap) (locs : List Loc) (ls : Array Slot), f_X6_readSum_17 r1 l1 l2 i0 r0 i1 i2 r2 = some q → va_P D vwCl (W6 cs h0 a0 i0 r0 ++ (W9 cs (a0 0) a1 i1 r1 l1 ++ W5 cs (a0 3) a2 i2 r2 l2)) H → va_D A (W6 cs h0 a0 i0 r0 ++ (W9 cs (a0 0) a1 i1 r1 l1 ++ W5 cs (a0 3) a2 i2 r2 l2)) → va_S A s.heap H locs → lv_has ls 3 [(0, .ref h0)] → W p l e rmX6_readSum s m args below meth c H locs 0 0 (MQ below (Qv D cs A (W6 cs h0 a0 q.1 q.2.1 ++ (W9 cs (a0 0) a1 q.2.2.1 r1 l1 ++ W5 cs (a0 3) a2 q.2.2.2.1 q.2.2.2.2 l2))) args s 0 0 A) (F0 m 17 ls []) := by
  obtain ⟨hx, hb, hr, hml, hown, hts, hK, hA, hlocks, hZ⟩ := id C
  intro i0 r0 i1 i2 r2 H locs ls hf hP hD hS hl
  rw [f_X6_readSum_17] at hf
  refine lv_iconst (v := 1) hx hb dX6_readSum_17 (by decide) ?_
  refine lv_istore_n (lv' := [(1, .int 1), (0, .ref h0)]) hx hb dX6_readSum_18 rfl hl (by decide) rfl (fun ls hl => ?_)
  refine lv_iconst (v := 0) hx hb dX6_readSum_19 (by decide) ?_
  refine lv_istore_n (lv' := [(2, .int 0), (1, .int 1), (0, .ref h0)]) hx hb dX6_readSum_20 rfl hl (by decide) rfl (fun ls hl => ?_)
  exact w_X6_readSum_21 C  2000000 _ _ _ _ _ _ _ _ _ _ hf hP hD hS (lv_sub hl [2, 1, 0] rfl)
def f_X6_readSum  (i0 : Nat → Int32) (r0 : Nat → Nat → Int32) (i1 : Nat → Int32) (r1 : Nat → Nat → Int32) (l1 : Nat → Nat → Int64) (i2 : Nat → Int32) (r2 : Nat → Nat → Int32) (l2 : Nat → Nat → Int64)  : Option ((Nat → Int32) × (Nat → Nat → Int32) × (Nat → Int32) × (Nat → Int32) × (Nat → Nat → Int32)) := ck (inb 0 7) (f_X6_readSum_17 r1 l1 l2 (upd (upd i0 7 0) 6 0) (va_up r0 2 (upd (r0 2) (0 : Int32).toNatClampNeg 0)) i1 i2 r2)
set_option maxRecDepth 100000 in
set_option maxHeartbeats 4000000 in
theorem c_X6_readSum {l : Launch} {D : va_G} {cs zs : Nat → Nat} {h0 : Nat} {a0 : Nat → Nat} {a1 : Nat → Nat} {a2 : Nat → Nat} {i0 : Nat → Int32} {r0 : Nat → Nat → Int32} {i1 : Nat → Int32} {r1 : Nat → Nat → Int32} {l1 : Nat → Nat → Int64} {i2 : Nat → Int32} {r2 : Nat → Nat → Int32} {l2 : Nat → Nat → Int64}  {q : (Nat → Int32) × (Nat → Nat → Int32) × (Nat → Int32) × (Nat → Int32) × (Nat → Nat → Int32)} (hf : f_X6_readSum i0 r0 i1 r1 l1 i2 r2 l2 = some q) : Mv l yX6_readSum wlX6_readSum rmX6_readSum D cs zs [.ref h0] (W6 cs h0 a0 i0 r0 ++ (W9 cs (a0 0) a1 i1 r1 l1 ++ W5 cs (a0 3) a2 i2 r2 l2)) (W6 cs h0 a0 q.1 q.2.1 ++ (W9 cs (a0 0) a1 q.2.2.1 r1 l1 ++ W5 cs (a0 3) a2 q.2.2.2.1 q.2.2.2.2 l2)) := by
  refine Mv.of RX6 (by decide) rfl (Nat.le_of_ble_eq_true rfl) (fun p e s m below meth c A C hP hD hS ls hl => ?_)
  generalize ([.ref h0] : List Value).toArray = args at C ⊢
  obtain ⟨hx, hb, hr, hml, hown, hts, hK, hA, hlocks, hZ⟩ := id C
  have hl : lv_has ls 3 [(0, .ref h0)] := hl
  rw [f_X6_readSum] at hf
  refine lv_aload_n hx hb dX6_readSum_0 rfl (lv_at hl 0 rfl) ?_
  refine lv_iconst (v := 0) hx hb dX6_readSum_1 (by decide) ?_
  refine va_put (D := D) (ci := 6) (v := .int 0) (ty := .int) (C := RX6) (T := TX6) (N := 9) hx hb hts hiX6 tyX6 tyX6_ok nmX6 hown hK hP hD hS 0 rfl rfl 7 (by decide) (hts _ flX6_152) (fun _ h9 => h9) rfl (tyX6_ok 7 (by decide)) rfl rfl (Nat.le_of_ble_eq_true rfl) dX6_readSum_2 (fun H locs hP hD hS => ?_)
  obtain ⟨hP, hD⟩ := st6_7_T hP hD
  refine lv_aload_n hx hb dX6_readSum_5 rfl (lv_at hl 0 rfl) ?_
  refine lv_iconst (v := 0) hx hb dX6_readSum_6 (by decide) ?_
  refine va_put (D := D) (ci := 6) (v := .int 0) (ty := .int) (C := RX6) (T := TX6) (N := 9) hx hb hts hiX6 tyX6 tyX6_ok nmX6 hown hK hP hD hS 0 rfl rfl 6 (by decide) (hts _ flX6_155) (fun _ h9 => h9) rfl (tyX6_ok 6 (by decide)) rfl rfl (Nat.le_of_ble_eq_true rfl) dX6_readSum_7 (fun H locs hP hD hS => ?_)
  obtain ⟨hP, hD⟩ := st6_6_T hP hD
  refine lv_aload_n hx hb dX6_readSum_10 rfl (lv_at hl 0 rfl) ?_
  refine va_get (D := D) (ci := 6) (v := .ref (a0 2)) (C := RX6) (T := TX6) (N := 9) hx hb hts hiX6 hown hK hP 0 rfl rfl 2 (by decide) (hts _ flX6_15) (fun _ h9 => h9) rfl dX6_readSum_11 ?_
  refine lv_iconst (v := 0) hx hb dX6_readSum_14 (by decide) ?_
  refine lv_iconst (v := 0) hx hb dX6_readSum_15 (by decide) ?_
  refine va_iast (f := r0 2) hx hb hK hP hD hS 2 0 rfl rfl (ck_in hf) dX6_readSum_16 (fun H locs hP hD hS => ?_)
  have hf := ck_2 hf
  obtain ⟨hP, hD⟩ := st6_2_T hP hD
  exact w_X6_readSum_17 C  _ _ _ _ _ _ _ _ hf hP hD hS (lv_sub hl [0] rfl)
/-! MarbleFloor$ProgramReader.readChange(I)V -/
abbrev wlX6_readChange : List Cond := Cond.code yX6_readChange cX6_readChange 3 none :: tbG
abbrev rmX6_readChange : Room := { frames := 4, cells := 0, slots := 0, locals := 89 }
theorem qnX6_readChange : yX6_readChange.cls = RX6 ∧ yX6_readChange.cls ≠ "java/lang/invoke/MethodHandle" ∧ yX6_readChange.cls ≠ "java/lang/invoke/VarHandle" ∧ (parseMethodDescriptor yX6_readChange.desc).map (fun d => d.parameters.length) = some 1 := by decide +kernel
def f_X6_readChange_31 (r1 : Nat → Nat → Int32) (l1 : Nat → Nat → Int64) (l2 : Nat → Nat → Int64)  (i0 : Nat → Int32) (r0 : Nat → Nat → Int32) (i1 : Nat → Int32) (i2 : Nat → Int32) (r2 : Nat → Nat → Int32) (x1 : Int32) (y0 : Int32) : Option ((Nat → Int32) × (Nat → Nat → Int32) × (Nat → Int32) × (Nat → Int32) × (Nat → Nat → Int32)) := bd (f_X5_beginSum i2 r2 l2 x1 0) (fun q6 => bd (f_X6_readSum (upd i0 8 y0) r0 i1 r1 l1 i2 q6 l2) (fun q7 => bd (f_X5_endSum q7.2.2.2.1 q7.2.2.2.2 l2 x1 0) (fun q8 => some ((upd q7.1 8 0), q7.2.1, q7.2.2.1, q7.2.2.2.1, q8))))
set_option maxRecDepth 100000 in
set_option maxHeartbeats 4000000 in
theorem w_X6_readChange_31 {p : Program} {l : Launch} {e : Env} {s : State} {m : MethodId} {args : Array Value} {below : List Frame} {meth : Method} {c : Code} {A : Nat → Prop} {D : va_G} {cs zs : Nat → Nat} {h0 : Nat} {a0 : Nat → Nat} {a1 : Nat → Nat} {a2 : Nat → Nat} {r1 : Nat → Nat → Int32} {l1 : Nat → Nat → Int64} {l2 : Nat → Nat → Int64} {q : (Nat → Int32) × (Nat → Nat → Int32) × (Nat → Int32) × (Nat → Int32) × (Nat → Nat → Int32)} (C : Cx p s m args meth c A D cs zs cX6_readChange 3 none RX6)  : ∀ (i0 : Nat → Int32) (r0 : Nat → Nat → Int32) (i1 : Nat → Int32) (i2 : Nat → Int32) (r2 : Nat → Nat → Int32) (x1 : Int32) (y0 : Int32) (H : Heap) (locs : List Loc) (ls : Array Slot), f_X6_readChange_31 r1 l1 l2 i0 r0 i1 i2 r2 x1 y0 = some q → va_P D vwCl (W6 cs h0 a0 i0 r0 ++ (W9 cs (a0 0) a1 i1 r1 l1 ++ W5 cs (a0 3) a2 i2 r2 l2)) H → va_D A (W6 cs h0 a0 i0 r0 ++ (W9 cs (a0 0) a1 i1 r1 l1 ++ W5 cs (a0 3) a2 i2 r2 l2)) → va_S A s.heap H locs → lv_has ls 3 [(0, .ref h0), (1, .int x1)] → W p l e rmX6_readChange s m args below meth c H locs 0 0 (MQ below (Qv D cs A (W6 cs h0 a0 q.1 q.2.1 ++ (W9 cs (a0 0) a1 q.2.2.1 r1 l1 ++ W5 cs (a0 3) a2 q.2.2.2.1 q.2.2.2.2 l2))) args s 0 0 A) (F0 m 31 ls [.int y0, .ref h0]) := by
  obtain ⟨hx, hb, hr, hml, hown, hts, hK, hA, hlocks, hZ⟩ := id C
  intro i0 r0 i1 i2 r2 x1 y0 H locs ls hf hP hD hS hl
  rw [f_X6_readChange_31] at hf
  refine va_put (D := D) (ci := 6) (v := .int y0) (ty := .int) (C := RX6) (T := TX6) (N := 9) hx hb hts hiX6 tyX6 tyX6_ok nmX6 hown hK hP hD hS 0 rfl rfl 8 (by decide) (hts _ flX6_38) (fun _ h9 => h9) rfl (tyX6_ok 8 (by decide)) rfl rfl (Nat.le_of_ble_eq_true rfl) dX6_readChange_31 (fun H locs hP hD hS => ?_)
  obtain ⟨hP, hD⟩ := st6_8_T hP hD
  refine lv_aload_n hx hb dX6_readChange_34 rfl (lv_at hl 0 rfl) ?_
  refine va_get (D := D) (ci := 6) (v := .ref (a0 3)) (C := RX6) (T := TX6) (N := 9) hx hb hts hiX6 hown hK hP 0 rfl rfl 3 (by decide) (hts _ flX6_22) (fun _ h9 => h9) rfl dX6_readChange_35 ?_
  refine lv_iload_n hx hb dX6_readChange_38 rfl (lv_at hl 1 rfl) ?_
  refine lv_iconst (v := 0) hx hb dX6_readChange_39 (by decide) ?_
  obtain ⟨q6, hq6, hf⟩ := bd_s hf
  refine k_pVv (wr := W6 cs h0 a0 (upd i0 8 y0) r0 ++ W9 cs (a0 0) a1 i1 r1 l1) (ws2 := W6 cs h0 a0 (upd i0 8 y0) r0 ++ (W9 cs (a0 0) a1 i1 r1 l1 ++ W5 cs (a0 3) a2 i2 q6 l2)) (As := [.int x1, .int 0]) (rest := []) hx hb hml hown hts hK hA hZ hl.1 hP hD hS (c_X5_beginSum (h0 := (a0 3)) (a0 := a2) hq6) (gVt mlX6_140 imX5_beginSum seX5_beginSum inX5 coX5_beginSum) rfl qnX5_beginSum rfl rfl ⟨Nat.le_of_ble_eq_true rfl, Nat.le_of_ble_eq_true rfl⟩ [9, 10, 11, 12, 13, 14, 15, 16, 17, 18, 19, 20, 21, 22] [0, 1, 2, 3, 4, 5, 6, 7, 8] [0, 1, 2, 3, 4, 5, 6, 7, 8, 9, 10, 11, 12, 13, 14, 15, 16, 17, 18, 19, 20, 21, 22] rfl rfl rfl (by decide) 0 5 rfl rfl rfl rfl rfl (Nat.le_of_ble_eq_true rfl) ⟨Nat.zero_le _, Nat.zero_le _⟩ dX6_readChange_40 (fun H locs hP hD hS => ?_)
  refine lv_aload_n hx hb dX6_readChange_43 rfl (lv_at hl 0 rfl) ?_
  obtain ⟨q7, hq7, hf⟩ := bd_s hf
  refine k_sVv (ws2 := W6 cs h0 a0 q7.1 q7.2.1 ++ (W9 cs (a0 0) a1 q7.2.2.1 r1 l1 ++ W5 cs (a0 3) a2 q7.2.2.2.1 q7.2.2.2.2 l2)) (As := []) (rest := []) hx hb hml hown hts hK hA hZ hl.1 hP hD hS (c_X6_readSum (h0 := h0) (a0 := a0) (a1 := a1) (a2 := a2) hq7) (gVt mlX6_143 imX6_readSum seX6_readSum inX6 coX6_readSum) rfl qnX6_readSum rfl rfl ⟨Nat.le_of_ble_eq_true rfl, Nat.le_of_ble_eq_true rfl⟩ 0 6 rfl rfl rfl rfl rfl (Nat.le_of_ble_eq_true rfl) ⟨Nat.zero_le _, Nat.zero_le _⟩ dX6_readChange_44 (fun H locs hP hD hS => ?_)
  refine lv_aload_n hx hb dX6_readChange_47 rfl (lv_at hl 0 rfl) ?_
  refine va_get (D := D) (ci := 6) (v := .ref (a0 3)) (C := RX6) (T := TX6) (N := 9) hx hb hts hiX6 hown hK hP 0 rfl rfl 3 (by decide) (hts _ flX6_22) (fun _ h9 => h9) rfl dX6_readChange_48 ?_
  refine lv_iload_n hx hb dX6_readChange_51 rfl (lv_at hl 1 rfl) ?_
  refine lv_iconst (v := 0) hx hb dX6_readChange_52 (by decide) ?_
  obtain ⟨q8, hq8, hf⟩ := bd_s hf
  refine k_pVv (wr := W6 cs h0 a0 q7.1 q7.2.1 ++ W9 cs (a0 0) a1 q7.2.2.1 r1 l1) (ws2 := W6 cs h0 a0 q7.1 q7.2.1 ++ (W9 cs (a0 0) a1 q7.2.2.1 r1 l1 ++ W5 cs (a0 3) a2 q7.2.2.2.1 q8 l2)) (As := [.int x1, .int 0]) (rest := []) hx hb hml hown hts hK hA hZ hl.1 hP hD hS (c_X5_endSum (h0 := (a0 3)) (a0 := a2) hq8) (gVt mlX6_146 imX5_endSum seX5_endSum inX5 coX5_endSum) rfl qnX5_endSum rfl rfl ⟨Nat.le_of_ble_eq_true rfl, Nat.le_of_ble_eq_true rfl⟩ [9, 10, 11, 12, 13, 14, 15, 16, 17, 18, 19, 20, 21, 22] [0, 1, 2, 3, 4, 5, 6, 7, 8] [0, 1, 2, 3, 4, 5, 6, 7, 8, 9, 10, 11, 12, 13, 14, 15, 16, 17, 18, 19, 20, 21, 22] rfl rfl rfl (by decide) 0 5 rfl rfl rfl rfl rfl (Nat.le_of_ble_eq_true rfl) ⟨Nat.zero_le _, Nat.zero_le _⟩ dX6_readChange_53 (fun H locs hP hD hS => ?_)
  refine lv_aload_n hx hb dX6_readChange_56 rfl (lv_at hl 0 rfl) ?_
  refine lv_iconst (v := 0) hx hb dX6_readChange_57 (by decide) ?_
  refine va_put (D := D) (ci := 6) (v := .int 0) (ty := .int) (C := RX6) (T := TX6) (N := 9) hx hb hts hiX6 tyX6 tyX6_ok nmX6 hown hK hP hD hS 0 rfl rfl 8 (by decide) (hts _ flX6_38) (fun _ h9 => h9) rfl (tyX6_ok 8 (by decide)) rfl rfl (Nat.le_of_ble_eq_true rfl) dX6_readChange_58 (fun H locs hP hD hS => ?_)
  obtain ⟨hP, hD⟩ := st6_8_T hP hD
  obtain rfl := Option.some.inj hf
  exact k_vret hx hb hr hlocks hK hP hD hS dX6_readChange_61
def f_X6_readChange  (i0 : Nat → Int32) (r0 : Nat → Nat → Int32) (i1 : Nat → Int32) (r1 : Nat → Nat → Int32) (l1 : Nat → Nat → Int64) (i2 : Nat → Int32) (r2 : Nat → Nat → Int32) (l2 : Nat → Nat → Int64) (x1 : Int32) : Option ((Nat → Int32) × (Nat → Nat → Int32) × (Nat → Int32) × (Nat → Int32) × (Nat → Nat → Int32)) := bd (f_X6_readVar i0 r0 i1 r1 l1 i2 r2 l2) (fun q9 => bd (f_X5_setVars i2 r2 l2 x1 q9.1 q9.1) (fun q10 => if q9.1 < 10 then (f_X6_readChange_31 r1 l1 l2 i0 r0 q9.2 i2 q10 x1 ((1 : Int32) <<< (q9.1 &&& 31))) else (f_X6_readChange_31 r1 l1 l2 i0 r0 q9.2 i2 q10 x1 256)))
set_option maxRecDepth 100000 in
set_option maxHeartbeats 4000000 in
theorem c_X6_readChange {l : Launch} {D : va_G} {cs zs : Nat → Nat} {h0 : Nat} {a0 : Nat → Nat} {a1 : Nat → Nat} {a2 : Nat → Nat} {i0 : Nat → Int32} {r0 : Nat → Nat → Int32} {i1 : Nat → Int32} {r1 : Nat → Nat → Int32} {l1 : Nat → Nat → Int64} {i2 : Nat → Int32} {r2 : Nat → Nat → Int32} {l2 : Nat → Nat → Int64} {x1 : Int32} {q : (Nat → Int32) × (Nat → Nat → Int32) × (Nat → Int32) × (Nat → Int32) × (Nat → Nat → Int32)} (hf : f_X6_readChange i0 r0 i1 r1 l1 i2 r2 l2 x1 = some q) : Mv l yX6_readChange wlX6_readChange rmX6_readChange D cs zs [.ref h0, .int x1] (W6 cs h0 a0 i0 r0 ++ (W9 cs (a0 0) a1 i1 r1 l1 ++ W5 cs (a0 3) a2 i2 r2 l2)) (W6 cs h0 a0 q.1 q.2.1 ++ (W9 cs (a0 0) a1 q.2.2.1 r1 l1 ++ W5 cs (a0 3) a2 q.2.2.2.1 q.2.2.2.2 l2)) := by
  refine Mv.of RX6 (by decide) rfl (Nat.le_of_ble_eq_true rfl) (fun p e s m below meth c A C hP hD hS ls hl => ?_)
  generalize ([.ref h0, .int x1] : List Value).toArray = args at C ⊢
  obtain ⟨hx, hb, hr, hml, hown, hts, hK, hA, hlocks, hZ⟩ := id C
  have hl : lv_has ls 3 [(0, .ref h0), (1, .int x1)] := hl
  rw [f_X6_readChange] at hf
  refine lv_aload_n hx hb dX6_readChange_0 rfl (lv_at hl 0 rfl) ?_
  obtain ⟨q9, hq9, hf⟩ := bd_s hf
  refine k_sVi (ws2 := W6 cs h0 a0 i0 r0 ++ (W9 cs (a0 0) a1 q9.2 r1 l1 ++ W5 cs (a0 3) a2 i2 r2 l2)) (As := []) (rest := []) hx hb hml hown hts hK hA hZ hl.1 hP hD hS (c_X6_readVar (h0 := h0) (a0 := a0) (a1 := a1) (a2 := a2) hq9) (gVt mlX6_133 imX6_readVar seX6_readVar inX6 coX6_readVar) rfl qnX6_readVar rfl rfl ⟨Nat.le_of_ble_eq_true rfl, Nat.le_of_ble_eq_true rfl⟩ 0 6 rfl rfl rfl rfl rfl (Nat.le_of_ble_eq_true rfl) ⟨Nat.zero_le _, Nat.zero_le _⟩ dX6_readChange_1 (fun H locs hP hD hS => ?_)
  refine lv_istore_n (lv' := [(2, .int q9.1), (0, .ref h0), (1, .int x1)]) hx hb dX6_readChange_4 rfl hl (by decide) rfl (fun ls hl => ?_)
  refine lv_aload_n hx hb dX6_readChange_5 rfl (lv_at hl 1 rfl) ?_
  refine va_get (D := D) (ci := 6) (v := .ref (a0 3)) (C := RX6) (T := TX6) (N := 9) hx hb hts hiX6 hown hK hP 0 rfl rfl 3 (by decide) (hts _ flX6_22) (fun _ h9 => h9) rfl dX6_readChange_6 ?_
  refine lv_iload_n hx hb dX6_readChange_9 rfl (lv_at hl 2 rfl) ?_
  refine lv_iload_n hx hb dX6_readChange_10 rfl (lv_at hl 0 rfl) ?_
  refine lv_iload_n hx hb dX6_readChange_11 rfl (lv_at hl 0 rfl) ?_
  obtain ⟨q10, hq10, hf⟩ := bd_s hf
  refine k_pVv (wr := W6 cs h0 a0 i0 r0 ++ W9 cs (a0 0) a1 q9.2 r1 l1) (ws2 := W6 cs h0 a0 i0 r0 ++ (W9 cs (a0 0) a1 q9.2 r1 l1 ++ W5 cs (a0 3) a2 i2 q10 l2)) (As := [.int x1, .int q9.1, .int q9.1]) (rest := []) hx hb hml hown hts hK hA hZ hl.1 hP hD hS (c_X5_setVars (h0 := (a0 3)) (a0 := a2) hq10) (gVt mlX6_136 imX5_setVars seX5_setVars inX5 coX5_setVars) rfl qnX5_setVars rfl rfl ⟨Nat.le_of_ble_eq_true rfl, Nat.le_of_ble_eq_true rfl⟩ [9, 10, 11, 12, 13, 14, 15, 16, 17, 18, 19, 20, 21, 22] [0, 1, 2, 3, 4, 5, 6, 7, 8] [0, 1, 2, 3, 4, 5, 6, 7, 8, 9, 10, 11, 12, 13, 14, 15, 16, 17, 18, 19, 20, 21, 22] rfl rfl rfl (by decide) 0 5 rfl rfl rfl rfl rfl (Nat.le_of_ble_eq_true rfl) ⟨Nat.zero_le _, Nat.zero_le _⟩ dX6_readChange_12 (fun H locs hP hD hS => ?_)
  refine lv_aload_n hx hb dX6_readChange_15 rfl (lv_at hl 1 rfl) ?_
  refine lv_iload_n hx hb dX6_readChange_16 rfl (lv_at hl 0 rfl) ?_
  refine lv_bipush (v := 10) hx hb dX6_readChange_17 (by decide) ?_
  refine lv_icmp_lt (tgt := 28) hx hb dX6_readChange_19 (by decide) (fun hc => ?_) (fun hc => ?_)
  · have hf := ite_t hf hc
    refine lv_iconst (v := 1) hx hb dX6_readChange_28 (by decide) ?_
    refine lv_iload_n hx hb dX6_readChange_29 rfl (lv_at hl 0 rfl) ?_
    refine lv_ishl hx hb dX6_readChange_30 ?_
    exact w_X6_readChange_31 C  _ _ _ _ _ _ _ _ _ _ hf hP hD hS (lv_sub hl [1, 2] rfl)
  · have hf := ite_f hf hc
    refine lv_sipush (v := 256) hx hb dX6_readChange_22 (by decide) ?_
    refine lv_goto (tgt := 31) hx hb dX6_readChange_25 (by decide) ?_
    exact w_X6_readChange_31 C  _ _ _ _ _ _ _ _ _ _ hf hP hD hS (lv_sub hl [1, 2] rfl)
/-! MarbleFloor$ProgramReader.readTest(II)V -/
abbrev wlX6_readTest : List Cond := Cond.code yX6_readTest cX6_readTest 4 none :: tbG
abbrev rmX6_readTest : Room := { frames := 4, cells := 0, slots := 0, locals := 89 }
theorem qnX6_readTest : yX6_readTest.cls = RX6 ∧ yX6_readTest.cls ≠ "java/lang/invoke/MethodHandle" ∧ yX6_readTest.cls ≠ "java/lang/invoke/VarHandle" ∧ (parseMethodDescriptor yX6_readTest.desc).map (fun d => d.parameters.length) = some 2 := by decide +kernel
def f_X6_readTest_63 (r1 : Nat → Nat → Int32) (l1 : Nat → Nat → Int64) (l2 : Nat → Nat → Int64)  (i0 : Nat → Int32) (r0 : Nat → Nat → Int32) (i1 : Nat → Int32) (i2 : Nat → Int32) (r2 : Nat → Nat → Int32) (x1 : Int32) (x2 : Int32) (x3 : Int32) : Option ((Nat → Int32) × (Nat → Nat → Int32) × (Nat → Int32) × (Nat → Int32) × (Nat → Nat → Int32)) := bd (f_X6_readSum i0 r0 i1 r1 l1 i2 r2 l2) (fun q9 => bd (f_X5_addCode q9.2.2.2.1 q9.2.2.2.2 l2 (-x3)) (fun q10 => bd (f_X5_endSum q10.1 q10.2 l2 x1 x2) (fun q11 => some (q9.1, q9.2.1, q9.2.2.1, q10.1, q11))))
set_option maxRecDepth 100000 in
set_option maxHeartbeats 4000000 in
theorem w_X6_readTest_63 {p : Program} {l : Launch} {e : Env} {s : State} {m : MethodId} {args : Array Value} {below : List Frame} {meth : Method} {c : Code} {A : Nat → Prop} {D : va_G} {cs zs : Nat → Nat} {h0 : Nat} {a0 : Nat → Nat} {a1 : Nat → Nat} {a2 : Nat → Nat} {r1 : Nat → Nat → Int32} {l1 : Nat → Nat → Int64} {l2 : Nat → Nat → Int64} {q : (Nat → Int32) × (Nat → Nat → Int32) × (Nat → Int32) × (Nat → Int32) × (Nat → Nat → Int32)} (C : Cx p s m args meth c A D cs zs cX6_readTest 4 none RX6)  : ∀ (i0 : Nat → Int32) (r0 : Nat → Nat → Int32) (i1 : Nat → Int32) (i2 : Nat → Int32) (r2 : Nat → Nat → Int32) (x1 : Int32) (x2 : Int32) (x3 : Int32) (H : Heap) (locs : List Loc) (ls : Array Slot), f_X6_readTest_63 r1 l1 l2 i0 r0 i1 i2 r2 x1 x2 x3 = some q → va_P D vwCl (W6 cs h0 a0 i0 r0 ++ (W9 cs (a0 0) a1 i1 r1 l1 ++ W5 cs (a0 3) a2 i2 r2 l2)) H → va_D A (W6 cs h0 a0 i0 r0 ++ (W9 cs (a0 0) a1 i1 r1 l1 ++ W5 cs (a0 3) a2 i2 r2 l2)) → va_S A s.heap H locs → lv_has ls 4 [(0, .ref h0), (1, .int x1), (2, .int x2), (3, .int x3)] → W p l e rmX6_readTest s m args below meth c H locs 0 0 (MQ below (Qv D cs A (W6 cs h0 a0 q.1 q.2.1 ++ (W9 cs (a0 0) a1 q.2.2.1 r1 l1 ++ W5 cs (a0 3) a2 q.2.2.2.1 q.2.2.2.2 l2))) args s 0 0 A) (F0 m 63 ls []) := by
  obtain ⟨hx, hb, hr, hml, hown, hts, hK, hA, hlocks, hZ⟩ := id C
  intro i0 r0 i1 i2 r2 x1 x2 x3 H locs ls hf hP hD hS hl
  rw [f_X6_readTest_63] at hf
  refine lv_aload_n hx hb dX6_readTest_63 rfl (lv_at hl 0 rfl) ?_
  obtain ⟨q9, hq9, hf⟩ := bd_s hf
  refine k_sVv (ws2 := W6 cs h0 a0 q9.1 q9.2.1 ++ (W9 cs (a0 0) a1 q9.2.2.1 r1 l1 ++ W5 cs (a0 3) a2 q9.2.2.2.1 q9.2.2.2.2 l2)) (As := []) (rest := []) hx hb hml hown hts hK hA hZ hl.1 hP hD hS (c_X6_readSum (h0 := h0) (a0 := a0) (a1 := a1) (a2 := a2) hq9) (gVt mlX6_143 imX6_readSum seX6_readSum inX6 coX6_readSum) rfl qnX6_readSum rfl rfl ⟨Nat.le_of_ble_eq_true rfl, Nat.le_of_ble_eq_true rfl⟩ 0 6 rfl rfl rfl rfl rfl (Nat.le_of_ble_eq_true rfl) ⟨Nat.zero_le _, Nat.zero_le _⟩ dX6_readTest_64 (fun H locs hP hD hS => ?_)
  refine lv_aload_n hx hb dX6_readTest_67 rfl (lv_at hl 0 rfl) ?_
  refine va_get (D := D) (ci := 6) (v := .ref (a0 3)) (C := RX6) (T := TX6) (N := 9) hx hb hts hiX6 hown hK hP 0 rfl rfl 3 (by decide) (hts _ flX6_22) (fun _ h9 => h9) rfl dX6_readTest_68 ?_
  refine lv_iload_n hx hb dX6_readTest_71 rfl (lv_at hl 3 rfl) ?_
  refine lv_ineg hx hb dX6_readTest_72 ?_
  obtain ⟨q10, hq10, hf⟩ := bd_s hf
  refine k_pVv (wr := W6 cs h0 a0 q9.1 q9.2.1 ++ W9 cs (a0 0) a1 q9.2.2.1 r1 l1) (ws2 := W6 cs h0 a0 q9.1 q9.2.1 ++ (W9 cs (a0 0) a1 q9.2.2.1 r1 l1 ++ W5 cs (a0 3) a2 q10.1 q10.2 l2)) (As := [.int (-x3)]) (rest := []) hx hb hml hown hts hK hA hZ hl.1 hP hD hS (c_X5_addCode (h0 := (a0 3)) (a0 := a2) hq10) (gVt mlX6_149 imX5_addCode seX5_addCode inX5 coX5_addCode) rfl qnX5_addCode rfl rfl ⟨Nat.le_of_ble_eq_true rfl, Nat.le_of_ble_eq_true rfl⟩ [9, 10, 11, 12, 13, 14, 15, 16, 17, 18, 19, 20, 21, 22] [0, 1, 2, 3, 4, 5, 6, 7, 8] [0, 1, 2, 3, 4, 5, 6, 7, 8, 9, 10, 11, 12, 13, 14, 15, 16, 17, 18, 19, 20, 21, 22] rfl rfl rfl (by decide) 0 5 rfl rfl rfl rfl rfl (Nat.le_of_ble_eq_true rfl) ⟨Nat.zero_le _, Nat.zero_le _⟩ dX6_readTest_73 (fun H locs hP hD hS => ?_)
  refine lv_aload_n hx hb dX6_readTest_76 rfl (lv_at hl 0 rfl) ?_
  refine va_get (D := D) (ci := 6) (v := .ref (a0 3)) (C := RX6) (T := TX6) (N := 9) hx hb hts hiX6 hown hK hP 0 rfl rfl 3 (by decide) (hts _ flX6_22) (fun _ h9 => h9) rfl dX6_readTest_77 ?_
  refine lv_iload_n hx hb dX6_readTest_80 rfl (lv_at hl 1 rfl) ?_
  refine lv_iload_n hx hb dX6_readTest_81 rfl (lv_at hl 2 rfl) ?_
  obtain ⟨q11, hq11, hf⟩ := bd_s hf
  refine k_pVv (wr := W6 cs h0 a0 q9.1 q9.2.1 ++ W9 cs (a0 0) a1 q9.2.2.1 r1 l1) (ws2 := W6 cs h0 a0 q9.1 q9.2.1 ++ (W9 cs (a0 0) a1 q9.2.2.1 r1 l1 ++ W5 cs (a0 3) a2 q10.1 q11 l2)) (As := [.int x1, .int x2]) (rest := []) hx hb hml hown hts hK hA hZ hl.1 hP hD hS (c_X5_endSum (h0 := (a0 3)) (a0 := a2) hq11) (gVt mlX6_146 imX5_endSum seX5_endSum inX5 coX5_endSum) rfl qnX5_endSum rfl rfl ⟨Nat.le_of_ble_eq_true rfl, Nat.le_of_ble_eq_true rfl⟩ [9, 10, 11, 12, 13, 14, 15, 16, 17, 18, 19, 20, 21, 22] [0, 1, 2, 3, 4, 5, 6, 7, 8] [0, 1, 2, 3, 4, 5, 6, 7, 8, 9, 10, 11, 12, 13, 14, 15, 16, 17, 18, 19, 20, 21, 22] rfl rfl rfl (by decide) 0 5 rfl rfl rfl rfl rfl (Nat.le_of_ble_eq_true rfl) ⟨Nat.zero_le _, Nat.zero_le _⟩ dX6_readTest_82 (fun H locs hP hD hS => ?_)
  obtain rfl := Option.some.inj hf
  exact k_vret hx hb hr hlocks hK hP hD hS dX6_readTest_85
def f_X6_readTest_45 (r1 : Nat → Nat → Int32) (l1 : Nat → Nat → Int64) (l2 : Nat → Nat → Int64)  (i0 : Nat → Int32) (r0 : Nat → Nat → Int32) (i1 : Nat → Int32) (i2 : Nat → Int32) (r2 : Nat → Nat → Int32) (x1 : Int32) (x2 : Int32) (x3 : Int32) : Option ((Nat → Int32) × (Nat → Nat → Int32) × (Nat → Int32) × (Nat → Int32) × (Nat → Nat → Int32)) := bd (f_X9_advance i1 r1 l1) (fun q12 => f_X6_readTest_63 r1 l1 l2 i0 r0 q12 i2 r2 x1 x2 x3)
set_option maxRecDepth 100000 in
set_option maxHeartbeats 4000000 in
theorem w_X6_readTest_45 {p : Program} {l : Launch} {e : Env} {s : State} {m : MethodId} {args : Array Value} {below : List Frame} {meth : Method} {c : Code} {A : Nat → Prop} {D : va_G} {cs zs : Nat → Nat} {h0 : Nat} {a0 : Nat → Nat} {a1 : Nat → Nat} {a2 : Nat → Nat} {r1 : Nat → Nat → Int32} {l1 : Nat → Nat → Int64} {l2 : Nat → Nat → Int64} {q : (Nat → Int32) × (Nat → Nat → Int32) × (Nat → Int32) × (Nat → Int32) × (Nat → Nat → Int32)} (C : Cx p s m args meth c A D cs zs cX6_readTest 4 none RX6)  : ∀ (i0 : Nat → Int32) (r0 : Nat → Nat → Int32) (i1 : Nat → Int32) (i2 : Nat → Int32) (r2 : Nat → Nat → Int32) (x1 : Int32) (x2 : Int32) (x3 : Int32) (H : Heap) (locs : List Loc) (ls : Array Slot), f_X6_readTest_45 r1 l1 l2 i0 r0 i1 i2 r2 x1 x2 x3 = some q → va_P D vwCl (W6 cs h0 a0 i0 r0 ++ (W9 cs (a0 0) a1 i1 r1 l1 ++ W5 cs (a0 3) a2 i2 r2 l2)) H → va_D A (W6 cs h0 a0 i0 r0 ++ (W9 cs (a0 0) a1 i1 r1 l1 ++ W5 cs (a0 3) a2 i2 r2 l2)) → va_S A s.heap H locs → lv_has ls 4 [(0, .ref h0), (1, .int x1), (2, .int x2), (3, .int x3)] → W p l e rmX6_readTest s m args below meth c H locs 0 0 (MQ below (Qv D cs A (W6 cs h0 a0 q.1 q.2.1 ++ (W9 cs (a0 0) a1 q.2.2.1 r1 l1 ++ W5 cs (a0 3) a2 q.2.2.2.1 q.2.2.2.2 l2))) args s 0 0 A) (F0 m 45 ls []) := by
  obtain ⟨hx, hb, hr, hml, hown, hts, hK, hA, hlocks, hZ⟩ := id C
  intro i0 r0 i1 i2 r2 x1 x2 x3 H locs ls hf hP hD hS hl
  rw [f_X6_readTest_45] at hf
  refine lv_aload_n hx hb dX6_readTest_45 rfl (lv_at hl 0 rfl) ?_
  refine va_get (D := D) (ci := 6) (v := .ref (a0 0)) (C := RX6) (T := TX6) (N := 9) hx hb hts hiX6 hown hK hP 0 rfl rfl 0 (by decide) (hts _ flX6_18) (fun _ h9 => h9) rfl dX6_readTest_46 ?_
  obtain ⟨q12, hq12, hf⟩ := bd_s hf
  refine k_pVv (wr := W6 cs h0 a0 i0 r0 ++ W5 cs (a0 3) a2 i2 r2 l2) (ws2 := W6 cs h0 a0 i0 r0 ++ (W9 cs (a0 0) a1 q12 r1 l1 ++ W5 cs (a0 3) a2 i2 r2 l2)) (As := []) (rest := []) hx hb hml hown hts hK hA hZ hl.1 hP hD hS (c_X9_advance (h0 := (a0 0)) (a0 := a1) hq12) (gVt mlX6_109 imX9_advance seX9_advance inX9 coX9_advance) rfl qnX9_advance rfl rfl ⟨Nat.le_of_ble_eq_true rfl, Nat.le_of_ble_eq_true rfl⟩ [3, 4, 5, 6, 7, 8] [0, 1, 2, 9, 10, 11, 12, 13, 14, 15, 16, 17, 18, 19, 20, 21, 22] [0, 1, 2, 17, 18, 19, 20, 21, 22, 3, 4, 5, 6, 7, 8, 9, 10, 11, 12, 13, 14, 15, 16] rfl rfl rfl (by decide) 0 9 rfl rfl rfl rfl rfl (Nat.le_of_ble_eq_true rfl) ⟨Nat.zero_le _, Nat.zero_le _⟩ dX6_readTest_49 (fun H locs hP hD hS => ?_)
  refine lv_goto (tgt := 63) hx hb dX6_readTest_52 (by decide) ?_
  exact w_X6_readTest_63 C  _ _ _ _ _ _ _ _ _ _ _ hf hP hD hS (lv_sub hl [0, 1, 2, 3] rfl)
def f_X6_readTest  (i0 : Nat → Int32) (r0 : Nat → Nat → Int32) (i1 : Nat → Int32) (r1 : Nat → Nat → Int32) (l1 : Nat → Nat → Int64) (i2 : Nat → Int32) (r2 : Nat → Nat → Int32) (l2 : Nat → Nat → Int64) (x1 : Int32) (x2 : Int32) : Option ((Nat → Int32) × (Nat → Nat → Int32) × (Nat → Int32) × (Nat → Int32) × (Nat → Nat → Int32)) := bd (f_X5_beginSum i2 r2 l2 x1 x2) (fun q13 => bd (f_X6_readSum i0 r0 i1 r1 l1 i2 q13 l2) (fun q14 => bd (f_X9_kind q14.2.2.1 r1 l1) (fun q15 => if q15 = 61 then (f_X6_readTest_45 r1 l1 l2 q14.1 q14.2.1 q14.2.2.1 q14.2.2.2.1 q14.2.2.2.2 x1 x2 q15) else (if q15 = 60 then (f_X6_readTest_45 r1 l1 l2 q14.1 q14.2.1 q14.2.2.1 q14.2.2.2.1 q14.2.2.2.2 x1 x2 q15) else (if q15 = 62 then (f_X6_readTest_45 r1 l1 l2 q14.1 q14.2.1 q14.2.2.1 q14.2.2.2.1 q14.2.2.2.2 x1 x2 q15) else (if q15 = 33 then (f_X6_readTest_45 r1 l1 l2 q14.1 q14.2.1 q14.2.2.1 q14.2.2.2.1 q14.2.2.2.2 x1 x2 q15) else (bd (f_X9_fail q14.2.2.1 r1 l1 1) (fun q16 => f_X6_readTest_63 r1 l1 l2 q14.1 q14.2.1 q16 q14.2.2.2.1 q14.2.2.2.2 x1 x2 q15))))))))
set_option maxRecDepth 100000 in
set_option maxHeartbeats 4000000 in
theorem c_X6_readTest {l : Launch} {D : va_G} {cs zs : Nat → Nat} {h0 : Nat} {a0 : Nat → Nat} {a1 : Nat → Nat} {a2 : Nat → Nat} {i0 : Nat → Int32} {r0 : Nat → Nat → Int32} {i1 : Nat → Int32} {r1 : Nat → Nat → Int32} {l1 : Nat → Nat → Int64} {i2 : Nat → Int32} {r2 : Nat → Nat → Int32} {l2 : Nat → Nat → Int64} {x1 : Int32} {x2 : Int32} {q : (Nat → Int32) × (Nat → Nat → Int32) × (Nat → Int32) × (Nat → Int32) × (Nat → Nat → Int32)} (hf : f_X6_readTest i0 r0 i1 r1 l1 i2 r2 l2 x1 x2 = some q) : Mv l yX6_readTest wlX6_readTest rmX6_readTest D cs zs [.ref h0, .int x1, .int x2] (W6 cs h0 a0 i0 r0 ++ (W9 cs (a0 0) a1 i1 r1 l1 ++ W5 cs (a0 3) a2 i2 r2 l2)) (W6 cs h0 a0 q.1 q.2.1 ++ (W9 cs (a0 0) a1 q.2.2.1 r1 l1 ++ W5 cs (a0 3) a2 q.2.2.2.1 q.2.2.2.2 l2)) := by
  refine Mv.of RX6 (by decide) rfl (Nat.le_of_ble_eq_true rfl) (fun p e s m below meth c A C hP hD hS ls hl => ?_)
  generalize ([.ref h0, .int x1, .int x2] : List Value).toArray = args at C ⊢
  obtain ⟨hx, hb, hr, hml, hown, hts, hK, hA, hlocks, hZ⟩ := id C
  have hl : lv_has ls 4 [(0, .ref h0), (1, .int x1), (2, .int x2)] := hl
  rw [f_X6_readTest] at hf
  refine lv_aload_n hx hb dX6_readTest_0 rfl (lv_at hl 0 rfl) ?_
  refine va_get (D := D) (ci := 6) (v := .ref (a0 3)) (C := RX6) (T := TX6) (N := 9) hx hb hts hiX6 hown hK hP 0 rfl rfl 3 (by decide) (hts _ flX6_22) (fun _ h9 => h9) rfl dX6_readTest_1 ?_
  refine lv_iload_n hx hb dX6_readTest_4 rfl (lv_at hl 1 rfl) ?_
  refine lv_iload_n hx hb dX6_readTest_5 rfl (lv_at hl 2 rfl) ?_
  obtain ⟨q13, hq13, hf⟩ := bd_s hf
  refine k_pVv (wr := W6 cs h0 a0 i0 r0 ++ W9 cs (a0 0) a1 i1 r1 l1) (ws2 := W6 cs h0 a0 i0 r0 ++ (W9 cs (a0 0) a1 i1 r1 l1 ++ W5 cs (a0 3) a2 i2 q13 l2)) (As := [.int x1, .int x2]) (rest := []) hx hb hml hown hts hK hA hZ hl.1 hP hD hS (c_X5_beginSum (h0 := (a0 3)) (a0 := a2) hq13) (gVt mlX6_140 imX5_beginSum seX5_beginSum inX5 coX5_beginSum) rfl qnX5_beginSum rfl rfl ⟨Nat.le_of_ble_eq_true rfl, Nat.le_of_ble_eq_true rfl⟩ [9, 10, 11, 12, 13, 14, 15, 16, 17, 18, 19, 20, 21, 22] [0, 1, 2, 3, 4, 5, 6, 7, 8] [0, 1, 2, 3, 4, 5, 6, 7, 8, 9, 10, 11, 12, 13, 14, 15, 16, 17, 18, 19, 20, 21, 22] rfl rfl rfl (by decide) 0 5 rfl rfl rfl rfl rfl (Nat.le_of_ble_eq_true rfl) ⟨Nat.zero_le _, Nat.zero_le _⟩ dX6_readTest_6 (fun H locs hP hD hS => ?_)
  refine lv_aload_n hx hb dX6_readTest_9 rfl (lv_at hl 0 rfl) ?_
  obtain ⟨q14, hq14, hf⟩ := bd_s hf
  refine k_sVv (ws2 := W6 cs h0 a0 q14.1 q14.2.1 ++ (W9 cs (a0 0) a1 q14.2.2.1 r1 l1 ++ W5 cs (a0 3) a2 q14.2.2.2.1 q14.2.2.2.2 l2)) (As := []) (rest := []) hx hb hml hown hts hK hA hZ hl.1 hP hD hS (c_X6_readSum (h0 := h0) (a0 := a0) (a1 := a1) (a2 := a2) hq14) (gVt mlX6_143 imX6_readSum seX6_readSum inX6 coX6_readSum) rfl qnX6_readSum rfl rfl ⟨Nat.le_of_ble_eq_true rfl, Nat.le_of_ble_eq_true rfl⟩ 0 6 rfl rfl rfl rfl rfl (Nat.le_of_ble_eq_true rfl) ⟨Nat.zero_le _, Nat.zero_le _⟩ dX6_readTest_10 (fun H locs hP hD hS => ?_)
  refine lv_aload_n hx hb dX6_readTest_13 rfl (lv_at hl 0 rfl) ?_
  refine va_get (D := D) (ci := 6) (v := .ref (a0 0)) (C := RX6) (T := TX6) (N := 9) hx hb hts hiX6 hown hK hP 0 rfl rfl 0 (by decide) (hts _ flX6_18) (fun _ h9 => h9) rfl dX6_readTest_14 ?_
  obtain ⟨q15, hq15, hf⟩ := bd_s hf
  refine k_pVi (wr := W6 cs h0 a0 q14.1 q14.2.1 ++ W5 cs (a0 3) a2 q14.2.2.2.1 q14.2.2.2.2 l2) (ws2 := W6 cs h0 a0 q14.1 q14.2.1 ++ (W9 cs (a0 0) a1 q14.2.2.1 r1 l1 ++ W5 cs (a0 3) a2 q14.2.2.2.1 q14.2.2.2.2 l2)) (As := []) (rest := []) hx hb hml hown hts hK hA hZ hl.1 hP hD hS (c_X9_kind (h0 := (a0 0)) (a0 := a1) hq15) (gVt mlX6_46 imX9_kind seX9_kind inX9 coX9_kind) rfl qnX9_kind rfl rfl ⟨Nat.le_of_ble_eq_true rfl, Nat.le_of_ble_eq_true rfl⟩ [3, 4, 5, 6, 7, 8] [0, 1, 2, 9, 10, 11, 12, 13, 14, 15, 16, 17, 18, 19, 20, 21, 22] [0, 1, 2, 17, 18, 19, 20, 21, 22, 3, 4, 5, 6, 7, 8, 9, 10, 11, 12, 13, 14, 15, 16] rfl rfl rfl (by decide) 0 9 rfl rfl rfl rfl rfl (Nat.le_of_ble_eq_true rfl) ⟨Nat.zero_le _, Nat.zero_le _⟩ dX6_readTest_17 (fun H locs hP hD hS => ?_)
  refine lv_istore_n (lv' := [(3, .int q15), (0, .ref h0), (1, .int x1), (2, .int x2)]) hx hb dX6_readTest_20 rfl hl (by decide) rfl (fun ls hl => ?_)
  refine lv_iload_n hx hb dX6_readTest_21 rfl (lv_at hl 0 rfl) ?_
  refine lv_bipush (v := 61) hx hb dX6_readTest_22 (by decide) ?_
  refine lv_icmp_eq (tgt := 45) hx hb dX6_readTest_24 (by decide) (fun hc => ?_) (fun hc => ?_)
  · have hf := ite_t hf hc
    exact w_X6_readTest_45 C  _ _ _ _ _ _ _ _ _ _ _ hf hP hD hS (lv_sub hl [1, 2, 3, 0] rfl)
  · have hf := ite_f hf hc
    refine lv_iload_n hx hb dX6_readTest_27 rfl (lv_at hl 0 rfl) ?_
    refine lv_bipush (v := 60) hx hb dX6_readTest_28 (by decide) ?_
    refine lv_icmp_eq (tgt := 45) hx hb dX6_readTest_30 (by decide) (fun hc => ?_) (fun hc => ?_)
    · have hf := ite_t hf hc
      exact w_X6_readTest_45 C  _ _ _ _ _ _ _ _ _ _ _ hf hP hD hS (lv_sub hl [1, 2, 3, 0] rfl)
    · have hf := ite_f hf hc
      refine lv_iload_n hx hb dX6_readTest_33 rfl (lv_at hl 0 rfl) ?_
      refine lv_bipush (v := 62) hx hb dX6_readTest_34 (by decide) ?_
      refine lv_icmp_eq (tgt := 45) hx hb dX6_readTest_36 (by decide) (fun hc => ?_) (fun hc => ?_)
      · have hf := ite_t hf hc
        exact w_X6_readTest_45 C  _ _ _ _ _ _ _ _ _ _ _ hf hP hD hS (lv_sub hl [1, 2, 3, 0] rfl)
      · have hf := ite_f hf hc
        refine lv_iload_n hx hb dX6_readTest_39 rfl (lv_at hl 0 rfl) ?_
        refine lv_bipush (v := 33) hx hb dX6_readTest_40 (by decide) ?_
        refine lv_icmp_ne (tgt := 55) hx hb dX6_readTest_42 (by decide) (fun hc => ?_) (fun hc => ?_)
        · have hf := ite_f hf hc
          refine lv_aload_n hx hb dX6_readTest_55 rfl (lv_at hl 1 rfl) ?_
          refine va_get (D := D) (ci := 6) (v := .ref (a0 0)) (C := RX6) (T := TX6) (N := 9) hx hb hts hiX6 hown hK hP 0 rfl rfl 0 (by decide) (hts _ flX6_18) (fun _ h9 => h9) rfl dX6_readTest_56 ?_
          refine lv_iconst (v := 1) hx hb dX6_readTest_59 (by decide) ?_
          obtain ⟨q16, hq16, hf⟩ := bd_s hf
          refine k_pVv (wr := W6 cs h0 a0 q14.1 q14.2.1 ++ W5 cs (a0 3) a2 q14.2.2.2.1 q14.2.2.2.2 l2) (ws2 := W6 cs h0 a0 q14.1 q14.2.1 ++ (W9 cs (a0 0) a1 q16 r1 l1 ++ W5 cs (a0 3) a2 q14.2.2.2.1 q14.2.2.2.2 l2)) (As := [.int 1]) (rest := []) hx hb hml hown hts hK hA hZ hl.1 hP hD hS (c_X9_fail (h0 := (a0 0)) (a0 := a1) hq16) (gVt mlX6_69 imX9_fail seX9_fail inX9 coX9_fail) rfl qnX9_fail rfl rfl ⟨Nat.le_of_ble_eq_true rfl, Nat.le_of_ble_eq_true rfl⟩ [3, 4, 5, 6, 7, 8] [0, 1, 2, 9, 10, 11, 12, 13, 14, 15, 16, 17, 18, 19, 20, 21, 22] [0, 1, 2, 17, 18, 19, 20, 21, 22, 3, 4, 5, 6, 7, 8, 9, 10, 11, 12, 13, 14, 15, 16] rfl rfl rfl (by decide) 0 9 rfl rfl rfl rfl rfl (Nat.le_of_ble_eq_true rfl) ⟨Nat.zero_le _, Nat.zero_le _⟩ dX6_readTest_60 (fun H locs hP hD hS => ?_)
          exact w_X6_readTest_63 C  _ _ _ _ _ _ _ _ _ _ _ hf hP hD hS (lv_sub hl [1, 2, 3, 0] rfl)
        · have hf := ite_t hf hc
          exact w_X6_readTest_45 C  _ _ _ _ _ _ _ _ _ _ _ hf hP hD hS (lv_sub hl [1, 2, 3, 0] rfl)
/-! MarbleFloor$ProgramReader.readSwap(I)V -/
abbrev wlX6_readSwap : List Cond := Cond.code yX6_readSwap cX6_readSwap 4 none :: tbG
abbrev rmX6_readSwap : Room := { frames := 3, cells := 0, slots := 0, locals := 67 }
theorem qnX6_readSwap : yX6_readSwap.cls = RX6 ∧ yX6_readSwap.cls ≠ "java/lang/invoke/MethodHandle" ∧ yX6_readSwap.cls ≠ "java/lang/invoke/VarHandle" ∧ (parseMethodDescriptor yX6_readSwap.desc).map (fun d => d.parameters.length) = some 1 := by decide +kernel
def f_X6_readSwap_45 (r0 : Nat → Nat → Int32) (r1 : Nat → Nat → Int32) (l1 : Nat → Nat → Int64) (i2 : Nat → Int32) (l2 : Nat → Nat → Int64)  (i0 : Nat → Int32) (i1 : Nat → Int32) (r2 : Nat → Nat → Int32) (x1 : Int32) (x2 : Int32) : Option ((Nat → Int32) × (Nat → Int32) × (Nat → Nat → Int32)) := bd (f_X6_readVar i0 r0 i1 r1 l1 i2 r2 l2) (fun q4 => bd (f_X5_setVars i2 r2 l2 x1 x2 q4.1) (fun q5 => some ((upd i0 8 0), q4.2, q5)))
set_option maxRecDepth 100000 in
set_option maxHeartbeats 4000000 in
theorem w_X6_readSwap_45 {p : Program} {l : Launch} {e : Env} {s : State} {m : MethodId} {args : Array Value} {below : List Frame} {meth : Method} {c : Code} {A : Nat → Prop} {D : va_G} {cs zs : Nat → Nat} {h0 : Nat} {a0 : Nat → Nat} {a1 : Nat → Nat} {a2 : Nat → Nat} {r0 : Nat → Nat → Int32} {r1 : Nat → Nat → Int32} {l1 : Nat → Nat → Int64} {i2 : Nat → Int32} {l2 : Nat → Nat → Int64} {q : (Nat → Int32) × (Nat → Int32) × (Nat → Nat → Int32)} (C : Cx p s m args meth c A D cs zs cX6_readSwap 4 none RX6)  : ∀ (i0 : Nat → Int32) (i1 : Nat → Int32) (r2 : Nat → Nat → Int32) (x1 : Int32) (x2 : Int32) (H : Heap) (locs : List Loc) (ls : Array Slot), f_X6_readSwap_45 r0 r1 l1 i2 l2 i0 i1 r2 x1 x2 = some q → va_P D vwCl (W6 cs h0 a0 i0 r0 ++ (W9 cs (a0 0) a1 i1 r1 l1 ++ W5 cs (a0 3) a2 i2 r2 l2)) H → va_D A (W6 cs h0 a0 i0 r0 ++ (W9 cs (a0 0) a1 i1 r1 l1 ++ W5 cs (a0 3) a2 i2 r2 l2)) → va_S A s.heap H locs → lv_has ls 4 [(0, .ref h0), (1, .int x1), (2, .int x2)] → W p l e rmX6_readSwap s m args below meth c H locs 0 0 (MQ below (Qv D cs A (W6 cs h0 a0 q.1 r0 ++ (W9 cs (a0 0) a1 q.2.1 r1 l1 ++ W5 cs (a0 3) a2 i2 q.2.2 l2))) args s 0 0 A) (F0 m 45 ls []) := by
  obtain ⟨hx, hb, hr, hml, hown, hts, hK, hA, hlocks, hZ⟩ := id C
  intro i0 i1 r2 x1 x2 H locs ls hf hP hD hS hl
  rw [f_X6_readSwap_45] at hf
  refine lv_aload_n hx hb dX6_readSwap_45 rfl (lv_at hl 0 rfl) ?_
  obtain ⟨q4, hq4, hf⟩ := bd_s hf
  refine k_sVi (ws2 := W6 cs h0 a0 i0 r0 ++ (W9 cs (a0 0) a1 q4.2 r1 l1 ++ W5 cs (a0 3) a2 i2 r2 l2)) (As := []) (rest := []) hx hb hml hown hts hK hA hZ hl.1 hP hD hS (c_X6_readVar (h0 := h0) (a0 := a0) (a1 := a1) (a2 := a2) hq4) (gVt mlX6_133 imX6_readVar seX6_readVar inX6 coX6_readVar) rfl qnX6_readVar rfl rfl ⟨Nat.le_of_ble_eq_true rfl, Nat.le_of_ble_eq_true rfl⟩ 0 6 rfl rfl rfl rfl rfl (Nat.le_of_ble_eq_true rfl) ⟨Nat.zero_le _, Nat.zero_le _⟩ dX6_readSwap_46 (fun H locs hP hD hS => ?_)
  refine lv_istore_n (lv' := [(3, .int q4.1), (0, .ref h0), (1, .int x1), (2, .int x2)]) hx hb dX6_readSwap_49 rfl hl (by decide) rfl (fun ls hl => ?_)
  refine lv_aload_n hx hb dX6_readSwap_50 rfl (lv_at hl 1 rfl) ?_
  refine lv_iconst (v := 0) hx hb dX6_readSwap_51 (by decide) ?_
  refine va_put (D := D) (ci := 6) (v := .int 0) (ty := .int) (C := RX6) (T := TX6) (N := 9) hx hb hts hiX6 tyX6 tyX6_ok nmX6 hown hK hP hD hS 0 rfl rfl 8 (by decide) (hts _ flX6_38) (fun _ h9 => h9) rfl (tyX6_ok 8 (by decide)) rfl rfl (Nat.le_of_ble_eq_true rfl) dX6_readSwap_52 (fun H locs hP hD hS => ?_)
  obtain ⟨hP, hD⟩ := st6_8_T hP hD
  refine lv_aload_n hx hb dX6_readSwap_55 rfl (lv_at hl 1 rfl) ?_
  refine va_get (D := D) (ci := 6) (v := .ref (a0 3)) (C := RX6) (T := TX6) (N := 9) hx hb hts hiX6 hown hK hP 0 rfl rfl 3 (by decide) (hts _ flX6_22) (fun _ h9 => h9) rfl dX6_readSwap_56 ?_
  refine lv_iload_n hx hb dX6_readSwap_59 rfl (lv_at hl 2 rfl) ?_
  refine lv_iload_n hx hb dX6_readSwap_60 rfl (lv_at hl 3 rfl) ?_
  refine lv_iload_n hx hb dX6_readSwap_61 rfl (lv_at hl 0 rfl) ?_
  obtain ⟨q5, hq5, hf⟩ := bd_s hf
  refine k_pVv (wr := W6 cs h0 a0 (upd i0 8 0) r0 ++ W9 cs (a0 0) a1 q4.2 r1 l1) (ws2 := W6 cs h0 a0 (upd i0 8 0) r0 ++ (W9 cs (a0 0) a1 q4.2 r1 l1 ++ W5 cs (a0 3) a2 i2 q5 l2)) (As := [.int x1, .int x2, .int q4.1]) (rest := []) hx hb hml hown hts hK hA hZ hl.1 hP hD hS (c_X5_setVars (h0 := (a0 3)) (a0 := a2) hq5) (gVt mlX6_136 imX5_setVars seX5_setVars inX5 coX5_setVars) rfl qnX5_setVars rfl rfl ⟨Nat.le_of_ble_eq_true rfl, Nat.le_of_ble_eq_true rfl⟩ [9, 10, 11, 12, 13, 14, 15, 16, 17, 18, 19, 20, 21, 22] [0, 1, 2, 3, 4, 5, 6, 7, 8] [0, 1, 2, 3, 4, 5, 6, 7, 8, 9, 10, 11, 12, 13, 14, 15, 16, 17, 18, 19, 20, 21, 22] rfl rfl rfl (by decide) 0 5 rfl rfl rfl rfl rfl (Nat.le_of_ble_eq_true rfl) ⟨Nat.zero_le _, Nat.zero_le _⟩ dX6_readSwap_62 (fun H locs hP hD hS => ?_)
  obtain rfl := Option.some.inj hf
  exact k_vret hx hb hr hlocks hK hP hD hS dX6_readSwap_65
def f_X6_readSwap_21 (r0 : Nat → Nat → Int32) (r1 : Nat → Nat → Int32) (l1 : Nat → Nat → Int64) (i2 : Nat → Int32) (l2 : Nat → Nat → Int64)  (i0 : Nat → Int32) (i1 : Nat → Int32) (r2 : Nat → Nat → Int32) (x1 : Int32) (x2 : Int32) (y0 : Int32) : Option ((Nat → Int32) × (Nat → Int32) × (Nat → Nat → Int32)) := if x2 < 20 then (f_X6_readSwap_45 r0 r1 l1 i2 l2 (upd i0 8 y0) i1 r2 x1 x2) else (f_X6_readSwap_45 r0 r1 l1 i2 l2 (upd (upd i0 8 y0) 8 (y0 ||| ((1 : Int32) <<< ((x2 - 20) &&& 31)))) i1 r2 x1 x2)
set_option maxRecDepth 100000 in
set_option maxHeartbeats 4000000 in
theorem w_X6_readSwap_21 {p : Program} {l : Launch} {e : Env} {s : State} {m : MethodId} {args : Array Value} {below : List Frame} {meth : Method} {c : Code} {A : Nat → Prop} {D : va_G} {cs zs : Nat → Nat} {h0 : Nat} {a0 : Nat → Nat} {a1 : Nat → Nat} {a2 : Nat → Nat} {r0 : Nat → Nat → Int32} {r1 : Nat → Nat → Int32} {l1 : Nat → Nat → Int64} {i2 : Nat → Int32} {l2 : Nat → Nat → Int64} {q : (Nat → Int32) × (Nat → Int32) × (Nat → Nat → Int32)} (C : Cx p s m args meth c A D cs zs cX6_readSwap 4 none RX6)  : ∀ (i0 : Nat → Int32) (i1 : Nat → Int32) (r2 : Nat → Nat → Int32) (x1 : Int32) (x2 : Int32) (y0 : Int32) (H : Heap) (locs : List Loc) (ls : Array Slot), f_X6_readSwap_21 r0 r1 l1 i2 l2 i0 i1 r2 x1 x2 y0 = some q → va_P D vwCl (W6 cs h0 a0 i0 r0 ++ (W9 cs (a0 0) a1 i1 r1 l1 ++ W5 cs (a0 3) a2 i2 r2 l2)) H → va_D A (W6 cs h0 a0 i0 r0 ++ (W9 cs (a0 0) a1 i1 r1 l1 ++ W5 cs (a0 3) a2 i2 r2 l2)) → va_S A s.heap H locs → lv_has ls 4 [(0, .ref h0), (1, .int x1), (2, .int x2)] → W p l e rmX6_readSwap s m args below meth c H locs 0 0 (MQ below (Qv D cs A (W6 cs h0 a0 q.1 r0 ++ (W9 cs (a0 0) a1 q.2.1 r1 l1 ++ W5 cs (a0 3) a2 i2 q.2.2 l2))) args s 0 0 A) (F0 m 21 ls [.int y0, .ref h0]) := by
  obtain ⟨hx, hb, hr, hml, hown, hts, hK, hA, hlocks, hZ⟩ := id C
  intro i0 i1 r2 x1 x2 y0 H locs ls hf hP hD hS hl
  rw [f_X6_readSwap_21] at hf
  refine va_put (D := D) (ci := 6) (v := .int y0) (ty := .int) (C := RX6) (T := TX6) (N := 9) hx hb hts hiX6 tyX6 tyX6_ok nmX6 hown hK hP hD hS 0 rfl rfl 8 (by decide) (hts _ flX6_38) (fun _ h9 => h9) rfl (tyX6_ok 8 (by decide)) rfl rfl (Nat.le_of_ble_eq_true rfl) dX6_readSwap_21 (fun H locs hP hD hS => ?_)
  obtain ⟨hP, hD⟩ := st6_8_T hP hD
  refine lv_iload_n hx hb dX6_readSwap_24 rfl (lv_at hl 2 rfl) ?_
  refine lv_bipush (v := 20) hx hb dX6_readSwap_25 (by decide) ?_
  refine lv_icmp_lt (tgt := 45) hx hb dX6_readSwap_27 (by decide) (fun hc => ?_) (fun hc => ?_)
  · have hf := ite_t hf hc
    exact w_X6_readSwap_45 C  _ _ _ _ _ _ _ _ hf hP hD hS (lv_sub hl [0, 1, 2] rfl)
  · have hf := ite_f hf hc
    refine lv_aload_n hx hb dX6_readSwap_30 rfl (lv_at hl 0 rfl) ?_
    refine lv_dup hx hb dX6_readSwap_31 rfl ?_
    refine va_get (D := D) (ci := 6) (v := .int y0) (C := RX6) (T := TX6) (N := 9) hx hb hts hiX6 hown hK hP 0 rfl rfl 8 (by decide) (hts _ flX6_38) (fun _ h9 => h9) rfl dX6_readSwap_32 ?_
    refine lv_iconst (v := 1) hx hb dX6_readSwap_35 (by decide) ?_
    refine lv_iload_n hx hb dX6_readSwap_36 rfl (lv_at hl 2 rfl) ?_
    refine lv_bipush (v := 20) hx hb dX6_readSwap_37 (by decide) ?_
    refine lv_isub hx hb dX6_readSwap_39 ?_
    refine lv_ishl hx hb dX6_readSwap_40 ?_
    refine lv_ior hx hb dX6_readSwap_41 ?_
    refine va_put (D := D) (ci := 6) (v := .int (y0 ||| ((1 : Int32) <<< ((x2 - 20) &&& 31)))) (ty := .int) (C := RX6) (T := TX6) (N := 9) hx hb hts hiX6 tyX6 tyX6_ok nmX6 hown hK hP hD hS 0 rfl rfl 8 (by decide) (hts _ flX6_38) (fun _ h9 => h9) rfl (tyX6_ok 8 (by decide)) rfl rfl (Nat.le_of_ble_eq_true rfl) dX6_readSwap_42 (fun H locs hP hD hS => ?_)
    obtain ⟨hP, hD⟩ := st6_8_T hP hD
    exact w_X6_readSwap_45 C  _ _ _ _ _ _ _ _ hf hP hD hS (lv_sub hl [0, 1, 2] rfl)
def f_X6_readSwap  (i0 : Nat → Int32) (r0 : Nat → Nat → Int32) (i1 : Nat → Int32) (r1 : Nat → Nat → Int32) (l1 : Nat → Nat → Int64) (i2 : Nat → Int32) (r2 : Nat → Nat → Int32) (l2 : Nat → Nat → Int64) (x1 : Int32) : Option ((Nat → Int32) × (Nat → Int32) × (Nat → Nat → Int32)) := bd (f_X6_readVar i0 r0 i1 r1 l1 i2 r2 l2) (fun q6 => if q6.1 < 10 then (f_X6_readSwap_21 r0 r1 l1 i2 l2 i0 q6.2 r2 x1 q6.1 ((1 : Int32) <<< (q6.1 &&& 31))) else (f_X6_readSwap_21 r0 r1 l1 i2 l2 i0 q6.2 r2 x1 q6.1 256))
set_option maxRecDepth 100000 in
set_option maxHeartbeats 4000000 in
theorem c_X6_readSwap {l : Launch} {D : va_G} {cs zs : Nat → Nat} {h0 : Nat} {a0 : Nat → Nat} {a1 : Nat → Nat} {a2 : Nat → Nat} {i0 : Nat → Int32} {r0 : Nat → Nat → Int32} {i1 : Nat → Int32} {r1 : Nat → Nat → Int32} {l1 : Nat → Nat → Int64} {i2 : Nat → Int32} {r2 : Nat → Nat → Int32} {l2 : Nat → Nat → Int64} {x1 : Int32} {q : (Nat → Int32) × (Nat → Int32) × (Nat → Nat → Int32)} (hf : f_X6_readSwap i0 r0 i1 r1 l1 i2 r2 l2 x1 = some q) : Mv l yX6_readSwap wlX6_readSwap rmX6_readSwap D cs zs [.ref h0, .int x1] (W6 cs h0 a0 i0 r0 ++ (W9 cs (a0 0) a1 i1 r1 l1 ++ W5 cs (a0 3) a2 i2 r2 l2)) (W6 cs h0 a0 q.1 r0 ++ (W9 cs (a0 0) a1 q.2.1 r1 l1 ++ W5 cs (a0 3) a2 i2 q.2.2 l2)) := by
  refine Mv.of RX6 (by decide) rfl (Nat.le_of_ble_eq_true rfl) (fun p e s m below meth c A C hP hD hS ls hl => ?_)
  generalize ([.ref h0, .int x1] : List Value).toArray = args at C ⊢
  obtain ⟨hx, hb, hr, hml, hown, hts, hK, hA, hlocks, hZ⟩ := id C
  have hl : lv_has ls 4 [(0, .ref h0), (1, .int x1)] := hl
  rw [f_X6_readSwap] at hf
  refine lv_aload_n hx hb dX6_readSwap_0 rfl (lv_at hl 0 rfl) ?_
  obtain ⟨q6, hq6, hf⟩ := bd_s hf
  refine k_sVi (ws2 := W6 cs h0 a0 i0 r0 ++ (W9 cs (a0 0) a1 q6.2 r1 l1 ++ W5 cs (a0 3) a2 i2 r2 l2)) (As := []) (rest := []) hx hb hml hown hts hK hA hZ hl.1 hP hD hS (c_X6_readVar (h0 := h0) (a0 := a0) (a1 := a1) (a2 := a2) hq6) (gVt mlX6_133 imX6_readVar seX6_readVar inX6 coX6_readVar) rfl qnX6_readVar rfl rfl ⟨Nat.le_of_ble_eq_true rfl, Nat.le_of_ble_eq_true rfl⟩ 0 6 rfl rfl rfl rfl rfl (Nat.le_of_ble_eq_true rfl) ⟨Nat.zero_le _, Nat.zero_le _⟩ dX6_readSwap_1 (fun H locs hP hD hS => ?_)
  refine lv_istore_n (lv' := [(2, .int q6.1), (0, .ref h0), (1, .int x1)]) hx hb dX6_readSwap_4 rfl hl (by decide) rfl (fun ls hl => ?_)
  refine lv_aload_n hx hb dX6_readSwap_5 rfl (lv_at hl 1 rfl) ?_
  refine lv_iload_n hx hb dX6_readSwap_6 rfl (lv_at hl 0 rfl) ?_
  refine lv_bipush (v := 10) hx hb dX6_readSwap_7 (by decide) ?_
  refine lv_icmp_lt (tgt := 18) hx hb dX6_readSwap_9 (by decide) (fun hc => ?_) (fun hc => ?_)
  · have hf := ite_t hf hc
    refine lv_iconst (v := 1) hx hb dX6_readSwap_18 (by decide) ?_
    refine lv_iload_n hx hb dX6_readSwap_19 rfl (lv_at hl 0 rfl) ?_
    refine lv_ishl hx hb dX6_readSwap_20 ?_
    exact w_X6_readSwap_21 C  _ _ _ _ _ _ _ _ _ hf hP hD hS (lv_sub hl [1, 2, 0] rfl)
  · have hf := ite_f hf hc
    refine lv_sipush (v := 256) hx hb dX6_readSwap_12 (by decide) ?_
    refine lv_goto (tgt := 21) hx hb dX6_readSwap_15 (by decide) ?_
    exact w_X6_readSwap_21 C  _ _ _ _ _ _ _ _ _ hf hP hD hS (lv_sub hl [1, 2, 0] rfl)
/-! MarbleFloor$ProgramReader.readStep()V -/
abbrev wlX6_readStep : List Cond := Cond.code yX6_readStep cX6_readStep 4 none :: tbG
abbrev rmX6_readStep : Room := { frames := 5, cells := 0, slots := 0, locals := 112 }
theorem qnX6_readStep : yX6_readStep.cls = RX6 ∧ yX6_readStep.cls ≠ "java/lang/invoke/MethodHandle" ∧ yX6_readStep.cls ≠ "java/lang/invoke/VarHandle" ∧ (parseMethodDescriptor yX6_readStep.desc).map (fun d => d.parameters.length) = some 0 := by decide +kernel
def f_X6_readStep_49 (r1 : Nat → Nat → Int32) (l1 : Nat → Nat → Int64)  (i0 : Nat → Int32) (r0 : Nat → Nat → Int32) (i1 : Nat → Int32) (i2 : Nat → Int32) (l2 : Nat → Nat → Int64) (r2 : Nat → Nat → Int32) : Option ((Nat → Int32) × (Nat → Nat → Int32) × (Nat → Int32) × (Nat → Int32) × (Nat → Nat → Int64) × (Nat → Nat → Int32)) := bd (f_X9_fail i1 r1 l1 4) (fun q14 => some (i0, r0, q14, i2, l2, r2))
set_option maxRecDepth 100000 in
set_option maxHeartbeats 4000000 in
theorem w_X6_readStep_49 {p : Program} {l : Launch} {e : Env} {s : State} {m : MethodId} {args : Array Value} {below : List Frame} {meth : Method} {c : Code} {A : Nat → Prop} {D : va_G} {cs zs : Nat → Nat} {h0 : Nat} {a0 : Nat → Nat} {a1 : Nat → Nat} {a2 : Nat → Nat} {r1 : Nat → Nat → Int32} {l1 : Nat → Nat → Int64} {q : (Nat → Int32) × (Nat → Nat → Int32) × (Nat → Int32) × (Nat → Int32) × (Nat → Nat → Int64) × (Nat → Nat → Int32)} (C : Cx p s m args meth c A D cs zs cX6_readStep 4 none RX6)  : ∀ (i0 : Nat → Int32) (r0 : Nat → Nat → Int32) (i1 : Nat → Int32) (i2 : Nat → Int32) (l2 : Nat → Nat → Int64) (r2 : Nat → Nat → Int32) (H : Heap) (locs : List Loc) (ls : Array Slot), f_X6_readStep_49 r1 l1 i0 r0 i1 i2 l2 r2 = some q → va_P D vwCl (W6 cs h0 a0 i0 r0 ++ (W9 cs (a0 0) a1 i1 r1 l1 ++ W5 cs (a0 3) a2 i2 r2 l2)) H → va_D A (W6 cs h0 a0 i0 r0 ++ (W9 cs (a0 0) a1 i1 r1 l1 ++ W5 cs (a0 3) a2 i2 r2 l2)) → va_S A s.heap H locs → lv_has ls 4 [(0, .ref h0)] → W p l e rmX6_readStep s m args below meth c H locs 0 0 (MQ below (Qv D cs A (W6 cs h0 a0 q.1 q.2.1 ++ (W9 cs (a0 0) a1 q.2.2.1 r1 l1 ++ W5 cs (a0 3) a2 q.2.2.2.1 q.2.2.2.2.2 q.2.2.2.2.1))) args s 0 0 A) (F0 m 49 ls []) := by
  obtain ⟨hx, hb, hr, hml, hown, hts, hK, hA, hlocks, hZ⟩ := id C
  intro i0 r0 i1 i2 l2 r2 H locs ls hf hP hD hS hl
  rw [f_X6_readStep_49] at hf
  refine lv_aload_n hx hb dX6_readStep_49 rfl (lv_at hl 0 rfl) ?_
  refine va_get (D := D) (ci := 6) (v := .ref (a0 0)) (C := RX6) (T := TX6) (N := 9) hx hb hts hiX6 hown hK hP 0 rfl rfl 0 (by decide) (hts _ flX6_18) (fun _ h9 => h9) rfl dX6_readStep_50 ?_
  refine lv_iconst (v := 4) hx hb dX6_readStep_53 (by decide) ?_
  obtain ⟨q14, hq14, hf⟩ := bd_s hf
  refine k_pVv (wr := W6 cs h0 a0 i0 r0 ++ W5 cs (a0 3) a2 i2 r2 l2) (ws2 := W6 cs h0 a0 i0 r0 ++ (W9 cs (a0 0) a1 q14 r1 l1 ++ W5 cs (a0 3) a2 i2 r2 l2)) (As := [.int 4]) (rest := []) hx hb hml hown hts hK hA hZ hl.1 hP hD hS (c_X9_fail (h0 := (a0 0)) (a0 := a1) hq14) (gVt mlX6_69 imX9_fail seX9_fail inX9 coX9_fail) rfl qnX9_fail rfl rfl ⟨Nat.le_of_ble_eq_true rfl, Nat.le_of_ble_eq_true rfl⟩ [3, 4, 5, 6, 7, 8] [0, 1, 2, 9, 10, 11, 12, 13, 14, 15, 16, 17, 18, 19, 20, 21, 22] [0, 1, 2, 17, 18, 19, 20, 21, 22, 3, 4, 5, 6, 7, 8, 9, 10, 11, 12, 13, 14, 15, 16] rfl rfl rfl (by decide) 0 9 rfl rfl rfl rfl rfl (Nat.le_of_ble_eq_true rfl) ⟨Nat.zero_le _, Nat.zero_le _⟩ dX6_readStep_54 (fun H locs hP hD hS => ?_)
  obtain rfl := Option.some.inj hf
  exact k_vret hx hb hr hlocks hK hP hD hS dX6_readStep_57
def f_X6_readStep_203 (r1 : Nat → Nat → Int32) (l1 : Nat → Nat → Int64)  (i0 : Nat → Int32) (r0 : Nat → Nat → Int32) (i1 : Nat → Int32) (i2 : Nat → Int32) (l2 : Nat → Nat → Int64) (r2 : Nat → Nat → Int32) : Option ((Nat → Int32) × (Nat → Nat → Int32) × (Nat → Int32) × (Nat → Int32) × (Nat → Nat → Int64) × (Nat → Nat → Int32)) := bd (f_X9_wantKind i1 r1 l1 59) (fun q15 => some (i0, r0, q15, i2, l2, r2))
set_option maxRecDepth 100000 in
set_option maxHeartbeats 4000000 in
theorem w_X6_readStep_203 {p : Program} {l : Launch} {e : Env} {s : State} {m : MethodId} {args : Array Value} {below : List Frame} {meth : Method} {c : Code} {A : Nat → Prop} {D : va_G} {cs zs : Nat → Nat} {h0 : Nat} {a0 : Nat → Nat} {a1 : Nat → Nat} {a2 : Nat → Nat} {r1 : Nat → Nat → Int32} {l1 : Nat → Nat → Int64} {q : (Nat → Int32) × (Nat → Nat → Int32) × (Nat → Int32) × (Nat → Int32) × (Nat → Nat → Int64) × (Nat → Nat → Int32)} (C : Cx p s m args meth c A D cs zs cX6_readStep 4 none RX6)  : ∀ (i0 : Nat → Int32) (r0 : Nat → Nat → Int32) (i1 : Nat → Int32) (i2 : Nat → Int32) (l2 : Nat → Nat → Int64) (r2 : Nat → Nat → Int32) (H : Heap) (locs : List Loc) (ls : Array Slot), f_X6_readStep_203 r1 l1 i0 r0 i1 i2 l2 r2 = some q → va_P D vwCl (W6 cs h0 a0 i0 r0 ++ (W9 cs (a0 0) a1 i1 r1 l1 ++ W5 cs (a0 3) a2 i2 r2 l2)) H → va_D A (W6 cs h0 a0 i0 r0 ++ (W9 cs (a0 0) a1 i1 r1 l1 ++ W5 cs (a0 3) a2 i2 r2 l2)) → va_S A s.heap H locs → lv_has ls 4 [(0, .ref h0)] → W p l e rmX6_readStep s m args below meth c H locs 0 0 (MQ below (Qv D cs A (W6 cs h0 a0 q.1 q.2.1 ++ (W9 cs (a0 0) a1 q.2.2.1 r1 l1 ++ W5 cs (a0 3) a2 q.2.2.2.1 q.2.2.2.2.2 q.2.2.2.2.1))) args s 0 0 A) (F0 m 203 ls []) := by
  obtain ⟨hx, hb, hr, hml, hown, hts, hK, hA, hlocks, hZ⟩ := id C
  intro i0 r0 i1 i2 l2 r2 H locs ls hf hP hD hS hl
  rw [f_X6_readStep_203] at hf
  refine lv_aload_n hx hb dX6_readStep_203 rfl (lv_at hl 0 rfl) ?_
  refine va_get (D := D) (ci := 6) (v := .ref (a0 0)) (C := RX6) (T := TX6) (N := 9) hx hb hts hiX6 hown hK hP 0 rfl rfl 0 (by decide) (hts _ flX6_18) (fun _ h9 => h9) rfl dX6_readStep_204 ?_
  refine lv_bipush (v := 59) hx hb dX6_readStep_207 (by decide) ?_
  obtain ⟨q15, hq15, hf⟩ := bd_s hf
  refine k_pVv (wr := W6 cs h0 a0 i0 r0 ++ W5 cs (a0 3) a2 i2 r2 l2) (ws2 := W6 cs h0 a0 i0 r0 ++ (W9 cs (a0 0) a1 q15 r1 l1 ++ W5 cs (a0 3) a2 i2 r2 l2)) (As := [.int 59]) (rest := []) hx hb hml hown hts hK hA hZ hl.1 hP hD hS (c_X9_wantKind (h0 := (a0 0)) (a0 := a1) hq15) (gVt mlX6_99 imX9_wantKind seX9_wantKind inX9 coX9_wantKind) rfl qnX9_wantKind rfl rfl ⟨Nat.le_of_ble_eq_true rfl, Nat.le_of_ble_eq_true rfl⟩ [3, 4, 5, 6, 7, 8] [0, 1, 2, 9, 10, 11, 12, 13, 14, 15, 16, 17, 18, 19, 20, 21, 22] [0, 1, 2, 17, 18, 19, 20, 21, 22, 3, 4, 5, 6, 7, 8, 9, 10, 11, 12, 13, 14, 15, 16] rfl rfl rfl (by decide) 0 9 rfl rfl rfl rfl rfl (Nat.le_of_ble_eq_true rfl) ⟨Nat.zero_le _, Nat.zero_le _⟩ dX6_readStep_209 (fun H locs hP hD hS => ?_)
  obtain rfl := Option.some.inj hf
  exact k_vret hx hb hr hlocks hK hP hD hS dX6_readStep_212
def f_X6_readStep_134 (r1 : Nat → Nat → Int32) (l1 : Nat → Nat → Int64)  (i0 : Nat → Int32) (r0 : Nat → Nat → Int32) (i1 : Nat → Int32) (i2 : Nat → Int32) (l2 : Nat → Nat → Int64) (r2 : Nat → Nat → Int32) (x3 : Int32) (y0 : Int32) : Option ((Nat → Int32) × (Nat → Nat → Int32) × (Nat → Int32) × (Nat → Int32) × (Nat → Nat → Int64) × (Nat → Nat → Int32)) := bd (f_X9_wantKey i1 r1 l1 y0) (fun q16 => ck (inb (i0 5) 6) (some ((upd (upd i0 5 ((i0 5) + 1)) 4 (2 * x3)), (va_up r0 1 (upd (r0 1) (i0 5).toNatClampNeg x3)), q16, i2, l2, r2)))
set_option maxRecDepth 100000 in
set_option maxHeartbeats 4000000 in
theorem w_X6_readStep_134 {p : Program} {l : Launch} {e : Env} {s : State} {m : MethodId} {args : Array Value} {below : List Frame} {meth : Method} {c : Code} {A : Nat → Prop} {D : va_G} {cs zs : Nat → Nat} {h0 : Nat} {a0 : Nat → Nat} {a1 : Nat → Nat} {a2 : Nat → Nat} {r1 : Nat → Nat → Int32} {l1 : Nat → Nat → Int64} {q : (Nat → Int32) × (Nat → Nat → Int32) × (Nat → Int32) × (Nat → Int32) × (Nat → Nat → Int64) × (Nat → Nat → Int32)} (C : Cx p s m args meth c A D cs zs cX6_readStep 4 none RX6)  : ∀ (i0 : Nat → Int32) (r0 : Nat → Nat → Int32) (i1 : Nat → Int32) (i2 : Nat → Int32) (l2 : Nat → Nat → Int64) (r2 : Nat → Nat → Int32) (x3 : Int32) (y0 : Int32) (H : Heap) (locs : List Loc) (ls : Array Slot), f_X6_readStep_134 r1 l1 i0 r0 i1 i2 l2 r2 x3 y0 = some q → va_P D vwCl (W6 cs h0 a0 i0 r0 ++ (W9 cs (a0 0) a1 i1 r1 l1 ++ W5 cs (a0 3) a2 i2 r2 l2)) H → va_D A (W6 cs h0 a0 i0 r0 ++ (W9 cs (a0 0) a1 i1 r1 l1 ++ W5 cs (a0 3) a2 i2 r2 l2)) → va_S A s.heap H locs → lv_has ls 4 [(0, .ref h0), (3, .int x3)] → W p l e rmX6_readStep s m args below meth c H locs 0 0 (MQ below (Qv D cs A (W6 cs h0 a0 q.1 q.2.1 ++ (W9 cs (a0 0) a1 q.2.2.1 r1 l1 ++ W5 cs (a0 3) a2 q.2.2.2.1 q.2.2.2.2.2 q.2.2.2.2.1))) args s 0 0 A) (F0 m 134 ls [.int y0, .ref (a0 0)]) := by
  obtain ⟨hx, hb, hr, hml, hown, hts, hK, hA, hlocks, hZ⟩ := id C
  intro i0 r0 i1 i2 l2 r2 x3 y0 H locs ls hf hP hD hS hl
  rw [f_X6_readStep_134] at hf
  obtain ⟨q16, hq16, hf⟩ := bd_s hf
  refine k_pVv (wr := W6 cs h0 a0 i0 r0 ++ W5 cs (a0 3) a2 i2 r2 l2) (ws2 := W6 cs h0 a0 i0 r0 ++ (W9 cs (a0 0) a1 q16 r1 l1 ++ W5 cs (a0 3) a2 i2 r2 l2)) (As := [.int y0]) (rest := []) hx hb hml hown hts hK hA hZ hl.1 hP hD hS (c_X9_wantKey (h0 := (a0 0)) (a0 := a1) hq16) (gVt mlX6_79 imX9_wantKey seX9_wantKey inX9 coX9_wantKey) rfl qnX9_wantKey rfl rfl ⟨Nat.le_of_ble_eq_true rfl, Nat.le_of_ble_eq_true rfl⟩ [3, 4, 5, 6, 7, 8] [0, 1, 2, 9, 10, 11, 12, 13, 14, 15, 16, 17, 18, 19, 20, 21, 22] [0, 1, 2, 17, 18, 19, 20, 21, 22, 3, 4, 5, 6, 7, 8, 9, 10, 11, 12, 13, 14, 15, 16] rfl rfl rfl (by decide) 0 9 rfl rfl rfl rfl rfl (Nat.le_of_ble_eq_true rfl) ⟨Nat.zero_le _, Nat.zero_le _⟩ dX6_readStep_134 (fun H locs hP hD hS => ?_)
  refine lv_aload_n hx hb dX6_readStep_137 rfl (lv_at hl 0 rfl) ?_
  refine va_get (D := D) (ci := 6) (v := .ref (a0 1)) (C := RX6) (T := TX6) (N := 9) hx hb hts hiX6 hown hK hP 0 rfl rfl 1 (by decide) (hts _ flX6_9) (fun _ h9 => h9) rfl dX6_readStep_138 ?_
  refine lv_aload_n hx hb dX6_readStep_141 rfl (lv_at hl 0 rfl) ?_
  refine va_get (D := D) (ci := 6) (v := .int (i0 5)) (C := RX6) (T := TX6) (N := 9) hx hb hts hiX6 hown hK hP 0 rfl rfl 5 (by decide) (hts _ flX6_35) (fun _ h9 => h9) rfl dX6_readStep_142 ?_
  refine lv_iload_n hx hb dX6_readStep_145 rfl (lv_at hl 1 rfl) ?_
  refine va_iast (f := r0 1) hx hb hK hP hD hS 1 0 rfl rfl (ck_in hf) dX6_readStep_146 (fun H locs hP hD hS => ?_)
  have hf := ck_2 hf
  obtain ⟨hP, hD⟩ := st6_1_T hP hD
  refine lv_aload_n hx hb dX6_readStep_147 rfl (lv_at hl 0 rfl) ?_
  refine lv_dup hx hb dX6_readStep_148 rfl ?_
  refine va_get (D := D) (ci := 6) (v := .int (i0 5)) (C := RX6) (T := TX6) (N := 9) hx hb hts hiX6 hown hK hP 0 rfl rfl 5 (by decide) (hts _ flX6_35) (fun _ h9 => h9) rfl dX6_readStep_149 ?_
  refine lv_iconst (v := 1) hx hb dX6_readStep_152 (by decide) ?_
  refine lv_iadd hx hb dX6_readStep_153 ?_
  refine va_put (D := D) (ci := 6) (v := .int ((i0 5) + 1)) (ty := .int) (C := RX6) (T := TX6) (N := 9) hx hb hts hiX6 tyX6 tyX6_ok nmX6 hown hK hP hD hS 0 rfl rfl 5 (by decide) (hts _ flX6_35) (fun _ h9 => h9) rfl (tyX6_ok 5 (by decide)) rfl rfl (Nat.le_of_ble_eq_true rfl) dX6_readStep_154 (fun H locs hP hD hS => ?_)
  obtain ⟨hP, hD⟩ := st6_5_T hP hD
  refine lv_aload_n hx hb dX6_readStep_157 rfl (lv_at hl 0 rfl) ?_
  refine lv_iconst (v := 2) hx hb dX6_readStep_158 (by decide) ?_
  refine lv_iload_n hx hb dX6_readStep_159 rfl (lv_at hl 1 rfl) ?_
  refine lv_imul hx hb dX6_readStep_160 ?_
  refine va_put (D := D) (ci := 6) (v := .int (2 * x3)) (ty := .int) (C := RX6) (T := TX6) (N := 9) hx hb hts hiX6 tyX6 tyX6_ok nmX6 hown hK hP hD hS 0 rfl rfl 4 (by decide) (hts _ flX6_31) (fun _ h9 => h9) rfl (tyX6_ok 4 (by decide)) rfl rfl (Nat.le_of_ble_eq_true rfl) dX6_readStep_161 (fun H locs hP hD hS => ?_)
  obtain ⟨hP, hD⟩ := st6_4_T hP hD
  obtain rfl := Option.some.inj hf
  exact k_vret hx hb hr hlocks hK hP hD hS dX6_readStep_164
def f_X6_readStep_58 (r1 : Nat → Nat → Int32) (l1 : Nat → Nat → Int64)  (i0 : Nat → Int32) (r0 : Nat → Nat → Int32) (i1 : Nat → Int32) (i2 : Nat → Int32) (l2 : Nat → Nat → Int64) (r2 : Nat → Nat → Int32) (x1 : Int32) : Option ((Nat → Int32) × (Nat → Nat → Int32) × (Nat → Int32) × (Nat → Int32) × (Nat → Nat → Int64) × (Nat → Nat → Int32)) := bd (f_X5_addStep i2 r2 l2 x1 (i0 4)) (fun q17 => bd (f_X9_advance i1 r1 l1) (fun q18 => if x1 = 3 then (bd (f_X6_readSwap i0 r0 q18 r1 l1 q17.2.1 q17.2.2 l2 q17.1) (fun q19 => f_X6_readStep_203 r1 l1 q19.1 r0 q19.2.1 q17.2.1 l2 q19.2.2)) else (if x1 = 4 then (bd (f_X6_readTest i0 r0 q18 r1 l1 q17.2.1 q17.2.2 l2 q17.1 0) (fun q20 => if x1 = 4 then (f_X6_readStep_134 r1 l1 q20.1 q20.2.1 q20.2.2.1 q20.2.2.2.1 l2 q20.2.2.2.2 q17.1 11) else (f_X6_readStep_134 r1 l1 q20.1 q20.2.1 q20.2.2.1 q20.2.2.2.1 l2 q20.2.2.2.2 q17.1 14))) else (if x1 = 5 then (bd (f_X6_readTest i0 r0 q18 r1 l1 q17.2.1 q17.2.2 l2 q17.1 0) (fun q21 => if x1 = 4 then (f_X6_readStep_134 r1 l1 q21.1 q21.2.1 q21.2.2.1 q21.2.2.2.1 l2 q21.2.2.2.2 q17.1 11) else (f_X6_readStep_134 r1 l1 q21.1 q21.2.1 q21.2.2.1 q21.2.2.2.1 l2 q21.2.2.2.2 q17.1 14))) else (if x1 = 6 then (bd (f_X9_word q18 r1 l1) (fun q22 => bd (f_X5_setCalled q17.2.1 q17.2.2 l2 q17.1 q22) (fun q23 => bd (f_X9_wantName q18 r1 l1) (fun q24 => f_X6_readStep_203 r1 l1 i0 r0 q24 q17.2.1 q23 q17.2.2)))) else (if x1 = 7 then (bd (f_X9_word q18 r1 l1) (fun q25 => bd (f_X5_setCalled q17.2.1 q17.2.2 l2 q17.1 q25) (fun q26 => bd (f_X9_wantName q18 r1 l1) (fun q27 => f_X6_readStep_203 r1 l1 i0 r0 q27 q17.2.1 q26 q17.2.2)))) else (bd (f_X6_readChange i0 r0 q18 r1 l1 q17.2.1 q17.2.2 l2 q17.1) (fun q28 => f_X6_readStep_203 r1 l1 q28.1 q28.2.1 q28.2.2.1 q28.2.2.2.1 l2 q28.2.2.2.2))))))))
set_option maxRecDepth 100000 in
set_option maxHeartbeats 4000000 in
theorem w_X6_readStep_58 {p : Program} {l : Launch} {e : Env} {s : State} {m : MethodId} {args : Array Value} {below : List Frame} {meth : Method} {c : Code} {A : Nat → Prop} {D : va_G} {cs zs : Nat → Nat} {h0 : Nat} {a0 : Nat → Nat} {a1 : Nat → Nat} {a2 : Nat → Nat} {r1 : Nat → Nat → Int32} {l1 : Nat → Nat → Int64} {q : (Nat → Int32) × (Nat → Nat → Int32) × (Nat → Int32) × (Nat → Int32) × (Nat → Nat → Int64) × (Nat → Nat → Int32)} (C : Cx p s m args meth c A D cs zs cX6_readStep 4 none RX6)  : ∀ (i0 : Nat → Int32) (r0 : Nat → Nat → Int32) (i1 : Nat → Int32) (i2 : Nat → Int32) (l2 : Nat → Nat → Int64) (r2 : Nat → Nat → Int32) (x1 : Int32) (H : Heap) (locs : List Loc) (ls : Array Slot), f_X6_readStep_58 r1 l1 i0 r0 i1 i2 l2 r2 x1 = some q → va_P D vwCl (W6 cs h0 a0 i0 r0 ++ (W9 cs (a0 0) a1 i1 r1 l1 ++ W5 cs (a0 3) a2 i2 r2 l2)) H → va_D A (W6 cs h0 a0 i0 r0 ++ (W9 cs (a0 0) a1 i1 r1 l1 ++ W5 cs (a0 3) a2 i2 r2 l2)) → va_S A s.heap H locs → lv_has ls 4 [(0, .ref h0), (1, .int x1)] → W p l e rmX6_readStep s m args below meth c H locs 0 0 (MQ below (Qv D cs A (W6 cs h0 a0 q.1 q.2.1 ++ (W9 cs (a0 0) a1 q.2.2.1 r1 l1 ++ W5 cs (a0 3) a2 q.2.2.2.1 q.2.2.2.2.2 q.2.2.2.2.1))) args s 0 0 A) (F0 m 58 ls []) := by
  obtain ⟨hx, hb, hr, hml, hown, hts, hK, hA, hlocks, hZ⟩ := id C
  intro i0 r0 i1 i2 l2 r2 x1 H locs ls hf hP hD hS hl
  rw [f_X6_readStep_58] at hf
  refine lv_aload_n hx hb dX6_readStep_58 rfl (lv_at hl 0 rfl) ?_
  refine va_get (D := D) (ci := 6) (v := .ref (a0 3)) (C := RX6) (T := TX6) (N := 9) hx hb hts hiX6 hown hK hP 0 rfl rfl 3 (by decide) (hts _ flX6_22) (fun _ h9 => h9) rfl dX6_readStep_59 ?_
  refine lv_iload_n hx hb dX6_readStep_62 rfl (lv_at hl 1 rfl) ?_
  refine lv_aload_n hx hb dX6_readStep_63 rfl (lv_at hl 0 rfl) ?_
  refine va_get (D := D) (ci := 6) (v := .int (i0 4)) (C := RX6) (T := TX6) (N := 9) hx hb hts hiX6 hown hK hP 0 rfl rfl 4 (by decide) (hts _ flX6_31) (fun _ h9 => h9) rfl dX6_readStep_64 ?_
  obtain ⟨q17, hq17, hf⟩ := bd_s hf
  refine k_pVi (wr := W6 cs h0 a0 i0 r0 ++ W9 cs (a0 0) a1 i1 r1 l1) (ws2 := W6 cs h0 a0 i0 r0 ++ (W9 cs (a0 0) a1 i1 r1 l1 ++ W5 cs (a0 3) a2 q17.2.1 q17.2.2 l2)) (As := [.int x1, .int (i0 4)]) (rest := []) hx hb hml hown hts hK hA hZ hl.1 hP hD hS (c_X5_addStep (h0 := (a0 3)) (a0 := a2) hq17) (gVt mlX6_105 imX5_addStep seX5_addStep inX5 coX5_addStep) rfl qnX5_addStep rfl rfl ⟨Nat.le_of_ble_eq_true rfl, Nat.le_of_ble_eq_true rfl⟩ [9, 10, 11, 12, 13, 14, 15, 16, 17, 18, 19, 20, 21, 22] [0, 1, 2, 3, 4, 5, 6, 7, 8] [0, 1, 2, 3, 4, 5, 6, 7, 8, 9, 10, 11, 12, 13, 14, 15, 16, 17, 18, 19, 20, 21, 22] rfl rfl rfl (by decide) 0 5 rfl rfl rfl rfl rfl (Nat.le_of_ble_eq_true rfl) ⟨Nat.zero_le _, Nat.zero_le _⟩ dX6_readStep_67 (fun H locs hP hD hS => ?_)
  refine lv_istore_n (lv' := [(3, .int q17.1), (0, .ref h0), (1, .int x1)]) hx hb dX6_readStep_70 rfl hl (by decide) rfl (fun ls hl => ?_)
  refine lv_aload_n hx hb dX6_readStep_71 rfl (lv_at hl 1 rfl) ?_
  refine va_get (D := D) (ci := 6) (v := .ref (a0 0)) (C := RX6) (T := TX6) (N := 9) hx hb hts hiX6 hown hK hP 0 rfl rfl 0 (by decide) (hts _ flX6_18) (fun _ h9 => h9) rfl dX6_readStep_72 ?_
  obtain ⟨q18, hq18, hf⟩ := bd_s hf
  refine k_pVv (wr := W6 cs h0 a0 i0 r0 ++ W5 cs (a0 3) a2 q17.2.1 q17.2.2 l2) (ws2 := W6 cs h0 a0 i0 r0 ++ (W9 cs (a0 0) a1 q18 r1 l1 ++ W5 cs (a0 3) a2 q17.2.1 q17.2.2 l2)) (As := []) (rest := []) hx hb hml hown hts hK hA hZ hl.1 hP hD hS (c_X9_advance (h0 := (a0 0)) (a0 := a1) hq18) (gVt mlX6_109 imX9_advance seX9_advance inX9 coX9_advance) rfl qnX9_advance rfl rfl ⟨Nat.le_of_ble_eq_true rfl, Nat.le_of_ble_eq_true rfl⟩ [3, 4, 5, 6, 7, 8] [0, 1, 2, 9, 10, 11, 12, 13, 14, 15, 16, 17, 18, 19, 20, 21, 22] [0, 1, 2, 17, 18, 19, 20, 21, 22, 3, 4, 5, 6, 7, 8, 9, 10, 11, 12, 13, 14, 15, 16] rfl rfl rfl (by decide) 0 9 rfl rfl rfl rfl rfl (Nat.le_of_ble_eq_true rfl) ⟨Nat.zero_le _, Nat.zero_le _⟩ dX6_readStep_75 (fun H locs hP hD hS => ?_)
  refine lv_iload_n hx hb dX6_readStep_78 rfl (lv_at hl 2 rfl) ?_
  by_cases hc3 : x1 = 3
  · have hf := ite_t hf hc3
    refine lv_tableIn (off := 111) (tgt := 190) hx hb dX6_readStep_79 (by rw [hc3]; decide) (by rw [hc3]; decide) (by rw [hc3]; rfl) (by decide) ?_
    refine lv_aload_n hx hb dX6_readStep_190 rfl (lv_at hl 1 rfl) ?_
    refine lv_iload_n hx hb dX6_readStep_191 rfl (lv_at hl 0 rfl) ?_
    obtain ⟨q19, hq19, hf⟩ := bd_s hf
    refine k_sVv (ws2 := W6 cs h0 a0 q19.1 r0 ++ (W9 cs (a0 0) a1 q19.2.1 r1 l1 ++ W5 cs (a0 3) a2 q17.2.1 q19.2.2 l2)) (As := [.int q17.1]) (rest := []) hx hb hml hown hts hK hA hZ hl.1 hP hD hS (c_X6_readSwap (h0 := h0) (a0 := a0) (a1 := a1) (a2 := a2) hq19) (gVt mlX6_120 imX6_readSwap seX6_readSwap inX6 coX6_readSwap) rfl qnX6_readSwap rfl rfl ⟨Nat.le_of_ble_eq_true rfl, Nat.le_of_ble_eq_true rfl⟩ 0 6 rfl rfl rfl rfl rfl (Nat.le_of_ble_eq_true rfl) ⟨Nat.zero_le _, Nat.zero_le _⟩ dX6_readStep_192 (fun H locs hP hD hS => ?_)
    refine lv_goto (tgt := 203) hx hb dX6_readStep_195 (by decide) ?_
    exact w_X6_readStep_203 C  _ _ _ _ _ _ _ _ _ hf hP hD hS (lv_sub hl [1] rfl)
  · have hf := ite_f hf hc3
    by_cases hc4 : x1 = 4
    · have hf := ite_t hf hc4
      refine lv_tableIn (off := 33) (tgt := 112) hx hb dX6_readStep_79 (by rw [hc4]; decide) (by rw [hc4]; decide) (by rw [hc4]; rfl) (by decide) ?_
      refine lv_aload_n hx hb dX6_readStep_112 rfl (lv_at hl 1 rfl) ?_
      refine lv_iload_n hx hb dX6_readStep_113 rfl (lv_at hl 0 rfl) ?_
      refine lv_iconst (v := 0) hx hb dX6_readStep_114 (by decide) ?_
      obtain ⟨q20, hq20, hf⟩ := bd_s hf
      refine k_sVv (ws2 := W6 cs h0 a0 q20.1 q20.2.1 ++ (W9 cs (a0 0) a1 q20.2.2.1 r1 l1 ++ W5 cs (a0 3) a2 q20.2.2.2.1 q20.2.2.2.2 l2)) (As := [.int q17.1, .int 0]) (rest := []) hx hb hml hown hts hK hA hZ hl.1 hP hD hS (c_X6_readTest (h0 := h0) (a0 := a0) (a1 := a1) (a2 := a2) hq20) (gVt mlX6_112 imX6_readTest seX6_readTest inX6 coX6_readTest) rfl qnX6_readTest rfl rfl ⟨Nat.le_of_ble_eq_true rfl, Nat.le_of_ble_eq_true rfl⟩ 0 6 rfl rfl rfl rfl rfl (Nat.le_of_ble_eq_true rfl) ⟨Nat.zero_le _, Nat.zero_le _⟩ dX6_readStep_115 (fun H locs hP hD hS => ?_)
      refine lv_aload_n hx hb dX6_readStep_118 rfl (lv_at hl 1 rfl) ?_
      refine va_get (D := D) (ci := 6) (v := .ref (a0 0)) (C := RX6) (T := TX6) (N := 9) hx hb hts hiX6 hown hK hP 0 rfl rfl 0 (by decide) (hts _ flX6_18) (fun _ h9 => h9) rfl dX6_readStep_119 ?_
      refine lv_iload_n hx hb dX6_readStep_122 rfl (lv_at hl 2 rfl) ?_
      refine lv_iconst (v := 4) hx hb dX6_readStep_123 (by decide) ?_
      refine lv_icmp_ne (tgt := 132) hx hb dX6_readStep_124 (by decide) (fun hc => ?_) (fun hc => ?_)
      · have hf := ite_f hf hc
        refine lv_bipush (v := 14) hx hb dX6_readStep_132 (by decide) ?_
        exact w_X6_readStep_134 C  _ _ _ _ _ _ _ _ _ _ _ hf hP hD hS (lv_sub hl [1, 0] rfl)
      · have hf := ite_t hf hc
        refine lv_bipush (v := 11) hx hb dX6_readStep_127 (by decide) ?_
        refine lv_goto (tgt := 134) hx hb dX6_readStep_129 (by decide) ?_
        exact w_X6_readStep_134 C  _ _ _ _ _ _ _ _ _ _ _ hf hP hD hS (lv_sub hl [1, 0] rfl)
    · have hf := ite_f hf hc4
      by_cases hc5 : x1 = 5
      · have hf := ite_t hf hc5
        refine lv_tableIn (off := 33) (tgt := 112) hx hb dX6_readStep_79 (by rw [hc5]; decide) (by rw [hc5]; decide) (by rw [hc5]; rfl) (by decide) ?_
        refine lv_aload_n hx hb dX6_readStep_112 rfl (lv_at hl 1 rfl) ?_
        refine lv_iload_n hx hb dX6_readStep_113 rfl (lv_at hl 0 rfl) ?_
        refine lv_iconst (v := 0) hx hb dX6_readStep_114 (by decide) ?_
        obtain ⟨q21, hq21, hf⟩ := bd_s hf
        refine k_sVv (ws2 := W6 cs h0 a0 q21.1 q21.2.1 ++ (W9 cs (a0 0) a1 q21.2.2.1 r1 l1 ++ W5 cs (a0 3) a2 q21.2.2.2.1 q21.2.2.2.2 l2)) (As := [.int q17.1, .int 0]) (rest := []) hx hb hml hown hts hK hA hZ hl.1 hP hD hS (c_X6_readTest (h0 := h0) (a0 := a0) (a1 := a1) (a2 := a2) hq21) (gVt mlX6_112 imX6_readTest seX6_readTest inX6 coX6_readTest) rfl qnX6_readTest rfl rfl ⟨Nat.le_of_ble_eq_true rfl, Nat.le_of_ble_eq_true rfl⟩ 0 6 rfl rfl rfl rfl rfl (Nat.le_of_ble_eq_true rfl) ⟨Nat.zero_le _, Nat.zero_le _⟩ dX6_readStep_115 (fun H locs hP hD hS => ?_)
        refine lv_aload_n hx hb dX6_readStep_118 rfl (lv_at hl 1 rfl) ?_
        refine va_get (D := D) (ci := 6) (v := .ref (a0 0)) (C := RX6) (T := TX6) (N := 9) hx hb hts hiX6 hown hK hP 0 rfl rfl 0 (by decide) (hts _ flX6_18) (fun _ h9 => h9) rfl dX6_readStep_119 ?_
        refine lv_iload_n hx hb dX6_readStep_122 rfl (lv_at hl 2 rfl) ?_
        refine lv_iconst (v := 4) hx hb dX6_readStep_123 (by decide) ?_
        refine lv_icmp_ne (tgt := 132) hx hb dX6_readStep_124 (by decide) (fun hc => ?_) (fun hc => ?_)
        · have hf := ite_f hf hc
          refine lv_bipush (v := 14) hx hb dX6_readStep_132 (by decide) ?_
          exact w_X6_readStep_134 C  _ _ _ _ _ _ _ _ _ _ _ hf hP hD hS (lv_sub hl [1, 0] rfl)
        · have hf := ite_t hf hc
          refine lv_bipush (v := 11) hx hb dX6_readStep_127 (by decide) ?_
          refine lv_goto (tgt := 134) hx hb dX6_readStep_129 (by decide) ?_
          exact w_X6_readStep_134 C  _ _ _ _ _ _ _ _ _ _ _ hf hP hD hS (lv_sub hl [1, 0] rfl)
      · have hf := ite_f hf hc5
        by_cases hc6 : x1 = 6
        · have hf := ite_t hf hc6
          refine lv_tableIn (off := 86) (tgt := 165) hx hb dX6_readStep_79 (by rw [hc6]; decide) (by rw [hc6]; decide) (by rw [hc6]; rfl) (by decide) ?_
          refine lv_aload_n hx hb dX6_readStep_165 rfl (lv_at hl 1 rfl) ?_
          refine va_get (D := D) (ci := 6) (v := .ref (a0 3)) (C := RX6) (T := TX6) (N := 9) hx hb hts hiX6 hown hK hP 0 rfl rfl 3 (by decide) (hts _ flX6_22) (fun _ h9 => h9) rfl dX6_readStep_166 ?_
          refine lv_iload_n hx hb dX6_readStep_169 rfl (lv_at hl 0 rfl) ?_
          refine lv_aload_n hx hb dX6_readStep_170 rfl (lv_at hl 1 rfl) ?_
          refine va_get (D := D) (ci := 6) (v := .ref (a0 0)) (C := RX6) (T := TX6) (N := 9) hx hb hts hiX6 hown hK hP 0 rfl rfl 0 (by decide) (hts _ flX6_18) (fun _ h9 => h9) rfl dX6_readStep_171 ?_
          obtain ⟨q22, hq22, hf⟩ := bd_s hf
          refine k_pVl (wr := W6 cs h0 a0 i0 r0 ++ W5 cs (a0 3) a2 q17.2.1 q17.2.2 l2) (ws2 := W6 cs h0 a0 i0 r0 ++ (W9 cs (a0 0) a1 q18 r1 l1 ++ W5 cs (a0 3) a2 q17.2.1 q17.2.2 l2)) (As := []) (rest := [.int q17.1, .ref (a0 3)]) hx hb hml hown hts hK hA hZ hl.1 hP hD hS (c_X9_word (h0 := (a0 0)) (a0 := a1) hq22) (gVt mlX6_82 imX9_word seX9_word inX9 coX9_word) rfl qnX9_word rfl rfl ⟨Nat.le_of_ble_eq_true rfl, Nat.le_of_ble_eq_true rfl⟩ [3, 4, 5, 6, 7, 8] [0, 1, 2, 9, 10, 11, 12, 13, 14, 15, 16, 17, 18, 19, 20, 21, 22] [0, 1, 2, 17, 18, 19, 20, 21, 22, 3, 4, 5, 6, 7, 8, 9, 10, 11, 12, 13, 14, 15, 16] rfl rfl rfl (by decide) 0 9 rfl rfl rfl rfl rfl (Nat.le_of_ble_eq_true rfl) ⟨Nat.zero_le _, Nat.zero_le _⟩ dX6_readStep_174 (fun H locs hP hD hS => ?_)
          obtain ⟨q23, hq23, hf⟩ := bd_s hf
          refine k_pVv (wr := W6 cs h0 a0 i0 r0 ++ W9 cs (a0 0) a1 q18 r1 l1) (ws2 := W6 cs h0 a0 i0 r0 ++ (W9 cs (a0 0) a1 q18 r1 l1 ++ W5 cs (a0 3) a2 q17.2.1 q17.2.2 q23)) (As := [.int q17.1, .long q22]) (rest := []) hx hb hml hown hts hK hA hZ hl.1 hP hD hS (c_X5_setCalled (h0 := (a0 3)) (a0 := a2) hq23) (gVt mlX6_116 imX5_setCalled seX5_setCalled inX5 coX5_setCalled) rfl qnX5_setCalled rfl rfl ⟨Nat.le_of_ble_eq_true rfl, Nat.le_of_ble_eq_true rfl⟩ [9, 10, 11, 12, 13, 14, 15, 16, 17, 18, 19, 20, 21, 22] [0, 1, 2, 3, 4, 5, 6, 7, 8] [0, 1, 2, 3, 4, 5, 6, 7, 8, 9, 10, 11, 12, 13, 14, 15, 16, 17, 18, 19, 20, 21, 22] rfl rfl rfl (by decide) 0 5 rfl rfl rfl rfl rfl (Nat.le_of_ble_eq_true rfl) ⟨Nat.zero_le _, Nat.zero_le _⟩ dX6_readStep_177 (fun H locs hP hD hS => ?_)
          refine lv_aload_n hx hb dX6_readStep_180 rfl (lv_at hl 1 rfl) ?_
          refine va_get (D := D) (ci := 6) (v := .ref (a0 0)) (C := RX6) (T := TX6) (N := 9) hx hb hts hiX6 hown hK hP 0 rfl rfl 0 (by decide) (hts _ flX6_18) (fun _ h9 => h9) rfl dX6_readStep_181 ?_
          obtain ⟨q24, hq24, hf⟩ := bd_s hf
          refine k_pVv (wr := W6 cs h0 a0 i0 r0 ++ W5 cs (a0 3) a2 q17.2.1 q17.2.2 q23) (ws2 := W6 cs h0 a0 i0 r0 ++ (W9 cs (a0 0) a1 q24 r1 l1 ++ W5 cs (a0 3) a2 q17.2.1 q17.2.2 q23)) (As := []) (rest := []) hx hb hml hown hts hK hA hZ hl.1 hP hD hS (c_X9_wantName (h0 := (a0 0)) (a0 := a1) hq24) (gVt mlX6_93 imX9_wantName seX9_wantName inX9 coX9_wantName) rfl qnX9_wantName rfl rfl ⟨Nat.le_of_ble_eq_true rfl, Nat.le_of_ble_eq_true rfl⟩ [3, 4, 5, 6, 7, 8] [0, 1, 2, 9, 10, 11, 12, 13, 14, 15, 16, 17, 18, 19, 20, 21, 22] [0, 1, 2, 17, 18, 19, 20, 21, 22, 3, 4, 5, 6, 7, 8, 9, 10, 11, 12, 13, 14, 15, 16] rfl rfl rfl (by decide) 0 9 rfl rfl rfl rfl rfl (Nat.le_of_ble_eq_true rfl) ⟨Nat.zero_le _, Nat.zero_le _⟩ dX6_readStep_184 (fun H locs hP hD hS => ?_)
          refine lv_goto (tgt := 203) hx hb dX6_readStep_187 (by decide) ?_
          exact w_X6_readStep_203 C  _ _ _ _ _ _ _ _ _ hf hP hD hS (lv_sub hl [1] rfl)
        · have hf := ite_f hf hc6
          by_cases hc7 : x1 = 7
          · have hf := ite_t hf hc7
            refine lv_tableIn (off := 86) (tgt := 165) hx hb dX6_readStep_79 (by rw [hc7]; decide) (by rw [hc7]; decide) (by rw [hc7]; rfl) (by decide) ?_
            refine lv_aload_n hx hb dX6_readStep_165 rfl (lv_at hl 1 rfl) ?_
            refine va_get (D := D) (ci := 6) (v := .ref (a0 3)) (C := RX6) (T := TX6) (N := 9) hx hb hts hiX6 hown hK hP 0 rfl rfl 3 (by decide) (hts _ flX6_22) (fun _ h9 => h9) rfl dX6_readStep_166 ?_
            refine lv_iload_n hx hb dX6_readStep_169 rfl (lv_at hl 0 rfl) ?_
            refine lv_aload_n hx hb dX6_readStep_170 rfl (lv_at hl 1 rfl) ?_
            refine va_get (D := D) (ci := 6) (v := .ref (a0 0)) (C := RX6) (T := TX6) (N := 9) hx hb hts hiX6 hown hK hP 0 rfl rfl 0 (by decide) (hts _ flX6_18) (fun _ h9 => h9) rfl dX6_readStep_171 ?_
            obtain ⟨q25, hq25, hf⟩ := bd_s hf
            refine k_pVl (wr := W6 cs h0 a0 i0 r0 ++ W5 cs (a0 3) a2 q17.2.1 q17.2.2 l2) (ws2 := W6 cs h0 a0 i0 r0 ++ (W9 cs (a0 0) a1 q18 r1 l1 ++ W5 cs (a0 3) a2 q17.2.1 q17.2.2 l2)) (As := []) (rest := [.int q17.1, .ref (a0 3)]) hx hb hml hown hts hK hA hZ hl.1 hP hD hS (c_X9_word (h0 := (a0 0)) (a0 := a1) hq25) (gVt mlX6_82 imX9_word seX9_word inX9 coX9_word) rfl qnX9_word rfl rfl ⟨Nat.le_of_ble_eq_true rfl, Nat.le_of_ble_eq_true rfl⟩ [3, 4, 5, 6, 7, 8] [0, 1, 2, 9, 10, 11, 12, 13, 14, 15, 16, 17, 18, 19, 20, 21, 22] [0, 1, 2, 17, 18, 19, 20, 21, 22, 3, 4, 5, 6, 7, 8, 9, 10, 11, 12, 13, 14, 15, 16] rfl rfl rfl (by decide) 0 9 rfl rfl rfl rfl rfl (Nat.le_of_ble_eq_true rfl) ⟨Nat.zero_le _, Nat.zero_le _⟩ dX6_readStep_174 (fun H locs hP hD hS => ?_)
            obtain ⟨q26, hq26, hf⟩ := bd_s hf
            refine k_pVv (wr := W6 cs h0 a0 i0 r0 ++ W9 cs (a0 0) a1 q18 r1 l1) (ws2 := W6 cs h0 a0 i0 r0 ++ (W9 cs (a0 0) a1 q18 r1 l1 ++ W5 cs (a0 3) a2 q17.2.1 q17.2.2 q26)) (As := [.int q17.1, .long q25]) (rest := []) hx hb hml hown hts hK hA hZ hl.1 hP hD hS (c_X5_setCalled (h0 := (a0 3)) (a0 := a2) hq26) (gVt mlX6_116 imX5_setCalled seX5_setCalled inX5 coX5_setCalled) rfl qnX5_setCalled rfl rfl ⟨Nat.le_of_ble_eq_true rfl, Nat.le_of_ble_eq_true rfl⟩ [9, 10, 11, 12, 13, 14, 15, 16, 17, 18, 19, 20, 21, 22] [0, 1, 2, 3, 4, 5, 6, 7, 8] [0, 1, 2, 3, 4, 5, 6, 7, 8, 9, 10, 11, 12, 13, 14, 15, 16, 17, 18, 19, 20, 21, 22] rfl rfl rfl (by decide) 0 5 rfl rfl rfl rfl rfl (Nat.le_of_ble_eq_true rfl) ⟨Nat.zero_le _, Nat.zero_le _⟩ dX6_readStep_177 (fun H locs hP hD hS => ?_)
            refine lv_aload_n hx hb dX6_readStep_180 rfl (lv_at hl 1 rfl) ?_
            refine va_get (D := D) (ci := 6) (v := .ref (a0 0)) (C := RX6) (T := TX6) (N := 9) hx hb hts hiX6 hown hK hP 0 rfl rfl 0 (by decide) (hts _ flX6_18) (fun _ h9 => h9) rfl dX6_readStep_181 ?_
            obtain ⟨q27, hq27, hf⟩ := bd_s hf
            refine k_pVv (wr := W6 cs h0 a0 i0 r0 ++ W5 cs (a0 3) a2 q17.2.1 q17.2.2 q26) (ws2 := W6 cs h0 a0 i0 r0 ++ (W9 cs (a0 0) a1 q27 r1 l1 ++ W5 cs (a0 3) a2 q17.2.1 q17.2.2 q26)) (As := []) (rest := []) hx hb hml hown hts hK hA hZ hl.1 hP hD hS (c_X9_wantName (h0 := (a0 0)) (a0 := a1) hq27) (gVt mlX6_93 imX9_wantName seX9_wantName inX9 coX9_wantName) rfl qnX9_wantName rfl rfl ⟨Nat.le_of_ble_eq_true rfl, Nat.le_of_ble_eq_true rfl⟩ [3, 4, 5, 6, 7, 8] [0, 1, 2, 9, 10, 11, 12, 13, 14, 15, 16, 17, 18, 19, 20, 21, 22] [0, 1, 2, 17, 18, 19, 20, 21, 22, 3, 4, 5, 6, 7, 8, 9, 10, 11, 12, 13, 14, 15, 16] rfl rfl rfl (by decide) 0 9 rfl rfl rfl rfl rfl (Nat.le_of_ble_eq_true rfl) ⟨Nat.zero_le _, Nat.zero_le _⟩ dX6_readStep_184 (fun H locs hP hD hS => ?_)
            refine lv_goto (tgt := 203) hx hb dX6_readStep_187 (by decide) ?_
            exact w_X6_readStep_203 C  _ _ _ _ _ _ _ _ _ hf hP hD hS (lv_sub hl [1] rfl)
          · have hf := ite_f hf hc7
            have z3 := sw_ne (k := 3) (by decide) hc3
            have z4 := sw_ne (k := 4) (by decide) hc4
            have z5 := sw_ne (k := 5) (by decide) hc5
            have z6 := sw_ne (k := 6) (by decide) hc6
            have z7 := sw_ne (k := 7) (by decide) hc7
            refine lv_tableOut (tgt := 198) hx hb dX6_readStep_79 (by omega) (by decide) ?_
            refine lv_aload_n hx hb dX6_readStep_198 rfl (lv_at hl 1 rfl) ?_
            refine lv_iload_n hx hb dX6_readStep_199 rfl (lv_at hl 0 rfl) ?_
            obtain ⟨q28, hq28, hf⟩ := bd_s hf
            refine k_sVv (ws2 := W6 cs h0 a0 q28.1 q28.2.1 ++ (W9 cs (a0 0) a1 q28.2.2.1 r1 l1 ++ W5 cs (a0 3) a2 q28.2.2.2.1 q28.2.2.2.2 l2)) (As := [.int q17.1]) (rest := []) hx hb hml hown hts hK hA hZ hl.1 hP hD hS (c_X6_readChange (h0 := h0) (a0 := a0) (a1 := a1) (a2 := a2) hq28) (gVt mlX6_123 imX6_readChange seX6_readChange inX6 coX6_readChange) rfl qnX6_readChange rfl rfl ⟨Nat.le_of_ble_eq_true rfl, Nat.le_of_ble_eq_true rfl⟩ 0 6 rfl rfl rfl rfl rfl (Nat.le_of_ble_eq_true rfl) ⟨Nat.zero_le _, Nat.zero_le _⟩ dX6_readStep_200 (fun H locs hP hD hS => ?_)
            exact w_X6_readStep_203 C  _ _ _ _ _ _ _ _ _ hf hP hD hS (lv_sub hl [1] rfl)
def f_X6_readStep_23 (r1 : Nat → Nat → Int32) (l1 : Nat → Nat → Int64)  (i0 : Nat → Int32) (r0 : Nat → Nat → Int32) (i1 : Nat → Int32) (i2 : Nat → Int32) (l2 : Nat → Nat → Int64) (r2 : Nat → Nat → Int32) (x1 : Int32) (y0 : Int32) : Option ((Nat → Int32) × (Nat → Nat → Int32) × (Nat → Int32) × (Nat → Int32) × (Nat → Nat → Int64) × (Nat → Nat → Int32)) := bd (f_X5_steps i2 r2 l2) (fun q29 => if 60 ≤ q29 then (f_X6_readStep_49 r1 l1 i0 r0 i1 i2 l2 r2) else (if y0 = 0 then (f_X6_readStep_58 r1 l1 i0 r0 i1 i2 l2 r2 x1) else (if (i0 5) < 6 then (f_X6_readStep_58 r1 l1 i0 r0 i1 i2 l2 r2 x1) else (f_X6_readStep_49 r1 l1 i0 r0 i1 i2 l2 r2))))
set_option maxRecDepth 100000 in
set_option maxHeartbeats 4000000 in
theorem w_X6_readStep_23 {p : Program} {l : Launch} {e : Env} {s : State} {m : MethodId} {args : Array Value} {below : List Frame} {meth : Method} {c : Code} {A : Nat → Prop} {D : va_G} {cs zs : Nat → Nat} {h0 : Nat} {a0 : Nat → Nat} {a1 : Nat → Nat} {a2 : Nat → Nat} {r1 : Nat → Nat → Int32} {l1 : Nat → Nat → Int64} {q : (Nat → Int32) × (Nat → Nat → Int32) × (Nat → Int32) × (Nat → Int32) × (Nat → Nat → Int64) × (Nat → Nat → Int32)} (C : Cx p s m args meth c A D cs zs cX6_readStep 4 none RX6)  : ∀ (i0 : Nat → Int32) (r0 : Nat → Nat → Int32) (i1 : Nat → Int32) (i2 : Nat → Int32) (l2 : Nat → Nat → Int64) (r2 : Nat → Nat → Int32) (x1 : Int32) (y0 : Int32) (H : Heap) (locs : List Loc) (ls : Array Slot), f_X6_readStep_23 r1 l1 i0 r0 i1 i2 l2 r2 x1 y0 = some q → va_P D vwCl (W6 cs h0 a0 i0 r0 ++ (W9 cs (a0 0) a1 i1 r1 l1 ++ W5 cs (a0 3) a2 i2 r2 l2)) H → va_D A (W6 cs h0 a0 i0 r0 ++ (W9 cs (a0 0) a1 i1 r1 l1 ++ W5 cs (a0 3) a2 i2 r2 l2)) → va_S A s.heap H locs → lv_has ls 4 [(0, .ref h0), (1, .int x1)] → W p l e rmX6_readStep s m args below meth c H locs 0 0 (MQ below (Qv D cs A (W6 cs h0 a0 q.1 q.2.1 ++ (W9 cs (a0 0) a1 q.2.2.1 r1 l1 ++ W5 cs (a0 3) a2 q.2.2.2.1 q.2.2.2.2.2 q.2.2.2.2.1))) args s 0 0 A) (F0 m 23 ls [.int y0]) := by
  obtain ⟨hx, hb, hr, hml, hown, hts, hK, hA, hlocks, hZ⟩ := id C
  intro i0 r0 i1 i2 l2 r2 x1 y0 H locs ls hf hP hD hS hl
  rw [f_X6_readStep_23] at hf
  refine lv_istore_n (lv' := [(2, .int y0), (0, .ref h0), (1, .int x1)]) hx hb dX6_readStep_23 rfl hl (by decide) rfl (fun ls hl => ?_)
  refine lv_aload_n hx hb dX6_readStep_24 rfl (lv_at hl 1 rfl) ?_
  refine va_get (D := D) (ci := 6) (v := .ref (a0 3)) (C := RX6) (T := TX6) (N := 9) hx hb hts hiX6 hown hK hP 0 rfl rfl 3 (by decide) (hts _ flX6_22) (fun _ h9 => h9) rfl dX6_readStep_25 ?_
  obtain ⟨q29, hq29, hf⟩ := bd_s hf
  refine k_pVi (wr := W6 cs h0 a0 i0 r0 ++ W9 cs (a0 0) a1 i1 r1 l1) (ws2 := W6 cs h0 a0 i0 r0 ++ (W9 cs (a0 0) a1 i1 r1 l1 ++ W5 cs (a0 3) a2 i2 r2 l2)) (As := []) (rest := []) hx hb hml hown hts hK hA hZ hl.1 hP hD hS (c_X5_steps (h0 := (a0 3)) (a0 := a2) hq29) (gVt mlX6_102 imX5_steps seX5_steps inX5 coX5_steps) rfl qnX5_steps rfl rfl ⟨Nat.le_of_ble_eq_true rfl, Nat.le_of_ble_eq_true rfl⟩ [9, 10, 11, 12, 13, 14, 15, 16, 17, 18, 19, 20, 21, 22] [0, 1, 2, 3, 4, 5, 6, 7, 8] [0, 1, 2, 3, 4, 5, 6, 7, 8, 9, 10, 11, 12, 13, 14, 15, 16, 17, 18, 19, 20, 21, 22] rfl rfl rfl (by decide) 0 5 rfl rfl rfl rfl rfl (Nat.le_of_ble_eq_true rfl) ⟨Nat.zero_le _, Nat.zero_le _⟩ dX6_readStep_28 (fun H locs hP hD hS => ?_)
  refine lv_bipush (v := 60) hx hb dX6_readStep_31 (by decide) ?_
  refine lv_icmp_ge (tgt := 49) hx hb dX6_readStep_33 (by decide) (fun hc => ?_) (fun hc => ?_)
  · have hf := ite_t hf hc
    exact w_X6_readStep_49 C  _ _ _ _ _ _ _ _ _ hf hP hD hS (lv_sub hl [1] rfl)
  · have hf := ite_f hf hc
    refine lv_iload_n hx hb dX6_readStep_36 rfl (lv_at hl 0 rfl) ?_
    refine lv_if_eq (tgt := 58) hx hb dX6_readStep_37 (by decide) (fun hc => ?_) (fun hc => ?_)
    · have hf := ite_t hf hc
      exact w_X6_readStep_58 C  _ _ _ _ _ _ _ _ _ _ hf hP hD hS (lv_sub hl [1, 2] rfl)
    · have hf := ite_f hf hc
      refine lv_aload_n hx hb dX6_readStep_40 rfl (lv_at hl 1 rfl) ?_
      refine va_get (D := D) (ci := 6) (v := .int (i0 5)) (C := RX6) (T := TX6) (N := 9) hx hb hts hiX6 hown hK hP 0 rfl rfl 5 (by decide) (hts _ flX6_35) (fun _ h9 => h9) rfl dX6_readStep_41 ?_
      refine lv_bipush (v := 6) hx hb dX6_readStep_44 (by decide) ?_
      refine lv_icmp_lt (tgt := 58) hx hb dX6_readStep_46 (by decide) (fun hc => ?_) (fun hc => ?_)
      · have hf := ite_t hf hc
        exact w_X6_readStep_58 C  _ _ _ _ _ _ _ _ _ _ hf hP hD hS (lv_sub hl [1, 2] rfl)
      · have hf := ite_f hf hc
        exact w_X6_readStep_49 C  _ _ _ _ _ _ _ _ _ hf hP hD hS (lv_sub hl [1] rfl)
def f_X6_readStep_18 (r1 : Nat → Nat → Int32) (l1 : Nat → Nat → Int64)  (i0 : Nat → Int32) (r0 : Nat → Nat → Int32) (i1 : Nat → Int32) (i2 : Nat → Int32) (l2 : Nat → Nat → Int64) (r2 : Nat → Nat → Int32) (x1 : Int32) : Option ((Nat → Int32) × (Nat → Nat → Int32) × (Nat → Int32) × (Nat → Int32) × (Nat → Nat → Int64) × (Nat → Nat → Int32)) := f_X6_readStep_23 r1 l1 i0 r0 i1 i2 l2 r2 x1 1
set_option maxRecDepth 100000 in
set_option maxHeartbeats 4000000 in
theorem w_X6_readStep_18 {p : Program} {l : Launch} {e : Env} {s : State} {m : MethodId} {args : Array Value} {below : List Frame} {meth : Method} {c : Code} {A : Nat → Prop} {D : va_G} {cs zs : Nat → Nat} {h0 : Nat} {a0 : Nat → Nat} {a1 : Nat → Nat} {a2 : Nat → Nat} {r1 : Nat → Nat → Int32} {l1 : Nat → Nat → Int64} {q : (Nat → Int32) × (Nat → Nat → Int32) × (Nat → Int32) × (Nat → Int32) × (Nat → Nat → Int64) × (Nat → Nat → Int32)} (C : Cx p s m args meth c A D cs zs cX6_readStep 4 none RX6)  : ∀ (i0 : Nat → Int32) (r0 : Nat → Nat → Int32) (i1 : Nat → Int32) (i2 : Nat → Int32) (l2 : Nat → Nat → Int64) (r2 : Nat → Nat → Int32) (x1 : Int32) (H : Heap) (locs : List Loc) (ls : Array Slot), f_X6_readStep_18 r1 l1 i0 r0 i1 i2 l2 r2 x1 = some q → va_P D vwCl (W6 cs h0 a0 i0 r0 ++ (W9 cs (a0 0) a1 i1 r1 l1 ++ W5 cs (a0 3) a2 i2 r2 l2)) H → va_D A (W6 cs h0 a0 i0 r0 ++ (W9 cs (a0 0) a1 i1 r1 l1 ++ W5 cs (a0 3) a2 i2 r2 l2)) → va_S A s.heap H locs → lv_has ls 4 [(0, .ref h0), (1, .int x1)] → W p l e rmX6_readStep s m args below meth c H locs 0 0 (MQ below (Qv D cs A (W6 cs h0 a0 q.1 q.2.1 ++ (W9 cs (a0 0) a1 q.2.2.1 r1 l1 ++ W5 cs (a0 3) a2 q.2.2.2.1 q.2.2.2.2.2 q.2.2.2.2.1))) args s 0 0 A) (F0 m 18 ls []) := by
  obtain ⟨hx, hb, hr, hml, hown, hts, hK, hA, hlocks, hZ⟩ := id C
  intro i0 r0 i1 i2 l2 r2 x1 H locs ls hf hP hD hS hl
  rw [f_X6_readStep_18] at hf
  refine lv_iconst (v := 1) hx hb dX6_readStep_18 (by decide) ?_
  refine lv_goto (tgt := 23) hx hb dX6_readStep_19 (by decide) ?_
  exact w_X6_readStep_23 C  _ _ _ _ _ _ _ _ _ _ _ hf hP hD hS (lv_sub hl [0, 1] rfl)
def f_X6_readStep  (i0 : Nat → Int32) (r0 : Nat → Nat → Int32) (i1 : Nat → Int32) (r1 : Nat → Nat → Int32) (l1 : Nat → Nat → Int64) (i2 : Nat → Int32) (r2 : Nat → Nat → Int32) (l2 : Nat → Nat → Int64)  : Option ((Nat → Int32) × (Nat → Nat → Int32) × (Nat → Int32) × (Nat → Int32) × (Nat → Nat → Int64) × (Nat → Nat → Int32)) := bd (f_X9_key i1 r1 l1) (fun q30 => if q30 = 4 then (f_X6_readStep_18 r1 l1 i0 r0 i1 i2 l2 r2 q30) else (if q30 = 5 then (f_X6_readStep_18 r1 l1 i0 r0 i1 i2 l2 r2 q30) else (f_X6_readStep_23 r1 l1 i0 r0 i1 i2 l2 r2 q30 0)))
set_option maxRecDepth 100000 in
set_option maxHeartbeats 4000000 in
theorem c_X6_readStep {l : Launch} {D : va_G} {cs zs : Nat → Nat} {h0 : Nat} {a0 : Nat → Nat} {a1 : Nat → Nat} {a2 : Nat → Nat} {i0 : Nat → Int32} {r0 : Nat → Nat → Int32} {i1 : Nat → Int32} {r1 : Nat → Nat → Int32} {l1 : Nat → Nat → Int64} {i2 : Nat → Int32} {r2 : Nat → Nat → Int32} {l2 : Nat → Nat → Int64}  {q : (Nat → Int32) × (Nat → Nat → Int32) × (Nat → Int32) × (Nat → Int32) × (Nat → Nat → Int64) × (Nat → Nat → Int32)} (hf : f_X6_readStep i0 r0 i1 r1 l1 i2 r2 l2 = some q) : Mv l yX6_readStep wlX6_readStep rmX6_readStep D cs zs [.ref h0] (W6 cs h0 a0 i0 r0 ++ (W9 cs (a0 0) a1 i1 r1 l1 ++ W5 cs (a0 3) a2 i2 r2 l2)) (W6 cs h0 a0 q.1 q.2.1 ++ (W9 cs (a0 0) a1 q.2.2.1 r1 l1 ++ W5 cs (a0 3) a2 q.2.2.2.1 q.2.2.2.2.2 q.2.2.2.2.1)) := by
  refine Mv.of RX6 (by decide) rfl (Nat.le_of_ble_eq_true rfl) (fun p e s m below meth c A C hP hD hS ls hl => ?_)
  generalize ([.ref h0] : List Value).toArray = args at C ⊢
  obtain ⟨hx, hb, hr, hml, hown, hts, hK, hA, hlocks, hZ⟩ := id C
  have hl : lv_has ls 4 [(0, .ref h0)] := hl
  rw [f_X6_readStep] at hf
  refine lv_aload_n hx hb dX6_readStep_0 rfl (lv_at hl 0 rfl) ?_
  refine va_get (D := D) (ci := 6) (v := .ref (a0 0)) (C := RX6) (T := TX6) (N := 9) hx hb hts hiX6 hown hK hP 0 rfl rfl 0 (by decide) (hts _ flX6_18) (fun _ h9 => h9) rfl dX6_readStep_1 ?_
  obtain ⟨q30, hq30, hf⟩ := bd_s hf
  refine k_pVi (wr := W6 cs h0 a0 i0 r0 ++ W5 cs (a0 3) a2 i2 r2 l2) (ws2 := W6 cs h0 a0 i0 r0 ++ (W9 cs (a0 0) a1 i1 r1 l1 ++ W5 cs (a0 3) a2 i2 r2 l2)) (As := []) (rest := []) hx hb hml hown hts hK hA hZ hl.1 hP hD hS (c_X9_key (h0 := (a0 0)) (a0 := a1) hq30) (gVt mlX6_57 imX9_key seX9_key inX9 coX9_key) rfl qnX9_key rfl rfl ⟨Nat.le_of_ble_eq_true rfl, Nat.le_of_ble_eq_true rfl⟩ [3, 4, 5, 6, 7, 8] [0, 1, 2, 9, 10, 11, 12, 13, 14, 15, 16, 17, 18, 19, 20, 21, 22] [0, 1, 2, 17, 18, 19, 20, 21, 22, 3, 4, 5, 6, 7, 8, 9, 10, 11, 12, 13, 14, 15, 16] rfl rfl rfl (by decide) 0 9 rfl rfl rfl rfl rfl (Nat.le_of_ble_eq_true rfl) ⟨Nat.zero_le _, Nat.zero_le _⟩ dX6_readStep_4 (fun H locs hP hD hS => ?_)
  refine lv_istore_n (lv' := [(1, .int q30), (0, .ref h0)]) hx hb dX6_readStep_7 rfl hl (by decide) rfl (fun ls hl => ?_)
  refine lv_iload_n hx hb dX6_readStep_8 rfl (lv_at hl 0 rfl) ?_
  refine lv_iconst (v := 4) hx hb dX6_readStep_9 (by decide) ?_
  refine lv_icmp_eq (tgt := 18) hx hb dX6_readStep_10 (by decide) (fun hc => ?_) (fun hc => ?_)
  · have hf := ite_t hf hc
    exact w_X6_readStep_18 C  _ _ _ _ _ _ _ _ _ _ hf hP hD hS (lv_sub hl [1, 0] rfl)
  · have hf := ite_f hf hc
    refine lv_iload_n hx hb dX6_readStep_13 rfl (lv_at hl 0 rfl) ?_
    refine lv_iconst (v := 5) hx hb dX6_readStep_14 (by decide) ?_
    refine lv_icmp_ne (tgt := 22) hx hb dX6_readStep_15 (by decide) (fun hc => ?_) (fun hc => ?_)
    · have hf := ite_f hf hc
      refine lv_iconst (v := 0) hx hb dX6_readStep_22 (by decide) ?_
      exact w_X6_readStep_23 C  _ _ _ _ _ _ _ _ _ _ _ hf hP hD hS (lv_sub hl [1, 0] rfl)
    · have hf := ite_t hf hc
      exact w_X6_readStep_18 C  _ _ _ _ _ _ _ _ _ _ hf hP hD hS (lv_sub hl [1, 0] rfl)
/-! MarbleFloor$ProgramReader.endBody()V -/
abbrev wlX6_endBody : List Cond := Cond.code yX6_endBody cX6_endBody 3 none :: tbG
abbrev rmX6_endBody : Room := { frames := 5, cells := 0, slots := 0, locals := 112 }
theorem qnX6_endBody : yX6_endBody.cls = RX6 ∧ yX6_endBody.cls ≠ "java/lang/invoke/MethodHandle" ∧ yX6_endBody.cls ≠ "java/lang/invoke/VarHandle" ∧ (parseMethodDescriptor yX6_endBody.desc).map (fun d => d.parameters.length) = some 0 := by decide +kernel
def f_X6_endBody_55 (r1 : Nat → Nat → Int32) (l1 : Nat → Nat → Int64) (l2 : Nat → Nat → Int64)  (i0 : Nat → Int32) (r0 : Nat → Nat → Int32) (i1 : Nat → Int32) (i2 : Nat → Int32) (r2 : Nat → Nat → Int32) (x1 : Int32) (y0 : Int32) : Option ((Nat → Int32) × (Nat → Nat → Int32) × (Nat → Int32) × (Nat → Int32) × (Nat → Nat → Int32)) := bd (f_X9_wantKey i1 r1 l1 y0) (fun q7 => some ((upd i0 4 ((2 * x1) + 1)), r0, q7, i2, r2))
set_option maxRecDepth 100000 in
set_option maxHeartbeats 4000000 in
theorem w_X6_endBody_55 {p : Program} {l : Launch} {e : Env} {s : State} {m : MethodId} {args : Array Value} {below : List Frame} {meth : Method} {c : Code} {A : Nat → Prop} {D : va_G} {cs zs : Nat → Nat} {h0 : Nat} {a0 : Nat → Nat} {a1 : Nat → Nat} {a2 : Nat → Nat} {r1 : Nat → Nat → Int32} {l1 : Nat → Nat → Int64} {l2 : Nat → Nat → Int64} {q : (Nat → Int32) × (Nat → Nat → Int32) × (Nat → Int32) × (Nat → Int32) × (Nat → Nat → Int32)} (C : Cx p s m args meth c A D cs zs cX6_endBody 3 none RX6)  : ∀ (i0 : Nat → Int32) (r0 : Nat → Nat → Int32) (i1 : Nat → Int32) (i2 : Nat → Int32) (r2 : Nat → Nat → Int32) (x1 : Int32) (y0 : Int32) (H : Heap) (locs : List Loc) (ls : Array Slot), f_X6_endBody_55 r1 l1 l2 i0 r0 i1 i2 r2 x1 y0 = some q → va_P D vwCl (W6 cs h0 a0 i0 r0 ++ (W9 cs (a0 0) a1 i1 r1 l1 ++ W5 cs (a0 3) a2 i2 r2 l2)) H → va_D A (W6 cs h0 a0 i0 r0 ++ (W9 cs (a0 0) a1 i1 r1 l1 ++ W5 cs (a0 3) a2 i2 r2 l2)) → va_S A s.heap H locs → lv_has ls 3 [(0, .ref h0), (1, .int x1)] → W p l e rmX6_endBody s m args below meth c H locs 0 0 (MQ below (Qv D cs A (W6 cs h0 a0 q.1 q.2.1 ++ (W9 cs (a0 0) a1 q.2.2.1 r1 l1 ++ W5 cs (a0 3) a2 q.2.2.2.1 q.2.2.2.2 l2))) args s 0 0 A) (F0 m 55 ls [.int y0, .ref (a0 0)]) := by
  obtain ⟨hx, hb, hr, hml, hown, hts, hK, hA, hlocks, hZ⟩ := id C
  intro i0 r0 i1 i2 r2 x1 y0 H locs ls hf hP hD hS hl
  rw [f_X6_endBody_55] at hf
  obtain ⟨q7, hq7, hf⟩ := bd_s hf
  refine k_pVv (wr := W6 cs h0 a0 i0 r0 ++ W5 cs (a0 3) a2 i2 r2 l2) (ws2 := W6 cs h0 a0 i0 r0 ++ (W9 cs (a0 0) a1 q7 r1 l1 ++ W5 cs (a0 3) a2 i2 r2 l2)) (As := [.int y0]) (rest := []) hx hb hml hown hts hK hA hZ hl.1 hP hD hS (c_X9_wantKey (h0 := (a0 0)) (a0 := a1) hq7) (gVt mlX6_79 imX9_wantKey seX9_wantKey inX9 coX9_wantKey) rfl qnX9_wantKey rfl rfl ⟨Nat.le_of_ble_eq_true rfl, Nat.le_of_ble_eq_true rfl⟩ [3, 4, 5, 6, 7, 8] [0, 1, 2, 9, 10, 11, 12, 13, 14, 15, 16, 17, 18, 19, 20, 21, 22] [0, 1, 2, 17, 18, 19, 20, 21, 22, 3, 4, 5, 6, 7, 8, 9, 10, 11, 12, 13, 14, 15, 16] rfl rfl rfl (by decide) 0 9 rfl rfl rfl rfl rfl (Nat.le_of_ble_eq_true rfl) ⟨Nat.zero_le _, Nat.zero_le _⟩ dX6_endBody_55 (fun H locs hP hD hS => ?_)
  refine lv_aload_n hx hb dX6_endBody_58 rfl (lv_at hl 0 rfl) ?_
  refine lv_iconst (v := 2) hx hb dX6_endBody_59 (by decide) ?_
  refine lv_iload_n hx hb dX6_endBody_60 rfl (lv_at hl 1 rfl) ?_
  refine lv_imul hx hb dX6_endBody_61 ?_
  refine lv_iconst (v := 1) hx hb dX6_endBody_62 (by decide) ?_
  refine lv_iadd hx hb dX6_endBody_63 ?_
  refine va_put (D := D) (ci := 6) (v := .int ((2 * x1) + 1)) (ty := .int) (C := RX6) (T := TX6) (N := 9) hx hb hts hiX6 tyX6 tyX6_ok nmX6 hown hK hP hD hS 0 rfl rfl 4 (by decide) (hts _ flX6_31) (fun _ h9 => h9) rfl (tyX6_ok 4 (by decide)) rfl rfl (Nat.le_of_ble_eq_true rfl) dX6_endBody_64 (fun H locs hP hD hS => ?_)
  obtain ⟨hP, hD⟩ := st6_4_T hP hD
  obtain rfl := Option.some.inj hf
  exact k_vret hx hb hr hlocks hK hP hD hS dX6_endBody_67
def f_X6_endBody_83 (r1 : Nat → Nat → Int32) (l1 : Nat → Nat → Int64) (l2 : Nat → Nat → Int64)  (i0 : Nat → Int32) (r0 : Nat → Nat → Int32) (i1 : Nat → Int32) (i2 : Nat → Int32) (r2 : Nat → Nat → Int32) (x1 : Int32) (y0 : Int32) : Option ((Nat → Int32) × (Nat → Nat → Int32) × (Nat → Int32) × (Nat → Int32) × (Nat → Nat → Int32)) := bd (f_X9_wantKey i1 r1 l1 y0) (fun q8 => bd (f_X6_readTest i0 r0 q8 r1 l1 i2 r2 l2 x1 1) (fun q9 => bd (f_X9_wantKind q9.2.2.1 r1 l1 59) (fun q10 => bd (f_X5_bodyOf q9.2.2.2.1 q9.2.2.2.2 l2 x1) (fun q11 => some ((upd (upd q9.1 5 ((q9.1 5) - 1)) 4 q11), q9.2.1, q10, q9.2.2.2.1, q9.2.2.2.2)))))
set_option maxRecDepth 100000 in
set_option maxHeartbeats 4000000 in
theorem w_X6_endBody_83 {p : Program} {l : Launch} {e : Env} {s : State} {m : MethodId} {args : Array Value} {below : List Frame} {meth : Method} {c : Code} {A : Nat → Prop} {D : va_G} {cs zs : Nat → Nat} {h0 : Nat} {a0 : Nat → Nat} {a1 : Nat → Nat} {a2 : Nat → Nat} {r1 : Nat → Nat → Int32} {l1 : Nat → Nat → Int64} {l2 : Nat → Nat → Int64} {q : (Nat → Int32) × (Nat → Nat → Int32) × (Nat → Int32) × (Nat → Int32) × (Nat → Nat → Int32)} (C : Cx p s m args meth c A D cs zs cX6_endBody 3 none RX6)  : ∀ (i0 : Nat → Int32) (r0 : Nat → Nat → Int32) (i1 : Nat → Int32) (i2 : Nat → Int32) (r2 : Nat → Nat → Int32) (x1 : Int32) (y0 : Int32) (H : Heap) (locs : List Loc) (ls : Array Slot), f_X6_endBody_83 r1 l1 l2 i0 r0 i1 i2 r2 x1 y0 = some q → va_P D vwCl (W6 cs h0 a0 i0 r0 ++ (W9 cs (a0 0) a1 i1 r1 l1 ++ W5 cs (a0 3) a2 i2 r2 l2)) H → va_D A (W6 cs h0 a0 i0 r0 ++ (W9 cs (a0 0) a1 i1 r1 l1 ++ W5 cs (a0 3) a2 i2 r2 l2)) → va_S A s.heap H locs → lv_has ls 3 [(0, .ref h0), (1, .int x1)] → W p l e rmX6_endBody s m args below meth c H locs 0 0 (MQ below (Qv D cs A (W6 cs h0 a0 q.1 q.2.1 ++ (W9 cs (a0 0) a1 q.2.2.1 r1 l1 ++ W5 cs (a0 3) a2 q.2.2.2.1 q.2.2.2.2 l2))) args s 0 0 A) (F0 m 83 ls [.int y0, .ref (a0 0)]) := by
  obtain ⟨hx, hb, hr, hml, hown, hts, hK, hA, hlocks, hZ⟩ := id C
  intro i0 r0 i1 i2 r2 x1 y0 H locs ls hf hP hD hS hl
  rw [f_X6_endBody_83] at hf
  obtain ⟨q8, hq8, hf⟩ := bd_s hf
  refine k_pVv (wr := W6 cs h0 a0 i0 r0 ++ W5 cs (a0 3) a2 i2 r2 l2) (ws2 := W6 cs h0 a0 i0 r0 ++ (W9 cs (a0 0) a1 q8 r1 l1 ++ W5 cs (a0 3) a2 i2 r2 l2)) (As := [.int y0]) (rest := []) hx hb hml hown hts hK hA hZ hl.1 hP hD hS (c_X9_wantKey (h0 := (a0 0)) (a0 := a1) hq8) (gVt mlX6_79 imX9_wantKey seX9_wantKey inX9 coX9_wantKey) rfl qnX9_wantKey rfl rfl ⟨Nat.le_of_ble_eq_true rfl, Nat.le_of_ble_eq_true rfl⟩ [3, 4, 5, 6, 7, 8] [0, 1, 2, 9, 10, 11, 12, 13, 14, 15, 16, 17, 18, 19, 20, 21, 22] [0, 1, 2, 17, 18, 19, 20, 21, 22, 3, 4, 5, 6, 7, 8, 9, 10, 11, 12, 13, 14, 15, 16] rfl rfl rfl (by decide) 0 9 rfl rfl rfl rfl rfl (Nat.le_of_ble_eq_true rfl) ⟨Nat.zero_le _, Nat.zero_le _⟩ dX6_endBody_83 (fun H locs hP hD hS => ?_)
  refine lv_aload_n hx hb dX6_endBody_86 rfl (lv_at hl 0 rfl) ?_
  refine lv_iload_n hx hb dX6_endBody_87 rfl (lv_at hl 1 rfl) ?_
  refine lv_iconst (v := 1) hx hb dX6_endBody_88 (by decide) ?_
  obtain ⟨q9, hq9, hf⟩ := bd_s hf
  refine k_sVv (ws2 := W6 cs h0 a0 q9.1 q9.2.1 ++ (W9 cs (a0 0) a1 q9.2.2.1 r1 l1 ++ W5 cs (a0 3) a2 q9.2.2.2.1 q9.2.2.2.2 l2)) (As := [.int x1, .int 1]) (rest := []) hx hb hml hown hts hK hA hZ hl.1 hP hD hS (c_X6_readTest (h0 := h0) (a0 := a0) (a1 := a1) (a2 := a2) hq9) (gVt mlX6_112 imX6_readTest seX6_readTest inX6 coX6_readTest) rfl qnX6_readTest rfl rfl ⟨Nat.le_of_ble_eq_true rfl, Nat.le_of_ble_eq_true rfl⟩ 0 6 rfl rfl rfl rfl rfl (Nat.le_of_ble_eq_true rfl) ⟨Nat.zero_le _, Nat.zero_le _⟩ dX6_endBody_89 (fun H locs hP hD hS => ?_)
  refine lv_aload_n hx hb dX6_endBody_92 rfl (lv_at hl 0 rfl) ?_
  refine va_get (D := D) (ci := 6) (v := .ref (a0 0)) (C := RX6) (T := TX6) (N := 9) hx hb hts hiX6 hown hK hP 0 rfl rfl 0 (by decide) (hts _ flX6_18) (fun _ h9 => h9) rfl dX6_endBody_93 ?_
  refine lv_bipush (v := 59) hx hb dX6_endBody_96 (by decide) ?_
  obtain ⟨q10, hq10, hf⟩ := bd_s hf
  refine k_pVv (wr := W6 cs h0 a0 q9.1 q9.2.1 ++ W5 cs (a0 3) a2 q9.2.2.2.1 q9.2.2.2.2 l2) (ws2 := W6 cs h0 a0 q9.1 q9.2.1 ++ (W9 cs (a0 0) a1 q10 r1 l1 ++ W5 cs (a0 3) a2 q9.2.2.2.1 q9.2.2.2.2 l2)) (As := [.int 59]) (rest := []) hx hb hml hown hts hK hA hZ hl.1 hP hD hS (c_X9_wantKind (h0 := (a0 0)) (a0 := a1) hq10) (gVt mlX6_99 imX9_wantKind seX9_wantKind inX9 coX9_wantKind) rfl qnX9_wantKind rfl rfl ⟨Nat.le_of_ble_eq_true rfl, Nat.le_of_ble_eq_true rfl⟩ [3, 4, 5, 6, 7, 8] [0, 1, 2, 9, 10, 11, 12, 13, 14, 15, 16, 17, 18, 19, 20, 21, 22] [0, 1, 2, 17, 18, 19, 20, 21, 22, 3, 4, 5, 6, 7, 8, 9, 10, 11, 12, 13, 14, 15, 16] rfl rfl rfl (by decide) 0 9 rfl rfl rfl rfl rfl (Nat.le_of_ble_eq_true rfl) ⟨Nat.zero_le _, Nat.zero_le _⟩ dX6_endBody_98 (fun H locs hP hD hS => ?_)
  refine lv_aload_n hx hb dX6_endBody_101 rfl (lv_at hl 0 rfl) ?_
  refine lv_dup hx hb dX6_endBody_102 rfl ?_
  refine va_get (D := D) (ci := 6) (v := .int (q9.1 5)) (C := RX6) (T := TX6) (N := 9) hx hb hts hiX6 hown hK hP 0 rfl rfl 5 (by decide) (hts _ flX6_35) (fun _ h9 => h9) rfl dX6_endBody_103 ?_
  refine lv_iconst (v := 1) hx hb dX6_endBody_106 (by decide) ?_
  refine lv_isub hx hb dX6_endBody_107 ?_
  refine va_put (D := D) (ci := 6) (v := .int ((q9.1 5) - 1)) (ty := .int) (C := RX6) (T := TX6) (N := 9) hx hb hts hiX6 tyX6 tyX6_ok nmX6 hown hK hP hD hS 0 rfl rfl 5 (by decide) (hts _ flX6_35) (fun _ h9 => h9) rfl (tyX6_ok 5 (by decide)) rfl rfl (Nat.le_of_ble_eq_true rfl) dX6_endBody_108 (fun H locs hP hD hS => ?_)
  obtain ⟨hP, hD⟩ := st6_5_T hP hD
  refine lv_aload_n hx hb dX6_endBody_111 rfl (lv_at hl 0 rfl) ?_
  refine lv_aload_n hx hb dX6_endBody_112 rfl (lv_at hl 0 rfl) ?_
  refine va_get (D := D) (ci := 6) (v := .ref (a0 3)) (C := RX6) (T := TX6) (N := 9) hx hb hts hiX6 hown hK hP 0 rfl rfl 3 (by decide) (hts _ flX6_22) (fun _ h9 => h9) rfl dX6_endBody_113 ?_
  refine lv_iload_n hx hb dX6_endBody_116 rfl (lv_at hl 1 rfl) ?_
  obtain ⟨q11, hq11, hf⟩ := bd_s hf
  refine k_pVi (wr := W6 cs h0 a0 (upd q9.1 5 ((q9.1 5) - 1)) q9.2.1 ++ W9 cs (a0 0) a1 q10 r1 l1) (ws2 := W6 cs h0 a0 (upd q9.1 5 ((q9.1 5) - 1)) q9.2.1 ++ (W9 cs (a0 0) a1 q10 r1 l1 ++ W5 cs (a0 3) a2 q9.2.2.2.1 q9.2.2.2.2 l2)) (As := [.int x1]) (rest := [.ref h0]) hx hb hml hown hts hK hA hZ hl.1 hP hD hS (c_X5_bodyOf (h0 := (a0 3)) (a0 := a2) hq11) (gVt mlX6_130 imX5_bodyOf seX5_bodyOf inX5 coX5_bodyOf) rfl qnX5_bodyOf rfl rfl ⟨Nat.le_of_ble_eq_true rfl, Nat.le_of_ble_eq_true rfl⟩ [9, 10, 11, 12, 13, 14, 15, 16, 17, 18, 19, 20, 21, 22] [0, 1, 2, 3, 4, 5, 6, 7, 8] [0, 1, 2, 3, 4, 5, 6, 7, 8, 9, 10, 11, 12, 13, 14, 15, 16, 17, 18, 19, 20, 21, 22] rfl rfl rfl (by decide) 0 5 rfl rfl rfl rfl rfl (Nat.le_of_ble_eq_true rfl) ⟨Nat.zero_le _, Nat.zero_le _⟩ dX6_endBody_117 (fun H locs hP hD hS => ?_)
  refine va_put (D := D) (ci := 6) (v := .int q11) (ty := .int) (C := RX6) (T := TX6) (N := 9) hx hb hts hiX6 tyX6 tyX6_ok nmX6 hown hK hP hD hS 0 rfl rfl 4 (by decide) (hts _ flX6_31) (fun _ h9 => h9) rfl (tyX6_ok 4 (by decide)) rfl rfl (Nat.le_of_ble_eq_true rfl) dX6_endBody_120 (fun H locs hP hD hS => ?_)
  obtain ⟨hP, hD⟩ := st6_4_T hP hD
  obtain rfl := Option.some.inj hf
  exact k_vret hx hb hr hlocks hK hP hD hS dX6_endBody_123
def f_X6_endBody_29 (r1 : Nat → Nat → Int32) (l1 : Nat → Nat → Int64) (l2 : Nat → Nat → Int64)  (i0 : Nat → Int32) (r0 : Nat → Nat → Int32) (i1 : Nat → Int32) (i2 : Nat → Int32) (r2 : Nat → Nat → Int32) (x1 : Int32) (y0 : Int32) : Option ((Nat → Int32) × (Nat → Nat → Int32) × (Nat → Int32) × (Nat → Int32) × (Nat → Nat → Int32)) := if (i0 4) = (2 * x1) then (if y0 = 0 then (f_X6_endBody_55 r1 l1 l2 i0 r0 i1 i2 r2 x1 15) else (f_X6_endBody_55 r1 l1 l2 i0 r0 i1 i2 r2 x1 12)) else (if y0 = 0 then (f_X6_endBody_83 r1 l1 l2 i0 r0 i1 i2 r2 x1 16) else (f_X6_endBody_83 r1 l1 l2 i0 r0 i1 i2 r2 x1 13))
set_option maxRecDepth 100000 in
set_option maxHeartbeats 4000000 in
theorem w_X6_endBody_29 {p : Program} {l : Launch} {e : Env} {s : State} {m : MethodId} {args : Array Value} {below : List Frame} {meth : Method} {c : Code} {A : Nat → Prop} {D : va_G} {cs zs : Nat → Nat} {h0 : Nat} {a0 : Nat → Nat} {a1 : Nat → Nat} {a2 : Nat → Nat} {r1 : Nat → Nat → Int32} {l1 : Nat → Nat → Int64} {l2 : Nat → Nat → Int64} {q : (Nat → Int32) × (Nat → Nat → Int32) × (Nat → Int32) × (Nat → Int32) × (Nat → Nat → Int32)} (C : Cx p s m args meth c A D cs zs cX6_endBody 3 none RX6)  : ∀ (i0 : Nat → Int32) (r0 : Nat → Nat → Int32) (i1 : Nat → Int32) (i2 : Nat → Int32) (r2 : Nat → Nat → Int32) (x1 : Int32) (y0 : Int32) (H : Heap) (locs : List Loc) (ls : Array Slot), f_X6_endBody_29 r1 l1 l2 i0 r0 i1 i2 r2 x1 y0 = some q → va_P D vwCl (W6 cs h0 a0 i0 r0 ++ (W9 cs (a0 0) a1 i1 r1 l1 ++ W5 cs (a0 3) a2 i2 r2 l2)) H → va_D A (W6 cs h0 a0 i0 r0 ++ (W9 cs (a0 0) a1 i1 r1 l1 ++ W5 cs (a0 3) a2 i2 r2 l2)) → va_S A s.heap H locs → lv_has ls 3 [(0, .ref h0), (1, .int x1)] → W p l e rmX6_endBody s m args below meth c H locs 0 0 (MQ below (Qv D cs A (W6 cs h0 a0 q.1 q.2.1 ++ (W9 cs (a0 0) a1 q.2.2.1 r1 l1 ++ W5 cs (a0 3) a2 q.2.2.2.1 q.2.2.2.2 l2))) args s 0 0 A) (F0 m 29 ls [.int y0]) := by
  obtain ⟨hx, hb, hr, hml, hown, hts, hK, hA, hlocks, hZ⟩ := id C
  intro i0 r0 i1 i2 r2 x1 y0 H locs ls hf hP hD hS hl
  rw [f_X6_endBody_29] at hf
  refine lv_istore_n (lv' := [(2, .int y0), (0, .ref h0), (1, .int x1)]) hx hb dX6_endBody_29 rfl hl (by decide) rfl (fun ls hl => ?_)
  refine lv_aload_n hx hb dX6_endBody_30 rfl (lv_at hl 1 rfl) ?_
  refine va_get (D := D) (ci := 6) (v := .int (i0 4)) (C := RX6) (T := TX6) (N := 9) hx hb hts hiX6 hown hK hP 0 rfl rfl 4 (by decide) (hts _ flX6_31) (fun _ h9 => h9) rfl dX6_endBody_31 ?_
  refine lv_iconst (v := 2) hx hb dX6_endBody_34 (by decide) ?_
  refine lv_iload_n hx hb dX6_endBody_35 rfl (lv_at hl 2 rfl) ?_
  refine lv_imul hx hb dX6_endBody_36 ?_
  refine lv_icmp_ne (tgt := 68) hx hb dX6_endBody_37 (by decide) (fun hc => ?_) (fun hc => ?_)
  · have hf := ite_f hf hc
    refine lv_aload_n hx hb dX6_endBody_68 rfl (lv_at hl 1 rfl) ?_
    refine va_get (D := D) (ci := 6) (v := .ref (a0 0)) (C := RX6) (T := TX6) (N := 9) hx hb hts hiX6 hown hK hP 0 rfl rfl 0 (by decide) (hts _ flX6_18) (fun _ h9 => h9) rfl dX6_endBody_69 ?_
    refine lv_iload_n hx hb dX6_endBody_72 rfl (lv_at hl 0 rfl) ?_
    refine lv_if_eq (tgt := 81) hx hb dX6_endBody_73 (by decide) (fun hc => ?_) (fun hc => ?_)
    · have hf := ite_t hf hc
      refine lv_bipush (v := 16) hx hb dX6_endBody_81 (by decide) ?_
      exact w_X6_endBody_83 C  _ _ _ _ _ _ _ _ _ _ hf hP hD hS (lv_sub hl [1, 2] rfl)
    · have hf := ite_f hf hc
      refine lv_bipush (v := 13) hx hb dX6_endBody_76 (by decide) ?_
      refine lv_goto (tgt := 83) hx hb dX6_endBody_78 (by decide) ?_
      exact w_X6_endBody_83 C  _ _ _ _ _ _ _ _ _ _ hf hP hD hS (lv_sub hl [1, 2] rfl)
  · have hf := ite_t hf hc
    refine lv_aload_n hx hb dX6_endBody_40 rfl (lv_at hl 1 rfl) ?_
    refine va_get (D := D) (ci := 6) (v := .ref (a0 0)) (C := RX6) (T := TX6) (N := 9) hx hb hts hiX6 hown hK hP 0 rfl rfl 0 (by decide) (hts _ flX6_18) (fun _ h9 => h9) rfl dX6_endBody_41 ?_
    refine lv_iload_n hx hb dX6_endBody_44 rfl (lv_at hl 0 rfl) ?_
    refine lv_if_eq (tgt := 53) hx hb dX6_endBody_45 (by decide) (fun hc => ?_) (fun hc => ?_)
    · have hf := ite_t hf hc
      refine lv_bipush (v := 15) hx hb dX6_endBody_53 (by decide) ?_
      exact w_X6_endBody_55 C  _ _ _ _ _ _ _ _ _ _ hf hP hD hS (lv_sub hl [1, 2] rfl)
    · have hf := ite_f hf hc
      refine lv_bipush (v := 12) hx hb dX6_endBody_48 (by decide) ?_
      refine lv_goto (tgt := 55) hx hb dX6_endBody_50 (by decide) ?_
      exact w_X6_endBody_55 C  _ _ _ _ _ _ _ _ _ _ hf hP hD hS (lv_sub hl [1, 2] rfl)
def f_X6_endBody  (i0 : Nat → Int32) (r0 : Nat → Nat → Int32) (i1 : Nat → Int32) (r1 : Nat → Nat → Int32) (l1 : Nat → Nat → Int64) (i2 : Nat → Int32) (r2 : Nat → Nat → Int32) (l2 : Nat → Nat → Int64)  : Option ((Nat → Int32) × (Nat → Nat → Int32) × (Nat → Int32) × (Nat → Int32) × (Nat → Nat → Int32)) := ck (inb ((i0 5) - 1) 6) (bd (f_X5_kindOf i2 r2 l2 (r0 1 ((i0 5) - 1).toNatClampNeg)) (fun q12 => if q12 = 4 then (f_X6_endBody_29 r1 l1 l2 i0 r0 i1 i2 r2 (r0 1 ((i0 5) - 1).toNatClampNeg) 1) else (f_X6_endBody_29 r1 l1 l2 i0 r0 i1 i2 r2 (r0 1 ((i0 5) - 1).toNatClampNeg) 0)))
set_option maxRecDepth 100000 in
set_option maxHeartbeats 4000000 in
theorem c_X6_endBody {l : Launch} {D : va_G} {cs zs : Nat → Nat} {h0 : Nat} {a0 : Nat → Nat} {a1 : Nat → Nat} {a2 : Nat → Nat} {i0 : Nat → Int32} {r0 : Nat → Nat → Int32} {i1 : Nat → Int32} {r1 : Nat → Nat → Int32} {l1 : Nat → Nat → Int64} {i2 : Nat → Int32} {r2 : Nat → Nat → Int32} {l2 : Nat → Nat → Int64}  {q : (Nat → Int32) × (Nat → Nat → Int32) × (Nat → Int32) × (Nat → Int32) × (Nat → Nat → Int32)} (hf : f_X6_endBody i0 r0 i1 r1 l1 i2 r2 l2 = some q) : Mv l yX6_endBody wlX6_endBody rmX6_endBody D cs zs [.ref h0] (W6 cs h0 a0 i0 r0 ++ (W9 cs (a0 0) a1 i1 r1 l1 ++ W5 cs (a0 3) a2 i2 r2 l2)) (W6 cs h0 a0 q.1 q.2.1 ++ (W9 cs (a0 0) a1 q.2.2.1 r1 l1 ++ W5 cs (a0 3) a2 q.2.2.2.1 q.2.2.2.2 l2)) := by
  refine Mv.of RX6 (by decide) rfl (Nat.le_of_ble_eq_true rfl) (fun p e s m below meth c A C hP hD hS ls hl => ?_)
  generalize ([.ref h0] : List Value).toArray = args at C ⊢
  obtain ⟨hx, hb, hr, hml, hown, hts, hK, hA, hlocks, hZ⟩ := id C
  have hl : lv_has ls 3 [(0, .ref h0)] := hl
  rw [f_X6_endBody] at hf
  refine lv_aload_n hx hb dX6_endBody_0 rfl (lv_at hl 0 rfl) ?_
  refine va_get (D := D) (ci := 6) (v := .ref (a0 1)) (C := RX6) (T := TX6) (N := 9) hx hb hts hiX6 hown hK hP 0 rfl rfl 1 (by decide) (hts _ flX6_9) (fun _ h9 => h9) rfl dX6_endBody_1 ?_
  refine lv_aload_n hx hb dX6_endBody_4 rfl (lv_at hl 0 rfl) ?_
  refine va_get (D := D) (ci := 6) (v := .int (i0 5)) (C := RX6) (T := TX6) (N := 9) hx hb hts hiX6 hown hK hP 0 rfl rfl 5 (by decide) (hts _ flX6_35) (fun _ h9 => h9) rfl dX6_endBody_5 ?_
  refine lv_iconst (v := 1) hx hb dX6_endBody_8 (by decide) ?_
  refine lv_isub hx hb dX6_endBody_9 ?_
  refine va_iald (f := r0 1) hx hb hK hP 1 0 rfl rfl (ck_in hf) dX6_endBody_10 ?_
  have hf := ck_2 hf
  refine lv_istore_n (lv' := [(1, .int (r0 1 ((i0 5) - 1).toNatClampNeg)), (0, .ref h0)]) hx hb dX6_endBody_11 rfl hl (by decide) rfl (fun ls hl => ?_)
  refine lv_aload_n hx hb dX6_endBody_12 rfl (lv_at hl 1 rfl) ?_
  refine va_get (D := D) (ci := 6) (v := .ref (a0 3)) (C := RX6) (T := TX6) (N := 9) hx hb hts hiX6 hown hK hP 0 rfl rfl 3 (by decide) (hts _ flX6_22) (fun _ h9 => h9) rfl dX6_endBody_13 ?_
  refine lv_iload_n hx hb dX6_endBody_16 rfl (lv_at hl 0 rfl) ?_
  obtain ⟨q12, hq12, hf⟩ := bd_s hf
  refine k_pVi (wr := W6 cs h0 a0 i0 r0 ++ W9 cs (a0 0) a1 i1 r1 l1) (ws2 := W6 cs h0 a0 i0 r0 ++ (W9 cs (a0 0) a1 i1 r1 l1 ++ W5 cs (a0 3) a2 i2 r2 l2)) (As := [.int (r0 1 ((i0 5) - 1).toNatClampNeg)]) (rest := []) hx hb hml hown hts hK hA hZ hl.1 hP hD hS (c_X5_kindOf (h0 := (a0 3)) (a0 := a2) hq12) (gVt mlX6_126 imX5_kindOf seX5_kindOf inX5 coX5_kindOf) rfl qnX5_kindOf rfl rfl ⟨Nat.le_of_ble_eq_true rfl, Nat.le_of_ble_eq_true rfl⟩ [9, 10, 11, 12, 13, 14, 15, 16, 17, 18, 19, 20, 21, 22] [0, 1, 2, 3, 4, 5, 6, 7, 8] [0, 1, 2, 3, 4, 5, 6, 7, 8, 9, 10, 11, 12, 13, 14, 15, 16, 17, 18, 19, 20, 21, 22] rfl rfl rfl (by decide) 0 5 rfl rfl rfl rfl rfl (Nat.le_of_ble_eq_true rfl) ⟨Nat.zero_le _, Nat.zero_le _⟩ dX6_endBody_17 (fun H locs hP hD hS => ?_)
  refine lv_iconst (v := 4) hx hb dX6_endBody_20 (by decide) ?_
  refine lv_icmp_ne (tgt := 28) hx hb dX6_endBody_21 (by decide) (fun hc => ?_) (fun hc => ?_)
  · have hf := ite_f hf hc
    refine lv_iconst (v := 0) hx hb dX6_endBody_28 (by decide) ?_
    exact w_X6_endBody_29 C  _ _ _ _ _ _ _ _ _ _ hf hP hD hS (lv_sub hl [1, 0] rfl)
  · have hf := ite_t hf hc
    refine lv_iconst (v := 1) hx hb dX6_endBody_24 (by decide) ?_
    refine lv_goto (tgt := 29) hx hb dX6_endBody_25 (by decide) ?_
    exact w_X6_endBody_29 C  _ _ _ _ _ _ _ _ _ _ hf hP hD hS (lv_sub hl [1, 0] rfl)
/-! MarbleFloor$ProgramReader.readTail()V -/
abbrev wlX6_readTail : List Cond := Cond.code yX6_readTail cX6_readTail 1 none :: tbG
abbrev rmX6_readTail : Room := { frames := 2, cells := 0, slots := 0, locals := 42 }
theorem qnX6_readTail : yX6_readTail.cls = RX6 ∧ yX6_readTail.cls ≠ "java/lang/invoke/MethodHandle" ∧ yX6_readTail.cls ≠ "java/lang/invoke/VarHandle" ∧ (parseMethodDescriptor yX6_readTail.desc).map (fun d => d.parameters.length) = some 0 := by decide +kernel
def f_X6_readTail  (i0 : Nat → Int32) (r0 : Nat → Nat → Int32) (i1 : Nat → Int32) (r1 : Nat → Nat → Int32) (l1 : Nat → Nat → Int64) (i2 : Nat → Int32) (r2 : Nat → Nat → Int32) (l2 : Nat → Nat → Int64)  : Option ((Nat → Int32) × (Nat → Int32)) := bd (f_X9_wantKey i1 r1 l1 10) (fun q3 => bd (f_X9_wantKind q3 r1 l1 59) (fun q4 => some ((upd i0 4 (-1)), q4)))
set_option maxRecDepth 100000 in
set_option maxHeartbeats 4000000 in
theorem c_X6_readTail {l : Launch} {D : va_G} {cs zs : Nat → Nat} {h0 : Nat} {a0 : Nat → Nat} {a1 : Nat → Nat} {a2 : Nat → Nat} {i0 : Nat → Int32} {r0 : Nat → Nat → Int32} {i1 : Nat → Int32} {r1 : Nat → Nat → Int32} {l1 : Nat → Nat → Int64} {i2 : Nat → Int32} {r2 : Nat → Nat → Int32} {l2 : Nat → Nat → Int64}  {q : (Nat → Int32) × (Nat → Int32)} (hf : f_X6_readTail i0 r0 i1 r1 l1 i2 r2 l2 = some q) : Mv l yX6_readTail wlX6_readTail rmX6_readTail D cs zs [.ref h0] (W6 cs h0 a0 i0 r0 ++ (W9 cs (a0 0) a1 i1 r1 l1 ++ W5 cs (a0 3) a2 i2 r2 l2)) (W6 cs h0 a0 q.1 r0 ++ (W9 cs (a0 0) a1 q.2 r1 l1 ++ W5 cs (a0 3) a2 i2 r2 l2)) := by
  refine Mv.of RX6 (by decide) rfl (Nat.le_of_ble_eq_true rfl) (fun p e s m below meth c A C hP hD hS ls hl => ?_)
  generalize ([.ref h0] : List Value).toArray = args at C ⊢
  obtain ⟨hx, hb, hr, hml, hown, hts, hK, hA, hlocks, hZ⟩ := id C
  have hl : lv_has ls 1 [(0, .ref h0)] := hl
  rw [f_X6_readTail] at hf
  refine lv_aload_n hx hb dX6_readTail_0 rfl (lv_at hl 0 rfl) ?_
  refine va_get (D := D) (ci := 6) (v := .ref (a0 0)) (C := RX6) (T := TX6) (N := 9) hx hb hts hiX6 hown hK hP 0 rfl rfl 0 (by decide) (hts _ flX6_18) (fun _ h9 => h9) rfl dX6_readTail_1 ?_
  refine lv_bipush (v := 10) hx hb dX6_readTail_4 (by decide) ?_
  obtain ⟨q3, hq3, hf⟩ := bd_s hf
  refine k_pVv (wr := W6 cs h0 a0 i0 r0 ++ W5 cs (a0 3) a2 i2 r2 l2) (ws2 := W6 cs h0 a0 i0 r0 ++ (W9 cs (a0 0) a1 q3 r1 l1 ++ W5 cs (a0 3) a2 i2 r2 l2)) (As := [.int 10]) (rest := []) hx hb hml hown hts hK hA hZ hl.1 hP hD hS (c_X9_wantKey (h0 := (a0 0)) (a0 := a1) hq3) (gVt mlX6_79 imX9_wantKey seX9_wantKey inX9 coX9_wantKey) rfl qnX9_wantKey rfl rfl ⟨Nat.le_of_ble_eq_true rfl, Nat.le_of_ble_eq_true rfl⟩ [3, 4, 5, 6, 7, 8] [0, 1, 2, 9, 10, 11, 12, 13, 14, 15, 16, 17, 18, 19, 20, 21, 22] [0, 1, 2, 17, 18, 19, 20, 21, 22, 3, 4, 5, 6, 7, 8, 9, 10, 11, 12, 13, 14, 15, 16] rfl rfl rfl (by decide) 0 9 rfl rfl rfl rfl rfl (Nat.le_of_ble_eq_true rfl) ⟨Nat.zero_le _, Nat.zero_le _⟩ dX6_readTail_6 (fun H locs hP hD hS => ?_)
  refine lv_aload_n hx hb dX6_readTail_9 rfl (lv_at hl 0 rfl) ?_
  refine va_get (D := D) (ci := 6) (v := .ref (a0 0)) (C := RX6) (T := TX6) (N := 9) hx hb hts hiX6 hown hK hP 0 rfl rfl 0 (by decide) (hts _ flX6_18) (fun _ h9 => h9) rfl dX6_readTail_10 ?_
  refine lv_bipush (v := 59) hx hb dX6_readTail_13 (by decide) ?_
  obtain ⟨q4, hq4, hf⟩ := bd_s hf
  refine k_pVv (wr := W6 cs h0 a0 i0 r0 ++ W5 cs (a0 3) a2 i2 r2 l2) (ws2 := W6 cs h0 a0 i0 r0 ++ (W9 cs (a0 0) a1 q4 r1 l1 ++ W5 cs (a0 3) a2 i2 r2 l2)) (As := [.int 59]) (rest := []) hx hb hml hown hts hK hA hZ hl.1 hP hD hS (c_X9_wantKind (h0 := (a0 0)) (a0 := a1) hq4) (gVt mlX6_99 imX9_wantKind seX9_wantKind inX9 coX9_wantKind) rfl qnX9_wantKind rfl rfl ⟨Nat.le_of_ble_eq_true rfl, Nat.le_of_ble_eq_true rfl⟩ [3, 4, 5, 6, 7, 8] [0, 1, 2, 9, 10, 11, 12, 13, 14, 15, 16, 17, 18, 19, 20, 21, 22] [0, 1, 2, 17, 18, 19, 20, 21, 22, 3, 4, 5, 6, 7, 8, 9, 10, 11, 12, 13, 14, 15, 16] rfl rfl rfl (by decide) 0 9 rfl rfl rfl rfl rfl (Nat.le_of_ble_eq_true rfl) ⟨Nat.zero_le _, Nat.zero_le _⟩ dX6_readTail_15 (fun H locs hP hD hS => ?_)
  refine lv_aload_n hx hb dX6_readTail_18 rfl (lv_at hl 0 rfl) ?_
  refine lv_iconst (v := (-1)) hx hb dX6_readTail_19 (by decide) ?_
  refine va_put (D := D) (ci := 6) (v := .int (-1)) (ty := .int) (C := RX6) (T := TX6) (N := 9) hx hb hts hiX6 tyX6 tyX6_ok nmX6 hown hK hP hD hS 0 rfl rfl 4 (by decide) (hts _ flX6_31) (fun _ h9 => h9) rfl (tyX6_ok 4 (by decide)) rfl rfl (Nat.le_of_ble_eq_true rfl) dX6_readTail_20 (fun H locs hP hD hS => ?_)
  obtain ⟨hP, hD⟩ := st6_4_T hP hD
  obtain rfl := Option.some.inj hf
  exact k_vret hx hb hr hlocks hK hP hD hS dX6_readTail_23
/-! MarbleFloor$ProgramReader.readInto(LMarbleFloor$Program;)Z -/
abbrev wlX6_readInto : List Cond := Cond.code yX6_readInto cX6_readInto 3 (some .boolean) :: tbG
abbrev rmX6_readInto : Room := { frames := 6, cells := 0, slots := 0, locals := 135 }
theorem qnX6_readInto : yX6_readInto.cls = RX6 ∧ yX6_readInto.cls ≠ "java/lang/invoke/MethodHandle" ∧ yX6_readInto.cls ≠ "java/lang/invoke/VarHandle" ∧ (parseMethodDescriptor yX6_readInto.desc).map (fun d => d.parameters.length) = some 1 := by decide +kernel
def f_X6_readInto_125  (K36 : (Nat → Int32) → (Nat → Nat → Int32) → (Nat → Int32) → (Nat → Nat → Int64) → (Nat → Nat → Int32) → (Nat → Int32) → (Nat → Nat → Int64) → (Nat → Nat → Int32) → Int32 → Option (Int32 × (Nat → Int32) × (Nat → Nat → Int32) × (Nat → Int32) × (Nat → Nat → Int64) × (Nat → Nat → Int32) × (Nat → Int32) × (Nat → Nat → Int64) × (Nat → Nat → Int32))) (i0 : Nat → Int32) (r0 : Nat → Nat → Int32) (i1 : Nat → Int32) (l1 : Nat → Nat → Int64) (r1 : Nat → Nat → Int32) (i2 : Nat → Int32) (l2 : Nat → Nat → Int64) (r2 : Nat → Nat → Int32) (x2 : Int32) : Option (Int32 × (Nat → Int32) × (Nat → Nat → Int32) × (Nat → Int32) × (Nat → Nat → Int64) × (Nat → Nat → Int32) × (Nat → Int32) × (Nat → Nat → Int64) × (Nat → Nat → Int32)) := K36 i0 r0 i1 l1 r1 i2 l2 r2 (x2 + 1)
set_option maxRecDepth 100000 in
set_option maxHeartbeats 4000000 in
theorem w_X6_readInto_125 {p : Program} {l : Launch} {e : Env} {s : State} {m : MethodId} {args : Array Value} {below : List Frame} {meth : Method} {c : Code} {A : Nat → Prop} {D : va_G} {cs zs : Nat → Nat} {h0 : Nat} {a0 : Nat → Nat} {a1 : Nat → Nat} {h2 : Nat} {a2 : Nat → Nat}  {q : Int32 × (Nat → Int32) × (Nat → Nat → Int32) × (Nat → Int32) × (Nat → Nat → Int64) × (Nat → Nat → Int32) × (Nat → Int32) × (Nat → Nat → Int64) × (Nat → Nat → Int32)} (C : Cx p s m args meth c A D cs zs cX6_readInto 3 (some .boolean) RX6) (K36 : (Nat → Int32) → (Nat → Nat → Int32) → (Nat → Int32) → (Nat → Nat → Int64) → (Nat → Nat → Int32) → (Nat → Int32) → (Nat → Nat → Int64) → (Nat → Nat → Int32) → Int32 → Option (Int32 × (Nat → Int32) × (Nat → Nat → Int32) × (Nat → Int32) × (Nat → Nat → Int64) × (Nat → Nat → Int32) × (Nat → Int32) × (Nat → Nat → Int64) × (Nat → Nat → Int32))) (hK36 : ∀ (i0 : Nat → Int32) (r0 : Nat → Nat → Int32) (i1 : Nat → Int32) (l1 : Nat → Nat → Int64) (r1 : Nat → Nat → Int32) (i2 : Nat → Int32) (l2 : Nat → Nat → Int64) (r2 : Nat → Nat → Int32) (x2 : Int32) (H : Heap) (locs : List Loc) (ls : Array Slot), K36 i0 r0 i1 l1 r1 i2 l2 r2 x2 = some q → va_P D vwCl (W6 cs h0 (va_up a0 3 h2) i0 r0 ++ (W9 cs (a0 0) a1 i1 r1 l1 ++ W5 cs h2 a2 i2 r2 l2)) H → va_D A (W6 cs h0 (va_up a0 3 h2) i0 r0 ++ (W9 cs (a0 0) a1 i1 r1 l1 ++ W5 cs h2 a2 i2 r2 l2)) → va_S A s.heap H locs → lv_has ls 3 [(0, .ref h0), (2, .int x2)] → W p l e rmX6_readInto s m args below meth c H locs 0 0 (MQ below (Qi D cs A q.1 (W6 cs h0 (va_up a0 3 h2) q.2.1 q.2.2.1 ++ (W9 cs (a0 0) a1 q.2.2.2.1 q.2.2.2.2.2.1 q.2.2.2.2.1 ++ W5 cs h2 a2 q.2.2.2.2.2.2.1 q.2.2.2.2.2.2.2.2 q.2.2.2.2.2.2.2.1))) args s 0 0 A) (F0 m 36 ls [])) : ∀ (i0 : Nat → Int32) (r0 : Nat → Nat → Int32) (i1 : Nat → Int32) (l1 : Nat → Nat → Int64) (r1 : Nat → Nat → Int32) (i2 : Nat → Int32) (l2 : Nat → Nat → Int64) (r2 : Nat → Nat → Int32) (x2 : Int32) (H : Heap) (locs : List Loc) (ls : Array Slot), f_X6_readInto_125 K36 i0 r0 i1 l1 r1 i2 l2 r2 x2 = some q → va_P D vwCl (W6 cs h0 (va_up a0 3 h2) i0 r0 ++ (W9 cs (a0 0) a1 i1 r1 l1 ++ W5 cs h2 a2 i2 r2 l2)) H → va_D A (W6 cs h0 (va_up a0 3 h2) i0 r0 ++ (W9 cs (a0 0) a1 i1 r1 l1 ++ W5 cs h2 a2 i2 r2 l2)) → va_S A s.heap H locs → lv_has ls 3 [(0, .ref h0), (2, .int x2)] → W p l e rmX6_readInto s m args below meth c H locs 0 0 (MQ below (Qi D cs A q.1 (W6 cs h0 (va_up a0 3 h2) q.2.1 q.2.2.1 ++ (W9 cs (a0 0) a1 q.2.2.2.1 q.2.2.2.2.2.1 q.2.2.2.2.1 ++ W5 cs h2 a2 q.2.2.2.2.2.2.1 q.2.2.2.2.2.2.2.2 q.2.2.2.2.2.2.2.1))) args s 0 0 A) (F0 m 125 ls []) := by
  obtain ⟨hx, hb, hr, hml, hown, hts, hK, hA, hlocks, hZ⟩ := id C
  intro i0 r0 i1 l1 r1 i2 l2 r2 x2 H locs ls hf hP hD hS hl
  rw [f_X6_readInto_125] at hf
  refine lv_iinc (v := x2 + 1) (lv' := [(2, .int (x2 + 1)), (0, .ref h0)]) hx hb dX6_readInto_125 hl (k := 1) rfl rfl (by decide) rfl (fun ls hl => ?_)
  refine lv_goto (tgt := 36) hx hb dX6_readInto_128 (by decide) ?_
  exact hK36 _ _ _ _ _ _ _ _ _ _ _ _ hf hP hD hS (lv_sub hl [1, 0] rfl)
def f_X6_readInto_107  (K36 : (Nat → Int32) → (Nat → Nat → Int32) → (Nat → Int32) → (Nat → Nat → Int64) → (Nat → Nat → Int32) → (Nat → Int32) → (Nat → Nat → Int64) → (Nat → Nat → Int32) → Int32 → Option (Int32 × (Nat → Int32) × (Nat → Nat → Int32) × (Nat → Int32) × (Nat → Nat → Int64) × (Nat → Nat → Int32) × (Nat → Int32) × (Nat → Nat → Int64) × (Nat → Nat → Int32))) (i0 : Nat → Int32) (r0 : Nat → Nat → Int32) (i1 : Nat → Int32) (l1 : Nat → Nat → Int64) (r1 : Nat → Nat → Int32) (i2 : Nat → Int32) (l2 : Nat → Nat → Int64) (r2 : Nat → Nat → Int32) (x2 : Int32) : Option (Int32 × (Nat → Int32) × (Nat → Nat → Int32) × (Nat → Int32) × (Nat → Nat → Int64) × (Nat → Nat → Int32) × (Nat → Int32) × (Nat → Nat → Int64) × (Nat → Nat → Int32)) := if (i0 5) ≤ 0 then (bd (f_X6_readTail i0 r0 i1 r1 l1 i2 r2 l2) (fun q16 => f_X6_readInto_125 K36 q16.1 r0 q16.2 l1 r1 i2 l2 r2 x2)) else (bd (f_X6_endBody i0 r0 i1 r1 l1 i2 r2 l2) (fun q17 => f_X6_readInto_125 K36 q17.1 q17.2.1 q17.2.2.1 l1 r1 q17.2.2.2.1 l2 q17.2.2.2.2 x2))
set_option maxRecDepth 100000 in
set_option maxHeartbeats 4000000 in
theorem w_X6_readInto_107 {p : Program} {l : Launch} {e : Env} {s : State} {m : MethodId} {args : Array Value} {below : List Frame} {meth : Method} {c : Code} {A : Nat → Prop} {D : va_G} {cs zs : Nat → Nat} {h0 : Nat} {a0 : Nat → Nat} {a1 : Nat → Nat} {h2 : Nat} {a2 : Nat → Nat}  {q : Int32 × (Nat → Int32) × (Nat → Nat → Int32) × (Nat → Int32) × (Nat → Nat → Int64) × (Nat → Nat → Int32) × (Nat → Int32) × (Nat → Nat → Int64) × (Nat → Nat → Int32)} (C : Cx p s m args meth c A D cs zs cX6_readInto 3 (some .boolean) RX6) (K36 : (Nat → Int32) → (Nat → Nat → Int32) → (Nat → Int32) → (Nat → Nat → Int64) → (Nat → Nat → Int32) → (Nat → Int32) → (Nat → Nat → Int64) → (Nat → Nat → Int32) → Int32 → Option (Int32 × (Nat → Int32) × (Nat → Nat → Int32) × (Nat → Int32) × (Nat → Nat → Int64) × (Nat → Nat → Int32) × (Nat → Int32) × (Nat → Nat → Int64) × (Nat → Nat → Int32))) (hK36 : ∀ (i0 : Nat → Int32) (r0 : Nat → Nat → Int32) (i1 : Nat → Int32) (l1 : Nat → Nat → Int64) (r1 : Nat → Nat → Int32) (i2 : Nat → Int32) (l2 : Nat → Nat → Int64) (r2 : Nat → Nat → Int32) (x2 : Int32) (H : Heap) (locs : List Loc) (ls : Array Slot), K36 i0 r0 i1 l1 r1 i2 l2 r2 x2 = some q → va_P D vwCl (W6 cs h0 (va_up a0 3 h2) i0 r0 ++ (W9 cs (a0 0) a1 i1 r1 l1 ++ W5 cs h2 a2 i2 r2 l2)) H → va_D A (W6 cs h0 (va_up a0 3 h2) i0 r0 ++ (W9 cs (a0 0) a1 i1 r1 l1 ++ W5 cs h2 a2 i2 r2 l2)) → va_S A s.heap H locs → lv_has ls 3 [(0, .ref h0), (2, .int x2)] → W p l e rmX6_readInto s m args below meth c H locs 0 0 (MQ below (Qi D cs A q.1 (W6 cs h0 (va_up a0 3 h2) q.2.1 q.2.2.1 ++ (W9 cs (a0 0) a1 q.2.2.2.1 q.2.2.2.2.2.1 q.2.2.2.2.1 ++ W5 cs h2 a2 q.2.2.2.2.2.2.1 q.2.2.2.2.2.2.2.2 q.2.2.2.2.2.2.2.1))) args s 0 0 A) (F0 m 36 ls [])) : ∀ (i0 : Nat → Int32) (r0 : Nat → Nat → Int32) (i1 : Nat → Int32) (l1 : Nat → Nat → Int64) (r1 : Nat → Nat → Int32) (i2 : Nat → Int32) (l2 : Nat → Nat → Int64) (r2 : Nat → Nat → Int32) (x2 : Int32) (H : Heap) (locs : List Loc) (ls : Array Slot), f_X6_readInto_107 K36 i0 r0 i1 l1 r1 i2 l2 r2 x2 = some q → va_P D vwCl (W6 cs h0 (va_up a0 3 h2) i0 r0 ++ (W9 cs (a0 0) a1 i1 r1 l1 ++ W5 cs h2 a2 i2 r2 l2)) H → va_D A (W6 cs h0 (va_up a0 3 h2) i0 r0 ++ (W9 cs (a0 0) a1 i1 r1 l1 ++ W5 cs h2 a2 i2 r2 l2)) → va_S A s.heap H locs → lv_has ls 3 [(0, .ref h0), (2, .int x2)] → W p l e rmX6_readInto s m args below meth c H locs 0 0 (MQ below (Qi D cs A q.1 (W6 cs h0 (va_up a0 3 h2) q.2.1 q.2.2.1 ++ (W9 cs (a0 0) a1 q.2.2.2.1 q.2.2.2.2.2.1 q.2.2.2.2.1 ++ W5 cs h2 a2 q.2.2.2.2.2.2.1 q.2.2.2.2.2.2.2.2 q.2.2.2.2.2.2.2.1))) args s 0 0 A) (F0 m 107 ls []) := by
  obtain ⟨hx, hb, hr, hml, hown, hts, hK, hA, hlocks, hZ⟩ := id C
  intro i0 r0 i1 l1 r1 i2 l2 r2 x2 H locs ls hf hP hD hS hl
  rw [f_X6_readInto_107] at hf
  refine lv_aload_n hx hb dX6_readInto_107 rfl (lv_at hl 0 rfl) ?_
  refine va_get (D := D) (ci := 6) (v := .int (i0 5)) (C := RX6) (T := TX6) (N := 9) hx hb hts hiX6 hown hK hP 0 rfl rfl 5 (by decide) (hts _ flX6_35) (fun _ h9 => h9) rfl dX6_readInto_108 ?_
  refine lv_if_le (tgt := 121) hx hb dX6_readInto_111 (by decide) (fun hc => ?_) (fun hc => ?_)
  · have hf := ite_t hf hc
    refine lv_aload_n hx hb dX6_readInto_121 rfl (lv_at hl 0 rfl) ?_
    obtain ⟨q16, hq16, hf⟩ := bd_s hf
    refine k_sVv (ws2 := W6 cs h0 (va_up a0 3 h2) q16.1 r0 ++ (W9 cs (a0 0) a1 q16.2 r1 l1 ++ W5 cs h2 a2 i2 r2 l2)) (As := []) (rest := []) hx hb hml hown hts hK hA hZ hl.1 hP hD hS (c_X6_readTail (h0 := h0) (a0 := (va_up a0 3 h2)) (a1 := a1) (a2 := a2) hq16) (gVt mlX6_66 imX6_readTail seX6_readTail inX6 coX6_readTail) rfl qnX6_readTail rfl rfl ⟨Nat.le_of_ble_eq_true rfl, Nat.le_of_ble_eq_true rfl⟩ 0 6 rfl rfl rfl rfl rfl (Nat.le_of_ble_eq_true rfl) ⟨Nat.zero_le _, Nat.zero_le _⟩ dX6_readInto_122 (fun H locs hP hD hS => ?_)
    exact w_X6_readInto_125 C _ (hK36) _ _ _ _ _ _ _ _ _ _ _ _ hf hP hD hS (lv_sub hl [0, 1] rfl)
  · have hf := ite_f hf hc
    refine lv_aload_n hx hb dX6_readInto_114 rfl (lv_at hl 0 rfl) ?_
    obtain ⟨q17, hq17, hf⟩ := bd_s hf
    refine k_sVv (ws2 := W6 cs h0 (va_up a0 3 h2) q17.1 q17.2.1 ++ (W9 cs (a0 0) a1 q17.2.2.1 r1 l1 ++ W5 cs h2 a2 q17.2.2.2.1 q17.2.2.2.2 l2)) (As := []) (rest := []) hx hb hml hown hts hK hA hZ hl.1 hP hD hS (c_X6_endBody (h0 := h0) (a0 := (va_up a0 3 h2)) (a1 := a1) (a2 := a2) hq17) (gVt mlX6_63 imX6_endBody seX6_endBody inX6 coX6_endBody) rfl qnX6_endBody rfl rfl ⟨Nat.le_of_ble_eq_true rfl, Nat.le_of_ble_eq_true rfl⟩ 0 6 rfl rfl rfl rfl rfl (Nat.le_of_ble_eq_true rfl) ⟨Nat.zero_le _, Nat.zero_le _⟩ dX6_readInto_115 (fun H locs hP hD hS => ?_)
    refine lv_goto (tgt := 125) hx hb dX6_readInto_118 (by decide) ?_
    exact w_X6_readInto_125 C _ (hK36) _ _ _ _ _ _ _ _ _ _ _ _ hf hP hD hS (lv_sub hl [0, 1] rfl)
def f_X6_readInto_175   (i0 : Nat → Int32) (r0 : Nat → Nat → Int32) (i1 : Nat → Int32) (l1 : Nat → Nat → Int64) (r1 : Nat → Nat → Int32) (i2 : Nat → Int32) (l2 : Nat → Nat → Int64) (r2 : Nat → Nat → Int32) : Option (Int32 × (Nat → Int32) × (Nat → Nat → Int32) × (Nat → Int32) × (Nat → Nat → Int64) × (Nat → Nat → Int32) × (Nat → Int32) × (Nat → Nat → Int64) × (Nat → Nat → Int32)) := bd (f_X9_failed i1 r1 l1) (fun q18 => if q18 = 0 then (some (1, i0, r0, i1, l1, r1, i2, l2, r2)) else (some (0, i0, r0, i1, l1, r1, i2, l2, r2)))
set_option maxRecDepth 100000 in
set_option maxHeartbeats 4000000 in
theorem w_X6_readInto_175 {p : Program} {l : Launch} {e : Env} {s : State} {m : MethodId} {args : Array Value} {below : List Frame} {meth : Method} {c : Code} {A : Nat → Prop} {D : va_G} {cs zs : Nat → Nat} {h0 : Nat} {a0 : Nat → Nat} {a1 : Nat → Nat} {h2 : Nat} {a2 : Nat → Nat}  {q : Int32 × (Nat → Int32) × (Nat → Nat → Int32) × (Nat → Int32) × (Nat → Nat → Int64) × (Nat → Nat → Int32) × (Nat → Int32) × (Nat → Nat → Int64) × (Nat → Nat → Int32)} (C : Cx p s m args meth c A D cs zs cX6_readInto 3 (some .boolean) RX6)  : ∀ (i0 : Nat → Int32) (r0 : Nat → Nat → Int32) (i1 : Nat → Int32) (l1 : Nat → Nat → Int64) (r1 : Nat → Nat → Int32) (i2 : Nat → Int32) (l2 : Nat → Nat → Int64) (r2 : Nat → Nat → Int32) (H : Heap) (locs : List Loc) (ls : Array Slot), f_X6_readInto_175 i0 r0 i1 l1 r1 i2 l2 r2 = some q → va_P D vwCl (W6 cs h0 (va_up a0 3 h2) i0 r0 ++ (W9 cs (a0 0) a1 i1 r1 l1 ++ W5 cs h2 a2 i2 r2 l2)) H → va_D A (W6 cs h0 (va_up a0 3 h2) i0 r0 ++ (W9 cs (a0 0) a1 i1 r1 l1 ++ W5 cs h2 a2 i2 r2 l2)) → va_S A s.heap H locs → lv_has ls 3 [(0, .ref h0)] → W p l e rmX6_readInto s m args below meth c H locs 0 0 (MQ below (Qi D cs A q.1 (W6 cs h0 (va_up a0 3 h2) q.2.1 q.2.2.1 ++ (W9 cs (a0 0) a1 q.2.2.2.1 q.2.2.2.2.2.1 q.2.2.2.2.1 ++ W5 cs h2 a2 q.2.2.2.2.2.2.1 q.2.2.2.2.2.2.2.2 q.2.2.2.2.2.2.2.1))) args s 0 0 A) (F0 m 175 ls []) := by
  obtain ⟨hx, hb, hr, hml, hown, hts, hK, hA, hlocks, hZ⟩ := id C
  intro i0 r0 i1 l1 r1 i2 l2 r2 H locs ls hf hP hD hS hl
  rw [f_X6_readInto_175] at hf
  refine lv_aload_n hx hb dX6_readInto_175 rfl (lv_at hl 0 rfl) ?_
  refine va_get (D := D) (ci := 6) (v := .ref (a0 0)) (C := RX6) (T := TX6) (N := 9) hx hb hts hiX6 hown hK hP 0 rfl rfl 0 (by decide) (hts _ flX6_18) (fun _ h9 => h9) rfl dX6_readInto_176 ?_
  obtain ⟨q18, hq18, hf⟩ := bd_s hf
  refine k_pVi (wr := W6 cs h0 (va_up a0 3 h2) i0 r0 ++ W5 cs h2 a2 i2 r2 l2) (ws2 := W6 cs h0 (va_up a0 3 h2) i0 r0 ++ (W9 cs (a0 0) a1 i1 r1 l1 ++ W5 cs h2 a2 i2 r2 l2)) (As := []) (rest := []) hx hb hml hown hts hK hA hZ hl.1 hP hD hS (c_X9_failed (h0 := (a0 0)) (a0 := a1) hq18) (gVt mlX6_50 imX9_failed seX9_failed inX9 coX9_failed) rfl qnX9_failed rfl rfl ⟨Nat.le_of_ble_eq_true rfl, Nat.le_of_ble_eq_true rfl⟩ [3, 4, 5, 6, 7, 8] [0, 1, 2, 9, 10, 11, 12, 13, 14, 15, 16, 17, 18, 19, 20, 21, 22] [0, 1, 2, 17, 18, 19, 20, 21, 22, 3, 4, 5, 6, 7, 8, 9, 10, 11, 12, 13, 14, 15, 16] rfl rfl rfl (by decide) 0 9 rfl rfl rfl rfl rfl (Nat.le_of_ble_eq_true rfl) ⟨Nat.zero_le _, Nat.zero_le _⟩ dX6_readInto_179 (fun H locs hP hD hS => ?_)
  refine lv_if_ne (tgt := 189) hx hb dX6_readInto_182 (by decide) (fun hc => ?_) (fun hc => ?_)
  · have hf := ite_f hf hc
    refine lv_iconst (v := 0) hx hb dX6_readInto_189 (by decide) ?_
    obtain rfl := Option.some.inj hf
    exact k_zret (r := 0) hx hb hr hlocks rfl hK hP hD hS dX6_readInto_190
  · have hf := ite_t hf hc
    refine lv_iconst (v := 1) hx hb dX6_readInto_185 (by decide) ?_
    refine lv_goto (tgt := 190) hx hb dX6_readInto_186 (by decide) ?_
    obtain rfl := Option.some.inj hf
    exact k_zret (r := 1) hx hb hr hlocks rfl hK hP hD hS dX6_readInto_190
def f_X6_readInto_147   (i0 : Nat → Int32) (r0 : Nat → Nat → Int32) (i1 : Nat → Int32) (l1 : Nat → Nat → Int64) (r1 : Nat → Nat → Int32) (i2 : Nat → Int32) (l2 : Nat → Nat → Int64) (r2 : Nat → Nat → Int32) : Option (Int32 × (Nat → Int32) × (Nat → Nat → Int32) × (Nat → Int32) × (Nat → Nat → Int64) × (Nat → Nat → Int32) × (Nat → Int32) × (Nat → Nat → Int64) × (Nat → Nat → Int32)) := bd (f_X9_failed i1 r1 l1) (fun q19 => if q19 = 0 then (bd (f_X5_findCalled i2 r2 l2) (fun q20 => if q20.1 = 0 then (bd (f_X9_fail i1 r1 l1 5) (fun q21 => f_X6_readInto_175 i0 r0 q21 l1 r1 i2 l2 q20.2)) else (f_X6_readInto_175 i0 r0 i1 l1 r1 i2 l2 q20.2))) else (f_X6_readInto_175 i0 r0 i1 l1 r1 i2 l2 r2))
set_option maxRecDepth 100000 in
set_option maxHeartbeats 4000000 in
theorem w_X6_readInto_147 {p : Program} {l : Launch} {e : Env} {s : State} {m : MethodId} {args : Array Value} {below : List Frame} {meth : Method} {c : Code} {A : Nat → Prop} {D : va_G} {cs zs : Nat → Nat} {h0 : Nat} {a0 : Nat → Nat} {a1 : Nat → Nat} {h2 : Nat} {a2 : Nat → Nat}  {q : Int32 × (Nat → Int32) × (Nat → Nat → Int32) × (Nat → Int32) × (Nat → Nat → Int64) × (Nat → Nat → Int32) × (Nat → Int32) × (Nat → Nat → Int64) × (Nat → Nat → Int32)} (C : Cx p s m args meth c A D cs zs cX6_readInto 3 (some .boolean) RX6)  : ∀ (i0 : Nat → Int32) (r0 : Nat → Nat → Int32) (i1 : Nat → Int32) (l1 : Nat → Nat → Int64) (r1 : Nat → Nat → Int32) (i2 : Nat → Int32) (l2 : Nat → Nat → Int64) (r2 : Nat → Nat → Int32) (H : Heap) (locs : List Loc) (ls : Array Slot), f_X6_readInto_147 i0 r0 i1 l1 r1 i2 l2 r2 = some q → va_P D vwCl (W6 cs h0 (va_up a0 3 h2) i0 r0 ++ (W9 cs (a0 0) a1 i1 r1 l1 ++ W5 cs h2 a2 i2 r2 l2)) H → va_D A (W6 cs h0 (va_up a0 3 h2) i0 r0 ++ (W9 cs (a0 0) a1 i1 r1 l1 ++ W5 cs h2 a2 i2 r2 l2)) → va_S A s.heap H locs → lv_has ls 3 [(0, .ref h0)] → W p l e rmX6_readInto s m args below meth c H locs 0 0 (MQ below (Qi D cs A q.1 (W6 cs h0 (va_up a0 3 h2) q.2.1 q.2.2.1 ++ (W9 cs (a0 0) a1 q.2.2.2.1 q.2.2.2.2.2.1 q.2.2.2.2.1 ++ W5 cs h2 a2 q.2.2.2.2.2.2.1 q.2.2.2.2.2.2.2.2 q.2.2.2.2.2.2.2.1))) args s 0 0 A) (F0 m 147 ls []) := by
  obtain ⟨hx, hb, hr, hml, hown, hts, hK, hA, hlocks, hZ⟩ := id C
  intro i0 r0 i1 l1 r1 i2 l2 r2 H locs ls hf hP hD hS hl
  rw [f_X6_readInto_147] at hf
  refine lv_aload_n hx hb dX6_readInto_147 rfl (lv_at hl 0 rfl) ?_
  refine va_get (D := D) (ci := 6) (v := .ref (a0 0)) (C := RX6) (T := TX6) (N := 9) hx hb hts hiX6 hown hK hP 0 rfl rfl 0 (by decide) (hts _ flX6_18) (fun _ h9 => h9) rfl dX6_readInto_148 ?_
  obtain ⟨q19, hq19, hf⟩ := bd_s hf
  refine k_pVi (wr := W6 cs h0 (va_up a0 3 h2) i0 r0 ++ W5 cs h2 a2 i2 r2 l2) (ws2 := W6 cs h0 (va_up a0 3 h2) i0 r0 ++ (W9 cs (a0 0) a1 i1 r1 l1 ++ W5 cs h2 a2 i2 r2 l2)) (As := []) (rest := []) hx hb hml hown hts hK hA hZ hl.1 hP hD hS (c_X9_failed (h0 := (a0 0)) (a0 := a1) hq19) (gVt mlX6_50 imX9_failed seX9_failed inX9 coX9_failed) rfl qnX9_failed rfl rfl ⟨Nat.le_of_ble_eq_true rfl, Nat.le_of_ble_eq_true rfl⟩ [3, 4, 5, 6, 7, 8] [0, 1, 2, 9, 10, 11, 12, 13, 14, 15, 16, 17, 18, 19, 20, 21, 22] [0, 1, 2, 17, 18, 19, 20, 21, 22, 3, 4, 5, 6, 7, 8, 9, 10, 11, 12, 13, 14, 15, 16] rfl rfl rfl (by decide) 0 9 rfl rfl rfl rfl rfl (Nat.le_of_ble_eq_true rfl) ⟨Nat.zero_le _, Nat.zero_le _⟩ dX6_readInto_151 (fun H locs hP hD hS => ?_)
  refine lv_if_ne (tgt := 175) hx hb dX6_readInto_154 (by decide) (fun hc => ?_) (fun hc => ?_)
  · have hf := ite_f hf hc
    exact w_X6_readInto_175 C  _ _ _ _ _ _ _ _ _ _ _ hf hP hD hS (lv_sub hl [0] rfl)
  · have hf := ite_t hf hc
    refine lv_aload_n hx hb dX6_readInto_157 rfl (lv_at hl 0 rfl) ?_
    refine va_get (D := D) (ci := 6) (v := .ref h2) (C := RX6) (T := TX6) (N := 9) hx hb hts hiX6 hown hK hP 0 rfl rfl 3 (by decide) (hts _ flX6_22) (fun _ h9 => h9) rfl dX6_readInto_158 ?_
    obtain ⟨q20, hq20, hf⟩ := bd_s hf
    refine k_pVi (wr := W6 cs h0 (va_up a0 3 h2) i0 r0 ++ W9 cs (a0 0) a1 i1 r1 l1) (ws2 := W6 cs h0 (va_up a0 3 h2) i0 r0 ++ (W9 cs (a0 0) a1 i1 r1 l1 ++ W5 cs h2 a2 i2 q20.2 l2)) (As := []) (rest := []) hx hb hml hown hts hK hA hZ hl.1 hP hD hS (c_X5_findCalled (h0 := h2) (a0 := a2) hq20) (gVt mlX6_73 imX5_findCalled seX5_findCalled inX5 coX5_findCalled) rfl qnX5_findCalled rfl rfl ⟨Nat.le_of_ble_eq_true rfl, Nat.le_of_ble_eq_true rfl⟩ [9, 10, 11, 12, 13, 14, 15, 16, 17, 18, 19, 20, 21, 22] [0, 1, 2, 3, 4, 5, 6, 7, 8] [0, 1, 2, 3, 4, 5, 6, 7, 8, 9, 10, 11, 12, 13, 14, 15, 16, 17, 18, 19, 20, 21, 22] rfl rfl rfl (by decide) 0 5 rfl rfl rfl rfl rfl (Nat.le_of_ble_eq_true rfl) ⟨Nat.zero_le _, Nat.zero_le _⟩ dX6_readInto_161 (fun H locs hP hD hS => ?_)
    refine lv_if_ne (tgt := 175) hx hb dX6_readInto_164 (by decide) (fun hc => ?_) (fun hc => ?_)
    · have hf := ite_f hf hc
      exact w_X6_readInto_175 C  _ _ _ _ _ _ _ _ _ _ _ hf hP hD hS (lv_sub hl [0] rfl)
    · have hf := ite_t hf hc
      refine lv_aload_n hx hb dX6_readInto_167 rfl (lv_at hl 0 rfl) ?_
      refine va_get (D := D) (ci := 6) (v := .ref (a0 0)) (C := RX6) (T := TX6) (N := 9) hx hb hts hiX6 hown hK hP 0 rfl rfl 0 (by decide) (hts _ flX6_18) (fun _ h9 => h9) rfl dX6_readInto_168 ?_
      refine lv_iconst (v := 5) hx hb dX6_readInto_171 (by decide) ?_
      obtain ⟨q21, hq21, hf⟩ := bd_s hf
      refine k_pVv (wr := W6 cs h0 (va_up a0 3 h2) i0 r0 ++ W5 cs h2 a2 i2 q20.2 l2) (ws2 := W6 cs h0 (va_up a0 3 h2) i0 r0 ++ (W9 cs (a0 0) a1 q21 r1 l1 ++ W5 cs h2 a2 i2 q20.2 l2)) (As := [.int 5]) (rest := []) hx hb hml hown hts hK hA hZ hl.1 hP hD hS (c_X9_fail (h0 := (a0 0)) (a0 := a1) hq21) (gVt mlX6_69 imX9_fail seX9_fail inX9 coX9_fail) rfl qnX9_fail rfl rfl ⟨Nat.le_of_ble_eq_true rfl, Nat.le_of_ble_eq_true rfl⟩ [3, 4, 5, 6, 7, 8] [0, 1, 2, 9, 10, 11, 12, 13, 14, 15, 16, 17, 18, 19, 20, 21, 22] [0, 1, 2, 17, 18, 19, 20, 21, 22, 3, 4, 5, 6, 7, 8, 9, 10, 11, 12, 13, 14, 15, 16] rfl rfl rfl (by decide) 0 9 rfl rfl rfl rfl rfl (Nat.le_of_ble_eq_true rfl) ⟨Nat.zero_le _, Nat.zero_le _⟩ dX6_readInto_172 (fun H locs hP hD hS => ?_)
      exact w_X6_readInto_175 C  _ _ _ _ _ _ _ _ _ _ _ hf hP hD hS (lv_sub hl [0] rfl)
def f_X6_readInto_131   (i0 : Nat → Int32) (r0 : Nat → Nat → Int32) (i1 : Nat → Int32) (l1 : Nat → Nat → Int64) (r1 : Nat → Nat → Int32) (i2 : Nat → Int32) (l2 : Nat → Nat → Int64) (r2 : Nat → Nat → Int32) : Option (Int32 × (Nat → Int32) × (Nat → Nat → Int32) × (Nat → Int32) × (Nat → Nat → Int64) × (Nat → Nat → Int32) × (Nat → Int32) × (Nat → Nat → Int64) × (Nat → Nat → Int32)) := if (i0 4) = (-1) then (f_X6_readInto_147 i0 r0 i1 l1 r1 i2 l2 r2) else (bd (f_X9_fail i1 r1 l1 1) (fun q22 => f_X6_readInto_147 i0 r0 q22 l1 r1 i2 l2 r2))
set_option maxRecDepth 100000 in
set_option maxHeartbeats 4000000 in
theorem w_X6_readInto_131 {p : Program} {l : Launch} {e : Env} {s : State} {m : MethodId} {args : Array Value} {below : List Frame} {meth : Method} {c : Code} {A : Nat → Prop} {D : va_G} {cs zs : Nat → Nat} {h0 : Nat} {a0 : Nat → Nat} {a1 : Nat → Nat} {h2 : Nat} {a2 : Nat → Nat}  {q : Int32 × (Nat → Int32) × (Nat → Nat → Int32) × (Nat → Int32) × (Nat → Nat → Int64) × (Nat → Nat → Int32) × (Nat → Int32) × (Nat → Nat → Int64) × (Nat → Nat → Int32)} (C : Cx p s m args meth c A D cs zs cX6_readInto 3 (some .boolean) RX6)  : ∀ (i0 : Nat → Int32) (r0 : Nat → Nat → Int32) (i1 : Nat → Int32) (l1 : Nat → Nat → Int64) (r1 : Nat → Nat → Int32) (i2 : Nat → Int32) (l2 : Nat → Nat → Int64) (r2 : Nat → Nat → Int32) (H : Heap) (locs : List Loc) (ls : Array Slot), f_X6_readInto_131 i0 r0 i1 l1 r1 i2 l2 r2 = some q → va_P D vwCl (W6 cs h0 (va_up a0 3 h2) i0 r0 ++ (W9 cs (a0 0) a1 i1 r1 l1 ++ W5 cs h2 a2 i2 r2 l2)) H → va_D A (W6 cs h0 (va_up a0 3 h2) i0 r0 ++ (W9 cs (a0 0) a1 i1 r1 l1 ++ W5 cs h2 a2 i2 r2 l2)) → va_S A s.heap H locs → lv_has ls 3 [(0, .ref h0)] → W p l e rmX6_readInto s m args below meth c H locs 0 0 (MQ below (Qi D cs A q.1 (W6 cs h0 (va_up a0 3 h2) q.2.1 q.2.2.1 ++ (W9 cs (a0 0) a1 q.2.2.2.1 q.2.2.2.2.2.1 q.2.2.2.2.1 ++ W5 cs h2 a2 q.2.2.2.2.2.2.1 q.2.2.2.2.2.2.2.2 q.2.2.2.2.2.2.2.1))) args s 0 0 A) (F0 m 131 ls []) := by
  obtain ⟨hx, hb, hr, hml, hown, hts, hK, hA, hlocks, hZ⟩ := id C
  intro i0 r0 i1 l1 r1 i2 l2 r2 H locs ls hf hP hD hS hl
  rw [f_X6_readInto_131] at hf
  refine lv_aload_n hx hb dX6_readInto_131 rfl (lv_at hl 0 rfl) ?_
  refine va_get (D := D) (ci := 6) (v := .int (i0 4)) (C := RX6) (T := TX6) (N := 9) hx hb hts hiX6 hown hK hP 0 rfl rfl 4 (by decide) (hts _ flX6_31) (fun _ h9 => h9) rfl dX6_readInto_132 ?_
  refine lv_iconst (v := (-1)) hx hb dX6_readInto_135 (by decide) ?_
  refine lv_icmp_eq (tgt := 147) hx hb dX6_readInto_136 (by decide) (fun hc => ?_) (fun hc => ?_)
  · have hf := ite_t hf hc
    exact w_X6_readInto_147 C  _ _ _ _ _ _ _ _ _ _ _ hf hP hD hS (lv_sub hl [0] rfl)
  · have hf := ite_f hf hc
    refine lv_aload_n hx hb dX6_readInto_139 rfl (lv_at hl 0 rfl) ?_
    refine va_get (D := D) (ci := 6) (v := .ref (a0 0)) (C := RX6) (T := TX6) (N := 9) hx hb hts hiX6 hown hK hP 0 rfl rfl 0 (by decide) (hts _ flX6_18) (fun _ h9 => h9) rfl dX6_readInto_140 ?_
    refine lv_iconst (v := 1) hx hb dX6_readInto_143 (by decide) ?_
    obtain ⟨q22, hq22, hf⟩ := bd_s hf
    refine k_pVv (wr := W6 cs h0 (va_up a0 3 h2) i0 r0 ++ W5 cs h2 a2 i2 r2 l2) (ws2 := W6 cs h0 (va_up a0 3 h2) i0 r0 ++ (W9 cs (a0 0) a1 q22 r1 l1 ++ W5 cs h2 a2 i2 r2 l2)) (As := [.int 1]) (rest := []) hx hb hml hown hts hK hA hZ hl.1 hP hD hS (c_X9_fail (h0 := (a0 0)) (a0 := a1) hq22) (gVt mlX6_69 imX9_fail seX9_fail inX9 coX9_fail) rfl qnX9_fail rfl rfl ⟨Nat.le_of_ble_eq_true rfl, Nat.le_of_ble_eq_true rfl⟩ [3, 4, 5, 6, 7, 8] [0, 1, 2, 9, 10, 11, 12, 13, 14, 15, 16, 17, 18, 19, 20, 21, 22] [0, 1, 2, 17, 18, 19, 20, 21, 22, 3, 4, 5, 6, 7, 8, 9, 10, 11, 12, 13, 14, 15, 16] rfl rfl rfl (by decide) 0 9 rfl rfl rfl rfl rfl (Nat.le_of_ble_eq_true rfl) ⟨Nat.zero_le _, Nat.zero_le _⟩ dX6_readInto_144 (fun H locs hP hD hS => ?_)
    exact w_X6_readInto_147 C  _ _ _ _ _ _ _ _ _ _ _ hf hP hD hS (lv_sub hl [0] rfl)
def f_X6_readInto_36   : Nat → (Nat → Int32) → (Nat → Nat → Int32) → (Nat → Int32) → (Nat → Nat → Int64) → (Nat → Nat → Int32) → (Nat → Int32) → (Nat → Nat → Int64) → (Nat → Nat → Int32) → Int32 → Option (Int32 × (Nat → Int32) × (Nat → Nat → Int32) × (Nat → Int32) × (Nat → Nat → Int64) × (Nat → Nat → Int32) × (Nat → Int32) × (Nat → Nat → Int64) × (Nat → Nat → Int32))
  | 0, _, _, _, _, _, _, _, _, _ => none
  | n + 1, i0, r0, i1, l1, r1, i2, l2, r2, x2 => if 900 < x2 then (f_X6_readInto_131 i0 r0 i1 l1 r1 i2 l2 r2) else (bd (f_X9_kind i1 r1 l1) (fun q23 => if q23 = 0 then (f_X6_readInto_131 i0 r0 i1 l1 r1 i2 l2 r2) else (bd (f_X9_failed i1 r1 l1) (fun q24 => if q24 = 0 then (if (i0 4) = (-1) then (bd (f_X6_readHead i0 r0 i1 r1 l1 i2 r2 l2) (fun q28 => f_X6_readInto_125 (f_X6_readInto_36 n) q28.1 r0 q28.2.1 l1 r1 q28.2.2.1 q28.2.2.2 r2 x2)) else (bd (f_X9_key i1 r1 l1) (fun q25 => if q25 < 0 then (f_X6_readInto_107 (f_X6_readInto_36 n) i0 r0 i1 l1 r1 i2 l2 r2 x2) else (bd (f_X9_key i1 r1 l1) (fun q26 => if 7 < q26 then (f_X6_readInto_107 (f_X6_readInto_36 n) i0 r0 i1 l1 r1 i2 l2 r2 x2) else (bd (f_X6_readStep i0 r0 i1 r1 l1 i2 r2 l2) (fun q27 => f_X6_readInto_125 (f_X6_readInto_36 n) q27.1 q27.2.1 q27.2.2.1 l1 r1 q27.2.2.2.1 q27.2.2.2.2.1 q27.2.2.2.2.2 x2))))))) else (f_X6_readInto_131 i0 r0 i1 l1 r1 i2 l2 r2)))))
set_option maxRecDepth 100000 in
set_option maxHeartbeats 4000000 in
theorem w_X6_readInto_36 {p : Program} {l : Launch} {e : Env} {s : State} {m : MethodId} {args : Array Value} {below : List Frame} {meth : Method} {c : Code} {A : Nat → Prop} {D : va_G} {cs zs : Nat → Nat} {h0 : Nat} {a0 : Nat → Nat} {a1 : Nat → Nat} {h2 : Nat} {a2 : Nat → Nat}  {q : Int32 × (Nat → Int32) × (Nat → Nat → Int32) × (Nat → Int32) × (Nat → Nat → Int64) × (Nat → Nat → Int32) × (Nat → Int32) × (Nat → Nat → Int64) × (Nat → Nat → Int32)} (C : Cx p s m args meth c A D cs zs cX6_readInto 3 (some .boolean) RX6)  : ∀ (n : Nat), ∀ (i0 : Nat → Int32) (r0 : Nat → Nat → Int32) (i1 : Nat → Int32) (l1 : Nat → Nat → Int64) (r1 : Nat → Nat → Int32) (i2 : Nat → Int32) (l2 : Nat → Nat → Int64) (r2 : Nat → Nat → Int32) (x2 : Int32) (H : Heap) (locs : List Loc) (ls : Array Slot), f_X6_readInto_36 n i0 r0 i1 l1 r1 i2 l2 r2 x2 = some q → va_P D vwCl (W6 cs h0 (va_up a0 3 h2) i0 r0 ++ (W9 cs (a0 0) a1 i1 r1 l1 ++ W5 cs h2 a2 i2 r2 l2)) H → va_D A (W6 cs h0 (va_up a0 3 h2) i0 r0 ++ (W9 cs (a0 0) a1 i1 r1 l1 ++ W5 cs h2 a2 i2 r2 l2)) → va_S A s.heap H locs → lv_has ls 3 [(0, .ref h0), (2, .int x2)] → W p l e rmX6_readInto s m args below meth c H locs 0 0 (MQ below (Qi D cs A q.1 (W6 cs h0 (va_up a0 3 h2) q.2.1 q.2.2.1 ++ (W9 cs (a0 0) a1 q.2.2.2.1 q.2.2.2.2.2.1 q.2.2.2.2.1 ++ W5 cs h2 a2 q.2.2.2.2.2.2.1 q.2.2.2.2.2.2.2.2 q.2.2.2.2.2.2.2.1))) args s 0 0 A) (F0 m 36 ls []) := by
  obtain ⟨hx, hb, hr, hml, hown, hts, hK, hA, hlocks, hZ⟩ := id C
  intro n
  induction n with
  | zero =>
    intro i0 r0 i1 l1 r1 i2 l2 r2 x2 H locs ls hf
    rw [f_X6_readInto_36] at hf
    cases hf
  | succ n ih =>
    intro i0 r0 i1 l1 r1 i2 l2 r2 x2 H locs ls hf hP hD hS hl
    rw [f_X6_readInto_36] at hf
    refine lv_iload_n hx hb dX6_readInto_36 rfl (lv_at hl 1 rfl) ?_
    refine lv_sipush (v := 900) hx hb dX6_readInto_37 (by decide) ?_
    refine lv_icmp_gt (tgt := 131) hx hb dX6_readInto_40 (by decide) (fun hc => ?_) (fun hc => ?_)
    · have hf := ite_t hf hc
      exact w_X6_readInto_131 C  _ _ _ _ _ _ _ _ _ _ _ hf hP hD hS (lv_sub hl [0] rfl)
    · have hf := ite_f hf hc
      refine lv_aload_n hx hb dX6_readInto_43 rfl (lv_at hl 0 rfl) ?_
      refine va_get (D := D) (ci := 6) (v := .ref (a0 0)) (C := RX6) (T := TX6) (N := 9) hx hb hts hiX6 hown hK hP 0 rfl rfl 0 (by decide) (hts _ flX6_18) (fun _ h9 => h9) rfl dX6_readInto_44 ?_
      obtain ⟨q23, hq23, hf⟩ := bd_s hf
      refine k_pVi (wr := W6 cs h0 (va_up a0 3 h2) i0 r0 ++ W5 cs h2 a2 i2 r2 l2) (ws2 := W6 cs h0 (va_up a0 3 h2) i0 r0 ++ (W9 cs (a0 0) a1 i1 r1 l1 ++ W5 cs h2 a2 i2 r2 l2)) (As := []) (rest := []) hx hb hml hown hts hK hA hZ hl.1 hP hD hS (c_X9_kind (h0 := (a0 0)) (a0 := a1) hq23) (gVt mlX6_46 imX9_kind seX9_kind inX9 coX9_kind) rfl qnX9_kind rfl rfl ⟨Nat.le_of_ble_eq_true rfl, Nat.le_of_ble_eq_true rfl⟩ [3, 4, 5, 6, 7, 8] [0, 1, 2, 9, 10, 11, 12, 13, 14, 15, 16, 17, 18, 19, 20, 21, 22] [0, 1, 2, 17, 18, 19, 20, 21, 22, 3, 4, 5, 6, 7, 8, 9, 10, 11, 12, 13, 14, 15, 16] rfl rfl rfl (by decide) 0 9 rfl rfl rfl rfl rfl (Nat.le_of_ble_eq_true rfl) ⟨Nat.zero_le _, Nat.zero_le _⟩ dX6_readInto_47 (fun H locs hP hD hS => ?_)
      refine lv_if_eq (tgt := 131) hx hb dX6_readInto_50 (by decide) (fun hc => ?_) (fun hc => ?_)
      · have hf := ite_t hf hc
        exact w_X6_readInto_131 C  _ _ _ _ _ _ _ _ _ _ _ hf hP hD hS (lv_sub hl [0] rfl)
      · have hf := ite_f hf hc
        refine lv_aload_n hx hb dX6_readInto_53 rfl (lv_at hl 0 rfl) ?_
        refine va_get (D := D) (ci := 6) (v := .ref (a0 0)) (C := RX6) (T := TX6) (N := 9) hx hb hts hiX6 hown hK hP 0 rfl rfl 0 (by decide) (hts _ flX6_18) (fun _ h9 => h9) rfl dX6_readInto_54 ?_
        obtain ⟨q24, hq24, hf⟩ := bd_s hf
        refine k_pVi (wr := W6 cs h0 (va_up a0 3 h2) i0 r0 ++ W5 cs h2 a2 i2 r2 l2) (ws2 := W6 cs h0 (va_up a0 3 h2) i0 r0 ++ (W9 cs (a0 0) a1 i1 r1 l1 ++ W5 cs h2 a2 i2 r2 l2)) (As := []) (rest := []) hx hb hml hown hts hK hA hZ hl.1 hP hD hS (c_X9_failed (h0 := (a0 0)) (a0 := a1) hq24) (gVt mlX6_50 imX9_failed seX9_failed inX9 coX9_failed) rfl qnX9_failed rfl rfl ⟨Nat.le_of_ble_eq_true rfl, Nat.le_of_ble_eq_true rfl⟩ [3, 4, 5, 6, 7, 8] [0, 1, 2, 9, 10, 11, 12, 13, 14, 15, 16, 17, 18, 19, 20, 21, 22] [0, 1, 2, 17, 18, 19, 20, 21, 22, 3, 4, 5, 6, 7, 8, 9, 10, 11, 12, 13, 14, 15, 16] rfl rfl rfl (by decide) 0 9 rfl rfl rfl rfl rfl (Nat.le_of_ble_eq_true rfl) ⟨Nat.zero_le _, Nat.zero_le _⟩ dX6_readInto_57 (fun H locs hP hD hS => ?_)
        refine lv_if_ne (tgt := 131) hx hb dX6_readInto_60 (by decide) (fun hc => ?_) (fun hc => ?_)
        · have hf := ite_f hf hc
          exact w_X6_readInto_131 C  _ _ _ _ _ _ _ _ _ _ _ hf hP hD hS (lv_sub hl [0] rfl)
        · have hf := ite_t hf hc
          refine lv_aload_n hx hb dX6_readInto_63 rfl (lv_at hl 0 rfl) ?_
          refine va_get (D := D) (ci := 6) (v := .int (i0 4)) (C := RX6) (T := TX6) (N := 9) hx hb hts hiX6 hown hK hP 0 rfl rfl 4 (by decide) (hts _ flX6_31) (fun _ h9 => h9) rfl dX6_readInto_64 ?_
          refine lv_iconst (v := (-1)) hx hb dX6_readInto_67 (by decide) ?_
          refine lv_icmp_ne (tgt := 78) hx hb dX6_readInto_68 (by decide) (fun hc => ?_) (fun hc => ?_)
          · have hf := ite_f hf hc
            refine lv_aload_n hx hb dX6_readInto_78 rfl (lv_at hl 0 rfl) ?_
            refine va_get (D := D) (ci := 6) (v := .ref (a0 0)) (C := RX6) (T := TX6) (N := 9) hx hb hts hiX6 hown hK hP 0 rfl rfl 0 (by decide) (hts _ flX6_18) (fun _ h9 => h9) rfl dX6_readInto_79 ?_
            obtain ⟨q25, hq25, hf⟩ := bd_s hf
            refine k_pVi (wr := W6 cs h0 (va_up a0 3 h2) i0 r0 ++ W5 cs h2 a2 i2 r2 l2) (ws2 := W6 cs h0 (va_up a0 3 h2) i0 r0 ++ (W9 cs (a0 0) a1 i1 r1 l1 ++ W5 cs h2 a2 i2 r2 l2)) (As := []) (rest := []) hx hb hml hown hts hK hA hZ hl.1 hP hD hS (c_X9_key (h0 := (a0 0)) (a0 := a1) hq25) (gVt mlX6_57 imX9_key seX9_key inX9 coX9_key) rfl qnX9_key rfl rfl ⟨Nat.le_of_ble_eq_true rfl, Nat.le_of_ble_eq_true rfl⟩ [3, 4, 5, 6, 7, 8] [0, 1, 2, 9, 10, 11, 12, 13, 14, 15, 16, 17, 18, 19, 20, 21, 22] [0, 1, 2, 17, 18, 19, 20, 21, 22, 3, 4, 5, 6, 7, 8, 9, 10, 11, 12, 13, 14, 15, 16] rfl rfl rfl (by decide) 0 9 rfl rfl rfl rfl rfl (Nat.le_of_ble_eq_true rfl) ⟨Nat.zero_le _, Nat.zero_le _⟩ dX6_readInto_82 (fun H locs hP hD hS => ?_)
            refine lv_if_lt (tgt := 107) hx hb dX6_readInto_85 (by decide) (fun hc => ?_) (fun hc => ?_)
            · have hf := ite_t hf hc
              exact w_X6_readInto_107 C _ (ih) _ _ _ _ _ _ _ _ _ _ _ _ hf hP hD hS (lv_sub hl [0, 1] rfl)
            · have hf := ite_f hf hc
              refine lv_aload_n hx hb dX6_readInto_88 rfl (lv_at hl 0 rfl) ?_
              refine va_get (D := D) (ci := 6) (v := .ref (a0 0)) (C := RX6) (T := TX6) (N := 9) hx hb hts hiX6 hown hK hP 0 rfl rfl 0 (by decide) (hts _ flX6_18) (fun _ h9 => h9) rfl dX6_readInto_89 ?_
              obtain ⟨q26, hq26, hf⟩ := bd_s hf
              refine k_pVi (wr := W6 cs h0 (va_up a0 3 h2) i0 r0 ++ W5 cs h2 a2 i2 r2 l2) (ws2 := W6 cs h0 (va_up a0 3 h2) i0 r0 ++ (W9 cs (a0 0) a1 i1 r1 l1 ++ W5 cs h2 a2 i2 r2 l2)) (As := []) (rest := []) hx hb hml hown hts hK hA hZ hl.1 hP hD hS (c_X9_key (h0 := (a0 0)) (a0 := a1) hq26) (gVt mlX6_57 imX9_key seX9_key inX9 coX9_key) rfl qnX9_key rfl rfl ⟨Nat.le_of_ble_eq_true rfl, Nat.le_of_ble_eq_true rfl⟩ [3, 4, 5, 6, 7, 8] [0, 1, 2, 9, 10, 11, 12, 13, 14, 15, 16, 17, 18, 19, 20, 21, 22] [0, 1, 2, 17, 18, 19, 20, 21, 22, 3, 4, 5, 6, 7, 8, 9, 10, 11, 12, 13, 14, 15, 16] rfl rfl rfl (by decide) 0 9 rfl rfl rfl rfl rfl (Nat.le_of_ble_eq_true rfl) ⟨Nat.zero_le _, Nat.zero_le _⟩ dX6_readInto_92 (fun H locs hP hD hS => ?_)
              refine lv_bipush (v := 7) hx hb dX6_readInto_95 (by decide) ?_
              refine lv_icmp_gt (tgt := 107) hx hb dX6_readInto_97 (by decide) (fun hc => ?_) (fun hc => ?_)
              · have hf := ite_t hf hc
                exact w_X6_readInto_107 C _ (ih) _ _ _ _ _ _ _ _ _ _ _ _ hf hP hD hS (lv_sub hl [0, 1] rfl)
              · have hf := ite_f hf hc
                refine lv_aload_n hx hb dX6_readInto_100 rfl (lv_at hl 0 rfl) ?_
                obtain ⟨q27, hq27, hf⟩ := bd_s hf
                refine k_sVv (ws2 := W6 cs h0 (va_up a0 3 h2) q27.1 q27.2.1 ++ (W9 cs (a0 0) a1 q27.2.2.1 r1 l1 ++ W5 cs h2 a2 q27.2.2.2.1 q27.2.2.2.2.2 q27.2.2.2.2.1)) (As := []) (rest := []) hx hb hml hown hts hK hA hZ hl.1 hP hD hS (c_X6_readStep (h0 := h0) (a0 := (va_up a0 3 h2)) (a1 := a1) (a2 := a2) hq27) (gVt mlX6_60 imX6_readStep seX6_readStep inX6 coX6_readStep) rfl qnX6_readStep rfl rfl ⟨Nat.le_of_ble_eq_true rfl, Nat.le_of_ble_eq_true rfl⟩ 0 6 rfl rfl rfl rfl rfl (Nat.le_of_ble_eq_true rfl) ⟨Nat.zero_le _, Nat.zero_le _⟩ dX6_readInto_101 (fun H locs hP hD hS => ?_)
                refine lv_goto (tgt := 125) hx hb dX6_readInto_104 (by decide) ?_
                exact w_X6_readInto_125 C _ (ih) _ _ _ _ _ _ _ _ _ _ _ _ hf hP hD hS (lv_sub hl [0, 1] rfl)
          · have hf := ite_t hf hc
            refine lv_aload_n hx hb dX6_readInto_71 rfl (lv_at hl 0 rfl) ?_
            obtain ⟨q28, hq28, hf⟩ := bd_s hf
            refine k_sVv (ws2 := W6 cs h0 (va_up a0 3 h2) q28.1 r0 ++ (W9 cs (a0 0) a1 q28.2.1 r1 l1 ++ W5 cs h2 a2 q28.2.2.1 r2 q28.2.2.2)) (As := []) (rest := []) hx hb hml hown hts hK hA hZ hl.1 hP hD hS (c_X6_readHead (h0 := h0) (a0 := (va_up a0 3 h2)) (a1 := a1) (a2 := a2) hq28) (gVt mlX6_54 imX6_readHead seX6_readHead inX6 coX6_readHead) rfl qnX6_readHead rfl rfl ⟨Nat.le_of_ble_eq_true rfl, Nat.le_of_ble_eq_true rfl⟩ 0 6 rfl rfl rfl rfl rfl (Nat.le_of_ble_eq_true rfl) ⟨Nat.zero_le _, Nat.zero_le _⟩ dX6_readInto_72 (fun H locs hP hD hS => ?_)
            refine lv_goto (tgt := 125) hx hb dX6_readInto_75 (by decide) ?_
            exact w_X6_readInto_125 C _ (ih) _ _ _ _ _ _ _ _ _ _ _ _ hf hP hD hS (lv_sub hl [0, 1] rfl)
def f_X6_readInto  (i0 : Nat → Int32) (r0 : Nat → Nat → Int32) (i1 : Nat → Int32) (r1 : Nat → Nat → Int32) (l1 : Nat → Nat → Int64) (i2 : Nat → Int32) (r2 : Nat → Nat → Int32) (l2 : Nat → Nat → Int64)  : Option (Int32 × (Nat → Int32) × (Nat → Nat → Int32) × (Nat → Int32) × (Nat → Nat → Int64) × (Nat → Nat → Int32) × (Nat → Int32) × (Nat → Nat → Int64) × (Nat → Nat → Int32)) := bd (f_X5_clear i2 r2 l2) (fun q29 => bd (f_X9_begin i1 r1 l1) (fun q30 => f_X6_readInto_36 2000000 (upd (upd (upd i0 4 (-1)) 5 0) 8 0) r0 q30.1 q30.2.1 q30.2.2 q29.1 l2 q29.2 0))
set_option maxRecDepth 100000 in
set_option maxHeartbeats 4000000 in
theorem c_X6_readInto {l : Launch} {D : va_G} {cs zs : Nat → Nat} {h0 : Nat} {a0 : Nat → Nat} {a1 : Nat → Nat} {h2 : Nat} {a2 : Nat → Nat} {i0 : Nat → Int32} {r0 : Nat → Nat → Int32} {i1 : Nat → Int32} {r1 : Nat → Nat → Int32} {l1 : Nat → Nat → Int64} {i2 : Nat → Int32} {r2 : Nat → Nat → Int32} {l2 : Nat → Nat → Int64}  {q : Int32 × (Nat → Int32) × (Nat → Nat → Int32) × (Nat → Int32) × (Nat → Nat → Int64) × (Nat → Nat → Int32) × (Nat → Int32) × (Nat → Nat → Int64) × (Nat → Nat → Int32)} (hf : f_X6_readInto i0 r0 i1 r1 l1 i2 r2 l2 = some q) : Mi l yX6_readInto wlX6_readInto rmX6_readInto D cs zs [.ref h0, .ref h2] (W6 cs h0 a0 i0 r0 ++ (W9 cs (a0 0) a1 i1 r1 l1 ++ W5 cs h2 a2 i2 r2 l2)) q.1 (W6 cs h0 (va_up a0 3 h2) q.2.1 q.2.2.1 ++ (W9 cs (a0 0) a1 q.2.2.2.1 q.2.2.2.2.2.1 q.2.2.2.2.1 ++ W5 cs h2 a2 q.2.2.2.2.2.2.1 q.2.2.2.2.2.2.2.2 q.2.2.2.2.2.2.2.1)) := by
  refine Mi.of RX6 (by decide) rfl (Nat.le_of_ble_eq_true rfl) (fun p e s m below meth c A C hP hD hS ls hl => ?_)
  generalize ([.ref h0, .ref h2] : List Value).toArray = args at C ⊢
  obtain ⟨hx, hb, hr, hml, hown, hts, hK, hA, hlocks, hZ⟩ := id C
  have hl : lv_has ls 3 [(0, .ref h0), (1, .ref h2)] := hl
  rw [f_X6_readInto] at hf
  refine lv_aload_n hx hb dX6_readInto_0 rfl (lv_at hl 0 rfl) ?_
  refine lv_aload_n hx hb dX6_readInto_1 rfl (lv_at hl 1 rfl) ?_
  refine va_put (D := D) (ci := 6) (v := .ref h2) (ty := (tyX6 3)) (C := RX6) (T := TX6) (N := 9) hx hb hts hiX6 tyX6 tyX6_ok nmX6 hown hK hP hD hS 0 rfl rfl 3 (by decide) (hts _ flX6_22) (fun _ h9 => h9) rfl (tyX6_ok 3 (by decide)) rfl rfl (Nat.le_of_ble_eq_true rfl) dX6_readInto_2 (fun H locs hP hD hS => ?_)
  have hP : va_P D vwCl (W6 cs h0 (va_up a0 3 h2) i0 r0 ++ (W9 cs (a0 0) a1 i1 r1 l1 ++ W5 cs h2 a2 i2 r2 l2)) H := hP
  have hD : va_D A (W6 cs h0 (va_up a0 3 h2) i0 r0 ++ (W9 cs (a0 0) a1 i1 r1 l1 ++ W5 cs h2 a2 i2 r2 l2)) := hD
  refine lv_aload_n hx hb dX6_readInto_5 rfl (lv_at hl 0 rfl) ?_
  refine va_get (D := D) (ci := 6) (v := .ref h2) (C := RX6) (T := TX6) (N := 9) hx hb hts hiX6 hown hK hP 0 rfl rfl 3 (by decide) (hts _ flX6_22) (fun _ h9 => h9) rfl dX6_readInto_6 ?_
  obtain ⟨q29, hq29, hf⟩ := bd_s hf
  refine k_pVv (wr := W6 cs h0 (va_up a0 3 h2) i0 r0 ++ W9 cs (a0 0) a1 i1 r1 l1) (ws2 := W6 cs h0 (va_up a0 3 h2) i0 r0 ++ (W9 cs (a0 0) a1 i1 r1 l1 ++ W5 cs h2 a2 q29.1 q29.2 l2)) (As := []) (rest := []) hx hb hml hown hts hK hA hZ hl.1 hP hD hS (c_X5_clear (h0 := h2) (a0 := a2) hq29) (gVt mlX6_26 imX5_clear seX5_clear inX5 coX5_clear) rfl qnX5_clear rfl rfl ⟨Nat.le_of_ble_eq_true rfl, Nat.le_of_ble_eq_true rfl⟩ [9, 10, 11, 12, 13, 14, 15, 16, 17, 18, 19, 20, 21, 22] [0, 1, 2, 3, 4, 5, 6, 7, 8] [0, 1, 2, 3, 4, 5, 6, 7, 8, 9, 10, 11, 12, 13, 14, 15, 16, 17, 18, 19, 20, 21, 22] rfl rfl rfl (by decide) 0 5 rfl rfl rfl rfl rfl (Nat.le_of_ble_eq_true rfl) ⟨Nat.zero_le _, Nat.zero_le _⟩ dX6_readInto_9 (fun H locs hP hD hS => ?_)
  refine lv_aload_n hx hb dX6_readInto_12 rfl (lv_at hl 0 rfl) ?_
  refine lv_iconst (v := (-1)) hx hb dX6_readInto_13 (by decide) ?_
  refine va_put (D := D) (ci := 6) (v := .int (-1)) (ty := .int) (C := RX6) (T := TX6) (N := 9) hx hb hts hiX6 tyX6 tyX6_ok nmX6 hown hK hP hD hS 0 rfl rfl 4 (by decide) (hts _ flX6_31) (fun _ h9 => h9) rfl (tyX6_ok 4 (by decide)) rfl rfl (Nat.le_of_ble_eq_true rfl) dX6_readInto_14 (fun H locs hP hD hS => ?_)
  obtain ⟨hP, hD⟩ := st6_4_T hP hD
  refine lv_aload_n hx hb dX6_readInto_17 rfl (lv_at hl 0 rfl) ?_
  refine lv_iconst (v := 0) hx hb dX6_readInto_18 (by decide) ?_
  refine va_put (D := D) (ci := 6) (v := .int 0) (ty := .int) (C := RX6) (T := TX6) (N := 9) hx hb hts hiX6 tyX6 tyX6_ok nmX6 hown hK hP hD hS 0 rfl rfl 5 (by decide) (hts _ flX6_35) (fun _ h9 => h9) rfl (tyX6_ok 5 (by decide)) rfl rfl (Nat.le_of_ble_eq_true rfl) dX6_readInto_19 (fun H locs hP hD hS => ?_)
  obtain ⟨hP, hD⟩ := st6_5_T hP hD
  refine lv_aload_n hx hb dX6_readInto_22 rfl (lv_at hl 0 rfl) ?_
  refine lv_iconst (v := 0) hx hb dX6_readInto_23 (by decide) ?_
  refine va_put (D := D) (ci := 6) (v := .int 0) (ty := .int) (C := RX6) (T := TX6) (N := 9) hx hb hts hiX6 tyX6 tyX6_ok nmX6 hown hK hP hD hS 0 rfl rfl 8 (by decide) (hts _ flX6_38) (fun _ h9 => h9) rfl (tyX6_ok 8 (by decide)) rfl rfl (Nat.le_of_ble_eq_true rfl) dX6_readInto_24 (fun H locs hP hD hS => ?_)
  obtain ⟨hP, hD⟩ := st6_8_T hP hD
  refine lv_aload_n hx hb dX6_readInto_27 rfl (lv_at hl 0 rfl) ?_
  refine va_get (D := D) (ci := 6) (v := .ref (a0 0)) (C := RX6) (T := TX6) (N := 9) hx hb hts hiX6 hown hK hP 0 rfl rfl 0 (by decide) (hts _ flX6_18) (fun _ h9 => h9) rfl dX6_readInto_28 ?_
  obtain ⟨q30, hq30, hf⟩ := bd_s hf
  refine k_pVv (wr := W6 cs h0 (va_up a0 3 h2) (upd (upd (upd i0 4 (-1)) 5 0) 8 0) r0 ++ W5 cs h2 a2 q29.1 q29.2 l2) (ws2 := W6 cs h0 (va_up a0 3 h2) (upd (upd (upd i0 4 (-1)) 5 0) 8 0) r0 ++ (W9 cs (a0 0) a1 q30.1 q30.2.2 q30.2.1 ++ W5 cs h2 a2 q29.1 q29.2 l2)) (As := []) (rest := []) hx hb hml hown hts hK hA hZ hl.1 hP hD hS (c_X9_begin (h0 := (a0 0)) (a0 := a1) hq30) (gVt mlX6_41 imX9_begin seX9_begin inX9 coX9_begin) rfl qnX9_begin rfl rfl ⟨Nat.le_of_ble_eq_true rfl, Nat.le_of_ble_eq_true rfl⟩ [3, 4, 5, 6, 7, 8] [0, 1, 2, 9, 10, 11, 12, 13, 14, 15, 16, 17, 18, 19, 20, 21, 22] [0, 1, 2, 17, 18, 19, 20, 21, 22, 3, 4, 5, 6, 7, 8, 9, 10, 11, 12, 13, 14, 15, 16] rfl rfl rfl (by decide) 0 9 rfl rfl rfl rfl rfl (Nat.le_of_ble_eq_true rfl) ⟨Nat.zero_le _, Nat.zero_le _⟩ dX6_readInto_31 (fun H locs hP hD hS => ?_)
  refine lv_iconst (v := 0) hx hb dX6_readInto_34 (by decide) ?_
  refine lv_istore_n (lv' := [(2, .int 0), (0, .ref h0), (1, .ref h2)]) hx hb dX6_readInto_35 rfl hl (by decide) rfl (fun ls hl => ?_)
  exact w_X6_readInto_36 C  2000000 _ _ _ _ _ _ _ _ _ _ _ _ hf hP hD hS (lv_sub hl [1, 0] rfl)
