/-! MarbleFloorModel.need(ZI)V -/
abbrev wlX13_need : List Cond := Cond.code yX13_need cX13_need 3 none :: tbG
abbrev rmX13_need : Room := { frames := 1, cells := 0, slots := 0, locals := 21 }
theorem qnX13_need : yX13_need.cls = RX13 ∧ yX13_need.cls ≠ "java/lang/invoke/MethodHandle" ∧ yX13_need.cls ≠ "java/lang/invoke/VarHandle" ∧ (parseMethodDescriptor yX13_need.desc).map (fun d => d.parameters.length) = some 2 := by decide +kernel
def f_X13_need  (i0 : Nat → Int32) (r0 : Nat → Nat → Int32) (l0 : Nat → Nat → Int64) (x1 : Int32) (x2 : Int32) : Option (((Nat → Int32)) ⊕ ((Nat → Int32))) := if x1 = 0 then (bd (f_X13_wrong i0 r0 l0 x2) (fun q2 => some (.inr (q2)))) else (some (.inl (i0)))
set_option maxRecDepth 100000 in
set_option maxHeartbeats 4000000 in
theorem e_X13_need {p : Program} {l : Launch} {e : Env} {s : State} {m : MethodId} {args : Array Value} {below : List Frame} {meth : Method} {c : Code} {A : Nat → Prop} {D : va_G} {cs zs : Nat → Nat} {h0 : Nat} {a0 : Nat → Nat} {i0 : Nat → Int32} {r0 : Nat → Nat → Int32} {l0 : Nat → Nat → Int64} {x1 : Int32} {x2 : Int32} {q : ((Nat → Int32)) ⊕ ((Nat → Int32))} (C : Cx p s m args meth c A D cs zs cX13_need 3 none RX13) (hne : NoH c)  : ∀ (H : Heap) (locs : List Loc) (ls : Array Slot), f_X13_need i0 r0 l0 x1 x2 = some q → va_P D vwCl (W13 cs h0 a0 i0 r0 l0) H → va_D A (W13 cs h0 a0 i0 r0 l0) → va_S A s.heap H locs → lv_has ls 3 [(0, .ref h0), (1, .int x1), (2, .int x2)] → W p l e rmX13_need s m args below meth c H locs 0 0 (Sum.elim (fun q => MQ below (Qv D cs A (W13 cs h0 a0 q r0 l0)) args s 0 0 A) (fun t => MQT below D cs A (a0 0) (W13 cs h0 a0 t r0 l0) args s) q) (F0 m 0 ls []) := by
  obtain ⟨hx, hb, hr, hml, hown, hts, hK, hA, hlocks, hZ⟩ := id C
  intro H locs ls hf hP hD hS hl
  rw [f_X13_need] at hf
  refine lv_iload_n hx hb dX13_need_0 rfl (lv_at hl 1 rfl) ?_
  refine lv_if_ne (tgt := 10) hx hb dX13_need_1 (by decide) (fun hc => ?_) (fun hc => ?_)
  · have hf := ite_f hf hc
    obtain rfl := Option.some.inj hf
    exact k_vret hx hb hr hlocks hK hP hD hS dX13_need_10
  · have hf := ite_t hf hc
    refine lv_aload_n hx hb dX13_need_4 rfl (lv_at hl 0 rfl) ?_
    refine lv_iload_n hx hb dX13_need_5 rfl (lv_at hl 2 rfl) ?_
    obtain ⟨q2, hq2, hf⟩ := bd_s hf
    refine k_sVr (ws2 := W13 cs h0 a0 q2 r0 l0) (As := [.int x2]) (rest := []) hx hb hml hown hts hK hA hZ hl.1 hP hD hS (c_X13_wrong (h0 := h0) (a0 := a0) hq2) (gVt mlX13_56 imX13_wrong seX13_wrong inX13 coX13_wrong) rfl qnX13_wrong rfl rfl ⟨Nat.le_of_ble_eq_true rfl, Nat.le_of_ble_eq_true rfl⟩ 0 13 rfl rfl rfl rfl rfl (Nat.le_of_ble_eq_true rfl) ⟨Nat.zero_le _, Nat.zero_le _⟩ dX13_need_6 (fun H locs hP hD hS => ?_)
    obtain rfl := Option.some.inj hf
    exact k_athrow hx hb hlocks hne hK hP hD hS dX13_need_9
theorem c_X13_need {l : Launch} {D : va_G} {cs zs : Nat → Nat} {h0 : Nat} {a0 : Nat → Nat} {i0 : Nat → Int32} {r0 : Nat → Nat → Int32} {l0 : Nat → Nat → Int64} {x1 : Int32} {x2 : Int32} {q : (Nat → Int32)} (hf : f_X13_need i0 r0 l0 x1 x2 = some (.inl q)) : Mv l yX13_need wlX13_need rmX13_need D cs zs [.ref h0, .int x1, .int x2] (W13 cs h0 a0 i0 r0 l0) (W13 cs h0 a0 q r0 l0) := by
  refine Mv.ofT RX13 (by decide) rfl (Nat.le_of_ble_eq_true rfl) (fun p e s m below meth c A C hne hP hD hS ls hl => ?_)
  generalize ([.ref h0, .int x1, .int x2] : List Value).toArray = args at C ⊢
  exact e_X13_need (q := .inl q) C hne _ _ _ hf hP hD hS hl
theorem t_X13_need {l : Launch} {D : va_G} {cs zs : Nat → Nat} {h0 : Nat} {a0 : Nat → Nat} {i0 : Nat → Int32} {r0 : Nat → Nat → Int32} {l0 : Nat → Nat → Int64} {x1 : Int32} {x2 : Int32} {t : (Nat → Int32)} (hf : f_X13_need i0 r0 l0 x1 x2 = some (.inr t)) : MT l yX13_need wlX13_need rmX13_need D cs zs [.ref h0, .int x1, .int x2] (W13 cs h0 a0 i0 r0 l0) (a0 0) (W13 cs h0 a0 t r0 l0) := by
  refine MT.of RX13 (by decide) rfl (Nat.le_of_ble_eq_true rfl) (fun p e s m below meth c A C hne hP hD hS ls hl => ?_)
  generalize ([.ref h0, .int x1, .int x2] : List Value).toArray = args at C ⊢
  exact e_X13_need (q := .inr t) C hne _ _ _ hf hP hD hS hl
/-! MarbleFloorModel.look(II)I -/
abbrev wlX13_look : List Cond := Cond.code yX13_look cX13_look 3 (some .int) :: tbG
abbrev rmX13_look : Room := { frames := 2, cells := 0, slots := 0, locals := 43 }
theorem qnX13_look : yX13_look.cls = RX13 ∧ yX13_look.cls ≠ "java/lang/invoke/MethodHandle" ∧ yX13_look.cls ≠ "java/lang/invoke/VarHandle" ∧ (parseMethodDescriptor yX13_look.desc).map (fun d => d.parameters.length) = some 2 := by decide +kernel
def f_X13_look_14 (r0 : Nat → Nat → Int32) (l0 : Nat → Nat → Int64)  (i0 : Nat → Int32) (x1 : Int32) (x2 : Int32) (y0 : Int32) : Option ((Int32 × (Nat → Int32)) ⊕ ((Nat → Int32))) := bt (f_X13_need i0 r0 l0 y0 1) (fun q4 => bd (f_X13_in ((q4 7).toInt64) x1.toInt64 x2.toInt64) (fun q5 => bt (f_X13_need q4 r0 l0 q5 2) (fun q6 => some (.inl (q6 7, q6))) (fun t6 => some (.inr (t6))))) (fun t4 => some (.inr (t4)))
set_option maxRecDepth 100000 in
set_option maxHeartbeats 4000000 in
theorem w_X13_look_14 {p : Program} {l : Launch} {e : Env} {s : State} {m : MethodId} {args : Array Value} {below : List Frame} {meth : Method} {c : Code} {A : Nat → Prop} {D : va_G} {cs zs : Nat → Nat} {h0 : Nat} {a0 : Nat → Nat} {r0 : Nat → Nat → Int32} {l0 : Nat → Nat → Int64} {q : (Int32 × (Nat → Int32)) ⊕ ((Nat → Int32))} (C : Cx p s m args meth c A D cs zs cX13_look 3 (some .int) RX13) (hne : NoH c)  : ∀ (i0 : Nat → Int32) (x1 : Int32) (x2 : Int32) (y0 : Int32) (H : Heap) (locs : List Loc) (ls : Array Slot), f_X13_look_14 r0 l0 i0 x1 x2 y0 = some q → va_P D vwCl (W13 cs h0 a0 i0 r0 l0) H → va_D A (W13 cs h0 a0 i0 r0 l0) → va_S A s.heap H locs → lv_has ls 3 [(0, .ref h0), (1, .int x1), (2, .int x2)] → W p l e rmX13_look s m args below meth c H locs 0 0 (Sum.elim (fun q => MQ below (Qi D cs A q.1 (W13 cs h0 a0 q.2 r0 l0)) args s 0 0 A) (fun t => MQT below D cs A (a0 0) (W13 cs h0 a0 t r0 l0) args s) q) (F0 m 14 ls [.int y0, .ref h0]) := by
  obtain ⟨hx, hb, hr, hml, hown, hts, hK, hA, hlocks, hZ⟩ := id C
  intro i0 x1 x2 y0 H locs ls hf hP hD hS hl
  rw [f_X13_look_14] at hf
  refine lv_iconst (v := 1) hx hb dX13_look_14 (by decide) ?_
  rcases (bt_s hf).symm with ⟨t4, hq4, hf⟩ | ⟨q4, hq4, hf⟩
  · obtain rfl := Option.some.inj hf
    exact k_sVt (ws2 := W13 cs h0 a0 t4 r0 l0) (As := [.int y0, .int 1]) (rest := []) hx hb hml hown hts hK hA hZ hl.1 hP hD hS (t_X13_need (h0 := h0) (a0 := a0) hq4) (gVt mlX13_60 imX13_need seX13_need inX13 coX13_need) rfl qnX13_need rfl rfl ⟨Nat.le_of_ble_eq_true rfl, Nat.le_of_ble_eq_true rfl⟩ 0 13 rfl rfl rfl rfl rfl (Nat.le_of_ble_eq_true rfl) dX13_look_15 hlocks hne
  refine k_sVv (ws2 := W13 cs h0 a0 q4 r0 l0) (As := [.int y0, .int 1]) (rest := []) hx hb hml hown hts hK hA hZ hl.1 hP hD hS (c_X13_need (h0 := h0) (a0 := a0) hq4) (gVt mlX13_60 imX13_need seX13_need inX13 coX13_need) rfl qnX13_need rfl rfl ⟨Nat.le_of_ble_eq_true rfl, Nat.le_of_ble_eq_true rfl⟩ 0 13 rfl rfl rfl rfl rfl (Nat.le_of_ble_eq_true rfl) ⟨Nat.zero_le _, Nat.zero_le _⟩ dX13_look_15 (fun H locs hP hD hS => ?_)
  refine lv_aload_n hx hb dX13_look_18 rfl (lv_at hl 0 rfl) ?_
  refine lv_aload_n hx hb dX13_look_19 rfl (lv_at hl 0 rfl) ?_
  refine va_get (D := D) (ci := 13) (v := .int (q4 7)) (C := RX13) (T := TX13) (N := 87) hx hb hts hiX13 hown hK hP 0 rfl rfl 7 (by decide) (hts _ flX13_41) (fun _ h9 => h9) rfl dX13_look_20 ?_
  refine lv_i2l hx hb dX13_look_23 rfl ?_
  refine lv_iload_n hx hb dX13_look_24 rfl (lv_at hl 1 rfl) ?_
  refine lv_i2l hx hb dX13_look_25 rfl ?_
  refine lv_iload_n hx hb dX13_look_26 rfl (lv_at hl 2 rfl) ?_
  refine lv_i2l hx hb dX13_look_27 rfl ?_
  obtain ⟨q5, hq5, hf⟩ := bd_s hf
  refine k_eSi (As := [.long ((q4 7).toInt64), .long x1.toInt64, .long x2.toInt64]) (rest := [.ref h0]) hx hb hml hown hts hK hA hZ hl.1 hP hD hS (c_X13_in  hq5) (gSt mlX13_64 stX13_in inX13 coX13_in) rfl qnX13_in rfl rfl ⟨Nat.le_of_ble_eq_true rfl, Nat.le_of_ble_eq_true rfl⟩ rfl rfl (Nat.le_of_ble_eq_true rfl) ⟨Nat.zero_le _, Nat.zero_le _⟩ dX13_look_28 (fun H locs hP hD hS => ?_)
  refine lv_iconst (v := 2) hx hb dX13_look_31 (by decide) ?_
  rcases (bt_s hf).symm with ⟨t6, hq6, hf⟩ | ⟨q6, hq6, hf⟩
  · obtain rfl := Option.some.inj hf
    exact k_sVt (ws2 := W13 cs h0 a0 t6 r0 l0) (As := [.int q5, .int 2]) (rest := []) hx hb hml hown hts hK hA hZ hl.1 hP hD hS (t_X13_need (h0 := h0) (a0 := a0) hq6) (gVt mlX13_60 imX13_need seX13_need inX13 coX13_need) rfl qnX13_need rfl rfl ⟨Nat.le_of_ble_eq_true rfl, Nat.le_of_ble_eq_true rfl⟩ 0 13 rfl rfl rfl rfl rfl (Nat.le_of_ble_eq_true rfl) dX13_look_32 hlocks hne
  refine k_sVv (ws2 := W13 cs h0 a0 q6 r0 l0) (As := [.int q5, .int 2]) (rest := []) hx hb hml hown hts hK hA hZ hl.1 hP hD hS (c_X13_need (h0 := h0) (a0 := a0) hq6) (gVt mlX13_60 imX13_need seX13_need inX13 coX13_need) rfl qnX13_need rfl rfl ⟨Nat.le_of_ble_eq_true rfl, Nat.le_of_ble_eq_true rfl⟩ 0 13 rfl rfl rfl rfl rfl (Nat.le_of_ble_eq_true rfl) ⟨Nat.zero_le _, Nat.zero_le _⟩ dX13_look_32 (fun H locs hP hD hS => ?_)
  refine lv_aload_n hx hb dX13_look_35 rfl (lv_at hl 0 rfl) ?_
  refine va_get (D := D) (ci := 13) (v := .int (q6 7)) (C := RX13) (T := TX13) (N := 87) hx hb hts hiX13 hown hK hP 0 rfl rfl 7 (by decide) (hts _ flX13_41) (fun _ h9 => h9) rfl dX13_look_36 ?_
  obtain rfl := Option.some.inj hf
  exact k_iret hx hb hr hlocks hK hP hD hS dX13_look_39
def f_X13_look  (i0 : Nat → Int32) (r0 : Nat → Nat → Int32) (l0 : Nat → Nat → Int64) (x1 : Int32) (x2 : Int32) : Option ((Int32 × (Nat → Int32)) ⊕ ((Nat → Int32))) := if (i0 6) = 2 then (f_X13_look_14 r0 l0 i0 x1 x2 1) else (f_X13_look_14 r0 l0 i0 x1 x2 0)
set_option maxRecDepth 100000 in
set_option maxHeartbeats 4000000 in
theorem e_X13_look {p : Program} {l : Launch} {e : Env} {s : State} {m : MethodId} {args : Array Value} {below : List Frame} {meth : Method} {c : Code} {A : Nat → Prop} {D : va_G} {cs zs : Nat → Nat} {h0 : Nat} {a0 : Nat → Nat} {i0 : Nat → Int32} {r0 : Nat → Nat → Int32} {l0 : Nat → Nat → Int64} {x1 : Int32} {x2 : Int32} {q : (Int32 × (Nat → Int32)) ⊕ ((Nat → Int32))} (C : Cx p s m args meth c A D cs zs cX13_look 3 (some .int) RX13) (hne : NoH c)  : ∀ (H : Heap) (locs : List Loc) (ls : Array Slot), f_X13_look i0 r0 l0 x1 x2 = some q → va_P D vwCl (W13 cs h0 a0 i0 r0 l0) H → va_D A (W13 cs h0 a0 i0 r0 l0) → va_S A s.heap H locs → lv_has ls 3 [(0, .ref h0), (1, .int x1), (2, .int x2)] → W p l e rmX13_look s m args below meth c H locs 0 0 (Sum.elim (fun q => MQ below (Qi D cs A q.1 (W13 cs h0 a0 q.2 r0 l0)) args s 0 0 A) (fun t => MQT below D cs A (a0 0) (W13 cs h0 a0 t r0 l0) args s) q) (F0 m 0 ls []) := by
  obtain ⟨hx, hb, hr, hml, hown, hts, hK, hA, hlocks, hZ⟩ := id C
  intro H locs ls hf hP hD hS hl
  rw [f_X13_look] at hf
  refine lv_aload_n hx hb dX13_look_0 rfl (lv_at hl 0 rfl) ?_
  refine lv_aload_n hx hb dX13_look_1 rfl (lv_at hl 0 rfl) ?_
  refine va_get (D := D) (ci := 13) (v := .int (i0 6)) (C := RX13) (T := TX13) (N := 87) hx hb hts hiX13 hown hK hP 0 rfl rfl 6 (by decide) (hts _ flX13_31) (fun _ h9 => h9) rfl dX13_look_2 ?_
  refine lv_iconst (v := 2) hx hb dX13_look_5 (by decide) ?_
  refine lv_icmp_ne (tgt := 13) hx hb dX13_look_6 (by decide) (fun hc => ?_) (fun hc => ?_)
  · have hf := ite_f hf hc
    refine lv_iconst (v := 0) hx hb dX13_look_13 (by decide) ?_
    exact w_X13_look_14 C hne  _ _ _ _ _ _ _ hf hP hD hS (lv_sub hl [0, 1, 2] rfl)
  · have hf := ite_t hf hc
    refine lv_iconst (v := 1) hx hb dX13_look_9 (by decide) ?_
    refine lv_goto (tgt := 14) hx hb dX13_look_10 (by decide) ?_
    exact w_X13_look_14 C hne  _ _ _ _ _ _ _ hf hP hD hS (lv_sub hl [0, 1, 2] rfl)
theorem c_X13_look {l : Launch} {D : va_G} {cs zs : Nat → Nat} {h0 : Nat} {a0 : Nat → Nat} {i0 : Nat → Int32} {r0 : Nat → Nat → Int32} {l0 : Nat → Nat → Int64} {x1 : Int32} {x2 : Int32} {q : Int32 × (Nat → Int32)} (hf : f_X13_look i0 r0 l0 x1 x2 = some (.inl q)) : Mi l yX13_look wlX13_look rmX13_look D cs zs [.ref h0, .int x1, .int x2] (W13 cs h0 a0 i0 r0 l0) q.1 (W13 cs h0 a0 q.2 r0 l0) := by
  refine Mi.ofT RX13 (by decide) rfl (Nat.le_of_ble_eq_true rfl) (fun p e s m below meth c A C hne hP hD hS ls hl => ?_)
  generalize ([.ref h0, .int x1, .int x2] : List Value).toArray = args at C ⊢
  exact e_X13_look (q := .inl q) C hne _ _ _ hf hP hD hS hl
theorem t_X13_look {l : Launch} {D : va_G} {cs zs : Nat → Nat} {h0 : Nat} {a0 : Nat → Nat} {i0 : Nat → Int32} {r0 : Nat → Nat → Int32} {l0 : Nat → Nat → Int64} {x1 : Int32} {x2 : Int32} {t : (Nat → Int32)} (hf : f_X13_look i0 r0 l0 x1 x2 = some (.inr t)) : MT l yX13_look wlX13_look rmX13_look D cs zs [.ref h0, .int x1, .int x2] (W13 cs h0 a0 i0 r0 l0) (a0 0) (W13 cs h0 a0 t r0 l0) := by
  refine MT.of RX13 (by decide) rfl (Nat.le_of_ble_eq_true rfl) (fun p e s m below meth c A C hne hP hD hS ls hl => ?_)
  generalize ([.ref h0, .int x1, .int x2] : List Value).toArray = args at C ⊢
  exact e_X13_look (q := .inr t) C hne _ _ _ hf hP hD hS hl
/-! MarbleFloorModel.number(II)I -/
abbrev wlX13_number : List Cond := Cond.code yX13_number cX13_number 4 (some .int) :: tbG
abbrev rmX13_number : Room := { frames := 3, cells := 0, slots := 0, locals := 65 }
theorem qnX13_number : yX13_number.cls = RX13 ∧ yX13_number.cls ≠ "java/lang/invoke/MethodHandle" ∧ yX13_number.cls ≠ "java/lang/invoke/VarHandle" ∧ (parseMethodDescriptor yX13_number.desc).map (fun d => d.parameters.length) = some 2 := by decide +kernel
def f_X13_number  (i0 : Nat → Int32) (r0 : Nat → Nat → Int32) (l0 : Nat → Nat → Int64) (x1 : Int32) (x2 : Int32) : Option ((Int32 × (Nat → Int32)) ⊕ ((Nat → Int32))) := bt (f_X13_look i0 r0 l0 x1 x2) (fun q3 => bd (f_X13_scan q3.2 r0 l0) (fun q4 => some (.inl (q3.1, q4)))) (fun t3 => some (.inr (t3)))
set_option maxRecDepth 100000 in
set_option maxHeartbeats 4000000 in
theorem e_X13_number {p : Program} {l : Launch} {e : Env} {s : State} {m : MethodId} {args : Array Value} {below : List Frame} {meth : Method} {c : Code} {A : Nat → Prop} {D : va_G} {cs zs : Nat → Nat} {h0 : Nat} {a0 : Nat → Nat} {i0 : Nat → Int32} {r0 : Nat → Nat → Int32} {l0 : Nat → Nat → Int64} {x1 : Int32} {x2 : Int32} {q : (Int32 × (Nat → Int32)) ⊕ ((Nat → Int32))} (C : Cx p s m args meth c A D cs zs cX13_number 4 (some .int) RX13) (hne : NoH c)  : ∀ (H : Heap) (locs : List Loc) (ls : Array Slot), f_X13_number i0 r0 l0 x1 x2 = some q → va_P D vwCl (W13 cs h0 a0 i0 r0 l0) H → va_D A (W13 cs h0 a0 i0 r0 l0) → va_S A s.heap H locs → lv_has ls 4 [(0, .ref h0), (1, .int x1), (2, .int x2)] → W p l e rmX13_number s m args below meth c H locs 0 0 (Sum.elim (fun q => MQ below (Qi D cs A q.1 (W13 cs h0 a0 q.2 r0 l0)) args s 0 0 A) (fun t => MQT below D cs A (a0 0) (W13 cs h0 a0 t r0 l0) args s) q) (F0 m 0 ls []) := by
  obtain ⟨hx, hb, hr, hml, hown, hts, hK, hA, hlocks, hZ⟩ := id C
  intro H locs ls hf hP hD hS hl
  rw [f_X13_number] at hf
  refine lv_aload_n hx hb dX13_number_0 rfl (lv_at hl 0 rfl) ?_
  refine lv_iload_n hx hb dX13_number_1 rfl (lv_at hl 1 rfl) ?_
  refine lv_iload_n hx hb dX13_number_2 rfl (lv_at hl 2 rfl) ?_
  rcases (bt_s hf).symm with ⟨t3, hq3, hf⟩ | ⟨q3, hq3, hf⟩
  · obtain rfl := Option.some.inj hf
    exact k_sVt (ws2 := W13 cs h0 a0 t3 r0 l0) (As := [.int x1, .int x2]) (rest := []) hx hb hml hown hts hK hA hZ hl.1 hP hD hS (t_X13_look (h0 := h0) (a0 := a0) hq3) (gVt mlX13_68 imX13_look seX13_look inX13 coX13_look) rfl qnX13_look rfl rfl ⟨Nat.le_of_ble_eq_true rfl, Nat.le_of_ble_eq_true rfl⟩ 0 13 rfl rfl rfl rfl rfl (Nat.le_of_ble_eq_true rfl) dX13_number_3 hlocks hne
  refine k_sVi (ws2 := W13 cs h0 a0 q3.2 r0 l0) (As := [.int x1, .int x2]) (rest := []) hx hb hml hown hts hK hA hZ hl.1 hP hD hS (c_X13_look (h0 := h0) (a0 := a0) hq3) (gVt mlX13_68 imX13_look seX13_look inX13 coX13_look) rfl qnX13_look rfl rfl ⟨Nat.le_of_ble_eq_true rfl, Nat.le_of_ble_eq_true rfl⟩ 0 13 rfl rfl rfl rfl rfl (Nat.le_of_ble_eq_true rfl) ⟨Nat.zero_le _, Nat.zero_le _⟩ dX13_number_3 (fun H locs hP hD hS => ?_)
  refine lv_istore_n (lv' := [(3, .int q3.1), (0, .ref h0), (1, .int x1), (2, .int x2)]) hx hb dX13_number_6 rfl hl (by decide) rfl (fun ls hl => ?_)
  refine lv_aload_n hx hb dX13_number_7 rfl (lv_at hl 1 rfl) ?_
  obtain ⟨q4, hq4, hf⟩ := bd_s hf
  refine k_sVv (ws2 := W13 cs h0 a0 q4 r0 l0) (As := []) (rest := []) hx hb hml hown hts hK hA hZ hl.1 hP hD hS (c_X13_scan (h0 := h0) (a0 := a0) hq4) (gVt mlX13_72 imX13_scan seX13_scan inX13 coX13_scan) rfl qnX13_scan rfl rfl ⟨Nat.le_of_ble_eq_true rfl, Nat.le_of_ble_eq_true rfl⟩ 0 13 rfl rfl rfl rfl rfl (Nat.le_of_ble_eq_true rfl) ⟨Nat.zero_le _, Nat.zero_le _⟩ dX13_number_8 (fun H locs hP hD hS => ?_)
  refine lv_iload_n hx hb dX13_number_11 rfl (lv_at hl 0 rfl) ?_
  obtain rfl := Option.some.inj hf
  exact k_iret hx hb hr hlocks hK hP hD hS dX13_number_12
theorem c_X13_number {l : Launch} {D : va_G} {cs zs : Nat → Nat} {h0 : Nat} {a0 : Nat → Nat} {i0 : Nat → Int32} {r0 : Nat → Nat → Int32} {l0 : Nat → Nat → Int64} {x1 : Int32} {x2 : Int32} {q : Int32 × (Nat → Int32)} (hf : f_X13_number i0 r0 l0 x1 x2 = some (.inl q)) : Mi l yX13_number wlX13_number rmX13_number D cs zs [.ref h0, .int x1, .int x2] (W13 cs h0 a0 i0 r0 l0) q.1 (W13 cs h0 a0 q.2 r0 l0) := by
  refine Mi.ofT RX13 (by decide) rfl (Nat.le_of_ble_eq_true rfl) (fun p e s m below meth c A C hne hP hD hS ls hl => ?_)
  generalize ([.ref h0, .int x1, .int x2] : List Value).toArray = args at C ⊢
  exact e_X13_number (q := .inl q) C hne _ _ _ hf hP hD hS hl
theorem t_X13_number {l : Launch} {D : va_G} {cs zs : Nat → Nat} {h0 : Nat} {a0 : Nat → Nat} {i0 : Nat → Int32} {r0 : Nat → Nat → Int32} {l0 : Nat → Nat → Int64} {x1 : Int32} {x2 : Int32} {t : (Nat → Int32)} (hf : f_X13_number i0 r0 l0 x1 x2 = some (.inr t)) : MT l yX13_number wlX13_number rmX13_number D cs zs [.ref h0, .int x1, .int x2] (W13 cs h0 a0 i0 r0 l0) (a0 0) (W13 cs h0 a0 t r0 l0) := by
  refine MT.of RX13 (by decide) rfl (Nat.le_of_ble_eq_true rfl) (fun p e s m below meth c A C hne hP hD hS ls hl => ?_)
  generalize ([.ref h0, .int x1, .int x2] : List Value).toArray = args at C ⊢
  exact e_X13_number (q := .inr t) C hne _ _ _ hf hP hD hS hl
/-! MarbleFloorModel.word(Ljava/lang/String;)V -/
abbrev wlX13_word : List Cond := Cond.code yX13_word cX13_word 2 none :: tbG
abbrev rmX13_word : Room := { frames := 5, cells := 0, slots := 0, locals := 108 }
theorem qnX13_word : yX13_word.cls = RX13 ∧ yX13_word.cls ≠ "java/lang/invoke/MethodHandle" ∧ yX13_word.cls ≠ "java/lang/invoke/VarHandle" ∧ (parseMethodDescriptor yX13_word.desc).map (fun d => d.parameters.length) = some 1 := by decide +kernel
def f_X13_word (w : Nat)  (i0 : Nat → Int32) (r0 : Nat → Nat → Int32) (l0 : Nat → Nat → Int64)  : Option (((Nat → Int32)) ⊕ ((Nat → Int32))) := bd (f_X13_is w i0 r0 l0) (fun q4 => bt (f_X13_need i0 r0 l0 q4 1) (fun q5 => bd (f_X13_scan q5 r0 l0) (fun q6 => some (.inl (q6)))) (fun t5 => some (.inr (t5))))
set_option maxRecDepth 100000 in
set_option maxHeartbeats 4000000 in
theorem e_X13_word {p : Program} {l : Launch} {e : Env} {s : State} {m : MethodId} {args : Array Value} {below : List Frame} {meth : Method} {c : Code} {A : Nat → Prop} {D : va_G} {cs zs : Nat → Nat} {h0 : Nat} {a0 : Nat → Nat} {i0 : Nat → Int32} {r0 : Nat → Nat → Int32} {l0 : Nat → Nat → Int64}  {q : ((Nat → Int32)) ⊕ ((Nat → Int32))} (C : Cx p s m args meth c A D cs zs cX13_word 2 none RX13) {w : Nat} (hw : w < 20) (hne : NoH c)  : ∀ (H : Heap) (locs : List Loc) (ls : Array Slot), f_X13_word w i0 r0 l0 = some q → va_P D vwCl (W13 cs h0 a0 i0 r0 l0) H → va_D A (W13 cs h0 a0 i0 r0 l0) → va_S A s.heap H locs → lv_has ls 2 [(0, .ref h0), (1, .ref (zs (10 + w)))] → W p l e rmX13_word s m args below meth c H locs 0 0 (Sum.elim (fun q => MQ below (Qv D cs A (W13 cs h0 a0 q r0 l0)) args s 0 0 A) (fun t => MQT below D cs A (a0 0) (W13 cs h0 a0 t r0 l0) args s) q) (F0 m 0 ls []) := by
  obtain ⟨hx, hb, hr, hml, hown, hts, hK, hA, hlocks, hZ⟩ := id C
  intro H locs ls hf hP hD hS hl
  rw [f_X13_word] at hf
  refine lv_aload_n hx hb dX13_word_0 rfl (lv_at hl 0 rfl) ?_
  refine lv_aload_n hx hb dX13_word_1 rfl (lv_at hl 0 rfl) ?_
  refine lv_aload_n hx hb dX13_word_2 rfl (lv_at hl 1 rfl) ?_
  obtain ⟨q4, hq4, hf⟩ := bd_s hf
  refine k_sVi (ws2 := W13 cs h0 a0 i0 r0 l0) (As := [.ref (zs (10 + w))]) (rest := [.ref h0]) hx hb hml hown hts hK hA hZ hl.1 hP hD hS (c_X13_is (h0 := h0) (a0 := a0) (w := w) hw hq4) (gVt mlX13_76 imX13_is seX13_is inX13 coX13_is) rfl qnX13_is rfl rfl ⟨Nat.le_of_ble_eq_true rfl, Nat.le_of_ble_eq_true rfl⟩ 0 13 rfl rfl rfl rfl rfl (Nat.le_of_ble_eq_true rfl) ⟨Nat.zero_le _, Nat.zero_le _⟩ dX13_word_3 (fun H locs hP hD hS => ?_)
  refine lv_iconst (v := 1) hx hb dX13_word_6 (by decide) ?_
  rcases (bt_s hf).symm with ⟨t5, hq5, hf⟩ | ⟨q5, hq5, hf⟩
  · obtain rfl := Option.some.inj hf
    exact k_sVt (ws2 := W13 cs h0 a0 t5 r0 l0) (As := [.int q4, .int 1]) (rest := []) hx hb hml hown hts hK hA hZ hl.1 hP hD hS (t_X13_need (h0 := h0) (a0 := a0) hq5) (gVt mlX13_60 imX13_need seX13_need inX13 coX13_need) rfl qnX13_need rfl rfl ⟨Nat.le_of_ble_eq_true rfl, Nat.le_of_ble_eq_true rfl⟩ 0 13 rfl rfl rfl rfl rfl (Nat.le_of_ble_eq_true rfl) dX13_word_7 hlocks hne
  refine k_sVv (ws2 := W13 cs h0 a0 q5 r0 l0) (As := [.int q4, .int 1]) (rest := []) hx hb hml hown hts hK hA hZ hl.1 hP hD hS (c_X13_need (h0 := h0) (a0 := a0) hq5) (gVt mlX13_60 imX13_need seX13_need inX13 coX13_need) rfl qnX13_need rfl rfl ⟨Nat.le_of_ble_eq_true rfl, Nat.le_of_ble_eq_true rfl⟩ 0 13 rfl rfl rfl rfl rfl (Nat.le_of_ble_eq_true rfl) ⟨Nat.zero_le _, Nat.zero_le _⟩ dX13_word_7 (fun H locs hP hD hS => ?_)
  refine lv_aload_n hx hb dX13_word_10 rfl (lv_at hl 0 rfl) ?_
  obtain ⟨q6, hq6, hf⟩ := bd_s hf
  refine k_sVv (ws2 := W13 cs h0 a0 q6 r0 l0) (As := []) (rest := []) hx hb hml hown hts hK hA hZ hl.1 hP hD hS (c_X13_scan (h0 := h0) (a0 := a0) hq6) (gVt mlX13_72 imX13_scan seX13_scan inX13 coX13_scan) rfl qnX13_scan rfl rfl ⟨Nat.le_of_ble_eq_true rfl, Nat.le_of_ble_eq_true rfl⟩ 0 13 rfl rfl rfl rfl rfl (Nat.le_of_ble_eq_true rfl) ⟨Nat.zero_le _, Nat.zero_le _⟩ dX13_word_11 (fun H locs hP hD hS => ?_)
  obtain rfl := Option.some.inj hf
  exact k_vret hx hb hr hlocks hK hP hD hS dX13_word_14
theorem c_X13_word {l : Launch} {D : va_G} {cs zs : Nat → Nat} {h0 : Nat} {a0 : Nat → Nat} {i0 : Nat → Int32} {r0 : Nat → Nat → Int32} {l0 : Nat → Nat → Int64}  {q : (Nat → Int32)} {w : Nat} (hw : w < 20) (hf : f_X13_word w i0 r0 l0 = some (.inl q)) : Mv l yX13_word wlX13_word rmX13_word D cs zs [.ref h0, .ref (zs (10 + w))] (W13 cs h0 a0 i0 r0 l0) (W13 cs h0 a0 q r0 l0) := by
  refine Mv.ofT RX13 (by decide) rfl (Nat.le_of_ble_eq_true rfl) (fun p e s m below meth c A C hne hP hD hS ls hl => ?_)
  generalize ([.ref h0, .ref (zs (10 + w))] : List Value).toArray = args at C ⊢
  exact e_X13_word (q := .inl q) C hw hne _ _ _ hf hP hD hS hl
theorem t_X13_word {l : Launch} {D : va_G} {cs zs : Nat → Nat} {h0 : Nat} {a0 : Nat → Nat} {i0 : Nat → Int32} {r0 : Nat → Nat → Int32} {l0 : Nat → Nat → Int64}  {t : (Nat → Int32)} {w : Nat} (hw : w < 20) (hf : f_X13_word w i0 r0 l0 = some (.inr t)) : MT l yX13_word wlX13_word rmX13_word D cs zs [.ref h0, .ref (zs (10 + w))] (W13 cs h0 a0 i0 r0 l0) (a0 0) (W13 cs h0 a0 t r0 l0) := by
  refine MT.of RX13 (by decide) rfl (Nat.le_of_ble_eq_true rfl) (fun p e s m below meth c A C hne hP hD hS ls hl => ?_)
  generalize ([.ref h0, .ref (zs (10 + w))] : List Value).toArray = args at C ⊢
  exact e_X13_word (q := .inr t) C hw hne _ _ _ hf hP hD hS hl
/-! MarbleFloorModel.sign(I)V -/
abbrev wlX13_sign : List Cond := Cond.code yX13_sign cX13_sign 2 none :: tbG
abbrev rmX13_sign : Room := { frames := 2, cells := 0, slots := 0, locals := 43 }
theorem qnX13_sign : yX13_sign.cls = RX13 ∧ yX13_sign.cls ≠ "java/lang/invoke/MethodHandle" ∧ yX13_sign.cls ≠ "java/lang/invoke/VarHandle" ∧ (parseMethodDescriptor yX13_sign.desc).map (fun d => d.parameters.length) = some 1 := by decide +kernel
def f_X13_sign  (i0 : Nat → Int32) (r0 : Nat → Nat → Int32) (l0 : Nat → Nat → Int64) (x1 : Int32) : Option (((Nat → Int32)) ⊕ ((Nat → Int32))) := bd (f_X13_isSign i0 r0 l0 x1) (fun q4 => bt (f_X13_need i0 r0 l0 q4 1) (fun q5 => bd (f_X13_scan q5 r0 l0) (fun q6 => some (.inl (q6)))) (fun t5 => some (.inr (t5))))
set_option maxRecDepth 100000 in
set_option maxHeartbeats 4000000 in
theorem e_X13_sign {p : Program} {l : Launch} {e : Env} {s : State} {m : MethodId} {args : Array Value} {below : List Frame} {meth : Method} {c : Code} {A : Nat → Prop} {D : va_G} {cs zs : Nat → Nat} {h0 : Nat} {a0 : Nat → Nat} {i0 : Nat → Int32} {r0 : Nat → Nat → Int32} {l0 : Nat → Nat → Int64} {x1 : Int32} {q : ((Nat → Int32)) ⊕ ((Nat → Int32))} (C : Cx p s m args meth c A D cs zs cX13_sign 2 none RX13) (hne : NoH c)  : ∀ (H : Heap) (locs : List Loc) (ls : Array Slot), f_X13_sign i0 r0 l0 x1 = some q → va_P D vwCl (W13 cs h0 a0 i0 r0 l0) H → va_D A (W13 cs h0 a0 i0 r0 l0) → va_S A s.heap H locs → lv_has ls 2 [(0, .ref h0), (1, .int x1)] → W p l e rmX13_sign s m args below meth c H locs 0 0 (Sum.elim (fun q => MQ below (Qv D cs A (W13 cs h0 a0 q r0 l0)) args s 0 0 A) (fun t => MQT below D cs A (a0 0) (W13 cs h0 a0 t r0 l0) args s) q) (F0 m 0 ls []) := by
  obtain ⟨hx, hb, hr, hml, hown, hts, hK, hA, hlocks, hZ⟩ := id C
  intro H locs ls hf hP hD hS hl
  rw [f_X13_sign] at hf
  refine lv_aload_n hx hb dX13_sign_0 rfl (lv_at hl 0 rfl) ?_
  refine lv_aload_n hx hb dX13_sign_1 rfl (lv_at hl 0 rfl) ?_
  refine lv_iload_n hx hb dX13_sign_2 rfl (lv_at hl 1 rfl) ?_
  obtain ⟨q4, hq4, hf⟩ := bd_s hf
  refine k_sVi (ws2 := W13 cs h0 a0 i0 r0 l0) (As := [.int x1]) (rest := [.ref h0]) hx hb hml hown hts hK hA hZ hl.1 hP hD hS (c_X13_isSign (h0 := h0) (a0 := a0) hq4) (gVt mlX13_80 imX13_isSign seX13_isSign inX13 coX13_isSign) rfl qnX13_isSign rfl rfl ⟨Nat.le_of_ble_eq_true rfl, Nat.le_of_ble_eq_true rfl⟩ 0 13 rfl rfl rfl rfl rfl (Nat.le_of_ble_eq_true rfl) ⟨Nat.zero_le _, Nat.zero_le _⟩ dX13_sign_3 (fun H locs hP hD hS => ?_)
  refine lv_iconst (v := 1) hx hb dX13_sign_6 (by decide) ?_
  rcases (bt_s hf).symm with ⟨t5, hq5, hf⟩ | ⟨q5, hq5, hf⟩
  · obtain rfl := Option.some.inj hf
    exact k_sVt (ws2 := W13 cs h0 a0 t5 r0 l0) (As := [.int q4, .int 1]) (rest := []) hx hb hml hown hts hK hA hZ hl.1 hP hD hS (t_X13_need (h0 := h0) (a0 := a0) hq5) (gVt mlX13_60 imX13_need seX13_need inX13 coX13_need) rfl qnX13_need rfl rfl ⟨Nat.le_of_ble_eq_true rfl, Nat.le_of_ble_eq_true rfl⟩ 0 13 rfl rfl rfl rfl rfl (Nat.le_of_ble_eq_true rfl) dX13_sign_7 hlocks hne
  refine k_sVv (ws2 := W13 cs h0 a0 q5 r0 l0) (As := [.int q4, .int 1]) (rest := []) hx hb hml hown hts hK hA hZ hl.1 hP hD hS (c_X13_need (h0 := h0) (a0 := a0) hq5) (gVt mlX13_60 imX13_need seX13_need inX13 coX13_need) rfl qnX13_need rfl rfl ⟨Nat.le_of_ble_eq_true rfl, Nat.le_of_ble_eq_true rfl⟩ 0 13 rfl rfl rfl rfl rfl (Nat.le_of_ble_eq_true rfl) ⟨Nat.zero_le _, Nat.zero_le _⟩ dX13_sign_7 (fun H locs hP hD hS => ?_)
  refine lv_aload_n hx hb dX13_sign_10 rfl (lv_at hl 0 rfl) ?_
  obtain ⟨q6, hq6, hf⟩ := bd_s hf
  refine k_sVv (ws2 := W13 cs h0 a0 q6 r0 l0) (As := []) (rest := []) hx hb hml hown hts hK hA hZ hl.1 hP hD hS (c_X13_scan (h0 := h0) (a0 := a0) hq6) (gVt mlX13_72 imX13_scan seX13_scan inX13 coX13_scan) rfl qnX13_scan rfl rfl ⟨Nat.le_of_ble_eq_true rfl, Nat.le_of_ble_eq_true rfl⟩ 0 13 rfl rfl rfl rfl rfl (Nat.le_of_ble_eq_true rfl) ⟨Nat.zero_le _, Nat.zero_le _⟩ dX13_sign_11 (fun H locs hP hD hS => ?_)
  obtain rfl := Option.some.inj hf
  exact k_vret hx hb hr hlocks hK hP hD hS dX13_sign_14
theorem c_X13_sign {l : Launch} {D : va_G} {cs zs : Nat → Nat} {h0 : Nat} {a0 : Nat → Nat} {i0 : Nat → Int32} {r0 : Nat → Nat → Int32} {l0 : Nat → Nat → Int64} {x1 : Int32} {q : (Nat → Int32)} (hf : f_X13_sign i0 r0 l0 x1 = some (.inl q)) : Mv l yX13_sign wlX13_sign rmX13_sign D cs zs [.ref h0, .int x1] (W13 cs h0 a0 i0 r0 l0) (W13 cs h0 a0 q r0 l0) := by
  refine Mv.ofT RX13 (by decide) rfl (Nat.le_of_ble_eq_true rfl) (fun p e s m below meth c A C hne hP hD hS ls hl => ?_)
  generalize ([.ref h0, .int x1] : List Value).toArray = args at C ⊢
  exact e_X13_sign (q := .inl q) C hne _ _ _ hf hP hD hS hl
theorem t_X13_sign {l : Launch} {D : va_G} {cs zs : Nat → Nat} {h0 : Nat} {a0 : Nat → Nat} {i0 : Nat → Int32} {r0 : Nat → Nat → Int32} {l0 : Nat → Nat → Int64} {x1 : Int32} {t : (Nat → Int32)} (hf : f_X13_sign i0 r0 l0 x1 = some (.inr t)) : MT l yX13_sign wlX13_sign rmX13_sign D cs zs [.ref h0, .int x1] (W13 cs h0 a0 i0 r0 l0) (a0 0) (W13 cs h0 a0 t r0 l0) := by
  refine MT.of RX13 (by decide) rfl (Nat.le_of_ble_eq_true rfl) (fun p e s m below meth c A C hne hP hD hS ls hl => ?_)
  generalize ([.ref h0, .int x1] : List Value).toArray = args at C ⊢
  exact e_X13_sign (q := .inr t) C hne _ _ _ hf hP hD hS hl
/-! MarbleFloorModel.lane(I)I -/
abbrev wlX13_lane : List Cond := Cond.code yX13_lane cX13_lane 3 (some .int) :: tbG
abbrev rmX13_lane : Room := { frames := 3, cells := 0, slots := 0, locals := 65 }
theorem qnX13_lane : yX13_lane.cls = RX13 ∧ yX13_lane.cls ≠ "java/lang/invoke/MethodHandle" ∧ yX13_lane.cls ≠ "java/lang/invoke/VarHandle" ∧ (parseMethodDescriptor yX13_lane.desc).map (fun d => d.parameters.length) = some 1 := by decide +kernel
def f_X13_lane_29 (r0 : Nat → Nat → Int32) (l0 : Nat → Nat → Int64)  (i0 : Nat → Int32) (x2 : Int32) (y0 : Int32) : Option ((Int32 × (Nat → Int32)) ⊕ ((Nat → Int32))) := bt (f_X13_need i0 r0 l0 y0 3) (fun q4 => bd (f_X13_scan q4 r0 l0) (fun q5 => some (.inl (x2, q5)))) (fun t4 => some (.inr (t4)))
set_option maxRecDepth 100000 in
set_option maxHeartbeats 4000000 in
theorem w_X13_lane_29 {p : Program} {l : Launch} {e : Env} {s : State} {m : MethodId} {args : Array Value} {below : List Frame} {meth : Method} {c : Code} {A : Nat → Prop} {D : va_G} {cs zs : Nat → Nat} {h0 : Nat} {a0 : Nat → Nat} {r0 : Nat → Nat → Int32} {l0 : Nat → Nat → Int64} {q : (Int32 × (Nat → Int32)) ⊕ ((Nat → Int32))} (C : Cx p s m args meth c A D cs zs cX13_lane 3 (some .int) RX13) (hne : NoH c)  : ∀ (i0 : Nat → Int32) (x2 : Int32) (y0 : Int32) (H : Heap) (locs : List Loc) (ls : Array Slot), f_X13_lane_29 r0 l0 i0 x2 y0 = some q → va_P D vwCl (W13 cs h0 a0 i0 r0 l0) H → va_D A (W13 cs h0 a0 i0 r0 l0) → va_S A s.heap H locs → lv_has ls 3 [(0, .ref h0), (2, .int x2)] → W p l e rmX13_lane s m args below meth c H locs 0 0 (Sum.elim (fun q => MQ below (Qi D cs A q.1 (W13 cs h0 a0 q.2 r0 l0)) args s 0 0 A) (fun t => MQT below D cs A (a0 0) (W13 cs h0 a0 t r0 l0) args s) q) (F0 m 29 ls [.int y0, .ref h0]) := by
  obtain ⟨hx, hb, hr, hml, hown, hts, hK, hA, hlocks, hZ⟩ := id C
  intro i0 x2 y0 H locs ls hf hP hD hS hl
  rw [f_X13_lane_29] at hf
  refine lv_iconst (v := 3) hx hb dX13_lane_29 (by decide) ?_
  rcases (bt_s hf).symm with ⟨t4, hq4, hf⟩ | ⟨q4, hq4, hf⟩
  · obtain rfl := Option.some.inj hf
    exact k_sVt (ws2 := W13 cs h0 a0 t4 r0 l0) (As := [.int y0, .int 3]) (rest := []) hx hb hml hown hts hK hA hZ hl.1 hP hD hS (t_X13_need (h0 := h0) (a0 := a0) hq4) (gVt mlX13_60 imX13_need seX13_need inX13 coX13_need) rfl qnX13_need rfl rfl ⟨Nat.le_of_ble_eq_true rfl, Nat.le_of_ble_eq_true rfl⟩ 0 13 rfl rfl rfl rfl rfl (Nat.le_of_ble_eq_true rfl) dX13_lane_30 hlocks hne
  refine k_sVv (ws2 := W13 cs h0 a0 q4 r0 l0) (As := [.int y0, .int 3]) (rest := []) hx hb hml hown hts hK hA hZ hl.1 hP hD hS (c_X13_need (h0 := h0) (a0 := a0) hq4) (gVt mlX13_60 imX13_need seX13_need inX13 coX13_need) rfl qnX13_need rfl rfl ⟨Nat.le_of_ble_eq_true rfl, Nat.le_of_ble_eq_true rfl⟩ 0 13 rfl rfl rfl rfl rfl (Nat.le_of_ble_eq_true rfl) ⟨Nat.zero_le _, Nat.zero_le _⟩ dX13_lane_30 (fun H locs hP hD hS => ?_)
  refine lv_aload_n hx hb dX13_lane_33 rfl (lv_at hl 0 rfl) ?_
  obtain ⟨q5, hq5, hf⟩ := bd_s hf
  refine k_sVv (ws2 := W13 cs h0 a0 q5 r0 l0) (As := []) (rest := []) hx hb hml hown hts hK hA hZ hl.1 hP hD hS (c_X13_scan (h0 := h0) (a0 := a0) hq5) (gVt mlX13_72 imX13_scan seX13_scan inX13 coX13_scan) rfl qnX13_scan rfl rfl ⟨Nat.le_of_ble_eq_true rfl, Nat.le_of_ble_eq_true rfl⟩ 0 13 rfl rfl rfl rfl rfl (Nat.le_of_ble_eq_true rfl) ⟨Nat.zero_le _, Nat.zero_le _⟩ dX13_lane_34 (fun H locs hP hD hS => ?_)
  refine lv_iload_n hx hb dX13_lane_37 rfl (lv_at hl 1 rfl) ?_
  obtain rfl := Option.some.inj hf
  exact k_iret hx hb hr hlocks hK hP hD hS dX13_lane_38
def f_X13_lane  (i0 : Nat → Int32) (r0 : Nat → Nat → Int32) (l0 : Nat → Nat → Int64) (x1 : Int32) : Option ((Int32 × (Nat → Int32)) ⊕ ((Nat → Int32))) := ck (inb 6 8) (bt (f_X13_look i0 r0 l0 0 ((r0 10 (6 : Int32).toNatClampNeg) - 1)) (fun q6 => if ((x1 >>> (q6.1 &&& 31)) &&& 1) = 0 then (f_X13_lane_29 r0 l0 q6.2 q6.1 1) else (f_X13_lane_29 r0 l0 q6.2 q6.1 0)) (fun t6 => some (.inr (t6))))
set_option maxRecDepth 100000 in
set_option maxHeartbeats 4000000 in
theorem e_X13_lane {p : Program} {l : Launch} {e : Env} {s : State} {m : MethodId} {args : Array Value} {below : List Frame} {meth : Method} {c : Code} {A : Nat → Prop} {D : va_G} {cs zs : Nat → Nat} {h0 : Nat} {a0 : Nat → Nat} {i0 : Nat → Int32} {r0 : Nat → Nat → Int32} {l0 : Nat → Nat → Int64} {x1 : Int32} {q : (Int32 × (Nat → Int32)) ⊕ ((Nat → Int32))} (C : Cx p s m args meth c A D cs zs cX13_lane 3 (some .int) RX13) (hne : NoH c)  : ∀ (H : Heap) (locs : List Loc) (ls : Array Slot), f_X13_lane i0 r0 l0 x1 = some q → va_P D vwCl (W13 cs h0 a0 i0 r0 l0) H → va_D A (W13 cs h0 a0 i0 r0 l0) → va_S A s.heap H locs → lv_has ls 3 [(0, .ref h0), (1, .int x1)] → W p l e rmX13_lane s m args below meth c H locs 0 0 (Sum.elim (fun q => MQ below (Qi D cs A q.1 (W13 cs h0 a0 q.2 r0 l0)) args s 0 0 A) (fun t => MQT below D cs A (a0 0) (W13 cs h0 a0 t r0 l0) args s) q) (F0 m 0 ls []) := by
  obtain ⟨hx, hb, hr, hml, hown, hts, hK, hA, hlocks, hZ⟩ := id C
  intro H locs ls hf hP hD hS hl
  rw [f_X13_lane] at hf
  refine lv_aload_n hx hb dX13_lane_0 rfl (lv_at hl 0 rfl) ?_
  refine lv_iconst (v := 0) hx hb dX13_lane_1 (by decide) ?_
  refine lv_aload_n hx hb dX13_lane_2 rfl (lv_at hl 0 rfl) ?_
  refine va_get (D := D) (ci := 13) (v := .ref (a0 10)) (C := RX13) (T := TX13) (N := 87) hx hb hts hiX13 hown hK hP 0 rfl rfl 10 (by decide) (hts _ flX13_99) (fun _ h9 => h9) rfl dX13_lane_3 ?_
  refine lv_bipush (v := 6) hx hb dX13_lane_6 (by decide) ?_
  refine va_iald (f := r0 10) hx hb hK hP 2 0 rfl rfl (ck_in hf) dX13_lane_8 ?_
  have hf := ck_2 hf
  refine lv_iconst (v := 1) hx hb dX13_lane_9 (by decide) ?_
  refine lv_isub hx hb dX13_lane_10 ?_
  rcases (bt_s hf).symm with ⟨t6, hq6, hf⟩ | ⟨q6, hq6, hf⟩
  · obtain rfl := Option.some.inj hf
    exact k_sVt (ws2 := W13 cs h0 a0 t6 r0 l0) (As := [.int 0, .int ((r0 10 (6 : Int32).toNatClampNeg) - 1)]) (rest := []) hx hb hml hown hts hK hA hZ hl.1 hP hD hS (t_X13_look (h0 := h0) (a0 := a0) hq6) (gVt mlX13_68 imX13_look seX13_look inX13 coX13_look) rfl qnX13_look rfl rfl ⟨Nat.le_of_ble_eq_true rfl, Nat.le_of_ble_eq_true rfl⟩ 0 13 rfl rfl rfl rfl rfl (Nat.le_of_ble_eq_true rfl) dX13_lane_11 hlocks hne
  refine k_sVi (ws2 := W13 cs h0 a0 q6.2 r0 l0) (As := [.int 0, .int ((r0 10 (6 : Int32).toNatClampNeg) - 1)]) (rest := []) hx hb hml hown hts hK hA hZ hl.1 hP hD hS (c_X13_look (h0 := h0) (a0 := a0) hq6) (gVt mlX13_68 imX13_look seX13_look inX13 coX13_look) rfl qnX13_look rfl rfl ⟨Nat.le_of_ble_eq_true rfl, Nat.le_of_ble_eq_true rfl⟩ 0 13 rfl rfl rfl rfl rfl (Nat.le_of_ble_eq_true rfl) ⟨Nat.zero_le _, Nat.zero_le _⟩ dX13_lane_11 (fun H locs hP hD hS => ?_)
  refine lv_istore_n (lv' := [(2, .int q6.1), (0, .ref h0), (1, .int x1)]) hx hb dX13_lane_14 rfl hl (by decide) rfl (fun ls hl => ?_)
  refine lv_aload_n hx hb dX13_lane_15 rfl (lv_at hl 1 rfl) ?_
  refine lv_iload_n hx hb dX13_lane_16 rfl (lv_at hl 2 rfl) ?_
  refine lv_iload_n hx hb dX13_lane_17 rfl (lv_at hl 0 rfl) ?_
  refine lv_ishr hx hb dX13_lane_18 ?_
  refine lv_iconst (v := 1) hx hb dX13_lane_19 (by decide) ?_
  refine lv_iand hx hb dX13_lane_20 ?_
  refine lv_if_ne (tgt := 28) hx hb dX13_lane_21 (by decide) (fun hc => ?_) (fun hc => ?_)
  · have hf := ite_f hf hc
    refine lv_iconst (v := 0) hx hb dX13_lane_28 (by decide) ?_
    exact w_X13_lane_29 C hne  _ _ _ _ _ _ hf hP hD hS (lv_sub hl [1, 0] rfl)
  · have hf := ite_t hf hc
    refine lv_iconst (v := 1) hx hb dX13_lane_24 (by decide) ?_
    refine lv_goto (tgt := 29) hx hb dX13_lane_25 (by decide) ?_
    exact w_X13_lane_29 C hne  _ _ _ _ _ _ hf hP hD hS (lv_sub hl [1, 0] rfl)
theorem c_X13_lane {l : Launch} {D : va_G} {cs zs : Nat → Nat} {h0 : Nat} {a0 : Nat → Nat} {i0 : Nat → Int32} {r0 : Nat → Nat → Int32} {l0 : Nat → Nat → Int64} {x1 : Int32} {q : Int32 × (Nat → Int32)} (hf : f_X13_lane i0 r0 l0 x1 = some (.inl q)) : Mi l yX13_lane wlX13_lane rmX13_lane D cs zs [.ref h0, .int x1] (W13 cs h0 a0 i0 r0 l0) q.1 (W13 cs h0 a0 q.2 r0 l0) := by
  refine Mi.ofT RX13 (by decide) rfl (Nat.le_of_ble_eq_true rfl) (fun p e s m below meth c A C hne hP hD hS ls hl => ?_)
  generalize ([.ref h0, .int x1] : List Value).toArray = args at C ⊢
  exact e_X13_lane (q := .inl q) C hne _ _ _ hf hP hD hS hl
theorem t_X13_lane {l : Launch} {D : va_G} {cs zs : Nat → Nat} {h0 : Nat} {a0 : Nat → Nat} {i0 : Nat → Int32} {r0 : Nat → Nat → Int32} {l0 : Nat → Nat → Int64} {x1 : Int32} {t : (Nat → Int32)} (hf : f_X13_lane i0 r0 l0 x1 = some (.inr t)) : MT l yX13_lane wlX13_lane rmX13_lane D cs zs [.ref h0, .int x1] (W13 cs h0 a0 i0 r0 l0) (a0 0) (W13 cs h0 a0 t r0 l0) := by
  refine MT.of RX13 (by decide) rfl (Nat.le_of_ble_eq_true rfl) (fun p e s m below meth c A C hne hP hD hS ls hl => ?_)
  generalize ([.ref h0, .int x1] : List Value).toArray = args at C ⊢
  exact e_X13_lane (q := .inr t) C hne _ _ _ hf hP hD hS hl
/-! MarbleFloorModel.readStep()V -/
abbrev wlX13_readStep : List Cond := Cond.code yX13_readStep cX13_readStep 6 none :: tbG
abbrev rmX13_readStep : Room := { frames := 5, cells := 0, slots := 0, locals := 108 }
theorem qnX13_readStep : yX13_readStep.cls = RX13 ∧ yX13_readStep.cls ≠ "java/lang/invoke/MethodHandle" ∧ yX13_readStep.cls ≠ "java/lang/invoke/VarHandle" ∧ (parseMethodDescriptor yX13_readStep.desc).map (fun d => d.parameters.length) = some 0 := by decide +kernel
def f_X13_readStep_98 (l0 : Nat → Nat → Int64)  : Nat → (Nat → Int32) → (Nat → Nat → Int32) → Int32 → Int32 → Int32 → Int32 → Option (((Nat → Int32) × (Nat → Nat → Int32)) ⊕ ((Nat → Int32) × (Nat → Nat → Int32)))
  | 0, _, _, _, _, _, _ => none
  | n + 1, i0, r0, x2, x3, x4, x5 => bd (f_X13_is 3 i0 r0 l0) (fun q13 => if q13 = 0 then (bt (f_X13_sign i0 r0 l0 59) (fun q14 => bd (f_X13_add q14 r0 l0 x2 x3 x5) (fun q15 => some (.inl (q14, q15)))) (fun t14 => some (.inr (t14, r0)))) else (bd (f_X13_scan i0 r0 l0) (fun q16 => bt (f_X13_lane q16 r0 l0 (x4 ||| x5)) (fun q17 => f_X13_readStep_98 l0 n q17.2 r0 x2 x3 x4 (x5 ||| ((1 : Int32) <<< (q17.1 &&& 31)))) (fun t17 => some (.inr (t17, r0))))))
set_option maxRecDepth 100000 in
set_option maxHeartbeats 4000000 in
theorem w_X13_readStep_98 {p : Program} {l : Launch} {e : Env} {s : State} {m : MethodId} {args : Array Value} {below : List Frame} {meth : Method} {c : Code} {A : Nat → Prop} {D : va_G} {cs zs : Nat → Nat} {h0 : Nat} {a0 : Nat → Nat} {l0 : Nat → Nat → Int64} {q : ((Nat → Int32) × (Nat → Nat → Int32)) ⊕ ((Nat → Int32) × (Nat → Nat → Int32))} (C : Cx p s m args meth c A D cs zs cX13_readStep 6 none RX13) (hne : NoH c)  : ∀ (n : Nat), ∀ (i0 : Nat → Int32) (r0 : Nat → Nat → Int32) (x2 : Int32) (x3 : Int32) (x4 : Int32) (x5 : Int32) (H : Heap) (locs : List Loc) (ls : Array Slot), f_X13_readStep_98 l0 n i0 r0 x2 x3 x4 x5 = some q → va_P D vwCl (W13 cs h0 a0 i0 r0 l0) H → va_D A (W13 cs h0 a0 i0 r0 l0) → va_S A s.heap H locs → lv_has ls 6 [(0, .ref h0), (2, .int x2), (3, .int x3), (4, .int x4), (5, .int x5)] → W p l e rmX13_readStep s m args below meth c H locs 0 0 (Sum.elim (fun q => MQ below (Qv D cs A (W13 cs h0 a0 q.1 q.2 l0)) args s 0 0 A) (fun t => MQT below D cs A (a0 0) (W13 cs h0 a0 t.1 t.2 l0) args s) q) (F0 m 98 ls []) := by
  obtain ⟨hx, hb, hr, hml, hown, hts, hK, hA, hlocks, hZ⟩ := id C
  intro n
  induction n with
  | zero =>
    intro i0 r0 x2 x3 x4 x5 H locs ls hf
    rw [f_X13_readStep_98] at hf
    cases hf
  | succ n ih =>
    intro i0 r0 x2 x3 x4 x5 H locs ls hf hP hD hS hl
    rw [f_X13_readStep_98] at hf
    refine lv_aload_n hx hb dX13_readStep_98 rfl (lv_at hl 0 rfl) ?_
    refine va_ldcS hx hb hown (hZ.2.2.2.2.2.2.1 3 (109, "if") rfl) dX13_readStep_99 ?_
    obtain ⟨q13, hq13, hf⟩ := bd_s hf
    refine k_sVi (ws2 := W13 cs h0 a0 i0 r0 l0) (As := [.ref (zs (10 + 3))]) (rest := []) hx hb hml hown hts hK hA hZ hl.1 hP hD hS (c_X13_is (h0 := h0) (a0 := a0) (w := 3) (by decide : 3 < 20) hq13) (gVt mlX13_76 imX13_is seX13_is inX13 coX13_is) rfl qnX13_is rfl rfl ⟨Nat.le_of_ble_eq_true rfl, Nat.le_of_ble_eq_true rfl⟩ 0 13 rfl rfl rfl rfl rfl (Nat.le_of_ble_eq_true rfl) ⟨Nat.zero_le _, Nat.zero_le _⟩ dX13_readStep_101 (fun H locs hP hD hS => ?_)
    refine lv_if_eq (tgt := 130) hx hb dX13_readStep_104 (by decide) (fun hc => ?_) (fun hc => ?_)
    · have hf := ite_t hf hc
      refine lv_aload_n hx hb dX13_readStep_130 rfl (lv_at hl 0 rfl) ?_
      refine lv_bipush (v := 59) hx hb dX13_readStep_131 (by decide) ?_
      rcases (bt_s hf).symm with ⟨t14, hq14, hf⟩ | ⟨q14, hq14, hf⟩
      · obtain rfl := Option.some.inj hf
        exact k_sVt (ws2 := W13 cs h0 a0 t14 r0 l0) (As := [.int 59]) (rest := []) hx hb hml hown hts hK hA hZ hl.1 hP hD hS (t_X13_sign (h0 := h0) (a0 := a0) hq14) (gVt mlX13_111 imX13_sign seX13_sign inX13 coX13_sign) rfl qnX13_sign rfl rfl ⟨Nat.le_of_ble_eq_true rfl, Nat.le_of_ble_eq_true rfl⟩ 0 13 rfl rfl rfl rfl rfl (Nat.le_of_ble_eq_true rfl) dX13_readStep_133 hlocks hne
      refine k_sVv (ws2 := W13 cs h0 a0 q14 r0 l0) (As := [.int 59]) (rest := []) hx hb hml hown hts hK hA hZ hl.1 hP hD hS (c_X13_sign (h0 := h0) (a0 := a0) hq14) (gVt mlX13_111 imX13_sign seX13_sign inX13 coX13_sign) rfl qnX13_sign rfl rfl ⟨Nat.le_of_ble_eq_true rfl, Nat.le_of_ble_eq_true rfl⟩ 0 13 rfl rfl rfl rfl rfl (Nat.le_of_ble_eq_true rfl) ⟨Nat.zero_le _, Nat.zero_le _⟩ dX13_readStep_133 (fun H locs hP hD hS => ?_)
      refine lv_aload_n hx hb dX13_readStep_136 rfl (lv_at hl 0 rfl) ?_
      refine lv_iload_n hx hb dX13_readStep_137 rfl (lv_at hl 1 rfl) ?_
      refine lv_iload_n hx hb dX13_readStep_138 rfl (lv_at hl 2 rfl) ?_
      refine lv_iload hx hb dX13_readStep_139 (lv_at hl 4 rfl) ?_
      obtain ⟨q15, hq15, hf⟩ := bd_s hf
      refine k_sVv (ws2 := W13 cs h0 a0 q14 q15 l0) (As := [.int x2, .int x3, .int x5]) (rest := []) hx hb hml hown hts hK hA hZ hl.1 hP hD hS (c_X13_add (h0 := h0) (a0 := a0) hq15) (gVt mlX13_115 imX13_add seX13_add inX13 coX13_add) rfl qnX13_add rfl rfl ⟨Nat.le_of_ble_eq_true rfl, Nat.le_of_ble_eq_true rfl⟩ 0 13 rfl rfl rfl rfl rfl (Nat.le_of_ble_eq_true rfl) ⟨Nat.zero_le _, Nat.zero_le _⟩ dX13_readStep_141 (fun H locs hP hD hS => ?_)
      obtain rfl := Option.some.inj hf
      exact k_vret hx hb hr hlocks hK hP hD hS dX13_readStep_144
    · have hf := ite_f hf hc
      refine lv_aload_n hx hb dX13_readStep_107 rfl (lv_at hl 0 rfl) ?_
      obtain ⟨q16, hq16, hf⟩ := bd_s hf
      refine k_sVv (ws2 := W13 cs h0 a0 q16 r0 l0) (As := []) (rest := []) hx hb hml hown hts hK hA hZ hl.1 hP hD hS (c_X13_scan (h0 := h0) (a0 := a0) hq16) (gVt mlX13_72 imX13_scan seX13_scan inX13 coX13_scan) rfl qnX13_scan rfl rfl ⟨Nat.le_of_ble_eq_true rfl, Nat.le_of_ble_eq_true rfl⟩ 0 13 rfl rfl rfl rfl rfl (Nat.le_of_ble_eq_true rfl) ⟨Nat.zero_le _, Nat.zero_le _⟩ dX13_readStep_108 (fun H locs hP hD hS => ?_)
      refine lv_iload hx hb dX13_readStep_111 (lv_at hl 4 rfl) ?_
      refine lv_iconst (v := 1) hx hb dX13_readStep_113 (by decide) ?_
      refine lv_aload_n hx hb dX13_readStep_114 rfl (lv_at hl 0 rfl) ?_
      refine lv_iload hx hb dX13_readStep_115 (lv_at hl 3 rfl) ?_
      refine lv_iload hx hb dX13_readStep_117 (lv_at hl 4 rfl) ?_
      refine lv_ior hx hb dX13_readStep_119 ?_
      rcases (bt_s hf).symm with ⟨t17, hq17, hf⟩ | ⟨q17, hq17, hf⟩
      · obtain rfl := Option.some.inj hf
        exact k_sVt (ws2 := W13 cs h0 a0 t17 r0 l0) (As := [.int (x4 ||| x5)]) (rest := [.int 1, .int x5]) hx hb hml hown hts hK hA hZ hl.1 hP hD hS (t_X13_lane (h0 := h0) (a0 := a0) hq17) (gVt mlX13_106 imX13_lane seX13_lane inX13 coX13_lane) rfl qnX13_lane rfl rfl ⟨Nat.le_of_ble_eq_true rfl, Nat.le_of_ble_eq_true rfl⟩ 0 13 rfl rfl rfl rfl rfl (Nat.le_of_ble_eq_true rfl) dX13_readStep_120 hlocks hne
      refine k_sVi (ws2 := W13 cs h0 a0 q17.2 r0 l0) (As := [.int (x4 ||| x5)]) (rest := [.int 1, .int x5]) hx hb hml hown hts hK hA hZ hl.1 hP hD hS (c_X13_lane (h0 := h0) (a0 := a0) hq17) (gVt mlX13_106 imX13_lane seX13_lane inX13 coX13_lane) rfl qnX13_lane rfl rfl ⟨Nat.le_of_ble_eq_true rfl, Nat.le_of_ble_eq_true rfl⟩ 0 13 rfl rfl rfl rfl rfl (Nat.le_of_ble_eq_true rfl) ⟨Nat.zero_le _, Nat.zero_le _⟩ dX13_readStep_120 (fun H locs hP hD hS => ?_)
      refine lv_ishl hx hb dX13_readStep_123 ?_
      refine lv_ior hx hb dX13_readStep_124 ?_
      refine lv_istore (lv' := [(5, .int (x5 ||| ((1 : Int32) <<< (q17.1 &&& 31)))), (0, .ref h0), (2, .int x2), (3, .int x3), (4, .int x4)]) hx hb dX13_readStep_125 hl (by decide) rfl (fun ls hl => ?_)
      refine lv_goto (tgt := 98) hx hb dX13_readStep_127 (by decide) ?_
      exact ih _ _ _ _ _ _ _ _ _ hf hP hD hS (lv_sub hl [1, 2, 3, 4, 0] rfl)
def f_X13_readStep_92 (l0 : Nat → Nat → Int64)  (i0 : Nat → Int32) (r0 : Nat → Nat → Int32) (x2 : Int32) (x3 : Int32) (y0 : Int32) (y1 : Int32) : Option (((Nat → Int32) × (Nat → Nat → Int32)) ⊕ ((Nat → Int32) × (Nat → Nat → Int32))) := f_X13_readStep_98 l0 2000000 i0 r0 x2 x3 (y1 ||| y0) 0
set_option maxRecDepth 100000 in
set_option maxHeartbeats 4000000 in
theorem w_X13_readStep_92 {p : Program} {l : Launch} {e : Env} {s : State} {m : MethodId} {args : Array Value} {below : List Frame} {meth : Method} {c : Code} {A : Nat → Prop} {D : va_G} {cs zs : Nat → Nat} {h0 : Nat} {a0 : Nat → Nat} {l0 : Nat → Nat → Int64} {q : ((Nat → Int32) × (Nat → Nat → Int32)) ⊕ ((Nat → Int32) × (Nat → Nat → Int32))} (C : Cx p s m args meth c A D cs zs cX13_readStep 6 none RX13) (hne : NoH c)  : ∀ (i0 : Nat → Int32) (r0 : Nat → Nat → Int32) (x2 : Int32) (x3 : Int32) (y0 : Int32) (y1 : Int32) (H : Heap) (locs : List Loc) (ls : Array Slot), f_X13_readStep_92 l0 i0 r0 x2 x3 y0 y1 = some q → va_P D vwCl (W13 cs h0 a0 i0 r0 l0) H → va_D A (W13 cs h0 a0 i0 r0 l0) → va_S A s.heap H locs → lv_has ls 6 [(0, .ref h0), (2, .int x2), (3, .int x3)] → W p l e rmX13_readStep s m args below meth c H locs 0 0 (Sum.elim (fun q => MQ below (Qv D cs A (W13 cs h0 a0 q.1 q.2 l0)) args s 0 0 A) (fun t => MQT below D cs A (a0 0) (W13 cs h0 a0 t.1 t.2 l0) args s) q) (F0 m 92 ls [.int y0, .int y1]) := by
  obtain ⟨hx, hb, hr, hml, hown, hts, hK, hA, hlocks, hZ⟩ := id C
  intro i0 r0 x2 x3 y0 y1 H locs ls hf hP hD hS hl
  rw [f_X13_readStep_92] at hf
  refine lv_ior hx hb dX13_readStep_92 ?_
  refine lv_istore (lv' := [(4, .int (y1 ||| y0)), (0, .ref h0), (2, .int x2), (3, .int x3)]) hx hb dX13_readStep_93 hl (by decide) rfl (fun ls hl => ?_)
  refine lv_iconst (v := 0) hx hb dX13_readStep_95 (by decide) ?_
  refine lv_istore (lv' := [(5, .int 0), (4, .int (y1 ||| y0)), (0, .ref h0), (2, .int x2), (3, .int x3)]) hx hb dX13_readStep_96 hl (by decide) rfl (fun ls hl => ?_)
  exact w_X13_readStep_98 C hne  2000000 _ _ _ _ _ _ _ _ _ hf hP hD hS (lv_sub hl [2, 3, 4, 1, 0] rfl)
def f_X13_readStep_77 (l0 : Nat → Nat → Int64)  (i0 : Nat → Int32) (r0 : Nat → Nat → Int32) (x1 : Int32) (x2 : Int32) (y0 : Int32) : Option (((Nat → Int32) × (Nat → Nat → Int32)) ⊕ ((Nat → Int32) × (Nat → Nat → Int32))) := if x1 = 0 then (f_X13_readStep_92 l0 i0 r0 x2 y0 0 ((1 : Int32) <<< (x2 &&& 31))) else (f_X13_readStep_92 l0 i0 r0 x2 y0 ((1 : Int32) <<< (y0 &&& 31)) ((1 : Int32) <<< (x2 &&& 31)))
set_option maxRecDepth 100000 in
set_option maxHeartbeats 4000000 in
theorem w_X13_readStep_77 {p : Program} {l : Launch} {e : Env} {s : State} {m : MethodId} {args : Array Value} {below : List Frame} {meth : Method} {c : Code} {A : Nat → Prop} {D : va_G} {cs zs : Nat → Nat} {h0 : Nat} {a0 : Nat → Nat} {l0 : Nat → Nat → Int64} {q : ((Nat → Int32) × (Nat → Nat → Int32)) ⊕ ((Nat → Int32) × (Nat → Nat → Int32))} (C : Cx p s m args meth c A D cs zs cX13_readStep 6 none RX13) (hne : NoH c)  : ∀ (i0 : Nat → Int32) (r0 : Nat → Nat → Int32) (x1 : Int32) (x2 : Int32) (y0 : Int32) (H : Heap) (locs : List Loc) (ls : Array Slot), f_X13_readStep_77 l0 i0 r0 x1 x2 y0 = some q → va_P D vwCl (W13 cs h0 a0 i0 r0 l0) H → va_D A (W13 cs h0 a0 i0 r0 l0) → va_S A s.heap H locs → lv_has ls 6 [(0, .ref h0), (1, .int x1), (2, .int x2)] → W p l e rmX13_readStep s m args below meth c H locs 0 0 (Sum.elim (fun q => MQ below (Qv D cs A (W13 cs h0 a0 q.1 q.2 l0)) args s 0 0 A) (fun t => MQT below D cs A (a0 0) (W13 cs h0 a0 t.1 t.2 l0) args s) q) (F0 m 77 ls [.int y0]) := by
  obtain ⟨hx, hb, hr, hml, hown, hts, hK, hA, hlocks, hZ⟩ := id C
  intro i0 r0 x1 x2 y0 H locs ls hf hP hD hS hl
  rw [f_X13_readStep_77] at hf
  refine lv_istore_n (lv' := [(3, .int y0), (0, .ref h0), (1, .int x1), (2, .int x2)]) hx hb dX13_readStep_77 rfl hl (by decide) rfl (fun ls hl => ?_)
  refine lv_iconst (v := 1) hx hb dX13_readStep_78 (by decide) ?_
  refine lv_iload_n hx hb dX13_readStep_79 rfl (lv_at hl 3 rfl) ?_
  refine lv_ishl hx hb dX13_readStep_80 ?_
  refine lv_iload_n hx hb dX13_readStep_81 rfl (lv_at hl 2 rfl) ?_
  refine lv_if_eq (tgt := 91) hx hb dX13_readStep_82 (by decide) (fun hc => ?_) (fun hc => ?_)
  · have hf := ite_t hf hc
    refine lv_iconst (v := 0) hx hb dX13_readStep_91 (by decide) ?_
    exact w_X13_readStep_92 C hne  _ _ _ _ _ _ _ _ _ hf hP hD hS (lv_sub hl [1, 3, 0] rfl)
  · have hf := ite_f hf hc
    refine lv_iconst (v := 1) hx hb dX13_readStep_85 (by decide) ?_
    refine lv_iload_n hx hb dX13_readStep_86 rfl (lv_at hl 0 rfl) ?_
    refine lv_ishl hx hb dX13_readStep_87 ?_
    refine lv_goto (tgt := 92) hx hb dX13_readStep_88 (by decide) ?_
    exact w_X13_readStep_92 C hne  _ _ _ _ _ _ _ _ _ hf hP hD hS (lv_sub hl [1, 3, 0] rfl)
def f_X13_readStep_48 (l0 : Nat → Nat → Int64)  (i0 : Nat → Int32) (r0 : Nat → Nat → Int32) (x1 : Int32) (y0 : Int32) : Option (((Nat → Int32) × (Nat → Nat → Int32)) ⊕ ((Nat → Int32) × (Nat → Nat → Int32))) := bt (f_X13_need i0 r0 l0 y0 4) (fun q18 => bd (f_X13_scan q18 r0 l0) (fun q19 => bt (f_X13_lane q19 r0 l0 0) (fun q20 => if x1 = 0 then (f_X13_readStep_77 l0 q20.2 r0 x1 q20.1 (-1)) else (bt (f_X13_lane q20.2 r0 l0 ((1 : Int32) <<< (q20.1 &&& 31))) (fun q21 => f_X13_readStep_77 l0 q21.2 r0 x1 q20.1 q21.1) (fun t21 => some (.inr (t21, r0))))) (fun t20 => some (.inr (t20, r0))))) (fun t18 => some (.inr (t18, r0)))
set_option maxRecDepth 100000 in
set_option maxHeartbeats 4000000 in
theorem w_X13_readStep_48 {p : Program} {l : Launch} {e : Env} {s : State} {m : MethodId} {args : Array Value} {below : List Frame} {meth : Method} {c : Code} {A : Nat → Prop} {D : va_G} {cs zs : Nat → Nat} {h0 : Nat} {a0 : Nat → Nat} {l0 : Nat → Nat → Int64} {q : ((Nat → Int32) × (Nat → Nat → Int32)) ⊕ ((Nat → Int32) × (Nat → Nat → Int32))} (C : Cx p s m args meth c A D cs zs cX13_readStep 6 none RX13) (hne : NoH c)  : ∀ (i0 : Nat → Int32) (r0 : Nat → Nat → Int32) (x1 : Int32) (y0 : Int32) (H : Heap) (locs : List Loc) (ls : Array Slot), f_X13_readStep_48 l0 i0 r0 x1 y0 = some q → va_P D vwCl (W13 cs h0 a0 i0 r0 l0) H → va_D A (W13 cs h0 a0 i0 r0 l0) → va_S A s.heap H locs → lv_has ls 6 [(0, .ref h0), (1, .int x1)] → W p l e rmX13_readStep s m args below meth c H locs 0 0 (Sum.elim (fun q => MQ below (Qv D cs A (W13 cs h0 a0 q.1 q.2 l0)) args s 0 0 A) (fun t => MQT below D cs A (a0 0) (W13 cs h0 a0 t.1 t.2 l0) args s) q) (F0 m 48 ls [.int y0, .ref h0]) := by
  obtain ⟨hx, hb, hr, hml, hown, hts, hK, hA, hlocks, hZ⟩ := id C
  intro i0 r0 x1 y0 H locs ls hf hP hD hS hl
  rw [f_X13_readStep_48] at hf
  refine lv_iconst (v := 4) hx hb dX13_readStep_48 (by decide) ?_
  rcases (bt_s hf).symm with ⟨t18, hq18, hf⟩ | ⟨q18, hq18, hf⟩
  · obtain rfl := Option.some.inj hf
    exact k_sVt (ws2 := W13 cs h0 a0 t18 r0 l0) (As := [.int y0, .int 4]) (rest := []) hx hb hml hown hts hK hA hZ hl.1 hP hD hS (t_X13_need (h0 := h0) (a0 := a0) hq18) (gVt mlX13_60 imX13_need seX13_need inX13 coX13_need) rfl qnX13_need rfl rfl ⟨Nat.le_of_ble_eq_true rfl, Nat.le_of_ble_eq_true rfl⟩ 0 13 rfl rfl rfl rfl rfl (Nat.le_of_ble_eq_true rfl) dX13_readStep_49 hlocks hne
  refine k_sVv (ws2 := W13 cs h0 a0 q18 r0 l0) (As := [.int y0, .int 4]) (rest := []) hx hb hml hown hts hK hA hZ hl.1 hP hD hS (c_X13_need (h0 := h0) (a0 := a0) hq18) (gVt mlX13_60 imX13_need seX13_need inX13 coX13_need) rfl qnX13_need rfl rfl ⟨Nat.le_of_ble_eq_true rfl, Nat.le_of_ble_eq_true rfl⟩ 0 13 rfl rfl rfl rfl rfl (Nat.le_of_ble_eq_true rfl) ⟨Nat.zero_le _, Nat.zero_le _⟩ dX13_readStep_49 (fun H locs hP hD hS => ?_)
  refine lv_aload_n hx hb dX13_readStep_52 rfl (lv_at hl 0 rfl) ?_
  obtain ⟨q19, hq19, hf⟩ := bd_s hf
  refine k_sVv (ws2 := W13 cs h0 a0 q19 r0 l0) (As := []) (rest := []) hx hb hml hown hts hK hA hZ hl.1 hP hD hS (c_X13_scan (h0 := h0) (a0 := a0) hq19) (gVt mlX13_72 imX13_scan seX13_scan inX13 coX13_scan) rfl qnX13_scan rfl rfl ⟨Nat.le_of_ble_eq_true rfl, Nat.le_of_ble_eq_true rfl⟩ 0 13 rfl rfl rfl rfl rfl (Nat.le_of_ble_eq_true rfl) ⟨Nat.zero_le _, Nat.zero_le _⟩ dX13_readStep_53 (fun H locs hP hD hS => ?_)
  refine lv_aload_n hx hb dX13_readStep_56 rfl (lv_at hl 0 rfl) ?_
  refine lv_iconst (v := 0) hx hb dX13_readStep_57 (by decide) ?_
  rcases (bt_s hf).symm with ⟨t20, hq20, hf⟩ | ⟨q20, hq20, hf⟩
  · obtain rfl := Option.some.inj hf
    exact k_sVt (ws2 := W13 cs h0 a0 t20 r0 l0) (As := [.int 0]) (rest := []) hx hb hml hown hts hK hA hZ hl.1 hP hD hS (t_X13_lane (h0 := h0) (a0 := a0) hq20) (gVt mlX13_106 imX13_lane seX13_lane inX13 coX13_lane) rfl qnX13_lane rfl rfl ⟨Nat.le_of_ble_eq_true rfl, Nat.le_of_ble_eq_true rfl⟩ 0 13 rfl rfl rfl rfl rfl (Nat.le_of_ble_eq_true rfl) dX13_readStep_58 hlocks hne
  refine k_sVi (ws2 := W13 cs h0 a0 q20.2 r0 l0) (As := [.int 0]) (rest := []) hx hb hml hown hts hK hA hZ hl.1 hP hD hS (c_X13_lane (h0 := h0) (a0 := a0) hq20) (gVt mlX13_106 imX13_lane seX13_lane inX13 coX13_lane) rfl qnX13_lane rfl rfl ⟨Nat.le_of_ble_eq_true rfl, Nat.le_of_ble_eq_true rfl⟩ 0 13 rfl rfl rfl rfl rfl (Nat.le_of_ble_eq_true rfl) ⟨Nat.zero_le _, Nat.zero_le _⟩ dX13_readStep_58 (fun H locs hP hD hS => ?_)
  refine lv_istore_n (lv' := [(2, .int q20.1), (0, .ref h0), (1, .int x1)]) hx hb dX13_readStep_61 rfl hl (by decide) rfl (fun ls hl => ?_)
  refine lv_iload_n hx hb dX13_readStep_62 rfl (lv_at hl 2 rfl) ?_
  refine lv_if_eq (tgt := 76) hx hb dX13_readStep_63 (by decide) (fun hc => ?_) (fun hc => ?_)
  · have hf := ite_t hf hc
    refine lv_iconst (v := (-1)) hx hb dX13_readStep_76 (by decide) ?_
    exact w_X13_readStep_77 C hne  _ _ _ _ _ _ _ _ hf hP hD hS (lv_sub hl [1, 2, 0] rfl)
  · have hf := ite_f hf hc
    refine lv_aload_n hx hb dX13_readStep_66 rfl (lv_at hl 1 rfl) ?_
    refine lv_iconst (v := 1) hx hb dX13_readStep_67 (by decide) ?_
    refine lv_iload_n hx hb dX13_readStep_68 rfl (lv_at hl 0 rfl) ?_
    refine lv_ishl hx hb dX13_readStep_69 ?_
    rcases (bt_s hf).symm with ⟨t21, hq21, hf⟩ | ⟨q21, hq21, hf⟩
    · obtain rfl := Option.some.inj hf
      exact k_sVt (ws2 := W13 cs h0 a0 t21 r0 l0) (As := [.int ((1 : Int32) <<< (q20.1 &&& 31))]) (rest := []) hx hb hml hown hts hK hA hZ hl.1 hP hD hS (t_X13_lane (h0 := h0) (a0 := a0) hq21) (gVt mlX13_106 imX13_lane seX13_lane inX13 coX13_lane) rfl qnX13_lane rfl rfl ⟨Nat.le_of_ble_eq_true rfl, Nat.le_of_ble_eq_true rfl⟩ 0 13 rfl rfl rfl rfl rfl (Nat.le_of_ble_eq_true rfl) dX13_readStep_70 hlocks hne
    refine k_sVi (ws2 := W13 cs h0 a0 q21.2 r0 l0) (As := [.int ((1 : Int32) <<< (q20.1 &&& 31))]) (rest := []) hx hb hml hown hts hK hA hZ hl.1 hP hD hS (c_X13_lane (h0 := h0) (a0 := a0) hq21) (gVt mlX13_106 imX13_lane seX13_lane inX13 coX13_lane) rfl qnX13_lane rfl rfl ⟨Nat.le_of_ble_eq_true rfl, Nat.le_of_ble_eq_true rfl⟩ 0 13 rfl rfl rfl rfl rfl (Nat.le_of_ble_eq_true rfl) ⟨Nat.zero_le _, Nat.zero_le _⟩ dX13_readStep_70 (fun H locs hP hD hS => ?_)
    refine lv_goto (tgt := 77) hx hb dX13_readStep_73 (by decide) ?_
    exact w_X13_readStep_77 C hne  _ _ _ _ _ _ _ _ hf hP hD hS (lv_sub hl [1, 2, 0] rfl)
def f_X13_readStep_26 (l0 : Nat → Nat → Int64)  (i0 : Nat → Int32) (r0 : Nat → Nat → Int32) (x1 : Int32) (y0 : Int32) : Option (((Nat → Int32) × (Nat → Nat → Int32)) ⊕ ((Nat → Int32) × (Nat → Nat → Int32))) := bt (f_X13_need i0 r0 l0 y0 1) (fun q22 => ck (inb 6 8) (if 40 ≤ (r0 11 (6 : Int32).toNatClampNeg) then (f_X13_readStep_48 l0 q22 r0 x1 0) else (f_X13_readStep_48 l0 q22 r0 x1 1))) (fun t22 => some (.inr (t22, r0)))
set_option maxRecDepth 100000 in
set_option maxHeartbeats 4000000 in
theorem w_X13_readStep_26 {p : Program} {l : Launch} {e : Env} {s : State} {m : MethodId} {args : Array Value} {below : List Frame} {meth : Method} {c : Code} {A : Nat → Prop} {D : va_G} {cs zs : Nat → Nat} {h0 : Nat} {a0 : Nat → Nat} {l0 : Nat → Nat → Int64} {q : ((Nat → Int32) × (Nat → Nat → Int32)) ⊕ ((Nat → Int32) × (Nat → Nat → Int32))} (C : Cx p s m args meth c A D cs zs cX13_readStep 6 none RX13) (hne : NoH c)  : ∀ (i0 : Nat → Int32) (r0 : Nat → Nat → Int32) (x1 : Int32) (y0 : Int32) (H : Heap) (locs : List Loc) (ls : Array Slot), f_X13_readStep_26 l0 i0 r0 x1 y0 = some q → va_P D vwCl (W13 cs h0 a0 i0 r0 l0) H → va_D A (W13 cs h0 a0 i0 r0 l0) → va_S A s.heap H locs → lv_has ls 6 [(0, .ref h0), (1, .int x1)] → W p l e rmX13_readStep s m args below meth c H locs 0 0 (Sum.elim (fun q => MQ below (Qv D cs A (W13 cs h0 a0 q.1 q.2 l0)) args s 0 0 A) (fun t => MQT below D cs A (a0 0) (W13 cs h0 a0 t.1 t.2 l0) args s) q) (F0 m 26 ls [.int y0, .ref h0]) := by
  obtain ⟨hx, hb, hr, hml, hown, hts, hK, hA, hlocks, hZ⟩ := id C
  intro i0 r0 x1 y0 H locs ls hf hP hD hS hl
  rw [f_X13_readStep_26] at hf
  refine lv_iconst (v := 1) hx hb dX13_readStep_26 (by decide) ?_
  rcases (bt_s hf).symm with ⟨t22, hq22, hf⟩ | ⟨q22, hq22, hf⟩
  · obtain rfl := Option.some.inj hf
    exact k_sVt (ws2 := W13 cs h0 a0 t22 r0 l0) (As := [.int y0, .int 1]) (rest := []) hx hb hml hown hts hK hA hZ hl.1 hP hD hS (t_X13_need (h0 := h0) (a0 := a0) hq22) (gVt mlX13_60 imX13_need seX13_need inX13 coX13_need) rfl qnX13_need rfl rfl ⟨Nat.le_of_ble_eq_true rfl, Nat.le_of_ble_eq_true rfl⟩ 0 13 rfl rfl rfl rfl rfl (Nat.le_of_ble_eq_true rfl) dX13_readStep_27 hlocks hne
  refine k_sVv (ws2 := W13 cs h0 a0 q22 r0 l0) (As := [.int y0, .int 1]) (rest := []) hx hb hml hown hts hK hA hZ hl.1 hP hD hS (c_X13_need (h0 := h0) (a0 := a0) hq22) (gVt mlX13_60 imX13_need seX13_need inX13 coX13_need) rfl qnX13_need rfl rfl ⟨Nat.le_of_ble_eq_true rfl, Nat.le_of_ble_eq_true rfl⟩ 0 13 rfl rfl rfl rfl rfl (Nat.le_of_ble_eq_true rfl) ⟨Nat.zero_le _, Nat.zero_le _⟩ dX13_readStep_27 (fun H locs hP hD hS => ?_)
  refine lv_aload_n hx hb dX13_readStep_30 rfl (lv_at hl 0 rfl) ?_
  refine lv_aload_n hx hb dX13_readStep_31 rfl (lv_at hl 0 rfl) ?_
  refine va_get (D := D) (ci := 13) (v := .ref (a0 11)) (C := RX13) (T := TX13) (N := 87) hx hb hts hiX13 hown hK hP 0 rfl rfl 11 (by decide) (hts _ flX13_86) (fun _ h9 => h9) rfl dX13_readStep_32 ?_
  refine lv_bipush (v := 6) hx hb dX13_readStep_35 (by decide) ?_
  refine va_iald (f := r0 11) hx hb hK hP 3 0 rfl rfl (ck_in hf) dX13_readStep_37 ?_
  have hf := ck_2 hf
  refine lv_bipush (v := 40) hx hb dX13_readStep_38 (by decide) ?_
  refine lv_icmp_ge (tgt := 47) hx hb dX13_readStep_40 (by decide) (fun hc => ?_) (fun hc => ?_)
  · have hf := ite_t hf hc
    refine lv_iconst (v := 0) hx hb dX13_readStep_47 (by decide) ?_
    exact w_X13_readStep_48 C hne  _ _ _ _ _ _ _ hf hP hD hS (lv_sub hl [0, 1] rfl)
  · have hf := ite_f hf hc
    refine lv_iconst (v := 1) hx hb dX13_readStep_43 (by decide) ?_
    refine lv_goto (tgt := 48) hx hb dX13_readStep_44 (by decide) ?_
    exact w_X13_readStep_48 C hne  _ _ _ _ _ _ _ hf hP hD hS (lv_sub hl [0, 1] rfl)
def f_X13_readStep_21 (l0 : Nat → Nat → Int64)  (i0 : Nat → Int32) (r0 : Nat → Nat → Int32) (x1 : Int32) : Option (((Nat → Int32) × (Nat → Nat → Int32)) ⊕ ((Nat → Int32) × (Nat → Nat → Int32))) := f_X13_readStep_26 l0 i0 r0 x1 1
set_option maxRecDepth 100000 in
set_option maxHeartbeats 4000000 in
theorem w_X13_readStep_21 {p : Program} {l : Launch} {e : Env} {s : State} {m : MethodId} {args : Array Value} {below : List Frame} {meth : Method} {c : Code} {A : Nat → Prop} {D : va_G} {cs zs : Nat → Nat} {h0 : Nat} {a0 : Nat → Nat} {l0 : Nat → Nat → Int64} {q : ((Nat → Int32) × (Nat → Nat → Int32)) ⊕ ((Nat → Int32) × (Nat → Nat → Int32))} (C : Cx p s m args meth c A D cs zs cX13_readStep 6 none RX13) (hne : NoH c)  : ∀ (i0 : Nat → Int32) (r0 : Nat → Nat → Int32) (x1 : Int32) (H : Heap) (locs : List Loc) (ls : Array Slot), f_X13_readStep_21 l0 i0 r0 x1 = some q → va_P D vwCl (W13 cs h0 a0 i0 r0 l0) H → va_D A (W13 cs h0 a0 i0 r0 l0) → va_S A s.heap H locs → lv_has ls 6 [(0, .ref h0), (1, .int x1)] → W p l e rmX13_readStep s m args below meth c H locs 0 0 (Sum.elim (fun q => MQ below (Qv D cs A (W13 cs h0 a0 q.1 q.2 l0)) args s 0 0 A) (fun t => MQT below D cs A (a0 0) (W13 cs h0 a0 t.1 t.2 l0) args s) q) (F0 m 21 ls [.ref h0]) := by
  obtain ⟨hx, hb, hr, hml, hown, hts, hK, hA, hlocks, hZ⟩ := id C
  intro i0 r0 x1 H locs ls hf hP hD hS hl
  rw [f_X13_readStep_21] at hf
  refine lv_iconst (v := 1) hx hb dX13_readStep_21 (by decide) ?_
  refine lv_goto (tgt := 26) hx hb dX13_readStep_22 (by decide) ?_
  exact w_X13_readStep_26 C hne  _ _ _ _ _ _ _ hf hP hD hS (lv_sub hl [0, 1] rfl)
def f_X13_readStep  (i0 : Nat → Int32) (r0 : Nat → Nat → Int32) (l0 : Nat → Nat → Int64)  : Option (((Nat → Int32) × (Nat → Nat → Int32)) ⊕ ((Nat → Int32) × (Nat → Nat → Int32))) := bd (f_X13_is 1 i0 r0 l0) (fun q23 => if q23 = 0 then (bd (f_X13_is 2 i0 r0 l0) (fun q24 => if q24 = 0 then (f_X13_readStep_26 l0 i0 r0 q23 0) else (f_X13_readStep_21 l0 i0 r0 q23))) else (f_X13_readStep_21 l0 i0 r0 q23))
set_option maxRecDepth 100000 in
set_option maxHeartbeats 4000000 in
theorem e_X13_readStep {p : Program} {l : Launch} {e : Env} {s : State} {m : MethodId} {args : Array Value} {below : List Frame} {meth : Method} {c : Code} {A : Nat → Prop} {D : va_G} {cs zs : Nat → Nat} {h0 : Nat} {a0 : Nat → Nat} {i0 : Nat → Int32} {r0 : Nat → Nat → Int32} {l0 : Nat → Nat → Int64}  {q : ((Nat → Int32) × (Nat → Nat → Int32)) ⊕ ((Nat → Int32) × (Nat → Nat → Int32))} (C : Cx p s m args meth c A D cs zs cX13_readStep 6 none RX13) (hne : NoH c)  : ∀ (H : Heap) (locs : List Loc) (ls : Array Slot), f_X13_readStep i0 r0 l0 = some q → va_P D vwCl (W13 cs h0 a0 i0 r0 l0) H → va_D A (W13 cs h0 a0 i0 r0 l0) → va_S A s.heap H locs → lv_has ls 6 [(0, .ref h0)] → W p l e rmX13_readStep s m args below meth c H locs 0 0 (Sum.elim (fun q => MQ below (Qv D cs A (W13 cs h0 a0 q.1 q.2 l0)) args s 0 0 A) (fun t => MQT below D cs A (a0 0) (W13 cs h0 a0 t.1 t.2 l0) args s) q) (F0 m 0 ls []) := by
  obtain ⟨hx, hb, hr, hml, hown, hts, hK, hA, hlocks, hZ⟩ := id C
  intro H locs ls hf hP hD hS hl
  rw [f_X13_readStep] at hf
  refine lv_aload_n hx hb dX13_readStep_0 rfl (lv_at hl 0 rfl) ?_
  refine va_ldcS hx hb hown (hZ.2.2.2.2.2.2.1 1 (102, "swap") rfl) dX13_readStep_1 ?_
  obtain ⟨q23, hq23, hf⟩ := bd_s hf
  refine k_sVi (ws2 := W13 cs h0 a0 i0 r0 l0) (As := [.ref (zs (10 + 1))]) (rest := []) hx hb hml hown hts hK hA hZ hl.1 hP hD hS (c_X13_is (h0 := h0) (a0 := a0) (w := 1) (by decide : 1 < 20) hq23) (gVt mlX13_76 imX13_is seX13_is inX13 coX13_is) rfl qnX13_is rfl rfl ⟨Nat.le_of_ble_eq_true rfl, Nat.le_of_ble_eq_true rfl⟩ 0 13 rfl rfl rfl rfl rfl (Nat.le_of_ble_eq_true rfl) ⟨Nat.zero_le _, Nat.zero_le _⟩ dX13_readStep_3 (fun H locs hP hD hS => ?_)
  refine lv_istore_n (lv' := [(1, .int q23), (0, .ref h0)]) hx hb dX13_readStep_6 rfl hl (by decide) rfl (fun ls hl => ?_)
  refine lv_aload_n hx hb dX13_readStep_7 rfl (lv_at hl 1 rfl) ?_
  refine lv_iload_n hx hb dX13_readStep_8 rfl (lv_at hl 0 rfl) ?_
  refine lv_if_ne (tgt := 21) hx hb dX13_readStep_9 (by decide) (fun hc => ?_) (fun hc => ?_)
  · have hf := ite_f hf hc
    exact w_X13_readStep_21 C hne  _ _ _ _ _ _ hf hP hD hS (lv_sub hl [1, 0] rfl)
  · have hf := ite_t hf hc
    refine lv_aload_n hx hb dX13_readStep_12 rfl (lv_at hl 1 rfl) ?_
    refine va_ldcS hx hb hown (hZ.2.2.2.2.2.2.1 2 (104, "turn") rfl) dX13_readStep_13 ?_
    obtain ⟨q24, hq24, hf⟩ := bd_s hf
    refine k_sVi (ws2 := W13 cs h0 a0 i0 r0 l0) (As := [.ref (zs (10 + 2))]) (rest := [.ref h0]) hx hb hml hown hts hK hA hZ hl.1 hP hD hS (c_X13_is (h0 := h0) (a0 := a0) (w := 2) (by decide : 2 < 20) hq24) (gVt mlX13_76 imX13_is seX13_is inX13 coX13_is) rfl qnX13_is rfl rfl ⟨Nat.le_of_ble_eq_true rfl, Nat.le_of_ble_eq_true rfl⟩ 0 13 rfl rfl rfl rfl rfl (Nat.le_of_ble_eq_true rfl) ⟨Nat.zero_le _, Nat.zero_le _⟩ dX13_readStep_15 (fun H locs hP hD hS => ?_)
    refine lv_if_eq (tgt := 25) hx hb dX13_readStep_18 (by decide) (fun hc => ?_) (fun hc => ?_)
    · have hf := ite_t hf hc
      refine lv_iconst (v := 0) hx hb dX13_readStep_25 (by decide) ?_
      exact w_X13_readStep_26 C hne  _ _ _ _ _ _ _ hf hP hD hS (lv_sub hl [1, 0] rfl)
    · have hf := ite_f hf hc
      exact w_X13_readStep_21 C hne  _ _ _ _ _ _ hf hP hD hS (lv_sub hl [1, 0] rfl)
theorem c_X13_readStep {l : Launch} {D : va_G} {cs zs : Nat → Nat} {h0 : Nat} {a0 : Nat → Nat} {i0 : Nat → Int32} {r0 : Nat → Nat → Int32} {l0 : Nat → Nat → Int64}  {q : (Nat → Int32) × (Nat → Nat → Int32)} (hf : f_X13_readStep i0 r0 l0 = some (.inl q)) : Mv l yX13_readStep wlX13_readStep rmX13_readStep D cs zs [.ref h0] (W13 cs h0 a0 i0 r0 l0) (W13 cs h0 a0 q.1 q.2 l0) := by
  refine Mv.ofT RX13 (by decide) rfl (Nat.le_of_ble_eq_true rfl) (fun p e s m below meth c A C hne hP hD hS ls hl => ?_)
  generalize ([.ref h0] : List Value).toArray = args at C ⊢
  exact e_X13_readStep (q := .inl q) C hne _ _ _ hf hP hD hS hl
theorem t_X13_readStep {l : Launch} {D : va_G} {cs zs : Nat → Nat} {h0 : Nat} {a0 : Nat → Nat} {i0 : Nat → Int32} {r0 : Nat → Nat → Int32} {l0 : Nat → Nat → Int64}  {t : (Nat → Int32) × (Nat → Nat → Int32)} (hf : f_X13_readStep i0 r0 l0 = some (.inr t)) : MT l yX13_readStep wlX13_readStep rmX13_readStep D cs zs [.ref h0] (W13 cs h0 a0 i0 r0 l0) (a0 0) (W13 cs h0 a0 t.1 t.2 l0) := by
  refine MT.of RX13 (by decide) rfl (Nat.le_of_ble_eq_true rfl) (fun p e s m below meth c A C hne hP hD hS ls hl => ?_)
  generalize ([.ref h0] : List Value).toArray = args at C ⊢
  exact e_X13_readStep (q := .inr t) C hne _ _ _ hf hP hD hS hl
/-! MarbleFloorModel.readFloor()V -/
abbrev wlX13_readFloor : List Cond := Cond.code yX13_readFloor cX13_readFloor 1 none :: tbG
abbrev rmX13_readFloor : Room := { frames := 6, cells := 0, slots := 0, locals := 133 }
theorem qnX13_readFloor : yX13_readFloor.cls = RX13 ∧ yX13_readFloor.cls ≠ "java/lang/invoke/MethodHandle" ∧ yX13_readFloor.cls ≠ "java/lang/invoke/VarHandle" ∧ (parseMethodDescriptor yX13_readFloor.desc).map (fun d => d.parameters.length) = some 0 := by decide +kernel
def f_X13_readFloor_34 (l0 : Nat → Nat → Int64)  : Nat → (Nat → Int32) → (Nat → Nat → Int32) → Option (((Nat → Int32) × (Nat → Nat → Int32)) ⊕ ((Nat → Int32) × (Nat → Nat → Int32)))
  | 0, _, _ => none
  | n + 1, i0, r0 => if (i0 6) = 0 then (some (.inl (i0, r0))) else (bt (f_X13_readStep i0 r0 l0) (fun q5 => f_X13_readFloor_34 l0 n q5.1 q5.2) (fun t5 => some (.inr (t5.1, t5.2))))
set_option maxRecDepth 100000 in
set_option maxHeartbeats 4000000 in
theorem w_X13_readFloor_34 {p : Program} {l : Launch} {e : Env} {s : State} {m : MethodId} {args : Array Value} {below : List Frame} {meth : Method} {c : Code} {A : Nat → Prop} {D : va_G} {cs zs : Nat → Nat} {h0 : Nat} {a0 : Nat → Nat} {l0 : Nat → Nat → Int64} {q : ((Nat → Int32) × (Nat → Nat → Int32)) ⊕ ((Nat → Int32) × (Nat → Nat → Int32))} (C : Cx p s m args meth c A D cs zs cX13_readFloor 1 none RX13) (hne : NoH c)  : ∀ (n : Nat), ∀ (i0 : Nat → Int32) (r0 : Nat → Nat → Int32) (H : Heap) (locs : List Loc) (ls : Array Slot), f_X13_readFloor_34 l0 n i0 r0 = some q → va_P D vwCl (W13 cs h0 a0 i0 r0 l0) H → va_D A (W13 cs h0 a0 i0 r0 l0) → va_S A s.heap H locs → lv_has ls 1 [(0, .ref h0)] → W p l e rmX13_readFloor s m args below meth c H locs 0 0 (Sum.elim (fun q => MQ below (Qv D cs A (W13 cs h0 a0 q.1 q.2 l0)) args s 0 0 A) (fun t => MQT below D cs A (a0 0) (W13 cs h0 a0 t.1 t.2 l0) args s) q) (F0 m 34 ls []) := by
  obtain ⟨hx, hb, hr, hml, hown, hts, hK, hA, hlocks, hZ⟩ := id C
  intro n
  induction n with
  | zero =>
    intro i0 r0 H locs ls hf
    rw [f_X13_readFloor_34] at hf
    cases hf
  | succ n ih =>
    intro i0 r0 H locs ls hf hP hD hS hl
    rw [f_X13_readFloor_34] at hf
    refine lv_aload_n hx hb dX13_readFloor_34 rfl (lv_at hl 0 rfl) ?_
    refine va_get (D := D) (ci := 13) (v := .int (i0 6)) (C := RX13) (T := TX13) (N := 87) hx hb hts hiX13 hown hK hP 0 rfl rfl 6 (by decide) (hts _ flX13_31) (fun _ h9 => h9) rfl dX13_readFloor_35 ?_
    refine lv_if_eq (tgt := 48) hx hb dX13_readFloor_38 (by decide) (fun hc => ?_) (fun hc => ?_)
    · have hf := ite_t hf hc
      obtain rfl := Option.some.inj hf
      exact k_vret hx hb hr hlocks hK hP hD hS dX13_readFloor_48
    · have hf := ite_f hf hc
      refine lv_aload_n hx hb dX13_readFloor_41 rfl (lv_at hl 0 rfl) ?_
      rcases (bt_s hf).symm with ⟨t5, hq5, hf⟩ | ⟨q5, hq5, hf⟩
      · obtain rfl := Option.some.inj hf
        exact k_sVt (ws2 := W13 cs h0 a0 t5.1 t5.2 l0) (As := []) (rest := []) hx hb hml hown hts hK hA hZ hl.1 hP hD hS (t_X13_readStep (h0 := h0) (a0 := a0) hq5) (gVt mlX13_127 imX13_readStep seX13_readStep inX13 coX13_readStep) rfl qnX13_readStep rfl rfl ⟨Nat.le_of_ble_eq_true rfl, Nat.le_of_ble_eq_true rfl⟩ 0 13 rfl rfl rfl rfl rfl (Nat.le_of_ble_eq_true rfl) dX13_readFloor_42 hlocks hne
      refine k_sVv (ws2 := W13 cs h0 a0 q5.1 q5.2 l0) (As := []) (rest := []) hx hb hml hown hts hK hA hZ hl.1 hP hD hS (c_X13_readStep (h0 := h0) (a0 := a0) hq5) (gVt mlX13_127 imX13_readStep seX13_readStep inX13 coX13_readStep) rfl qnX13_readStep rfl rfl ⟨Nat.le_of_ble_eq_true rfl, Nat.le_of_ble_eq_true rfl⟩ 0 13 rfl rfl rfl rfl rfl (Nat.le_of_ble_eq_true rfl) ⟨Nat.zero_le _, Nat.zero_le _⟩ dX13_readFloor_42 (fun H locs hP hD hS => ?_)
      refine lv_goto (tgt := 34) hx hb dX13_readFloor_45 (by decide) ?_
      exact ih _ _ _ _ _ hf hP hD hS (lv_sub hl [0] rfl)
def f_X13_readFloor_28 (l0 : Nat → Nat → Int64)  (i0 : Nat → Int32) (r0 : Nat → Nat → Int32) : Option (((Nat → Int32) × (Nat → Nat → Int32)) ⊕ ((Nat → Int32) × (Nat → Nat → Int32))) := bt (f_X13_sign i0 r0 l0 59) (fun q6 => f_X13_readFloor_34 l0 2000000 q6 r0) (fun t6 => some (.inr (t6, r0)))
set_option maxRecDepth 100000 in
set_option maxHeartbeats 4000000 in
theorem w_X13_readFloor_28 {p : Program} {l : Launch} {e : Env} {s : State} {m : MethodId} {args : Array Value} {below : List Frame} {meth : Method} {c : Code} {A : Nat → Prop} {D : va_G} {cs zs : Nat → Nat} {h0 : Nat} {a0 : Nat → Nat} {l0 : Nat → Nat → Int64} {q : ((Nat → Int32) × (Nat → Nat → Int32)) ⊕ ((Nat → Int32) × (Nat → Nat → Int32))} (C : Cx p s m args meth c A D cs zs cX13_readFloor 1 none RX13) (hne : NoH c)  : ∀ (i0 : Nat → Int32) (r0 : Nat → Nat → Int32) (H : Heap) (locs : List Loc) (ls : Array Slot), f_X13_readFloor_28 l0 i0 r0 = some q → va_P D vwCl (W13 cs h0 a0 i0 r0 l0) H → va_D A (W13 cs h0 a0 i0 r0 l0) → va_S A s.heap H locs → lv_has ls 1 [(0, .ref h0)] → W p l e rmX13_readFloor s m args below meth c H locs 0 0 (Sum.elim (fun q => MQ below (Qv D cs A (W13 cs h0 a0 q.1 q.2 l0)) args s 0 0 A) (fun t => MQT below D cs A (a0 0) (W13 cs h0 a0 t.1 t.2 l0) args s) q) (F0 m 28 ls []) := by
  obtain ⟨hx, hb, hr, hml, hown, hts, hK, hA, hlocks, hZ⟩ := id C
  intro i0 r0 H locs ls hf hP hD hS hl
  rw [f_X13_readFloor_28] at hf
  refine lv_aload_n hx hb dX13_readFloor_28 rfl (lv_at hl 0 rfl) ?_
  refine lv_bipush (v := 59) hx hb dX13_readFloor_29 (by decide) ?_
  rcases (bt_s hf).symm with ⟨t6, hq6, hf⟩ | ⟨q6, hq6, hf⟩
  · obtain rfl := Option.some.inj hf
    exact k_sVt (ws2 := W13 cs h0 a0 t6 r0 l0) (As := [.int 59]) (rest := []) hx hb hml hown hts hK hA hZ hl.1 hP hD hS (t_X13_sign (h0 := h0) (a0 := a0) hq6) (gVt mlX13_111 imX13_sign seX13_sign inX13 coX13_sign) rfl qnX13_sign rfl rfl ⟨Nat.le_of_ble_eq_true rfl, Nat.le_of_ble_eq_true rfl⟩ 0 13 rfl rfl rfl rfl rfl (Nat.le_of_ble_eq_true rfl) dX13_readFloor_31 hlocks hne
  refine k_sVv (ws2 := W13 cs h0 a0 q6 r0 l0) (As := [.int 59]) (rest := []) hx hb hml hown hts hK hA hZ hl.1 hP hD hS (c_X13_sign (h0 := h0) (a0 := a0) hq6) (gVt mlX13_111 imX13_sign seX13_sign inX13 coX13_sign) rfl qnX13_sign rfl rfl ⟨Nat.le_of_ble_eq_true rfl, Nat.le_of_ble_eq_true rfl⟩ 0 13 rfl rfl rfl rfl rfl (Nat.le_of_ble_eq_true rfl) ⟨Nat.zero_le _, Nat.zero_le _⟩ dX13_readFloor_31 (fun H locs hP hD hS => ?_)
  exact w_X13_readFloor_34 C hne  2000000 _ _ _ _ _ hf hP hD hS (lv_sub hl [0] rfl)
def f_X13_readFloor  (i0 : Nat → Int32) (r0 : Nat → Nat → Int32) (l0 : Nat → Nat → Int64)  : Option (((Nat → Int32) × (Nat → Nat → Int32)) ⊕ ((Nat → Int32) × (Nat → Nat → Int32))) := ck (inb 6 8) (bt (f_X13_word 0 i0 (va_up r0 11 (upd (r0 11) (6 : Int32).toNatClampNeg 0)) l0) (fun q7 => bt (f_X13_number q7 (va_up r0 11 (upd (r0 11) (6 : Int32).toNatClampNeg 0)) l0 1 8) (fun q8 => ck (inb 6 8) (f_X13_readFloor_28 l0 q8.2 (va_up (va_up r0 11 (upd (r0 11) (6 : Int32).toNatClampNeg 0)) 10 (upd (r0 10) (6 : Int32).toNatClampNeg q8.1)))) (fun t8 => some (.inr (t8, (va_up r0 11 (upd (r0 11) (6 : Int32).toNatClampNeg 0)))))) (fun t7 => some (.inr (t7, (va_up r0 11 (upd (r0 11) (6 : Int32).toNatClampNeg 0))))))
set_option maxRecDepth 100000 in
set_option maxHeartbeats 4000000 in
theorem e_X13_readFloor {p : Program} {l : Launch} {e : Env} {s : State} {m : MethodId} {args : Array Value} {below : List Frame} {meth : Method} {c : Code} {A : Nat → Prop} {D : va_G} {cs zs : Nat → Nat} {h0 : Nat} {a0 : Nat → Nat} {i0 : Nat → Int32} {r0 : Nat → Nat → Int32} {l0 : Nat → Nat → Int64}  {q : ((Nat → Int32) × (Nat → Nat → Int32)) ⊕ ((Nat → Int32) × (Nat → Nat → Int32))} (C : Cx p s m args meth c A D cs zs cX13_readFloor 1 none RX13) (hne : NoH c)  : ∀ (H : Heap) (locs : List Loc) (ls : Array Slot), f_X13_readFloor i0 r0 l0 = some q → va_P D vwCl (W13 cs h0 a0 i0 r0 l0) H → va_D A (W13 cs h0 a0 i0 r0 l0) → va_S A s.heap H locs → lv_has ls 1 [(0, .ref h0)] → W p l e rmX13_readFloor s m args below meth c H locs 0 0 (Sum.elim (fun q => MQ below (Qv D cs A (W13 cs h0 a0 q.1 q.2 l0)) args s 0 0 A) (fun t => MQT below D cs A (a0 0) (W13 cs h0 a0 t.1 t.2 l0) args s) q) (F0 m 0 ls []) := by
  obtain ⟨hx, hb, hr, hml, hown, hts, hK, hA, hlocks, hZ⟩ := id C
  intro H locs ls hf hP hD hS hl
  rw [f_X13_readFloor] at hf
  refine lv_aload_n hx hb dX13_readFloor_0 rfl (lv_at hl 0 rfl) ?_
  refine va_get (D := D) (ci := 13) (v := .ref (a0 11)) (C := RX13) (T := TX13) (N := 87) hx hb hts hiX13 hown hK hP 0 rfl rfl 11 (by decide) (hts _ flX13_86) (fun _ h9 => h9) rfl dX13_readFloor_1 ?_
  refine lv_bipush (v := 6) hx hb dX13_readFloor_4 (by decide) ?_
  refine lv_iconst (v := 0) hx hb dX13_readFloor_6 (by decide) ?_
  refine va_iast (f := r0 11) hx hb hK hP hD hS 3 0 rfl rfl (ck_in hf) dX13_readFloor_7 (fun H locs hP hD hS => ?_)
  have hf := ck_2 hf
  obtain ⟨hP, hD⟩ := st13_11 hP hD
  refine lv_aload_n hx hb dX13_readFloor_8 rfl (lv_at hl 0 rfl) ?_
  refine va_ldcS hx hb hown (hZ.2.2.2.2.2.2.1 0 (119, "lanes") rfl) dX13_readFloor_9 ?_
  rcases (bt_s hf).symm with ⟨t7, hq7, hf⟩ | ⟨q7, hq7, hf⟩
  · obtain rfl := Option.some.inj hf
    exact k_sVt (ws2 := W13 cs h0 a0 t7 (va_up r0 11 (upd (r0 11) (6 : Int32).toNatClampNeg 0)) l0) (As := [.ref (zs (10 + 0))]) (rest := []) hx hb hml hown hts hK hA hZ hl.1 hP hD hS (t_X13_word (h0 := h0) (a0 := a0) (w := 0) (by decide : 0 < 20) hq7) (gVt mlX13_120 imX13_word seX13_word inX13 coX13_word) rfl qnX13_word rfl rfl ⟨Nat.le_of_ble_eq_true rfl, Nat.le_of_ble_eq_true rfl⟩ 0 13 rfl rfl rfl rfl rfl (Nat.le_of_ble_eq_true rfl) dX13_readFloor_11 hlocks hne
  refine k_sVv (ws2 := W13 cs h0 a0 q7 (va_up r0 11 (upd (r0 11) (6 : Int32).toNatClampNeg 0)) l0) (As := [.ref (zs (10 + 0))]) (rest := []) hx hb hml hown hts hK hA hZ hl.1 hP hD hS (c_X13_word (h0 := h0) (a0 := a0) (w := 0) (by decide : 0 < 20) hq7) (gVt mlX13_120 imX13_word seX13_word inX13 coX13_word) rfl qnX13_word rfl rfl ⟨Nat.le_of_ble_eq_true rfl, Nat.le_of_ble_eq_true rfl⟩ 0 13 rfl rfl rfl rfl rfl (Nat.le_of_ble_eq_true rfl) ⟨Nat.zero_le _, Nat.zero_le _⟩ dX13_readFloor_11 (fun H locs hP hD hS => ?_)
  refine lv_aload_n hx hb dX13_readFloor_14 rfl (lv_at hl 0 rfl) ?_
  refine va_get (D := D) (ci := 13) (v := .ref (a0 10)) (C := RX13) (T := TX13) (N := 87) hx hb hts hiX13 hown hK hP 0 rfl rfl 10 (by decide) (hts _ flX13_99) (fun _ h9 => h9) rfl dX13_readFloor_15 ?_
  refine lv_bipush (v := 6) hx hb dX13_readFloor_18 (by decide) ?_
  refine lv_aload_n hx hb dX13_readFloor_20 rfl (lv_at hl 0 rfl) ?_
  refine lv_iconst (v := 1) hx hb dX13_readFloor_21 (by decide) ?_
  refine lv_bipush (v := 8) hx hb dX13_readFloor_22 (by decide) ?_
  rcases (bt_s hf).symm with ⟨t8, hq8, hf⟩ | ⟨q8, hq8, hf⟩
  · obtain rfl := Option.some.inj hf
    exact k_sVt (ws2 := W13 cs h0 a0 t8 (va_up r0 11 (upd (r0 11) (6 : Int32).toNatClampNeg 0)) l0) (As := [.int 1, .int 8]) (rest := [.int 6, .ref (a0 10)]) hx hb hml hown hts hK hA hZ hl.1 hP hD hS (t_X13_number (h0 := h0) (a0 := a0) hq8) (gVt mlX13_124 imX13_number seX13_number inX13 coX13_number) rfl qnX13_number rfl rfl ⟨Nat.le_of_ble_eq_true rfl, Nat.le_of_ble_eq_true rfl⟩ 0 13 rfl rfl rfl rfl rfl (Nat.le_of_ble_eq_true rfl) dX13_readFloor_24 hlocks hne
  refine k_sVi (ws2 := W13 cs h0 a0 q8.2 (va_up r0 11 (upd (r0 11) (6 : Int32).toNatClampNeg 0)) l0) (As := [.int 1, .int 8]) (rest := [.int 6, .ref (a0 10)]) hx hb hml hown hts hK hA hZ hl.1 hP hD hS (c_X13_number (h0 := h0) (a0 := a0) hq8) (gVt mlX13_124 imX13_number seX13_number inX13 coX13_number) rfl qnX13_number rfl rfl ⟨Nat.le_of_ble_eq_true rfl, Nat.le_of_ble_eq_true rfl⟩ 0 13 rfl rfl rfl rfl rfl (Nat.le_of_ble_eq_true rfl) ⟨Nat.zero_le _, Nat.zero_le _⟩ dX13_readFloor_24 (fun H locs hP hD hS => ?_)
  refine va_iast (f := r0 10) hx hb hK hP hD hS 2 0 rfl rfl (ck_in hf) dX13_readFloor_27 (fun H locs hP hD hS => ?_)
  have hf := ck_2 hf
  obtain ⟨hP, hD⟩ := st13_10 hP hD
  exact w_X13_readFloor_28 C hne  _ _ _ _ _ hf hP hD hS (lv_sub hl [0] rfl)
theorem c_X13_readFloor {l : Launch} {D : va_G} {cs zs : Nat → Nat} {h0 : Nat} {a0 : Nat → Nat} {i0 : Nat → Int32} {r0 : Nat → Nat → Int32} {l0 : Nat → Nat → Int64}  {q : (Nat → Int32) × (Nat → Nat → Int32)} (hf : f_X13_readFloor i0 r0 l0 = some (.inl q)) : Mv l yX13_readFloor wlX13_readFloor rmX13_readFloor D cs zs [.ref h0] (W13 cs h0 a0 i0 r0 l0) (W13 cs h0 a0 q.1 q.2 l0) := by
  refine Mv.ofT RX13 (by decide) rfl (Nat.le_of_ble_eq_true rfl) (fun p e s m below meth c A C hne hP hD hS ls hl => ?_)
  generalize ([.ref h0] : List Value).toArray = args at C ⊢
  exact e_X13_readFloor (q := .inl q) C hne _ _ _ hf hP hD hS hl
theorem t_X13_readFloor {l : Launch} {D : va_G} {cs zs : Nat → Nat} {h0 : Nat} {a0 : Nat → Nat} {i0 : Nat → Int32} {r0 : Nat → Nat → Int32} {l0 : Nat → Nat → Int64}  {t : (Nat → Int32) × (Nat → Nat → Int32)} (hf : f_X13_readFloor i0 r0 l0 = some (.inr t)) : MT l yX13_readFloor wlX13_readFloor rmX13_readFloor D cs zs [.ref h0] (W13 cs h0 a0 i0 r0 l0) (a0 0) (W13 cs h0 a0 t.1 t.2 l0) := by
  refine MT.of RX13 (by decide) rfl (Nat.le_of_ble_eq_true rfl) (fun p e s m below meth c A C hne hP hD hS ls hl => ?_)
  generalize ([.ref h0] : List Value).toArray = args at C ⊢
  exact e_X13_readFloor (q := .inr t) C hne _ _ _ hf hP hD hS hl
/-! MarbleFloorModel.readVar(I)V -/
abbrev wlX13_readVar : List Cond := Cond.code yX13_readVar cX13_readVar 2 none :: tbG
abbrev rmX13_readVar : Room := { frames := 6, cells := 0, slots := 0, locals := 128 }
theorem qnX13_readVar : yX13_readVar.cls = RX13 ∧ yX13_readVar.cls ≠ "java/lang/invoke/MethodHandle" ∧ yX13_readVar.cls ≠ "java/lang/invoke/VarHandle" ∧ (parseMethodDescriptor yX13_readVar.desc).map (fun d => d.parameters.length) = some 1 := by decide +kernel
def f_X13_readVar_54 (r0 : Nat → Nat → Int32) (l0 : Nat → Nat → Int64)  (i0 : Nat → Int32) (y0 : Int32) : Option (((Nat → Int32)) ⊕ ((Nat → Int32))) := bt (f_X13_need i0 r0 l0 y0 3) (fun q16 => bd (f_X13_scan q16 r0 l0) (fun q17 => some (.inl (q17)))) (fun t16 => some (.inr (t16)))
set_option maxRecDepth 100000 in
set_option maxHeartbeats 4000000 in
theorem w_X13_readVar_54 {p : Program} {l : Launch} {e : Env} {s : State} {m : MethodId} {args : Array Value} {below : List Frame} {meth : Method} {c : Code} {A : Nat → Prop} {D : va_G} {cs zs : Nat → Nat} {h0 : Nat} {a0 : Nat → Nat} {r0 : Nat → Nat → Int32} {l0 : Nat → Nat → Int64} {q : ((Nat → Int32)) ⊕ ((Nat → Int32))} (C : Cx p s m args meth c A D cs zs cX13_readVar 2 none RX13) (hne : NoH c)  : ∀ (i0 : Nat → Int32) (y0 : Int32) (H : Heap) (locs : List Loc) (ls : Array Slot), f_X13_readVar_54 r0 l0 i0 y0 = some q → va_P D vwCl (W13 cs h0 a0 i0 r0 l0) H → va_D A (W13 cs h0 a0 i0 r0 l0) → va_S A s.heap H locs → lv_has ls 2 [(0, .ref h0)] → W p l e rmX13_readVar s m args below meth c H locs 0 0 (Sum.elim (fun q => MQ below (Qv D cs A (W13 cs h0 a0 q r0 l0)) args s 0 0 A) (fun t => MQT below D cs A (a0 0) (W13 cs h0 a0 t r0 l0) args s) q) (F0 m 54 ls [.int y0, .ref h0]) := by
  obtain ⟨hx, hb, hr, hml, hown, hts, hK, hA, hlocks, hZ⟩ := id C
  intro i0 y0 H locs ls hf hP hD hS hl
  rw [f_X13_readVar_54] at hf
  refine lv_iconst (v := 3) hx hb dX13_readVar_54 (by decide) ?_
  rcases (bt_s hf).symm with ⟨t16, hq16, hf⟩ | ⟨q16, hq16, hf⟩
  · obtain rfl := Option.some.inj hf
    exact k_sVt (ws2 := W13 cs h0 a0 t16 r0 l0) (As := [.int y0, .int 3]) (rest := []) hx hb hml hown hts hK hA hZ hl.1 hP hD hS (t_X13_need (h0 := h0) (a0 := a0) hq16) (gVt mlX13_60 imX13_need seX13_need inX13 coX13_need) rfl qnX13_need rfl rfl ⟨Nat.le_of_ble_eq_true rfl, Nat.le_of_ble_eq_true rfl⟩ 0 13 rfl rfl rfl rfl rfl (Nat.le_of_ble_eq_true rfl) dX13_readVar_55 hlocks hne
  refine k_sVv (ws2 := W13 cs h0 a0 q16 r0 l0) (As := [.int y0, .int 3]) (rest := []) hx hb hml hown hts hK hA hZ hl.1 hP hD hS (c_X13_need (h0 := h0) (a0 := a0) hq16) (gVt mlX13_60 imX13_need seX13_need inX13 coX13_need) rfl qnX13_need rfl rfl ⟨Nat.le_of_ble_eq_true rfl, Nat.le_of_ble_eq_true rfl⟩ 0 13 rfl rfl rfl rfl rfl (Nat.le_of_ble_eq_true rfl) ⟨Nat.zero_le _, Nat.zero_le _⟩ dX13_readVar_55 (fun H locs hP hD hS => ?_)
  refine lv_aload_n hx hb dX13_readVar_58 rfl (lv_at hl 0 rfl) ?_
  obtain ⟨q17, hq17, hf⟩ := bd_s hf
  refine k_sVv (ws2 := W13 cs h0 a0 q17 r0 l0) (As := []) (rest := []) hx hb hml hown hts hK hA hZ hl.1 hP hD hS (c_X13_scan (h0 := h0) (a0 := a0) hq17) (gVt mlX13_72 imX13_scan seX13_scan inX13 coX13_scan) rfl qnX13_scan rfl rfl ⟨Nat.le_of_ble_eq_true rfl, Nat.le_of_ble_eq_true rfl⟩ 0 13 rfl rfl rfl rfl rfl (Nat.le_of_ble_eq_true rfl) ⟨Nat.zero_le _, Nat.zero_le _⟩ dX13_readVar_59 (fun H locs hP hD hS => ?_)
  obtain rfl := Option.some.inj hf
  exact k_vret hx hb hr hlocks hK hP hD hS dX13_readVar_62
def f_X13_readVar_166 (r0 : Nat → Nat → Int32) (l0 : Nat → Nat → Int64)  (i0 : Nat → Int32) : Option (((Nat → Int32)) ⊕ ((Nat → Int32))) := bt (f_X13_sign i0 r0 l0 93) (fun q18 => some (.inl (q18))) (fun t18 => some (.inr (t18)))
set_option maxRecDepth 100000 in
set_option maxHeartbeats 4000000 in
theorem w_X13_readVar_166 {p : Program} {l : Launch} {e : Env} {s : State} {m : MethodId} {args : Array Value} {below : List Frame} {meth : Method} {c : Code} {A : Nat → Prop} {D : va_G} {cs zs : Nat → Nat} {h0 : Nat} {a0 : Nat → Nat} {r0 : Nat → Nat → Int32} {l0 : Nat → Nat → Int64} {q : ((Nat → Int32)) ⊕ ((Nat → Int32))} (C : Cx p s m args meth c A D cs zs cX13_readVar 2 none RX13) (hne : NoH c)  : ∀ (i0 : Nat → Int32) (H : Heap) (locs : List Loc) (ls : Array Slot), f_X13_readVar_166 r0 l0 i0 = some q → va_P D vwCl (W13 cs h0 a0 i0 r0 l0) H → va_D A (W13 cs h0 a0 i0 r0 l0) → va_S A s.heap H locs → lv_has ls 2 [(0, .ref h0)] → W p l e rmX13_readVar s m args below meth c H locs 0 0 (Sum.elim (fun q => MQ below (Qv D cs A (W13 cs h0 a0 q r0 l0)) args s 0 0 A) (fun t => MQT below D cs A (a0 0) (W13 cs h0 a0 t r0 l0) args s) q) (F0 m 166 ls []) := by
  obtain ⟨hx, hb, hr, hml, hown, hts, hK, hA, hlocks, hZ⟩ := id C
  intro i0 H locs ls hf hP hD hS hl
  rw [f_X13_readVar_166] at hf
  refine lv_aload_n hx hb dX13_readVar_166 rfl (lv_at hl 0 rfl) ?_
  refine lv_bipush (v := 93) hx hb dX13_readVar_167 (by decide) ?_
  rcases (bt_s hf).symm with ⟨t18, hq18, hf⟩ | ⟨q18, hq18, hf⟩
  · obtain rfl := Option.some.inj hf
    exact k_sVt (ws2 := W13 cs h0 a0 t18 r0 l0) (As := [.int 93]) (rest := []) hx hb hml hown hts hK hA hZ hl.1 hP hD hS (t_X13_sign (h0 := h0) (a0 := a0) hq18) (gVt mlX13_111 imX13_sign seX13_sign inX13 coX13_sign) rfl qnX13_sign rfl rfl ⟨Nat.le_of_ble_eq_true rfl, Nat.le_of_ble_eq_true rfl⟩ 0 13 rfl rfl rfl rfl rfl (Nat.le_of_ble_eq_true rfl) dX13_readVar_169 hlocks hne
  refine k_sVv (ws2 := W13 cs h0 a0 q18 r0 l0) (As := [.int 93]) (rest := []) hx hb hml hown hts hK hA hZ hl.1 hP hD hS (c_X13_sign (h0 := h0) (a0 := a0) hq18) (gVt mlX13_111 imX13_sign seX13_sign inX13 coX13_sign) rfl qnX13_sign rfl rfl ⟨Nat.le_of_ble_eq_true rfl, Nat.le_of_ble_eq_true rfl⟩ 0 13 rfl rfl rfl rfl rfl (Nat.le_of_ble_eq_true rfl) ⟨Nat.zero_le _, Nat.zero_le _⟩ dX13_readVar_169 (fun H locs hP hD hS => ?_)
  obtain rfl := Option.some.inj hf
  exact k_vret hx hb hr hlocks hK hP hD hS dX13_readVar_172
def f_X13_readVar_138 (r0 : Nat → Nat → Int32) (l0 : Nat → Nat → Int64)  (i0 : Nat → Int32) (y0 : Int32) : Option (((Nat → Int32)) ⊕ ((Nat → Int32))) := bt (f_X13_need i0 r0 l0 y0 3) (fun q19 => bd (f_X13_scan q19 r0 l0) (fun q20 => f_X13_readVar_166 r0 l0 q20)) (fun t19 => some (.inr (t19)))
set_option maxRecDepth 100000 in
set_option maxHeartbeats 4000000 in
theorem w_X13_readVar_138 {p : Program} {l : Launch} {e : Env} {s : State} {m : MethodId} {args : Array Value} {below : List Frame} {meth : Method} {c : Code} {A : Nat → Prop} {D : va_G} {cs zs : Nat → Nat} {h0 : Nat} {a0 : Nat → Nat} {r0 : Nat → Nat → Int32} {l0 : Nat → Nat → Int64} {q : ((Nat → Int32)) ⊕ ((Nat → Int32))} (C : Cx p s m args meth c A D cs zs cX13_readVar 2 none RX13) (hne : NoH c)  : ∀ (i0 : Nat → Int32) (y0 : Int32) (H : Heap) (locs : List Loc) (ls : Array Slot), f_X13_readVar_138 r0 l0 i0 y0 = some q → va_P D vwCl (W13 cs h0 a0 i0 r0 l0) H → va_D A (W13 cs h0 a0 i0 r0 l0) → va_S A s.heap H locs → lv_has ls 2 [(0, .ref h0)] → W p l e rmX13_readVar s m args below meth c H locs 0 0 (Sum.elim (fun q => MQ below (Qv D cs A (W13 cs h0 a0 q r0 l0)) args s 0 0 A) (fun t => MQT below D cs A (a0 0) (W13 cs h0 a0 t r0 l0) args s) q) (F0 m 138 ls [.int y0, .ref h0]) := by
  obtain ⟨hx, hb, hr, hml, hown, hts, hK, hA, hlocks, hZ⟩ := id C
  intro i0 y0 H locs ls hf hP hD hS hl
  rw [f_X13_readVar_138] at hf
  refine lv_iconst (v := 3) hx hb dX13_readVar_138 (by decide) ?_
  rcases (bt_s hf).symm with ⟨t19, hq19, hf⟩ | ⟨q19, hq19, hf⟩
  · obtain rfl := Option.some.inj hf
    exact k_sVt (ws2 := W13 cs h0 a0 t19 r0 l0) (As := [.int y0, .int 3]) (rest := []) hx hb hml hown hts hK hA hZ hl.1 hP hD hS (t_X13_need (h0 := h0) (a0 := a0) hq19) (gVt mlX13_60 imX13_need seX13_need inX13 coX13_need) rfl qnX13_need rfl rfl ⟨Nat.le_of_ble_eq_true rfl, Nat.le_of_ble_eq_true rfl⟩ 0 13 rfl rfl rfl rfl rfl (Nat.le_of_ble_eq_true rfl) dX13_readVar_139 hlocks hne
  refine k_sVv (ws2 := W13 cs h0 a0 q19 r0 l0) (As := [.int y0, .int 3]) (rest := []) hx hb hml hown hts hK hA hZ hl.1 hP hD hS (c_X13_need (h0 := h0) (a0 := a0) hq19) (gVt mlX13_60 imX13_need seX13_need inX13 coX13_need) rfl qnX13_need rfl rfl ⟨Nat.le_of_ble_eq_true rfl, Nat.le_of_ble_eq_true rfl⟩ 0 13 rfl rfl rfl rfl rfl (Nat.le_of_ble_eq_true rfl) ⟨Nat.zero_le _, Nat.zero_le _⟩ dX13_readVar_139 (fun H locs hP hD hS => ?_)
  refine lv_aload_n hx hb dX13_readVar_142 rfl (lv_at hl 0 rfl) ?_
  obtain ⟨q20, hq20, hf⟩ := bd_s hf
  refine k_sVv (ws2 := W13 cs h0 a0 q20 r0 l0) (As := []) (rest := []) hx hb hml hown hts hK hA hZ hl.1 hP hD hS (c_X13_scan (h0 := h0) (a0 := a0) hq20) (gVt mlX13_72 imX13_scan seX13_scan inX13 coX13_scan) rfl qnX13_scan rfl rfl ⟨Nat.le_of_ble_eq_true rfl, Nat.le_of_ble_eq_true rfl⟩ 0 13 rfl rfl rfl rfl rfl (Nat.le_of_ble_eq_true rfl) ⟨Nat.zero_le _, Nat.zero_le _⟩ dX13_readVar_143 (fun H locs hP hD hS => ?_)
  refine lv_goto (tgt := 166) hx hb dX13_readVar_146 (by decide) ?_
  exact w_X13_readVar_166 C hne  _ _ _ _ hf hP hD hS (lv_sub hl [0] rfl)
def f_X13_readVar_78 (r0 : Nat → Nat → Int32) (l0 : Nat → Nat → Int64)  (i0 : Nat → Int32) (x1 : Int32) (y0 : Int32) : Option (((Nat → Int32)) ⊕ ((Nat → Int32))) := bt (f_X13_need i0 r0 l0 y0 3) (fun q21 => bd (f_X13_scan q21 r0 l0) (fun q22 => bt (f_X13_sign q22 r0 l0 91) (fun q23 => bd (f_X13_isLetter q23 r0 l0) (fun q24 => if q24 = 0 then (bt (f_X13_number (upd q23 56 8) r0 l0 0 9) (fun q25 => f_X13_readVar_166 r0 l0 (upd q25.2 57 q25.1)) (fun t25 => some (.inr (t25)))) else (ck (inb (q23 4) 900) (bd (f_X13_letter (r0 1 (q23 4).toNatClampNeg)) (fun q26 => if ((x1 >>> (q26 &&& 31)) &&& 1) = 0 then (f_X13_readVar_138 r0 l0 (upd (upd q23 56 9) 57 q26) 1) else (f_X13_readVar_138 r0 l0 (upd (upd q23 56 9) 57 q26) 0)))))) (fun t23 => some (.inr (t23))))) (fun t21 => some (.inr (t21)))
set_option maxRecDepth 100000 in
set_option maxHeartbeats 4000000 in
theorem w_X13_readVar_78 {p : Program} {l : Launch} {e : Env} {s : State} {m : MethodId} {args : Array Value} {below : List Frame} {meth : Method} {c : Code} {A : Nat → Prop} {D : va_G} {cs zs : Nat → Nat} {h0 : Nat} {a0 : Nat → Nat} {r0 : Nat → Nat → Int32} {l0 : Nat → Nat → Int64} {q : ((Nat → Int32)) ⊕ ((Nat → Int32))} (C : Cx p s m args meth c A D cs zs cX13_readVar 2 none RX13) (hne : NoH c)  : ∀ (i0 : Nat → Int32) (x1 : Int32) (y0 : Int32) (H : Heap) (locs : List Loc) (ls : Array Slot), f_X13_readVar_78 r0 l0 i0 x1 y0 = some q → va_P D vwCl (W13 cs h0 a0 i0 r0 l0) H → va_D A (W13 cs h0 a0 i0 r0 l0) → va_S A s.heap H locs → lv_has ls 2 [(0, .ref h0), (1, .int x1)] → W p l e rmX13_readVar s m args below meth c H locs 0 0 (Sum.elim (fun q => MQ below (Qv D cs A (W13 cs h0 a0 q r0 l0)) args s 0 0 A) (fun t => MQT below D cs A (a0 0) (W13 cs h0 a0 t r0 l0) args s) q) (F0 m 78 ls [.int y0, .ref h0]) := by
  obtain ⟨hx, hb, hr, hml, hown, hts, hK, hA, hlocks, hZ⟩ := id C
  intro i0 x1 y0 H locs ls hf hP hD hS hl
  rw [f_X13_readVar_78] at hf
  refine lv_iconst (v := 3) hx hb dX13_readVar_78 (by decide) ?_
  rcases (bt_s hf).symm with ⟨t21, hq21, hf⟩ | ⟨q21, hq21, hf⟩
  · obtain rfl := Option.some.inj hf
    exact k_sVt (ws2 := W13 cs h0 a0 t21 r0 l0) (As := [.int y0, .int 3]) (rest := []) hx hb hml hown hts hK hA hZ hl.1 hP hD hS (t_X13_need (h0 := h0) (a0 := a0) hq21) (gVt mlX13_60 imX13_need seX13_need inX13 coX13_need) rfl qnX13_need rfl rfl ⟨Nat.le_of_ble_eq_true rfl, Nat.le_of_ble_eq_true rfl⟩ 0 13 rfl rfl rfl rfl rfl (Nat.le_of_ble_eq_true rfl) dX13_readVar_79 hlocks hne
  refine k_sVv (ws2 := W13 cs h0 a0 q21 r0 l0) (As := [.int y0, .int 3]) (rest := []) hx hb hml hown hts hK hA hZ hl.1 hP hD hS (c_X13_need (h0 := h0) (a0 := a0) hq21) (gVt mlX13_60 imX13_need seX13_need inX13 coX13_need) rfl qnX13_need rfl rfl ⟨Nat.le_of_ble_eq_true rfl, Nat.le_of_ble_eq_true rfl⟩ 0 13 rfl rfl rfl rfl rfl (Nat.le_of_ble_eq_true rfl) ⟨Nat.zero_le _, Nat.zero_le _⟩ dX13_readVar_79 (fun H locs hP hD hS => ?_)
  refine lv_aload_n hx hb dX13_readVar_82 rfl (lv_at hl 0 rfl) ?_
  obtain ⟨q22, hq22, hf⟩ := bd_s hf
  refine k_sVv (ws2 := W13 cs h0 a0 q22 r0 l0) (As := []) (rest := []) hx hb hml hown hts hK hA hZ hl.1 hP hD hS (c_X13_scan (h0 := h0) (a0 := a0) hq22) (gVt mlX13_72 imX13_scan seX13_scan inX13 coX13_scan) rfl qnX13_scan rfl rfl ⟨Nat.le_of_ble_eq_true rfl, Nat.le_of_ble_eq_true rfl⟩ 0 13 rfl rfl rfl rfl rfl (Nat.le_of_ble_eq_true rfl) ⟨Nat.zero_le _, Nat.zero_le _⟩ dX13_readVar_83 (fun H locs hP hD hS => ?_)
  refine lv_aload_n hx hb dX13_readVar_86 rfl (lv_at hl 0 rfl) ?_
  refine lv_bipush (v := 91) hx hb dX13_readVar_87 (by decide) ?_
  rcases (bt_s hf).symm with ⟨t23, hq23, hf⟩ | ⟨q23, hq23, hf⟩
  · obtain rfl := Option.some.inj hf
    exact k_sVt (ws2 := W13 cs h0 a0 t23 r0 l0) (As := [.int 91]) (rest := []) hx hb hml hown hts hK hA hZ hl.1 hP hD hS (t_X13_sign (h0 := h0) (a0 := a0) hq23) (gVt mlX13_111 imX13_sign seX13_sign inX13 coX13_sign) rfl qnX13_sign rfl rfl ⟨Nat.le_of_ble_eq_true rfl, Nat.le_of_ble_eq_true rfl⟩ 0 13 rfl rfl rfl rfl rfl (Nat.le_of_ble_eq_true rfl) dX13_readVar_89 hlocks hne
  refine k_sVv (ws2 := W13 cs h0 a0 q23 r0 l0) (As := [.int 91]) (rest := []) hx hb hml hown hts hK hA hZ hl.1 hP hD hS (c_X13_sign (h0 := h0) (a0 := a0) hq23) (gVt mlX13_111 imX13_sign seX13_sign inX13 coX13_sign) rfl qnX13_sign rfl rfl ⟨Nat.le_of_ble_eq_true rfl, Nat.le_of_ble_eq_true rfl⟩ 0 13 rfl rfl rfl rfl rfl (Nat.le_of_ble_eq_true rfl) ⟨Nat.zero_le _, Nat.zero_le _⟩ dX13_readVar_89 (fun H locs hP hD hS => ?_)
  refine lv_aload_n hx hb dX13_readVar_92 rfl (lv_at hl 0 rfl) ?_
  obtain ⟨q24, hq24, hf⟩ := bd_s hf
  refine k_sVi (ws2 := W13 cs h0 a0 q23 r0 l0) (As := []) (rest := []) hx hb hml hown hts hK hA hZ hl.1 hP hD hS (c_X13_isLetter (h0 := h0) (a0 := a0) hq24) (gVt mlX13_375 imX13_isLetter seX13_isLetter inX13 coX13_isLetter) rfl qnX13_isLetter rfl rfl ⟨Nat.le_of_ble_eq_true rfl, Nat.le_of_ble_eq_true rfl⟩ 0 13 rfl rfl rfl rfl rfl (Nat.le_of_ble_eq_true rfl) ⟨Nat.zero_le _, Nat.zero_le _⟩ dX13_readVar_93 (fun H locs hP hD hS => ?_)
  refine lv_if_eq (tgt := 149) hx hb dX13_readVar_96 (by decide) (fun hc => ?_) (fun hc => ?_)
  · have hf := ite_t hf hc
    refine lv_aload_n hx hb dX13_readVar_149 rfl (lv_at hl 0 rfl) ?_
    refine lv_bipush (v := 8) hx hb dX13_readVar_150 (by decide) ?_
    refine va_put (D := D) (ci := 13) (v := .int 8) (ty := .int) (C := RX13) (T := TX13) (N := 87) hx hb hts hiX13 tyX13 tyX13_ok nmX13 hown hK hP hD hS 0 rfl rfl 56 (by decide) (hts _ flX13_387) (fun _ h9 => h9) rfl (tyX13_ok 56 (by decide)) rfl rfl (Nat.le_of_ble_eq_true rfl) dX13_readVar_152 (fun H locs hP hD hS => ?_)
    obtain ⟨hP, hD⟩ := st13_56 hP hD
    refine lv_aload_n hx hb dX13_readVar_155 rfl (lv_at hl 0 rfl) ?_
    refine lv_aload_n hx hb dX13_readVar_156 rfl (lv_at hl 0 rfl) ?_
    refine lv_iconst (v := 0) hx hb dX13_readVar_157 (by decide) ?_
    refine lv_bipush (v := 9) hx hb dX13_readVar_158 (by decide) ?_
    rcases (bt_s hf).symm with ⟨t25, hq25, hf⟩ | ⟨q25, hq25, hf⟩
    · obtain rfl := Option.some.inj hf
      exact k_sVt (ws2 := W13 cs h0 a0 t25 r0 l0) (As := [.int 0, .int 9]) (rest := [.ref h0]) hx hb hml hown hts hK hA hZ hl.1 hP hD hS (t_X13_number (h0 := h0) (a0 := a0) hq25) (gVt mlX13_124 imX13_number seX13_number inX13 coX13_number) rfl qnX13_number rfl rfl ⟨Nat.le_of_ble_eq_true rfl, Nat.le_of_ble_eq_true rfl⟩ 0 13 rfl rfl rfl rfl rfl (Nat.le_of_ble_eq_true rfl) dX13_readVar_160 hlocks hne
    refine k_sVi (ws2 := W13 cs h0 a0 q25.2 r0 l0) (As := [.int 0, .int 9]) (rest := [.ref h0]) hx hb hml hown hts hK hA hZ hl.1 hP hD hS (c_X13_number (h0 := h0) (a0 := a0) hq25) (gVt mlX13_124 imX13_number seX13_number inX13 coX13_number) rfl qnX13_number rfl rfl ⟨Nat.le_of_ble_eq_true rfl, Nat.le_of_ble_eq_true rfl⟩ 0 13 rfl rfl rfl rfl rfl (Nat.le_of_ble_eq_true rfl) ⟨Nat.zero_le _, Nat.zero_le _⟩ dX13_readVar_160 (fun H locs hP hD hS => ?_)
    refine va_put (D := D) (ci := 13) (v := .int q25.1) (ty := .int) (C := RX13) (T := TX13) (N := 87) hx hb hts hiX13 tyX13 tyX13_ok nmX13 hown hK hP hD hS 0 rfl rfl 57 (by decide) (hts _ flX13_390) (fun _ h9 => h9) rfl (tyX13_ok 57 (by decide)) rfl rfl (Nat.le_of_ble_eq_true rfl) dX13_readVar_163 (fun H locs hP hD hS => ?_)
    obtain ⟨hP, hD⟩ := st13_57 hP hD
    exact w_X13_readVar_166 C hne  _ _ _ _ hf hP hD hS (lv_sub hl [0] rfl)
  · have hf := ite_f hf hc
    refine lv_aload_n hx hb dX13_readVar_99 rfl (lv_at hl 0 rfl) ?_
    refine lv_bipush (v := 9) hx hb dX13_readVar_100 (by decide) ?_
    refine va_put (D := D) (ci := 13) (v := .int 9) (ty := .int) (C := RX13) (T := TX13) (N := 87) hx hb hts hiX13 tyX13 tyX13_ok nmX13 hown hK hP hD hS 0 rfl rfl 56 (by decide) (hts _ flX13_387) (fun _ h9 => h9) rfl (tyX13_ok 56 (by decide)) rfl rfl (Nat.le_of_ble_eq_true rfl) dX13_readVar_102 (fun H locs hP hD hS => ?_)
    obtain ⟨hP, hD⟩ := st13_56 hP hD
    refine lv_aload_n hx hb dX13_readVar_105 rfl (lv_at hl 0 rfl) ?_
    refine lv_aload_n hx hb dX13_readVar_106 rfl (lv_at hl 0 rfl) ?_
    refine va_get (D := D) (ci := 13) (v := .ref (a0 1)) (C := RX13) (T := TX13) (N := 87) hx hb hts hiX13 hown hK hP 0 rfl rfl 1 (by decide) (hts _ flX13_20) (fun _ h9 => h9) rfl dX13_readVar_107 ?_
    refine lv_aload_n hx hb dX13_readVar_110 rfl (lv_at hl 0 rfl) ?_
    refine va_get (D := D) (ci := 13) (v := .int (q23 4)) (C := RX13) (T := TX13) (N := 87) hx hb hts hiX13 hown hK hP 0 rfl rfl 4 (by decide) (hts _ flX13_7) (fun _ h9 => h9) rfl dX13_readVar_111 ?_
    refine va_bald (f := r0 1) hx hb hK hP 1 3 rfl rfl (ck_in hf) dX13_readVar_114 ?_
    have hf := ck_2 hf
    obtain ⟨q26, hq26, hf⟩ := bd_s hf
    refine k_eSi (As := [.int (r0 1 (q23 4).toNatClampNeg)]) (rest := [.ref h0]) hx hb hml hown hts hK hA hZ hl.1 hP hD hS (c_X13_letter  hq26) (gSt mlX13_384 stX13_letter inX13 coX13_letter) rfl qnX13_letter rfl rfl ⟨Nat.le_of_ble_eq_true rfl, Nat.le_of_ble_eq_true rfl⟩ rfl rfl (Nat.le_of_ble_eq_true rfl) ⟨Nat.zero_le _, Nat.zero_le _⟩ dX13_readVar_115 (fun H locs hP hD hS => ?_)
    refine va_put (D := D) (ci := 13) (v := .int q26) (ty := .int) (C := RX13) (T := TX13) (N := 87) hx hb hts hiX13 tyX13 tyX13_ok nmX13 hown hK hP hD hS 0 rfl rfl 57 (by decide) (hts _ flX13_390) (fun _ h9 => h9) rfl (tyX13_ok 57 (by decide)) rfl rfl (Nat.le_of_ble_eq_true rfl) dX13_readVar_118 (fun H locs hP hD hS => ?_)
    obtain ⟨hP, hD⟩ := st13_57 hP hD
    refine lv_aload_n hx hb dX13_readVar_121 rfl (lv_at hl 0 rfl) ?_
    refine lv_iload_n hx hb dX13_readVar_122 rfl (lv_at hl 1 rfl) ?_
    refine lv_aload_n hx hb dX13_readVar_123 rfl (lv_at hl 0 rfl) ?_
    refine va_get (D := D) (ci := 13) (v := .int q26) (C := RX13) (T := TX13) (N := 87) hx hb hts hiX13 hown hK hP 0 rfl rfl 57 (by decide) (hts _ flX13_390) (fun _ h9 => h9) rfl dX13_readVar_124 ?_
    refine lv_ishr hx hb dX13_readVar_127 ?_
    refine lv_iconst (v := 1) hx hb dX13_readVar_128 (by decide) ?_
    refine lv_iand hx hb dX13_readVar_129 ?_
    refine lv_if_ne (tgt := 137) hx hb dX13_readVar_130 (by decide) (fun hc => ?_) (fun hc => ?_)
    · have hf := ite_f hf hc
      refine lv_iconst (v := 0) hx hb dX13_readVar_137 (by decide) ?_
      exact w_X13_readVar_138 C hne  _ _ _ _ _ hf hP hD hS (lv_sub hl [0] rfl)
    · have hf := ite_t hf hc
      refine lv_iconst (v := 1) hx hb dX13_readVar_133 (by decide) ?_
      refine lv_goto (tgt := 138) hx hb dX13_readVar_134 (by decide) ?_
      exact w_X13_readVar_138 C hne  _ _ _ _ _ hf hP hD hS (lv_sub hl [0] rfl)
def f_X13_readVar  (i0 : Nat → Int32) (r0 : Nat → Nat → Int32) (l0 : Nat → Nat → Int64) (x1 : Int32) : Option (((Nat → Int32)) ⊕ ((Nat → Int32))) := bd (f_X13_isVar i0 r0 l0) (fun q27 => bt (f_X13_need i0 r0 l0 q27 1) (fun q28 => bd (f_X13_isLetter q28 r0 l0) (fun q29 => if q29 = 0 then (if ((x1 >>> (8 &&& 31)) &&& 1) = 0 then (f_X13_readVar_78 r0 l0 q28 x1 1) else (f_X13_readVar_78 r0 l0 q28 x1 0)) else (ck (inb (q28 4) 900) (bd (f_X13_letter (r0 1 (q28 4).toNatClampNeg)) (fun q30 => if ((x1 >>> (q30 &&& 31)) &&& 1) = 0 then (f_X13_readVar_54 r0 l0 (upd (upd q28 56 q30) 57 0) 1) else (f_X13_readVar_54 r0 l0 (upd (upd q28 56 q30) 57 0) 0)))))) (fun t28 => some (.inr (t28))))
set_option maxRecDepth 100000 in
set_option maxHeartbeats 4000000 in
theorem e_X13_readVar {p : Program} {l : Launch} {e : Env} {s : State} {m : MethodId} {args : Array Value} {below : List Frame} {meth : Method} {c : Code} {A : Nat → Prop} {D : va_G} {cs zs : Nat → Nat} {h0 : Nat} {a0 : Nat → Nat} {i0 : Nat → Int32} {r0 : Nat → Nat → Int32} {l0 : Nat → Nat → Int64} {x1 : Int32} {q : ((Nat → Int32)) ⊕ ((Nat → Int32))} (C : Cx p s m args meth c A D cs zs cX13_readVar 2 none RX13) (hne : NoH c)  : ∀ (H : Heap) (locs : List Loc) (ls : Array Slot), f_X13_readVar i0 r0 l0 x1 = some q → va_P D vwCl (W13 cs h0 a0 i0 r0 l0) H → va_D A (W13 cs h0 a0 i0 r0 l0) → va_S A s.heap H locs → lv_has ls 2 [(0, .ref h0), (1, .int x1)] → W p l e rmX13_readVar s m args below meth c H locs 0 0 (Sum.elim (fun q => MQ below (Qv D cs A (W13 cs h0 a0 q r0 l0)) args s 0 0 A) (fun t => MQT below D cs A (a0 0) (W13 cs h0 a0 t r0 l0) args s) q) (F0 m 0 ls []) := by
  obtain ⟨hx, hb, hr, hml, hown, hts, hK, hA, hlocks, hZ⟩ := id C
  intro H locs ls hf hP hD hS hl
  rw [f_X13_readVar] at hf
  refine lv_aload_n hx hb dX13_readVar_0 rfl (lv_at hl 0 rfl) ?_
  refine lv_aload_n hx hb dX13_readVar_1 rfl (lv_at hl 0 rfl) ?_
  obtain ⟨q27, hq27, hf⟩ := bd_s hf
  refine k_sVi (ws2 := W13 cs h0 a0 i0 r0 l0) (As := []) (rest := [.ref h0]) hx hb hml hown hts hK hA hZ hl.1 hP hD hS (c_X13_isVar (h0 := h0) (a0 := a0) hq27) (gVt mlX13_381 imX13_isVar seX13_isVar inX13 coX13_isVar) rfl qnX13_isVar rfl rfl ⟨Nat.le_of_ble_eq_true rfl, Nat.le_of_ble_eq_true rfl⟩ 0 13 rfl rfl rfl rfl rfl (Nat.le_of_ble_eq_true rfl) ⟨Nat.zero_le _, Nat.zero_le _⟩ dX13_readVar_2 (fun H locs hP hD hS => ?_)
  refine lv_iconst (v := 1) hx hb dX13_readVar_5 (by decide) ?_
  rcases (bt_s hf).symm with ⟨t28, hq28, hf⟩ | ⟨q28, hq28, hf⟩
  · obtain rfl := Option.some.inj hf
    exact k_sVt (ws2 := W13 cs h0 a0 t28 r0 l0) (As := [.int q27, .int 1]) (rest := []) hx hb hml hown hts hK hA hZ hl.1 hP hD hS (t_X13_need (h0 := h0) (a0 := a0) hq28) (gVt mlX13_60 imX13_need seX13_need inX13 coX13_need) rfl qnX13_need rfl rfl ⟨Nat.le_of_ble_eq_true rfl, Nat.le_of_ble_eq_true rfl⟩ 0 13 rfl rfl rfl rfl rfl (Nat.le_of_ble_eq_true rfl) dX13_readVar_6 hlocks hne
  refine k_sVv (ws2 := W13 cs h0 a0 q28 r0 l0) (As := [.int q27, .int 1]) (rest := []) hx hb hml hown hts hK hA hZ hl.1 hP hD hS (c_X13_need (h0 := h0) (a0 := a0) hq28) (gVt mlX13_60 imX13_need seX13_need inX13 coX13_need) rfl qnX13_need rfl rfl ⟨Nat.le_of_ble_eq_true rfl, Nat.le_of_ble_eq_true rfl⟩ 0 13 rfl rfl rfl rfl rfl (Nat.le_of_ble_eq_true rfl) ⟨Nat.zero_le _, Nat.zero_le _⟩ dX13_readVar_6 (fun H locs hP hD hS => ?_)
  refine lv_aload_n hx hb dX13_readVar_9 rfl (lv_at hl 0 rfl) ?_
  obtain ⟨q29, hq29, hf⟩ := bd_s hf
  refine k_sVi (ws2 := W13 cs h0 a0 q28 r0 l0) (As := []) (rest := []) hx hb hml hown hts hK hA hZ hl.1 hP hD hS (c_X13_isLetter (h0 := h0) (a0 := a0) hq29) (gVt mlX13_375 imX13_isLetter seX13_isLetter inX13 coX13_isLetter) rfl qnX13_isLetter rfl rfl ⟨Nat.le_of_ble_eq_true rfl, Nat.le_of_ble_eq_true rfl⟩ 0 13 rfl rfl rfl rfl rfl (Nat.le_of_ble_eq_true rfl) ⟨Nat.zero_le _, Nat.zero_le _⟩ dX13_readVar_10 (fun H locs hP hD hS => ?_)
  refine lv_if_eq (tgt := 63) hx hb dX13_readVar_13 (by decide) (fun hc => ?_) (fun hc => ?_)
  · have hf := ite_t hf hc
    refine lv_aload_n hx hb dX13_readVar_63 rfl (lv_at hl 0 rfl) ?_
    refine lv_iload_n hx hb dX13_readVar_64 rfl (lv_at hl 1 rfl) ?_
    refine lv_bipush (v := 8) hx hb dX13_readVar_65 (by decide) ?_
    refine lv_ishr hx hb dX13_readVar_67 ?_
    refine lv_iconst (v := 1) hx hb dX13_readVar_68 (by decide) ?_
    refine lv_iand hx hb dX13_readVar_69 ?_
    refine lv_if_ne (tgt := 77) hx hb dX13_readVar_70 (by decide) (fun hc => ?_) (fun hc => ?_)
    · have hf := ite_f hf hc
      refine lv_iconst (v := 0) hx hb dX13_readVar_77 (by decide) ?_
      exact w_X13_readVar_78 C hne  _ _ _ _ _ _ hf hP hD hS (lv_sub hl [0, 1] rfl)
    · have hf := ite_t hf hc
      refine lv_iconst (v := 1) hx hb dX13_readVar_73 (by decide) ?_
      refine lv_goto (tgt := 78) hx hb dX13_readVar_74 (by decide) ?_
      exact w_X13_readVar_78 C hne  _ _ _ _ _ _ hf hP hD hS (lv_sub hl [0, 1] rfl)
  · have hf := ite_f hf hc
    refine lv_aload_n hx hb dX13_readVar_16 rfl (lv_at hl 0 rfl) ?_
    refine lv_aload_n hx hb dX13_readVar_17 rfl (lv_at hl 0 rfl) ?_
    refine va_get (D := D) (ci := 13) (v := .ref (a0 1)) (C := RX13) (T := TX13) (N := 87) hx hb hts hiX13 hown hK hP 0 rfl rfl 1 (by decide) (hts _ flX13_20) (fun _ h9 => h9) rfl dX13_readVar_18 ?_
    refine lv_aload_n hx hb dX13_readVar_21 rfl (lv_at hl 0 rfl) ?_
    refine va_get (D := D) (ci := 13) (v := .int (q28 4)) (C := RX13) (T := TX13) (N := 87) hx hb hts hiX13 hown hK hP 0 rfl rfl 4 (by decide) (hts _ flX13_7) (fun _ h9 => h9) rfl dX13_readVar_22 ?_
    refine va_bald (f := r0 1) hx hb hK hP 1 3 rfl rfl (ck_in hf) dX13_readVar_25 ?_
    have hf := ck_2 hf
    obtain ⟨q30, hq30, hf⟩ := bd_s hf
    refine k_eSi (As := [.int (r0 1 (q28 4).toNatClampNeg)]) (rest := [.ref h0]) hx hb hml hown hts hK hA hZ hl.1 hP hD hS (c_X13_letter  hq30) (gSt mlX13_384 stX13_letter inX13 coX13_letter) rfl qnX13_letter rfl rfl ⟨Nat.le_of_ble_eq_true rfl, Nat.le_of_ble_eq_true rfl⟩ rfl rfl (Nat.le_of_ble_eq_true rfl) ⟨Nat.zero_le _, Nat.zero_le _⟩ dX13_readVar_26 (fun H locs hP hD hS => ?_)
    refine va_put (D := D) (ci := 13) (v := .int q30) (ty := .int) (C := RX13) (T := TX13) (N := 87) hx hb hts hiX13 tyX13 tyX13_ok nmX13 hown hK hP hD hS 0 rfl rfl 56 (by decide) (hts _ flX13_387) (fun _ h9 => h9) rfl (tyX13_ok 56 (by decide)) rfl rfl (Nat.le_of_ble_eq_true rfl) dX13_readVar_29 (fun H locs hP hD hS => ?_)
    obtain ⟨hP, hD⟩ := st13_56 hP hD
    refine lv_aload_n hx hb dX13_readVar_32 rfl (lv_at hl 0 rfl) ?_
    refine lv_iconst (v := 0) hx hb dX13_readVar_33 (by decide) ?_
    refine va_put (D := D) (ci := 13) (v := .int 0) (ty := .int) (C := RX13) (T := TX13) (N := 87) hx hb hts hiX13 tyX13 tyX13_ok nmX13 hown hK hP hD hS 0 rfl rfl 57 (by decide) (hts _ flX13_390) (fun _ h9 => h9) rfl (tyX13_ok 57 (by decide)) rfl rfl (Nat.le_of_ble_eq_true rfl) dX13_readVar_34 (fun H locs hP hD hS => ?_)
    obtain ⟨hP, hD⟩ := st13_57 hP hD
    refine lv_aload_n hx hb dX13_readVar_37 rfl (lv_at hl 0 rfl) ?_
    refine lv_iload_n hx hb dX13_readVar_38 rfl (lv_at hl 1 rfl) ?_
    refine lv_aload_n hx hb dX13_readVar_39 rfl (lv_at hl 0 rfl) ?_
    refine va_get (D := D) (ci := 13) (v := .int q30) (C := RX13) (T := TX13) (N := 87) hx hb hts hiX13 hown hK hP 0 rfl rfl 56 (by decide) (hts _ flX13_387) (fun _ h9 => h9) rfl dX13_readVar_40 ?_
    refine lv_ishr hx hb dX13_readVar_43 ?_
    refine lv_iconst (v := 1) hx hb dX13_readVar_44 (by decide) ?_
    refine lv_iand hx hb dX13_readVar_45 ?_
    refine lv_if_ne (tgt := 53) hx hb dX13_readVar_46 (by decide) (fun hc => ?_) (fun hc => ?_)
    · have hf := ite_f hf hc
      refine lv_iconst (v := 0) hx hb dX13_readVar_53 (by decide) ?_
      exact w_X13_readVar_54 C hne  _ _ _ _ _ hf hP hD hS (lv_sub hl [0] rfl)
    · have hf := ite_t hf hc
      refine lv_iconst (v := 1) hx hb dX13_readVar_49 (by decide) ?_
      refine lv_goto (tgt := 54) hx hb dX13_readVar_50 (by decide) ?_
      exact w_X13_readVar_54 C hne  _ _ _ _ _ hf hP hD hS (lv_sub hl [0] rfl)
theorem c_X13_readVar {l : Launch} {D : va_G} {cs zs : Nat → Nat} {h0 : Nat} {a0 : Nat → Nat} {i0 : Nat → Int32} {r0 : Nat → Nat → Int32} {l0 : Nat → Nat → Int64} {x1 : Int32} {q : (Nat → Int32)} (hf : f_X13_readVar i0 r0 l0 x1 = some (.inl q)) : Mv l yX13_readVar wlX13_readVar rmX13_readVar D cs zs [.ref h0, .int x1] (W13 cs h0 a0 i0 r0 l0) (W13 cs h0 a0 q r0 l0) := by
  refine Mv.ofT RX13 (by decide) rfl (Nat.le_of_ble_eq_true rfl) (fun p e s m below meth c A C hne hP hD hS ls hl => ?_)
  generalize ([.ref h0, .int x1] : List Value).toArray = args at C ⊢
  exact e_X13_readVar (q := .inl q) C hne _ _ _ hf hP hD hS hl
theorem t_X13_readVar {l : Launch} {D : va_G} {cs zs : Nat → Nat} {h0 : Nat} {a0 : Nat → Nat} {i0 : Nat → Int32} {r0 : Nat → Nat → Int32} {l0 : Nat → Nat → Int64} {x1 : Int32} {t : (Nat → Int32)} (hf : f_X13_readVar i0 r0 l0 x1 = some (.inr t)) : MT l yX13_readVar wlX13_readVar rmX13_readVar D cs zs [.ref h0, .int x1] (W13 cs h0 a0 i0 r0 l0) (a0 0) (W13 cs h0 a0 t r0 l0) := by
  refine MT.of RX13 (by decide) rfl (Nat.le_of_ble_eq_true rfl) (fun p e s m below meth c A C hne hP hD hS ls hl => ?_)
  generalize ([.ref h0, .int x1] : List Value).toArray = args at C ⊢
  exact e_X13_readVar (q := .inr t) C hne _ _ _ hf hP hD hS hl
