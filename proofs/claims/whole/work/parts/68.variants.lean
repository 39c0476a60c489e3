/-! MarbleFloor$Floor.leastRowUnlike(LMarbleFloor$Floor;)I -/
abbrev wlX2_leastRowUnlike_S : List Cond := Cond.code yX2_leastRowUnlike cX2_leastRowUnlike 3 (some .int) :: tbG
abbrev rmX2_leastRowUnlike_S : Room := { frames := 2, cells := 0, slots := 0, locals := 48 }
theorem qnX2_leastRowUnlike_S : yX2_leastRowUnlike.cls = RX2 ∧ yX2_leastRowUnlike.cls ≠ "java/lang/invoke/MethodHandle" ∧ yX2_leastRowUnlike.cls ≠ "java/lang/invoke/VarHandle" ∧ (parseMethodDescriptor yX2_leastRowUnlike.desc).map (fun d => d.parameters.length) = some 1 := by decide +kernel
def f_X2_leastRowUnlike_S_2 (i0 : Nat → Int32) (r0 : Nat → Nat → Int32)  : Nat → Int32 → Option (Int32)
  | 0, _ => none
  | n + 1, x2 => bd (f_X2_rows i0 r0) (fun q4 => if q4 ≤ x2 then (some ((-1))) else (bd (f_X2_outOf i0 r0 x2 0) (fun q5 => bd (f_X2_outOf i0 r0 x2 0) (fun q6 => if q5 = q6 then (f_X2_leastRowUnlike_S_2 i0 r0 n (x2 + 1)) else (some (x2))))))
set_option maxRecDepth 100000 in
set_option maxHeartbeats 4000000 in
theorem w_X2_leastRowUnlike_S_2 {p : Program} {l : Launch} {e : Env} {s : State} {m : MethodId} {args : Array Value} {below : List Frame} {meth : Method} {c : Code} {A : Nat → Prop} {D : va_G} {cs zs : Nat → Nat} {h0 : Nat} {a0 : Nat → Nat} {i0 : Nat → Int32} {r0 : Nat → Nat → Int32} {q : Int32} (C : Cx p s m args meth c A D cs zs cX2_leastRowUnlike 3 (some .int) RX2)  : ∀ (n : Nat), ∀ (x2 : Int32) (H : Heap) (locs : List Loc) (ls : Array Slot), f_X2_leastRowUnlike_S_2 i0 r0 n x2 = some q → va_P D vwCl (W2 cs h0 a0 i0 r0) H → va_D A (W2 cs h0 a0 i0 r0) → va_S A s.heap H locs → lv_has ls 3 [(0, .ref h0), (1, .ref h0), (2, .int x2)] → W p l e rmX2_leastRowUnlike_S s m args below meth c H locs 0 0 (MQ below (Qi D cs A q (W2 cs h0 a0 i0 r0)) args s 0 0 A) (F0 m 2 ls []) := by
  obtain ⟨hx, hb, hr, hml, hown, hts, hK, hA, hlocks, hZ⟩ := id C
  intro n
  induction n with
  | zero =>
    intro x2 H locs ls hf
    rw [f_X2_leastRowUnlike_S_2] at hf
    cases hf
  | succ n ih =>
    intro x2 H locs ls hf hP hD hS hl
    rw [f_X2_leastRowUnlike_S_2] at hf
    refine lv_iload_n hx hb dX2_leastRowUnlike_2 rfl (lv_at hl 2 rfl) ?_
    refine lv_aload_n hx hb dX2_leastRowUnlike_3 rfl (lv_at hl 0 rfl) ?_
    obtain ⟨q4, hq4, hf⟩ := bd_s hf
    refine k_sVi (ws2 := W2 cs h0 a0 i0 r0) (As := []) (rest := [.int x2]) hx hb hml hown hts hK hA hZ hl.1 hP hD hS (c_X2_rows (h0 := h0) (a0 := a0) hq4) (gVt mlX2_62 imX2_rows seX2_rows inX2 coX2_rows) rfl qnX2_rows rfl rfl ⟨Nat.le_of_ble_eq_true rfl, Nat.le_of_ble_eq_true rfl⟩ 0 2 rfl rfl rfl rfl rfl (Nat.le_of_ble_eq_true rfl) ⟨Nat.zero_le _, Nat.zero_le _⟩ dX2_leastRowUnlike_4 (fun H locs hP hD hS => ?_)
    refine lv_icmp_ge (tgt := 33) hx hb dX2_leastRowUnlike_7 (by decide) (fun hc => ?_) (fun hc => ?_)
    · have hf := ite_t hf hc
      refine lv_iconst (v := (-1)) hx hb dX2_leastRowUnlike_33 (by decide) ?_
      obtain rfl := Option.some.inj hf
      exact k_iret hx hb hr hlocks hK hP hD hS dX2_leastRowUnlike_34
    · have hf := ite_f hf hc
      refine lv_aload_n hx hb dX2_leastRowUnlike_10 rfl (lv_at hl 0 rfl) ?_
      refine lv_iload_n hx hb dX2_leastRowUnlike_11 rfl (lv_at hl 2 rfl) ?_
      refine lv_iconst (v := 0) hx hb dX2_leastRowUnlike_12 (by decide) ?_
      obtain ⟨q5, hq5, hf⟩ := bd_s hf
      refine k_sVi (ws2 := W2 cs h0 a0 i0 r0) (As := [.int x2, .int 0]) (rest := []) hx hb hml hown hts hK hA hZ hl.1 hP hD hS (c_X2_outOf (h0 := h0) (a0 := a0) hq5) (gVt mlX2_69 imX2_outOf seX2_outOf inX2 coX2_outOf) rfl qnX2_outOf rfl rfl ⟨Nat.le_of_ble_eq_true rfl, Nat.le_of_ble_eq_true rfl⟩ 0 2 rfl rfl rfl rfl rfl (Nat.le_of_ble_eq_true rfl) ⟨Nat.zero_le _, Nat.zero_le _⟩ dX2_leastRowUnlike_13 (fun H locs hP hD hS => ?_)
      refine lv_aload_n hx hb dX2_leastRowUnlike_16 rfl (lv_at hl 1 rfl) ?_
      refine lv_iload_n hx hb dX2_leastRowUnlike_17 rfl (lv_at hl 2 rfl) ?_
      refine lv_iconst (v := 0) hx hb dX2_leastRowUnlike_18 (by decide) ?_
      obtain ⟨q6, hq6, hf⟩ := bd_s hf
      refine k_sVi (ws2 := W2 cs h0 a0 i0 r0) (As := [.int x2, .int 0]) (rest := [.int q5]) hx hb hml hown hts hK hA hZ hl.1 hP hD hS (c_X2_outOf (h0 := h0) (a0 := a0) hq6) (gVt mlX2_69 imX2_outOf seX2_outOf inX2 coX2_outOf) rfl qnX2_outOf rfl rfl ⟨Nat.le_of_ble_eq_true rfl, Nat.le_of_ble_eq_true rfl⟩ 0 2 rfl rfl rfl rfl rfl (Nat.le_of_ble_eq_true rfl) ⟨Nat.zero_le _, Nat.zero_le _⟩ dX2_leastRowUnlike_19 (fun H locs hP hD hS => ?_)
      refine lv_icmp_eq (tgt := 27) hx hb dX2_leastRowUnlike_22 (by decide) (fun hc => ?_) (fun hc => ?_)
      · have hf := ite_t hf hc
        refine lv_iinc (v := x2 + 1) (lv' := [(2, .int (x2 + 1)), (0, .ref h0), (1, .ref h0)]) hx hb dX2_leastRowUnlike_27 hl (k := 2) rfl rfl (by decide) rfl (fun ls hl => ?_)
        refine lv_goto (tgt := 2) hx hb dX2_leastRowUnlike_30 (by decide) ?_
        exact ih _ _ _ _ hf hP hD hS (lv_sub hl [1, 2, 0] rfl)
      · have hf := ite_f hf hc
        refine lv_iload_n hx hb dX2_leastRowUnlike_25 rfl (lv_at hl 2 rfl) ?_
        obtain rfl := Option.some.inj hf
        exact k_iret hx hb hr hlocks hK hP hD hS dX2_leastRowUnlike_26
def f_X2_leastRowUnlike_S  (i0 : Nat → Int32) (r0 : Nat → Nat → Int32)  : Option (Int32) := f_X2_leastRowUnlike_S_2 i0 r0 2000000 0
set_option maxRecDepth 100000 in
set_option maxHeartbeats 4000000 in
theorem c_X2_leastRowUnlike_S {l : Launch} {D : va_G} {cs zs : Nat → Nat} {h0 : Nat} {a0 : Nat → Nat} {i0 : Nat → Int32} {r0 : Nat → Nat → Int32}  {q : Int32} (hf : f_X2_leastRowUnlike_S i0 r0 = some q) : Mi l yX2_leastRowUnlike wlX2_leastRowUnlike_S rmX2_leastRowUnlike_S D cs zs [.ref h0, .ref h0] (W2 cs h0 a0 i0 r0) q (W2 cs h0 a0 i0 r0) := by
  refine Mi.of RX2 (by decide) rfl (Nat.le_of_ble_eq_true rfl) (fun p e s m below meth c A C hP hD hS ls hl => ?_)
  generalize ([.ref h0, .ref h0] : List Value).toArray = args at C ⊢
  obtain ⟨hx, hb, hr, hml, hown, hts, hK, hA, hlocks, hZ⟩ := id C
  have hl : lv_has ls 3 [(0, .ref h0), (1, .ref h0)] := hl
  rw [f_X2_leastRowUnlike_S] at hf
  refine lv_iconst (v := 0) hx hb dX2_leastRowUnlike_0 (by decide) ?_
  refine lv_istore_n (lv' := [(2, .int 0), (0, .ref h0), (1, .ref h0)]) hx hb dX2_leastRowUnlike_1 rfl hl (by decide) rfl (fun ls hl => ?_)
  exact w_X2_leastRowUnlike_S_2 C  2000000 _ _ _ _ hf hP hD hS (lv_sub hl [1, 2, 0] rfl)
/-! MarbleFloor$Floor.layChained(LMarbleFloor$Floor;LMarbleFloor$Floor;)V -/
abbrev wlX2_layChained_S : List Cond := Cond.code yX2_layChained cX2_layChained 3 none :: tbG
abbrev rmX2_layChained_S : Room := { frames := 2, cells := 0, slots := 0, locals := 46 }
theorem qnX2_layChained_S : yX2_layChained.cls = RX2 ∧ yX2_layChained.cls ≠ "java/lang/invoke/MethodHandle" ∧ yX2_layChained.cls ≠ "java/lang/invoke/VarHandle" ∧ (parseMethodDescriptor yX2_layChained.desc).map (fun d => d.parameters.length) = some 2 := by decide +kernel
def f_X2_layChained_S  (i0 : Nat → Int32) (r0 : Nat → Nat → Int32) (i1 : Nat → Int32) (r1 : Nat → Nat → Int32)  : Option ((Nat → Int32) × (Nat → Nat → Int32)) := bd (f_X2_clear i0 r0 (if (i1 4) < (i1 4) then (i1 4) else (i1 4))) (fun q4 => bd (f_X2_addAll q4 r0 i1 r1) (fun q5 => bd (f_X2_addAll q5.1 q5.2 i1 r1) (fun q6 => some (q6.1, q6.2))))
set_option maxRecDepth 100000 in
set_option maxHeartbeats 4000000 in
theorem c_X2_layChained_S {l : Launch} {D : va_G} {cs zs : Nat → Nat} {h0 : Nat} {a0 : Nat → Nat} {h1 : Nat} {a1 : Nat → Nat} {i0 : Nat → Int32} {r0 : Nat → Nat → Int32} {i1 : Nat → Int32} {r1 : Nat → Nat → Int32}  {q : (Nat → Int32) × (Nat → Nat → Int32)} (hf : f_X2_layChained_S i0 r0 i1 r1 = some q) : Mv l yX2_layChained wlX2_layChained_S rmX2_layChained_S D cs zs [.ref h0, .ref h1, .ref h1] (W2 cs h0 a0 i0 r0 ++ W2 cs h1 a1 i1 r1) (W2 cs h0 a0 q.1 q.2 ++ W2 cs h1 a1 i1 r1) := by
  refine Mv.of RX2 (by decide) rfl (Nat.le_of_ble_eq_true rfl) (fun p e s m below meth c A C hP hD hS ls hl => ?_)
  generalize ([.ref h0, .ref h1, .ref h1] : List Value).toArray = args at C ⊢
  obtain ⟨hx, hb, hr, hml, hown, hts, hK, hA, hlocks, hZ⟩ := id C
  have hl : lv_has ls 3 [(0, .ref h0), (1, .ref h1), (2, .ref h1)] := hl
  rw [f_X2_layChained_S] at hf
  refine lv_aload_n hx hb dX2_layChained_0 rfl (lv_at hl 0 rfl) ?_
  refine lv_aload_n hx hb dX2_layChained_1 rfl (lv_at hl 1 rfl) ?_
  refine va_get (D := D) (ci := 2) (v := .int (i1 4)) (C := RX2) (T := TX2) (N := 6) hx hb hts hiX2 hown hK hP 5 rfl rfl 4 (by decide) (hts _ flX2_24) (fun _ h9 => h9) rfl dX2_layChained_2 ?_
  refine lv_aload_n hx hb dX2_layChained_5 rfl (lv_at hl 2 rfl) ?_
  refine va_get (D := D) (ci := 2) (v := .int (i1 4)) (C := RX2) (T := TX2) (N := 6) hx hb hts hiX2 hown hK hP 5 rfl rfl 4 (by decide) (hts _ flX2_24) (fun _ h9 => h9) rfl dX2_layChained_6 ?_
  refine va_mmax hx hb (hml.trans hl.1.symm) hown (hts _ mlX2_56) (hts _ stJ9_max_7cf53) (hts _ ini_Math) (hts _ coJ9_max_7cf53) (Nat.le_of_ble_eq_true rfl) (Nat.le_of_ble_eq_true rfl) (Nat.zero_le _) (Nat.zero_le _) dX2_layChained_9 ?_
  obtain ⟨q4, hq4, hf⟩ := bd_s hf
  refine k_pVv (wr := W2 cs h1 a1 i1 r1) (ws2 := W2 cs h0 a0 q4 r0 ++ W2 cs h1 a1 i1 r1) (As := [.int (if (i1 4) < (i1 4) then (i1 4) else (i1 4))]) (rest := []) hx hb hml hown hts hK hA hZ hl.1 hP hD hS (c_X2_clear (h0 := h0) (a0 := a0) hq4) (gVt mlX2_35 imX2_clear seX2_clear inX2 coX2_clear) rfl qnX2_clear rfl rfl ⟨Nat.le_of_ble_eq_true rfl, Nat.le_of_ble_eq_true rfl⟩ [0, 1, 2, 3, 4] [5, 6, 7, 8, 9] [5, 6, 7, 8, 9, 0, 1, 2, 3, 4] rfl rfl rfl (by decide) 0 2 rfl rfl rfl rfl rfl (Nat.le_of_ble_eq_true rfl) ⟨Nat.zero_le _, Nat.zero_le _⟩ dX2_layChained_12 (fun H locs hP hD hS => ?_)
  refine lv_aload_n hx hb dX2_layChained_15 rfl (lv_at hl 0 rfl) ?_
  refine lv_aload_n hx hb dX2_layChained_16 rfl (lv_at hl 1 rfl) ?_
  obtain ⟨q5, hq5, hf⟩ := bd_s hf
  refine k_sVv (ws2 := W2 cs h0 a0 q5.1 q5.2 ++ W2 cs h1 a1 i1 r1) (As := [.ref h1]) (rest := []) hx hb hml hown hts hK hA hZ hl.1 hP hD hS (c_X2_addAll (h0 := h0) (a0 := a0) (h1 := h1) (a1 := a1) hq5) (gVt mlX2_39 imX2_addAll seX2_addAll inX2 coX2_addAll) rfl qnX2_addAll rfl rfl ⟨Nat.le_of_ble_eq_true rfl, Nat.le_of_ble_eq_true rfl⟩ 0 2 rfl rfl rfl rfl rfl (Nat.le_of_ble_eq_true rfl) ⟨Nat.zero_le _, Nat.zero_le _⟩ dX2_layChained_17 (fun H locs hP hD hS => ?_)
  refine lv_aload_n hx hb dX2_layChained_20 rfl (lv_at hl 0 rfl) ?_
  refine lv_aload_n hx hb dX2_layChained_21 rfl (lv_at hl 2 rfl) ?_
  obtain ⟨q6, hq6, hf⟩ := bd_s hf
  refine k_sVv (ws2 := W2 cs h0 a0 q6.1 q6.2 ++ W2 cs h1 a1 i1 r1) (As := [.ref h1]) (rest := []) hx hb hml hown hts hK hA hZ hl.1 hP hD hS (c_X2_addAll (h0 := h0) (a0 := a0) (h1 := h1) (a1 := a1) hq6) (gVt mlX2_39 imX2_addAll seX2_addAll inX2 coX2_addAll) rfl qnX2_addAll rfl rfl ⟨Nat.le_of_ble_eq_true rfl, Nat.le_of_ble_eq_true rfl⟩ 0 2 rfl rfl rfl rfl rfl (Nat.le_of_ble_eq_true rfl) ⟨Nat.zero_le _, Nat.zero_le _⟩ dX2_layChained_22 (fun H locs hP hD hS => ?_)
  obtain rfl := Option.some.inj hf
  exact k_vret hx hb hr hlocks hK hP hD hS dX2_layChained_25
