def fs3 (a : Nat → Nat) : List Value := [.ref (a 0)]
def W3 (cs : Nat → ClassId) (h : Nat) (a : Nat → Nat)  : va_W := [(h, .inr (3, fs3 a))]
/-! MarbleFloor$FloorReader.readLane(LMarbleFloor$Floor;I)I -/
abbrev wlX3_readLane : List Cond := Cond.code yX3_readLane cX3_readLane 3 (some .int) :: tbG
abbrev rmX3_readLane : Room := { frames := 2, cells := 0, slots := 0, locals := 44 }
theorem qnX3_readLane : yX3_readLane.cls = RX3 ∧ yX3_readLane.cls ≠ "java/lang/invoke/MethodHandle" ∧ yX3_readLane.cls ≠ "java/lang/invoke/VarHandle" ∧ (parseMethodDescriptor yX3_readLane.desc).map (fun d => d.parameters.length) = some 2 := by decide +kernel
def f_X3_readLane_47 (r1 : Nat → Nat → Int32) (l1 : Nat → Nat → Int64) (i2 : Nat → Int32) (r2 : Nat → Nat → Int32)  (i1 : Nat → Int32) : Option (Int32 × (Nat → Int32)) := bd (f_X2_lanes i2 r2) (fun q8 => bd (f_X9_wantNumber i1 r1 l1 0 (q8 - 1)) (fun q9 => some (q9.1, q9.2)))
set_option maxRecDepth 100000 in
set_option maxHeartbeats 4000000 in
theorem w_X3_readLane_47 {p : Program} {l : Launch} {e : Env} {s : State} {m : MethodId} {args : Array Value} {below : List Frame} {meth : Method} {c : Code} {A : Nat → Prop} {D : va_G} {cs zs : Nat → Nat} {h0 : Nat} {a0 : Nat → Nat} {a1 : Nat → Nat} {h2 : Nat} {a2 : Nat → Nat} {r1 : Nat → Nat → Int32} {l1 : Nat → Nat → Int64} {i2 : Nat → Int32} {r2 : Nat → Nat → Int32} {q : Int32 × (Nat → Int32)} (C : Cx p s m args meth c A D cs zs cX3_readLane 3 (some .int) RX3)  : ∀ (i1 : Nat → Int32) (H : Heap) (locs : List Loc) (ls : Array Slot), f_X3_readLane_47 r1 l1 i2 r2 i1 = some q → va_P D vwCl (W3 cs h0 a0  ++ (W9 cs (a0 0) a1 i1 r1 l1 ++ W2 cs h2 a2 i2 r2)) H → va_D A (W3 cs h0 a0  ++ (W9 cs (a0 0) a1 i1 r1 l1 ++ W2 cs h2 a2 i2 r2)) → va_S A s.heap H locs → lv_has ls 3 [(0, .ref h0), (1, .ref h2)] → W p l e rmX3_readLane s m args below meth c H locs 0 0 (MQ below (Qi D cs A q.1 (W3 cs h0 a0  ++ (W9 cs (a0 0) a1 q.2 r1 l1 ++ W2 cs h2 a2 i2 r2))) args s 0 0 A) (F0 m 47 ls []) := by
  obtain ⟨hx, hb, hr, hml, hown, hts, hK, hA, hlocks, hZ⟩ := id C
  intro i1 H locs ls hf hP hD hS hl
  rw [f_X3_readLane_47] at hf
  refine lv_aload_n hx hb dX3_readLane_47 rfl (lv_at hl 0 rfl) ?_
  refine va_get (D := D) (ci := 3) (v := .ref (a0 0)) (C := RX3) (T := TX3) (N := 1) hx hb hts hiX3 hown hK hP 0 rfl rfl 0 (by decide) (hts _ flX3_9) (fun _ h9 => h9) rfl dX3_readLane_48 ?_
  refine lv_iconst (v := 0) hx hb dX3_readLane_51 (by decide) ?_
  refine lv_aload_n hx hb dX3_readLane_52 rfl (lv_at hl 1 rfl) ?_
  obtain ⟨q8, hq8, hf⟩ := bd_s hf
  refine k_pVi (wr := W3 cs h0 a0  ++ W9 cs (a0 0) a1 i1 r1 l1) (ws2 := W3 cs h0 a0  ++ (W9 cs (a0 0) a1 i1 r1 l1 ++ W2 cs h2 a2 i2 r2)) (As := []) (rest := [.int 0, .ref (a0 0)]) hx hb hml hown hts hK hA hZ hl.1 hP hD hS (c_X2_lanes (h0 := h2) (a0 := a2) hq8) (gVt mlX3_78 imX2_lanes seX2_lanes inX2 coX2_lanes) rfl qnX2_lanes rfl rfl ⟨Nat.le_of_ble_eq_true rfl, Nat.le_of_ble_eq_true rfl⟩ [7, 8, 9, 10, 11] [0, 1, 2, 3, 4, 5, 6] [0, 1, 2, 3, 4, 5, 6, 7, 8, 9, 10, 11] rfl rfl rfl (by decide) 0 2 rfl rfl rfl rfl rfl (Nat.le_of_ble_eq_true rfl) ⟨Nat.zero_le _, Nat.zero_le _⟩ dX3_readLane_53 (fun H locs hP hD hS => ?_)
  refine lv_iconst (v := 1) hx hb dX3_readLane_56 (by decide) ?_
  refine lv_isub hx hb dX3_readLane_57 ?_
  obtain ⟨q9, hq9, hf⟩ := bd_s hf
  refine k_pVi (wr := W3 cs h0 a0  ++ W2 cs h2 a2 i2 r2) (ws2 := W3 cs h0 a0  ++ (W9 cs (a0 0) a1 q9.2 r1 l1 ++ W2 cs h2 a2 i2 r2)) (As := [.int 0, .int (q8 - 1)]) (rest := []) hx hb hml hown hts hK hA hZ hl.1 hP hD hS (c_X9_wantNumber (h0 := (a0 0)) (a0 := a1) hq9) (gVt mlX3_24 imX9_wantNumber seX9_wantNumber inX9 coX9_wantNumber) rfl qnX9_wantNumber rfl rfl ⟨Nat.le_of_ble_eq_true rfl, Nat.le_of_ble_eq_true rfl⟩ [1, 2, 3, 4, 5, 6] [0, 7, 8, 9, 10, 11] [0, 6, 7, 8, 9, 10, 11, 1, 2, 3, 4, 5] rfl rfl rfl (by decide) 0 9 rfl rfl rfl rfl rfl (Nat.le_of_ble_eq_true rfl) ⟨Nat.zero_le _, Nat.zero_le _⟩ dX3_readLane_58 (fun H locs hP hD hS => ?_)
  obtain rfl := Option.some.inj hf
  exact k_iret hx hb hr hlocks hK hP hD hS dX3_readLane_61
def f_X3_readLane  (i1 : Nat → Int32) (r1 : Nat → Nat → Int32) (l1 : Nat → Nat → Int64) (i2 : Nat → Int32) (r2 : Nat → Nat → Int32) (x2 : Int32) : Option (Int32 × (Nat → Int32)) := bd (f_X9_kind i1 r1 l1) (fun q10 => if q10 = 2 then (bd (f_X9_number i1 r1 l1) (fun q11 => bd (f_X2_lanes i2 r2) (fun q12 => if q12 ≤ q11 then (f_X3_readLane_47 r1 l1 i2 r2 i1) else (bd (f_X9_number i1 r1 l1) (fun q13 => if ((x2 >>> (q13 &&& 31)) &&& 1) = 0 then (f_X3_readLane_47 r1 l1 i2 r2 i1) else (bd (f_X9_fail i1 r1 l1 3) (fun q14 => f_X3_readLane_47 r1 l1 i2 r2 q14))))))) else (f_X3_readLane_47 r1 l1 i2 r2 i1))
set_option maxRecDepth 100000 in
set_option maxHeartbeats 4000000 in
theorem c_X3_readLane {l : Launch} {D : va_G} {cs zs : Nat → Nat} {h0 : Nat} {a0 : Nat → Nat} {a1 : Nat → Nat} {h2 : Nat} {a2 : Nat → Nat} {i1 : Nat → Int32} {r1 : Nat → Nat → Int32} {l1 : Nat → Nat → Int64} {i2 : Nat → Int32} {r2 : Nat → Nat → Int32} {x2 : Int32} {q : Int32 × (Nat → Int32)} (hf : f_X3_readLane i1 r1 l1 i2 r2 x2 = some q) : Mi l yX3_readLane wlX3_readLane rmX3_readLane D cs zs [.ref h0, .ref h2, .int x2] (W3 cs h0 a0  ++ (W9 cs (a0 0) a1 i1 r1 l1 ++ W2 cs h2 a2 i2 r2)) q.1 (W3 cs h0 a0  ++ (W9 cs (a0 0) a1 q.2 r1 l1 ++ W2 cs h2 a2 i2 r2)) := by
  refine Mi.of RX3 (by decide) rfl (Nat.le_of_ble_eq_true rfl) (fun p e s m below meth c A C hP hD hS ls hl => ?_)
  generalize ([.ref h0, .ref h2, .int x2] : List Value).toArray = args at C ⊢
  obtain ⟨hx, hb, hr, hml, hown, hts, hK, hA, hlocks, hZ⟩ := id C
  have hl : lv_has ls 3 [(0, .ref h0), (1, .ref h2), (2, .int x2)] := hl
  rw [f_X3_readLane] at hf
  refine lv_aload_n hx hb dX3_readLane_0 rfl (lv_at hl 0 rfl) ?_
  refine va_get (D := D) (ci := 3) (v := .ref (a0 0)) (C := RX3) (T := TX3) (N := 1) hx hb hts hiX3 hown hK hP 0 rfl rfl 0 (by decide) (hts _ flX3_9) (fun _ h9 => h9) rfl dX3_readLane_1 ?_
  obtain ⟨q10, hq10, hf⟩ := bd_s hf
  refine k_pVi (wr := W3 cs h0 a0  ++ W2 cs h2 a2 i2 r2) (ws2 := W3 cs h0 a0  ++ (W9 cs (a0 0) a1 i1 r1 l1 ++ W2 cs h2 a2 i2 r2)) (As := []) (rest := []) hx hb hml hown hts hK hA hZ hl.1 hP hD hS (c_X9_kind (h0 := (a0 0)) (a0 := a1) hq10) (gVt mlX3_72 imX9_kind seX9_kind inX9 coX9_kind) rfl qnX9_kind rfl rfl ⟨Nat.le_of_ble_eq_true rfl, Nat.le_of_ble_eq_true rfl⟩ [1, 2, 3, 4, 5, 6] [0, 7, 8, 9, 10, 11] [0, 6, 7, 8, 9, 10, 11, 1, 2, 3, 4, 5] rfl rfl rfl (by decide) 0 9 rfl rfl rfl rfl rfl (Nat.le_of_ble_eq_true rfl) ⟨Nat.zero_le _, Nat.zero_le _⟩ dX3_readLane_4 (fun H locs hP hD hS => ?_)
  refine lv_iconst (v := 2) hx hb dX3_readLane_7 (by decide) ?_
  refine lv_icmp_ne (tgt := 47) hx hb dX3_readLane_8 (by decide) (fun hc => ?_) (fun hc => ?_)
  · have hf := ite_f hf hc
    exact w_X3_readLane_47 C  _ _ _ _ hf hP hD hS (lv_sub hl [0, 1] rfl)
  · have hf := ite_t hf hc
    refine lv_aload_n hx hb dX3_readLane_11 rfl (lv_at hl 0 rfl) ?_
    refine va_get (D := D) (ci := 3) (v := .ref (a0 0)) (C := RX3) (T := TX3) (N := 1) hx hb hts hiX3 hown hK hP 0 rfl rfl 0 (by decide) (hts _ flX3_9) (fun _ h9 => h9) rfl dX3_readLane_12 ?_
    obtain ⟨q11, hq11, hf⟩ := bd_s hf
    refine k_pVi (wr := W3 cs h0 a0  ++ W2 cs h2 a2 i2 r2) (ws2 := W3 cs h0 a0  ++ (W9 cs (a0 0) a1 i1 r1 l1 ++ W2 cs h2 a2 i2 r2)) (As := []) (rest := []) hx hb hml hown hts hK hA hZ hl.1 hP hD hS (c_X9_number (h0 := (a0 0)) (a0 := a1) hq11) (gVt mlX3_75 imX9_number seX9_number inX9 coX9_number) rfl qnX9_number rfl rfl ⟨Nat.le_of_ble_eq_true rfl, Nat.le_of_ble_eq_true rfl⟩ [1, 2, 3, 4, 5, 6] [0, 7, 8, 9, 10, 11] [0, 6, 7, 8, 9, 10, 11, 1, 2, 3, 4, 5] rfl rfl rfl (by decide) 0 9 rfl rfl rfl rfl rfl (Nat.le_of_ble_eq_true rfl) ⟨Nat.zero_le _, Nat.zero_le _⟩ dX3_readLane_15 (fun H locs hP hD hS => ?_)
    refine lv_aload_n hx hb dX3_readLane_18 rfl (lv_at hl 1 rfl) ?_
    obtain ⟨q12, hq12, hf⟩ := bd_s hf
    refine k_pVi (wr := W3 cs h0 a0  ++ W9 cs (a0 0) a1 i1 r1 l1) (ws2 := W3 cs h0 a0  ++ (W9 cs (a0 0) a1 i1 r1 l1 ++ W2 cs h2 a2 i2 r2)) (As := []) (rest := [.int q11]) hx hb hml hown hts hK hA hZ hl.1 hP hD hS (c_X2_lanes (h0 := h2) (a0 := a2) hq12) (gVt mlX3_78 imX2_lanes seX2_lanes inX2 coX2_lanes) rfl qnX2_lanes rfl rfl ⟨Nat.le_of_ble_eq_true rfl, Nat.le_of_ble_eq_true rfl⟩ [7, 8, 9, 10, 11] [0, 1, 2, 3, 4, 5, 6] [0, 1, 2, 3, 4, 5, 6, 7, 8, 9, 10, 11] rfl rfl rfl (by decide) 0 2 rfl rfl rfl rfl rfl (Nat.le_of_ble_eq_true rfl) ⟨Nat.zero_le _, Nat.zero_le _⟩ dX3_readLane_19 (fun H locs hP hD hS => ?_)
    refine lv_icmp_ge (tgt := 47) hx hb dX3_readLane_22 (by decide) (fun hc => ?_) (fun hc => ?_)
    · have hf := ite_t hf hc
      exact w_X3_readLane_47 C  _ _ _ _ hf hP hD hS (lv_sub hl [0, 1] rfl)
    · have hf := ite_f hf hc
      refine lv_iload_n hx hb dX3_readLane_25 rfl (lv_at hl 2 rfl) ?_
      refine lv_aload_n hx hb dX3_readLane_26 rfl (lv_at hl 0 rfl) ?_
      refine va_get (D := D) (ci := 3) (v := .ref (a0 0)) (C := RX3) (T := TX3) (N := 1) hx hb hts hiX3 hown hK hP 0 rfl rfl 0 (by decide) (hts _ flX3_9) (fun _ h9 => h9) rfl dX3_readLane_27 ?_
      obtain ⟨q13, hq13, hf⟩ := bd_s hf
      refine k_pVi (wr := W3 cs h0 a0  ++ W2 cs h2 a2 i2 r2) (ws2 := W3 cs h0 a0  ++ (W9 cs (a0 0) a1 i1 r1 l1 ++ W2 cs h2 a2 i2 r2)) (As := []) (rest := [.int x2]) hx hb hml hown hts hK hA hZ hl.1 hP hD hS (c_X9_number (h0 := (a0 0)) (a0 := a1) hq13) (gVt mlX3_75 imX9_number seX9_number inX9 coX9_number) rfl qnX9_number rfl rfl ⟨Nat.le_of_ble_eq_true rfl, Nat.le_of_ble_eq_true rfl⟩ [1, 2, 3, 4, 5, 6] [0, 7, 8, 9, 10, 11] [0, 6, 7, 8, 9, 10, 11, 1, 2, 3, 4, 5] rfl rfl rfl (by decide) 0 9 rfl rfl rfl rfl rfl (Nat.le_of_ble_eq_true rfl) ⟨Nat.zero_le _, Nat.zero_le _⟩ dX3_readLane_30 (fun H locs hP hD hS => ?_)
      refine lv_ishr hx hb dX3_readLane_33 ?_
      refine lv_iconst (v := 1) hx hb dX3_readLane_34 (by decide) ?_
      refine lv_iand hx hb dX3_readLane_35 ?_
      refine lv_if_eq (tgt := 47) hx hb dX3_readLane_36 (by decide) (fun hc => ?_) (fun hc => ?_)
      · have hf := ite_t hf hc
        exact w_X3_readLane_47 C  _ _ _ _ hf hP hD hS (lv_sub hl [0, 1] rfl)
      · have hf := ite_f hf hc
        refine lv_aload_n hx hb dX3_readLane_39 rfl (lv_at hl 0 rfl) ?_
        refine va_get (D := D) (ci := 3) (v := .ref (a0 0)) (C := RX3) (T := TX3) (N := 1) hx hb hts hiX3 hown hK hP 0 rfl rfl 0 (by decide) (hts _ flX3_9) (fun _ h9 => h9) rfl dX3_readLane_40 ?_
        refine lv_iconst (v := 3) hx hb dX3_readLane_43 (by decide) ?_
        obtain ⟨q14, hq14, hf⟩ := bd_s hf
        refine k_pVv (wr := W3 cs h0 a0  ++ W2 cs h2 a2 i2 r2) (ws2 := W3 cs h0 a0  ++ (W9 cs (a0 0) a1 q14 r1 l1 ++ W2 cs h2 a2 i2 r2)) (As := [.int 3]) (rest := []) hx hb hml hown hts hK hA hZ hl.1 hP hD hS (c_X9_fail (h0 := (a0 0)) (a0 := a1) hq14) (gVt mlX3_51 imX9_fail seX9_fail inX9 coX9_fail) rfl qnX9_fail rfl rfl ⟨Nat.le_of_ble_eq_true rfl, Nat.le_of_ble_eq_true rfl⟩ [1, 2, 3, 4, 5, 6] [0, 7, 8, 9, 10, 11] [0, 6, 7, 8, 9, 10, 11, 1, 2, 3, 4, 5] rfl rfl rfl (by decide) 0 9 rfl rfl rfl rfl rfl (Nat.le_of_ble_eq_true rfl) ⟨Nat.zero_le _, Nat.zero_le _⟩ dX3_readLane_44 (fun H locs hP hD hS => ?_)
        exact w_X3_readLane_47 C  _ _ _ _ hf hP hD hS (lv_sub hl [0, 1] rfl)
/-! MarbleFloor$FloorReader.readIfs(LMarbleFloor$Floor;I)I -/
abbrev wlX3_readIfs : List Cond := Cond.code yX3_readIfs cX3_readIfs 5 (some .int) :: tbG
abbrev rmX3_readIfs : Room := { frames := 3, cells := 0, slots := 0, locals := 66 }
theorem qnX3_readIfs : yX3_readIfs.cls = RX3 ∧ yX3_readIfs.cls ≠ "java/lang/invoke/MethodHandle" ∧ yX3_readIfs.cls ≠ "java/lang/invoke/VarHandle" ∧ (parseMethodDescriptor yX3_readIfs.desc).map (fun d => d.parameters.length) = some 2 := by decide +kernel
def f_X3_readIfs_5 (r1 : Nat → Nat → Int32) (l1 : Nat → Nat → Int64) (i2 : Nat → Int32) (r2 : Nat → Nat → Int32)  : Nat → (Nat → Int32) → Int32 → Int32 → Int32 → Option (Int32 × (Nat → Int32))
  | 0, _, _, _, _ => none
  | n + 1, i1, x2, x3, x4 => if 8 < x4 then (some (x3, i1)) else (bd (f_X9_key i1 r1 l1) (fun q4 => if q4 = 4 then (bd (f_X9_advance i1 r1 l1) (fun q5 => bd (f_X3_readLane q5 r1 l1 i2 r2 (x2 ||| x3)) (fun q6 => f_X3_readIfs_5 r1 l1 i2 r2 n q6.2 x2 (x3 ||| ((1 : Int32) <<< (q6.1 &&& 31))) (x4 + 1)))) else (some (x3, i1))))
set_option maxRecDepth 100000 in
set_option maxHeartbeats 4000000 in
theorem w_X3_readIfs_5 {p : Program} {l : Launch} {e : Env} {s : State} {m : MethodId} {args : Array Value} {below : List Frame} {meth : Method} {c : Code} {A : Nat → Prop} {D : va_G} {cs zs : Nat → Nat} {h0 : Nat} {a0 : Nat → Nat} {a1 : Nat → Nat} {h2 : Nat} {a2 : Nat → Nat} {r1 : Nat → Nat → Int32} {l1 : Nat → Nat → Int64} {i2 : Nat → Int32} {r2 : Nat → Nat → Int32} {q : Int32 × (Nat → Int32)} (C : Cx p s m args meth c A D cs zs cX3_readIfs 5 (some .int) RX3)  : ∀ (n : Nat), ∀ (i1 : Nat → Int32) (x2 : Int32) (x3 : Int32) (x4 : Int32) (H : Heap) (locs : List Loc) (ls : Array Slot), f_X3_readIfs_5 r1 l1 i2 r2 n i1 x2 x3 x4 = some q → va_P D vwCl (W3 cs h0 a0  ++ (W9 cs (a0 0) a1 i1 r1 l1 ++ W2 cs h2 a2 i2 r2)) H → va_D A (W3 cs h0 a0  ++ (W9 cs (a0 0) a1 i1 r1 l1 ++ W2 cs h2 a2 i2 r2)) → va_S A s.heap H locs → lv_has ls 5 [(0, .ref h0), (1, .ref h2), (2, .int x2), (3, .int x3), (4, .int x4)] → W p l e rmX3_readIfs s m args below meth c H locs 0 0 (MQ below (Qi D cs A q.1 (W3 cs h0 a0  ++ (W9 cs (a0 0) a1 q.2 r1 l1 ++ W2 cs h2 a2 i2 r2))) args s 0 0 A) (F0 m 5 ls []) := by
  obtain ⟨hx, hb, hr, hml, hown, hts, hK, hA, hlocks, hZ⟩ := id C
  intro n
  induction n with
  | zero =>
    intro i1 x2 x3 x4 H locs ls hf
    rw [f_X3_readIfs_5] at hf
    cases hf
  | succ n ih =>
    intro i1 x2 x3 x4 H locs ls hf hP hD hS hl
    rw [f_X3_readIfs_5] at hf
    refine lv_iload hx hb dX3_readIfs_5 (lv_at hl 4 rfl) ?_
    refine lv_bipush (v := 8) hx hb dX3_readIfs_7 (by decide) ?_
    refine lv_icmp_gt (tgt := 49) hx hb dX3_readIfs_9 (by decide) (fun hc => ?_) (fun hc => ?_)
    · have hf := ite_t hf hc
      refine lv_iload_n hx hb dX3_readIfs_49 rfl (lv_at hl 3 rfl) ?_
      obtain rfl := Option.some.inj hf
      exact k_iret hx hb hr hlocks hK hP hD hS dX3_readIfs_50
    · have hf := ite_f hf hc
      refine lv_aload_n hx hb dX3_readIfs_12 rfl (lv_at hl 0 rfl) ?_
      refine va_get (D := D) (ci := 3) (v := .ref (a0 0)) (C := RX3) (T := TX3) (N := 1) hx hb hts hiX3 hown hK hP 0 rfl rfl 0 (by decide) (hts _ flX3_9) (fun _ h9 => h9) rfl dX3_readIfs_13 ?_
      obtain ⟨q4, hq4, hf⟩ := bd_s hf
      refine k_pVi (wr := W3 cs h0 a0  ++ W2 cs h2 a2 i2 r2) (ws2 := W3 cs h0 a0  ++ (W9 cs (a0 0) a1 i1 r1 l1 ++ W2 cs h2 a2 i2 r2)) (As := []) (rest := []) hx hb hml hown hts hK hA hZ hl.1 hP hD hS (c_X9_key (h0 := (a0 0)) (a0 := a1) hq4) (gVt mlX3_36 imX9_key seX9_key inX9 coX9_key) rfl qnX9_key rfl rfl ⟨Nat.le_of_ble_eq_true rfl, Nat.le_of_ble_eq_true rfl⟩ [1, 2, 3, 4, 5, 6] [0, 7, 8, 9, 10, 11] [0, 6, 7, 8, 9, 10, 11, 1, 2, 3, 4, 5] rfl rfl rfl (by decide) 0 9 rfl rfl rfl rfl rfl (Nat.le_of_ble_eq_true rfl) ⟨Nat.zero_le _, Nat.zero_le _⟩ dX3_readIfs_16 (fun H locs hP hD hS => ?_)
      refine lv_iconst (v := 4) hx hb dX3_readIfs_19 (by decide) ?_
      refine lv_icmp_ne (tgt := 49) hx hb dX3_readIfs_20 (by decide) (fun hc => ?_) (fun hc => ?_)
      · have hf := ite_f hf hc
        refine lv_iload_n hx hb dX3_readIfs_49 rfl (lv_at hl 3 rfl) ?_
        obtain rfl := Option.some.inj hf
        exact k_iret hx hb hr hlocks hK hP hD hS dX3_readIfs_50
      · have hf := ite_t hf hc
        refine lv_aload_n hx hb dX3_readIfs_23 rfl (lv_at hl 0 rfl) ?_
        refine va_get (D := D) (ci := 3) (v := .ref (a0 0)) (C := RX3) (T := TX3) (N := 1) hx hb hts hiX3 hown hK hP 0 rfl rfl 0 (by decide) (hts _ flX3_9) (fun _ h9 => h9) rfl dX3_readIfs_24 ?_
        obtain ⟨q5, hq5, hf⟩ := bd_s hf
        refine k_pVv (wr := W3 cs h0 a0  ++ W2 cs h2 a2 i2 r2) (ws2 := W3 cs h0 a0  ++ (W9 cs (a0 0) a1 q5 r1 l1 ++ W2 cs h2 a2 i2 r2)) (As := []) (rest := []) hx hb hml hown hts hK hA hZ hl.1 hP hD hS (c_X9_advance (h0 := (a0 0)) (a0 := a1) hq5) (gVt mlX3_54 imX9_advance seX9_advance inX9 coX9_advance) rfl qnX9_advance rfl rfl ⟨Nat.le_of_ble_eq_true rfl, Nat.le_of_ble_eq_true rfl⟩ [1, 2, 3, 4, 5, 6] [0, 7, 8, 9, 10, 11] [0, 6, 7, 8, 9, 10, 11, 1, 2, 3, 4, 5] rfl rfl rfl (by decide) 0 9 rfl rfl rfl rfl rfl (Nat.le_of_ble_eq_true rfl) ⟨Nat.zero_le _, Nat.zero_le _⟩ dX3_readIfs_27 (fun H locs hP hD hS => ?_)
        refine lv_iload_n hx hb dX3_readIfs_30 rfl (lv_at hl 3 rfl) ?_
        refine lv_iconst (v := 1) hx hb dX3_readIfs_31 (by decide) ?_
        refine lv_aload_n hx hb dX3_readIfs_32 rfl (lv_at hl 0 rfl) ?_
        refine lv_aload_n hx hb dX3_readIfs_33 rfl (lv_at hl 1 rfl) ?_
        refine lv_iload_n hx hb dX3_readIfs_34 rfl (lv_at hl 2 rfl) ?_
        refine lv_iload_n hx hb dX3_readIfs_35 rfl (lv_at hl 3 rfl) ?_
        refine lv_ior hx hb dX3_readIfs_36 ?_
        obtain ⟨q6, hq6, hf⟩ := bd_s hf
        refine k_sVi (ws2 := W3 cs h0 a0  ++ (W9 cs (a0 0) a1 q6.2 r1 l1 ++ W2 cs h2 a2 i2 r2)) (As := [.ref h2, .int (x2 ||| x3)]) (rest := [.int 1, .int x3]) hx hb hml hown hts hK hA hZ hl.1 hP hD hS (c_X3_readLane (h0 := h0) (a0 := a0) (a1 := a1) (h2 := h2) (a2 := a2) hq6) (gVt mlX3_57 imX3_readLane seX3_readLane inX3 coX3_readLane) rfl qnX3_readLane rfl rfl ⟨Nat.le_of_ble_eq_true rfl, Nat.le_of_ble_eq_true rfl⟩ 0 3 rfl rfl rfl rfl rfl (Nat.le_of_ble_eq_true rfl) ⟨Nat.zero_le _, Nat.zero_le _⟩ dX3_readIfs_37 (fun H locs hP hD hS => ?_)
        refine lv_ishl hx hb dX3_readIfs_40 ?_
        refine lv_ior hx hb dX3_readIfs_41 ?_
        refine lv_istore_n (lv' := [(3, .int (x3 ||| ((1 : Int32) <<< (q6.1 &&& 31)))), (0, .ref h0), (1, .ref h2), (2, .int x2), (4, .int x4)]) hx hb dX3_readIfs_42 rfl hl (by decide) rfl (fun ls hl => ?_)
        refine lv_iinc (v := x4 + 1) (lv' := [(4, .int (x4 + 1)), (3, .int (x3 ||| ((1 : Int32) <<< (q6.1 &&& 31)))), (0, .ref h0), (1, .ref h2), (2, .int x2)]) hx hb dX3_readIfs_43 hl (k := 4) rfl rfl (by decide) rfl (fun ls hl => ?_)
        refine lv_goto (tgt := 5) hx hb dX3_readIfs_46 (by decide) ?_
        exact ih _ _ _ _ _ _ _ hf hP hD hS (lv_sub hl [2, 3, 4, 1, 0] rfl)
def f_X3_readIfs  (i1 : Nat → Int32) (r1 : Nat → Nat → Int32) (l1 : Nat → Nat → Int64) (i2 : Nat → Int32) (r2 : Nat → Nat → Int32) (x2 : Int32) : Option (Int32 × (Nat → Int32)) := f_X3_readIfs_5 r1 l1 i2 r2 2000000 i1 x2 0 0
set_option maxRecDepth 100000 in
set_option maxHeartbeats 4000000 in
theorem c_X3_readIfs {l : Launch} {D : va_G} {cs zs : Nat → Nat} {h0 : Nat} {a0 : Nat → Nat} {a1 : Nat → Nat} {h2 : Nat} {a2 : Nat → Nat} {i1 : Nat → Int32} {r1 : Nat → Nat → Int32} {l1 : Nat → Nat → Int64} {i2 : Nat → Int32} {r2 : Nat → Nat → Int32} {x2 : Int32} {q : Int32 × (Nat → Int32)} (hf : f_X3_readIfs i1 r1 l1 i2 r2 x2 = some q) : Mi l yX3_readIfs wlX3_readIfs rmX3_readIfs D cs zs [.ref h0, .ref h2, .int x2] (W3 cs h0 a0  ++ (W9 cs (a0 0) a1 i1 r1 l1 ++ W2 cs h2 a2 i2 r2)) q.1 (W3 cs h0 a0  ++ (W9 cs (a0 0) a1 q.2 r1 l1 ++ W2 cs h2 a2 i2 r2)) := by
  refine Mi.of RX3 (by decide) rfl (Nat.le_of_ble_eq_true rfl) (fun p e s m below meth c A C hP hD hS ls hl => ?_)
  generalize ([.ref h0, .ref h2, .int x2] : List Value).toArray = args at C ⊢
  obtain ⟨hx, hb, hr, hml, hown, hts, hK, hA, hlocks, hZ⟩ := id C
  have hl : lv_has ls 5 [(0, .ref h0), (1, .ref h2), (2, .int x2)] := hl
  rw [f_X3_readIfs] at hf
  refine lv_iconst (v := 0) hx hb dX3_readIfs_0 (by decide) ?_
  refine lv_istore_n (lv' := [(3, .int 0), (0, .ref h0), (1, .ref h2), (2, .int x2)]) hx hb dX3_readIfs_1 rfl hl (by decide) rfl (fun ls hl => ?_)
  refine lv_iconst (v := 0) hx hb dX3_readIfs_2 (by decide) ?_
  refine lv_istore (lv' := [(4, .int 0), (3, .int 0), (0, .ref h0), (1, .ref h2), (2, .int x2)]) hx hb dX3_readIfs_3 hl (by decide) rfl (fun ls hl => ?_)
  exact w_X3_readIfs_5 C  2000000 _ _ _ _ _ _ _ hf hP hD hS (lv_sub hl [2, 3, 4, 1, 0] rfl)
/-! MarbleFloor$FloorReader.readStep(LMarbleFloor$Floor;)V -/
abbrev wlX3_readStep : List Cond := Cond.code yX3_readStep cX3_readStep 7 none :: tbG
abbrev rmX3_readStep : Room := { frames := 4, cells := 0, slots := 0, locals := 90 }
theorem qnX3_readStep : yX3_readStep.cls = RX3 ∧ yX3_readStep.cls ≠ "java/lang/invoke/MethodHandle" ∧ yX3_readStep.cls ≠ "java/lang/invoke/VarHandle" ∧ (parseMethodDescriptor yX3_readStep.desc).map (fun d => d.parameters.length) = some 1 := by decide +kernel
def f_X3_readStep_79 (r1 : Nat → Nat → Int32) (l1 : Nat → Nat → Int64)  (i1 : Nat → Int32) (i2 : Nat → Int32) (r2 : Nat → Nat → Int32) (x2 : Int32) (x3 : Int32) (x4 : Int32) (x5 : Int32) : Option ((Nat → Int32) × (Nat → Int32) × (Nat → Nat → Int32)) := bd (f_X3_readIfs i1 r1 l1 i2 r2 x4) (fun q11 => bd (f_X9_failed q11.2 r1 l1) (fun q12 => if q12 = 0 then (if x2 = 0 then (bd (f_X2_addTurn i2 r2 x3 q11.1) (fun q13 => some (q11.2, q13.1, q13.2))) else (bd (f_X2_addSwap i2 r2 x3 x5 q11.1) (fun q14 => some (q11.2, q14.1, q14.2)))) else (some (q11.2, i2, r2))))
set_option maxRecDepth 100000 in
set_option maxHeartbeats 4000000 in
theorem w_X3_readStep_79 {p : Program} {l : Launch} {e : Env} {s : State} {m : MethodId} {args : Array Value} {below : List Frame} {meth : Method} {c : Code} {A : Nat → Prop} {D : va_G} {cs zs : Nat → Nat} {h0 : Nat} {a0 : Nat → Nat} {a1 : Nat → Nat} {h2 : Nat} {a2 : Nat → Nat} {r1 : Nat → Nat → Int32} {l1 : Nat → Nat → Int64} {q : (Nat → Int32) × (Nat → Int32) × (Nat → Nat → Int32)} (C : Cx p s m args meth c A D cs zs cX3_readStep 7 none RX3)  : ∀ (i1 : Nat → Int32) (i2 : Nat → Int32) (r2 : Nat → Nat → Int32) (x2 : Int32) (x3 : Int32) (x4 : Int32) (x5 : Int32) (H : Heap) (locs : List Loc) (ls : Array Slot), f_X3_readStep_79 r1 l1 i1 i2 r2 x2 x3 x4 x5 = some q → va_P D vwCl (W3 cs h0 a0  ++ (W9 cs (a0 0) a1 i1 r1 l1 ++ W2 cs h2 a2 i2 r2)) H → va_D A (W3 cs h0 a0  ++ (W9 cs (a0 0) a1 i1 r1 l1 ++ W2 cs h2 a2 i2 r2)) → va_S A s.heap H locs → lv_has ls 7 [(0, .ref h0), (1, .ref h2), (2, .int x2), (3, .int x3), (4, .int x4), (5, .int x5)] → W p l e rmX3_readStep s m args below meth c H locs 0 0 (MQ below (Qv D cs A (W3 cs h0 a0  ++ (W9 cs (a0 0) a1 q.1 r1 l1 ++ W2 cs h2 a2 q.2.1 q.2.2))) args s 0 0 A) (F0 m 79 ls []) := by
  obtain ⟨hx, hb, hr, hml, hown, hts, hK, hA, hlocks, hZ⟩ := id C
  intro i1 i2 r2 x2 x3 x4 x5 H locs ls hf hP hD hS hl
  rw [f_X3_readStep_79] at hf
  refine lv_aload_n hx hb dX3_readStep_79 rfl (lv_at hl 0 rfl) ?_
  refine lv_aload_n hx hb dX3_readStep_80 rfl (lv_at hl 1 rfl) ?_
  refine lv_iload hx hb dX3_readStep_81 (lv_at hl 4 rfl) ?_
  obtain ⟨q11, hq11, hf⟩ := bd_s hf
  refine k_sVi (ws2 := W3 cs h0 a0  ++ (W9 cs (a0 0) a1 q11.2 r1 l1 ++ W2 cs h2 a2 i2 r2)) (As := [.ref h2, .int x4]) (rest := []) hx hb hml hown hts hK hA hZ hl.1 hP hD hS (c_X3_readIfs (h0 := h0) (a0 := a0) (a1 := a1) (h2 := h2) (a2 := a2) hq11) (gVt mlX3_61 imX3_readIfs seX3_readIfs inX3 coX3_readIfs) rfl qnX3_readIfs rfl rfl ⟨Nat.le_of_ble_eq_true rfl, Nat.le_of_ble_eq_true rfl⟩ 0 3 rfl rfl rfl rfl rfl (Nat.le_of_ble_eq_true rfl) ⟨Nat.zero_le _, Nat.zero_le _⟩ dX3_readStep_83 (fun H locs hP hD hS => ?_)
  refine lv_istore (lv' := [(6, .int q11.1), (0, .ref h0), (1, .ref h2), (2, .int x2), (3, .int x3), (4, .int x4), (5, .int x5)]) hx hb dX3_readStep_86 hl (by decide) rfl (fun ls hl => ?_)
  refine lv_aload_n hx hb dX3_readStep_88 rfl (lv_at hl 1 rfl) ?_
  refine va_get (D := D) (ci := 3) (v := .ref (a0 0)) (C := RX3) (T := TX3) (N := 1) hx hb hts hiX3 hown hK hP 0 rfl rfl 0 (by decide) (hts _ flX3_9) (fun _ h9 => h9) rfl dX3_readStep_89 ?_
  obtain ⟨q12, hq12, hf⟩ := bd_s hf
  refine k_pVi (wr := W3 cs h0 a0  ++ W2 cs h2 a2 i2 r2) (ws2 := W3 cs h0 a0  ++ (W9 cs (a0 0) a1 q11.2 r1 l1 ++ W2 cs h2 a2 i2 r2)) (As := []) (rest := []) hx hb hml hown hts hK hA hZ hl.1 hP hD hS (c_X9_failed (h0 := (a0 0)) (a0 := a1) hq12) (gVt mlX3_44 imX9_failed seX9_failed inX9 coX9_failed) rfl qnX9_failed rfl rfl ⟨Nat.le_of_ble_eq_true rfl, Nat.le_of_ble_eq_true rfl⟩ [1, 2, 3, 4, 5, 6] [0, 7, 8, 9, 10, 11] [0, 6, 7, 8, 9, 10, 11, 1, 2, 3, 4, 5] rfl rfl rfl (by decide) 0 9 rfl rfl rfl rfl rfl (Nat.le_of_ble_eq_true rfl) ⟨Nat.zero_le _, Nat.zero_le _⟩ dX3_readStep_92 (fun H locs hP hD hS => ?_)
  refine lv_if_eq (tgt := 99) hx hb dX3_readStep_95 (by decide) (fun hc => ?_) (fun hc => ?_)
  · have hf := ite_t hf hc
    refine lv_iload_n hx hb dX3_readStep_99 rfl (lv_at hl 3 rfl) ?_
    refine lv_if_eq (tgt := 115) hx hb dX3_readStep_100 (by decide) (fun hc => ?_) (fun hc => ?_)
    · have hf := ite_t hf hc
      refine lv_aload_n hx hb dX3_readStep_115 rfl (lv_at hl 2 rfl) ?_
      refine lv_iload_n hx hb dX3_readStep_116 rfl (lv_at hl 4 rfl) ?_
      refine lv_iload hx hb dX3_readStep_117 (lv_at hl 0 rfl) ?_
      obtain ⟨q13, hq13, hf⟩ := bd_s hf
      refine k_pVv (wr := W3 cs h0 a0  ++ W9 cs (a0 0) a1 q11.2 r1 l1) (ws2 := W3 cs h0 a0  ++ (W9 cs (a0 0) a1 q11.2 r1 l1 ++ W2 cs h2 a2 q13.1 q13.2)) (As := [.int x3, .int q11.1]) (rest := []) hx hb hml hown hts hK hA hZ hl.1 hP hD hS (c_X2_addTurn (h0 := h2) (a0 := a2) hq13) (gVt mlX3_68 imX2_addTurn seX2_addTurn inX2 coX2_addTurn) rfl qnX2_addTurn rfl rfl ⟨Nat.le_of_ble_eq_true rfl, Nat.le_of_ble_eq_true rfl⟩ [7, 8, 9, 10, 11] [0, 1, 2, 3, 4, 5, 6] [0, 1, 2, 3, 4, 5, 6, 7, 8, 9, 10, 11] rfl rfl rfl (by decide) 0 2 rfl rfl rfl rfl rfl (Nat.le_of_ble_eq_true rfl) ⟨Nat.zero_le _, Nat.zero_le _⟩ dX3_readStep_119 (fun H locs hP hD hS => ?_)
      obtain rfl := Option.some.inj hf
      exact k_vret hx hb hr hlocks hK hP hD hS dX3_readStep_122
    · have hf := ite_f hf hc
      refine lv_aload_n hx hb dX3_readStep_103 rfl (lv_at hl 2 rfl) ?_
      refine lv_iload_n hx hb dX3_readStep_104 rfl (lv_at hl 4 rfl) ?_
      refine lv_iload hx hb dX3_readStep_105 (lv_at hl 6 rfl) ?_
      refine lv_iload hx hb dX3_readStep_107 (lv_at hl 0 rfl) ?_
      obtain ⟨q14, hq14, hf⟩ := bd_s hf
      refine k_pVv (wr := W3 cs h0 a0  ++ W9 cs (a0 0) a1 q11.2 r1 l1) (ws2 := W3 cs h0 a0  ++ (W9 cs (a0 0) a1 q11.2 r1 l1 ++ W2 cs h2 a2 q14.1 q14.2)) (As := [.int x3, .int x5, .int q11.1]) (rest := []) hx hb hml hown hts hK hA hZ hl.1 hP hD hS (c_X2_addSwap (h0 := h2) (a0 := a2) hq14) (gVt mlX3_64 imX2_addSwap seX2_addSwap inX2 coX2_addSwap) rfl qnX2_addSwap rfl rfl ⟨Nat.le_of_ble_eq_true rfl, Nat.le_of_ble_eq_true rfl⟩ [7, 8, 9, 10, 11] [0, 1, 2, 3, 4, 5, 6] [0, 1, 2, 3, 4, 5, 6, 7, 8, 9, 10, 11] rfl rfl rfl (by decide) 0 2 rfl rfl rfl rfl rfl (Nat.le_of_ble_eq_true rfl) ⟨Nat.zero_le _, Nat.zero_le _⟩ dX3_readStep_109 (fun H locs hP hD hS => ?_)
      refine lv_goto (tgt := 122) hx hb dX3_readStep_112 (by decide) ?_
      obtain rfl := Option.some.inj hf
      exact k_vret hx hb hr hlocks hK hP hD hS dX3_readStep_122
  · have hf := ite_f hf hc
    obtain rfl := Option.some.inj hf
    exact k_vret hx hb hr hlocks hK hP hD hS dX3_readStep_98
def f_X3_readStep_34 (r1 : Nat → Nat → Int32) (l1 : Nat → Nat → Int64)  (i1 : Nat → Int32) (i2 : Nat → Int32) (r2 : Nat → Nat → Int32) (y0 : Int32) : Option ((Nat → Int32) × (Nat → Int32) × (Nat → Nat → Int32)) := bd (f_X9_advance i1 r1 l1) (fun q15 => bd (f_X3_readLane q15 r1 l1 i2 r2 0) (fun q16 => if y0 = 0 then (f_X3_readStep_79 r1 l1 q16.2 i2 r2 y0 q16.1 ((1 : Int32) <<< (q16.1 &&& 31)) (-1)) else (bd (f_X3_readLane q16.2 r1 l1 i2 r2 ((1 : Int32) <<< (q16.1 &&& 31))) (fun q17 => f_X3_readStep_79 r1 l1 q17.2 i2 r2 y0 q16.1 (((1 : Int32) <<< (q16.1 &&& 31)) ||| ((1 : Int32) <<< (q17.1 &&& 31))) q17.1))))
set_option maxRecDepth 100000 in
set_option maxHeartbeats 4000000 in
theorem w_X3_readStep_34 {p : Program} {l : Launch} {e : Env} {s : State} {m : MethodId} {args : Array Value} {below : List Frame} {meth : Method} {c : Code} {A : Nat → Prop} {D : va_G} {cs zs : Nat → Nat} {h0 : Nat} {a0 : Nat → Nat} {a1 : Nat → Nat} {h2 : Nat} {a2 : Nat → Nat} {r1 : Nat → Nat → Int32} {l1 : Nat → Nat → Int64} {q : (Nat → Int32) × (Nat → Int32) × (Nat → Nat → Int32)} (C : Cx p s m args meth c A D cs zs cX3_readStep 7 none RX3)  : ∀ (i1 : Nat → Int32) (i2 : Nat → Int32) (r2 : Nat → Nat → Int32) (y0 : Int32) (H : Heap) (locs : List Loc) (ls : Array Slot), f_X3_readStep_34 r1 l1 i1 i2 r2 y0 = some q → va_P D vwCl (W3 cs h0 a0  ++ (W9 cs (a0 0) a1 i1 r1 l1 ++ W2 cs h2 a2 i2 r2)) H → va_D A (W3 cs h0 a0  ++ (W9 cs (a0 0) a1 i1 r1 l1 ++ W2 cs h2 a2 i2 r2)) → va_S A s.heap H locs → lv_has ls 7 [(0, .ref h0), (1, .ref h2)] → W p l e rmX3_readStep s m args below meth c H locs 0 0 (MQ below (Qv D cs A (W3 cs h0 a0  ++ (W9 cs (a0 0) a1 q.1 r1 l1 ++ W2 cs h2 a2 q.2.1 q.2.2))) args s 0 0 A) (F0 m 34 ls [.int y0]) := by
  obtain ⟨hx, hb, hr, hml, hown, hts, hK, hA, hlocks, hZ⟩ := id C
  intro i1 i2 r2 y0 H locs ls hf hP hD hS hl
  rw [f_X3_readStep_34] at hf
  refine lv_istore_n (lv' := [(2, .int y0), (0, .ref h0), (1, .ref h2)]) hx hb dX3_readStep_34 rfl hl (by decide) rfl (fun ls hl => ?_)
  refine lv_aload_n hx hb dX3_readStep_35 rfl (lv_at hl 1 rfl) ?_
  refine va_get (D := D) (ci := 3) (v := .ref (a0 0)) (C := RX3) (T := TX3) (N := 1) hx hb hts hiX3 hown hK hP 0 rfl rfl 0 (by decide) (hts _ flX3_9) (fun _ h9 => h9) rfl dX3_readStep_36 ?_
  obtain ⟨q15, hq15, hf⟩ := bd_s hf
  refine k_pVv (wr := W3 cs h0 a0  ++ W2 cs h2 a2 i2 r2) (ws2 := W3 cs h0 a0  ++ (W9 cs (a0 0) a1 q15 r1 l1 ++ W2 cs h2 a2 i2 r2)) (As := []) (rest := []) hx hb hml hown hts hK hA hZ hl.1 hP hD hS (c_X9_advance (h0 := (a0 0)) (a0 := a1) hq15) (gVt mlX3_54 imX9_advance seX9_advance inX9 coX9_advance) rfl qnX9_advance rfl rfl ⟨Nat.le_of_ble_eq_true rfl, Nat.le_of_ble_eq_true rfl⟩ [1, 2, 3, 4, 5, 6] [0, 7, 8, 9, 10, 11] [0, 6, 7, 8, 9, 10, 11, 1, 2, 3, 4, 5] rfl rfl rfl (by decide) 0 9 rfl rfl rfl rfl rfl (Nat.le_of_ble_eq_true rfl) ⟨Nat.zero_le _, Nat.zero_le _⟩ dX3_readStep_39 (fun H locs hP hD hS => ?_)
  refine lv_aload_n hx hb dX3_readStep_42 rfl (lv_at hl 1 rfl) ?_
  refine lv_aload_n hx hb dX3_readStep_43 rfl (lv_at hl 2 rfl) ?_
  refine lv_iconst (v := 0) hx hb dX3_readStep_44 (by decide) ?_
  obtain ⟨q16, hq16, hf⟩ := bd_s hf
  refine k_sVi (ws2 := W3 cs h0 a0  ++ (W9 cs (a0 0) a1 q16.2 r1 l1 ++ W2 cs h2 a2 i2 r2)) (As := [.ref h2, .int 0]) (rest := []) hx hb hml hown hts hK hA hZ hl.1 hP hD hS (c_X3_readLane (h0 := h0) (a0 := a0) (a1 := a1) (h2 := h2) (a2 := a2) hq16) (gVt mlX3_57 imX3_readLane seX3_readLane inX3 coX3_readLane) rfl qnX3_readLane rfl rfl ⟨Nat.le_of_ble_eq_true rfl, Nat.le_of_ble_eq_true rfl⟩ 0 3 rfl rfl rfl rfl rfl (Nat.le_of_ble_eq_true rfl) ⟨Nat.zero_le _, Nat.zero_le _⟩ dX3_readStep_45 (fun H locs hP hD hS => ?_)
  refine lv_istore_n (lv' := [(3, .int q16.1), (2, .int y0), (0, .ref h0), (1, .ref h2)]) hx hb dX3_readStep_48 rfl hl (by decide) rfl (fun ls hl => ?_)
  refine lv_iconst (v := 1) hx hb dX3_readStep_49 (by decide) ?_
  refine lv_iload_n hx hb dX3_readStep_50 rfl (lv_at hl 0 rfl) ?_
  refine lv_ishl hx hb dX3_readStep_51 ?_
  refine lv_istore (lv' := [(4, .int ((1 : Int32) <<< (q16.1 &&& 31))), (3, .int q16.1), (2, .int y0), (0, .ref h0), (1, .ref h2)]) hx hb dX3_readStep_52 hl (by decide) rfl (fun ls hl => ?_)
  refine lv_iconst (v := (-1)) hx hb dX3_readStep_54 (by decide) ?_
  refine lv_istore (lv' := [(5, .int (-1)), (4, .int ((1 : Int32) <<< (q16.1 &&& 31))), (3, .int q16.1), (2, .int y0), (0, .ref h0), (1, .ref h2)]) hx hb dX3_readStep_55 hl (by decide) rfl (fun ls hl => ?_)
  refine lv_iload_n hx hb dX3_readStep_57 rfl (lv_at hl 3 rfl) ?_
  refine lv_if_eq (tgt := 79) hx hb dX3_readStep_58 (by decide) (fun hc => ?_) (fun hc => ?_)
  · have hf := ite_t hf hc
    exact w_X3_readStep_79 C  _ _ _ _ _ _ _ _ _ _ hf hP hD hS (lv_sub hl [4, 5, 3, 2, 1, 0] rfl)
  · have hf := ite_f hf hc
    refine lv_aload_n hx hb dX3_readStep_61 rfl (lv_at hl 4 rfl) ?_
    refine lv_aload_n hx hb dX3_readStep_62 rfl (lv_at hl 5 rfl) ?_
    refine lv_iload hx hb dX3_readStep_63 (lv_at hl 1 rfl) ?_
    obtain ⟨q17, hq17, hf⟩ := bd_s hf
    refine k_sVi (ws2 := W3 cs h0 a0  ++ (W9 cs (a0 0) a1 q17.2 r1 l1 ++ W2 cs h2 a2 i2 r2)) (As := [.ref h2, .int ((1 : Int32) <<< (q16.1 &&& 31))]) (rest := []) hx hb hml hown hts hK hA hZ hl.1 hP hD hS (c_X3_readLane (h0 := h0) (a0 := a0) (a1 := a1) (h2 := h2) (a2 := a2) hq17) (gVt mlX3_57 imX3_readLane seX3_readLane inX3 coX3_readLane) rfl qnX3_readLane rfl rfl ⟨Nat.le_of_ble_eq_true rfl, Nat.le_of_ble_eq_true rfl⟩ 0 3 rfl rfl rfl rfl rfl (Nat.le_of_ble_eq_true rfl) ⟨Nat.zero_le _, Nat.zero_le _⟩ dX3_readStep_65 (fun H locs hP hD hS => ?_)
    refine lv_istore (lv' := [(5, .int q17.1), (4, .int ((1 : Int32) <<< (q16.1 &&& 31))), (3, .int q16.1), (2, .int y0), (0, .ref h0), (1, .ref h2)]) hx hb dX3_readStep_68 hl (by decide) rfl (fun ls hl => ?_)
    refine lv_iload hx hb dX3_readStep_70 (lv_at hl 1 rfl) ?_
    refine lv_iconst (v := 1) hx hb dX3_readStep_72 (by decide) ?_
    refine lv_iload hx hb dX3_readStep_73 (lv_at hl 0 rfl) ?_
    refine lv_ishl hx hb dX3_readStep_75 ?_
    refine lv_ior hx hb dX3_readStep_76 ?_
    refine lv_istore (lv' := [(4, .int (((1 : Int32) <<< (q16.1 &&& 31)) ||| ((1 : Int32) <<< (q17.1 &&& 31)))), (5, .int q17.1), (3, .int q16.1), (2, .int y0), (0, .ref h0), (1, .ref h2)]) hx hb dX3_readStep_77 hl (by decide) rfl (fun ls hl => ?_)
    exact w_X3_readStep_79 C  _ _ _ _ _ _ _ _ _ _ hf hP hD hS (lv_sub hl [4, 5, 3, 2, 0, 1] rfl)
def f_X3_readStep  (i1 : Nat → Int32) (r1 : Nat → Nat → Int32) (l1 : Nat → Nat → Int64) (i2 : Nat → Int32) (r2 : Nat → Nat → Int32)  : Option ((Nat → Int32) × (Nat → Int32) × (Nat → Nat → Int32)) := bd (f_X2_steps i2 r2) (fun q18 => if q18 < 40 then (bd (f_X9_key i1 r1 l1) (fun q19 => if q19 = 3 then (f_X3_readStep_34 r1 l1 i1 i2 r2 1) else (f_X3_readStep_34 r1 l1 i1 i2 r2 0))) else (bd (f_X9_fail i1 r1 l1 4) (fun q20 => some (q20, i2, r2))))
set_option maxRecDepth 100000 in
set_option maxHeartbeats 4000000 in
theorem c_X3_readStep {l : Launch} {D : va_G} {cs zs : Nat → Nat} {h0 : Nat} {a0 : Nat → Nat} {a1 : Nat → Nat} {h2 : Nat} {a2 : Nat → Nat} {i1 : Nat → Int32} {r1 : Nat → Nat → Int32} {l1 : Nat → Nat → Int64} {i2 : Nat → Int32} {r2 : Nat → Nat → Int32}  {q : (Nat → Int32) × (Nat → Int32) × (Nat → Nat → Int32)} (hf : f_X3_readStep i1 r1 l1 i2 r2 = some q) : Mv l yX3_readStep wlX3_readStep rmX3_readStep D cs zs [.ref h0, .ref h2] (W3 cs h0 a0  ++ (W9 cs (a0 0) a1 i1 r1 l1 ++ W2 cs h2 a2 i2 r2)) (W3 cs h0 a0  ++ (W9 cs (a0 0) a1 q.1 r1 l1 ++ W2 cs h2 a2 q.2.1 q.2.2)) := by
  refine Mv.of RX3 (by decide) rfl (Nat.le_of_ble_eq_true rfl) (fun p e s m below meth c A C hP hD hS ls hl => ?_)
  generalize ([.ref h0, .ref h2] : List Value).toArray = args at C ⊢
  obtain ⟨hx, hb, hr, hml, hown, hts, hK, hA, hlocks, hZ⟩ := id C
  have hl : lv_has ls 7 [(0, .ref h0), (1, .ref h2)] := hl
  rw [f_X3_readStep] at hf
  refine lv_aload_n hx hb dX3_readStep_0 rfl (lv_at hl 1 rfl) ?_
  obtain ⟨q18, hq18, hf⟩ := bd_s hf
  refine k_pVi (wr := W3 cs h0 a0  ++ W9 cs (a0 0) a1 i1 r1 l1) (ws2 := W3 cs h0 a0  ++ (W9 cs (a0 0) a1 i1 r1 l1 ++ W2 cs h2 a2 i2 r2)) (As := []) (rest := []) hx hb hml hown hts hK hA hZ hl.1 hP hD hS (c_X2_steps (h0 := h2) (a0 := a2) hq18) (gVt mlX3_48 imX2_steps seX2_steps inX2 coX2_steps) rfl qnX2_steps rfl rfl ⟨Nat.le_of_ble_eq_true rfl, Nat.le_of_ble_eq_true rfl⟩ [7, 8, 9, 10, 11] [0, 1, 2, 3, 4, 5, 6] [0, 1, 2, 3, 4, 5, 6, 7, 8, 9, 10, 11] rfl rfl rfl (by decide) 0 2 rfl rfl rfl rfl rfl (Nat.le_of_ble_eq_true rfl) ⟨Nat.zero_le _, Nat.zero_le _⟩ dX3_readStep_1 (fun H locs hP hD hS => ?_)
  refine lv_bipush (v := 40) hx hb dX3_readStep_4 (by decide) ?_
  refine lv_icmp_lt (tgt := 18) hx hb dX3_readStep_6 (by decide) (fun hc => ?_) (fun hc => ?_)
  · have hf := ite_t hf hc
    refine lv_aload_n hx hb dX3_readStep_18 rfl (lv_at hl 0 rfl) ?_
    refine va_get (D := D) (ci := 3) (v := .ref (a0 0)) (C := RX3) (T := TX3) (N := 1) hx hb hts hiX3 hown hK hP 0 rfl rfl 0 (by decide) (hts _ flX3_9) (fun _ h9 => h9) rfl dX3_readStep_19 ?_
    obtain ⟨q19, hq19, hf⟩ := bd_s hf
    refine k_pVi (wr := W3 cs h0 a0  ++ W2 cs h2 a2 i2 r2) (ws2 := W3 cs h0 a0  ++ (W9 cs (a0 0) a1 i1 r1 l1 ++ W2 cs h2 a2 i2 r2)) (As := []) (rest := []) hx hb hml hown hts hK hA hZ hl.1 hP hD hS (c_X9_key (h0 := (a0 0)) (a0 := a1) hq19) (gVt mlX3_36 imX9_key seX9_key inX9 coX9_key) rfl qnX9_key rfl rfl ⟨Nat.le_of_ble_eq_true rfl, Nat.le_of_ble_eq_true rfl⟩ [1, 2, 3, 4, 5, 6] [0, 7, 8, 9, 10, 11] [0, 6, 7, 8, 9, 10, 11, 1, 2, 3, 4, 5] rfl rfl rfl (by decide) 0 9 rfl rfl rfl rfl rfl (Nat.le_of_ble_eq_true rfl) ⟨Nat.zero_le _, Nat.zero_le _⟩ dX3_readStep_22 (fun H locs hP hD hS => ?_)
    refine lv_iconst (v := 3) hx hb dX3_readStep_25 (by decide) ?_
    refine lv_icmp_ne (tgt := 33) hx hb dX3_readStep_26 (by decide) (fun hc => ?_) (fun hc => ?_)
    · have hf := ite_f hf hc
      refine lv_iconst (v := 0) hx hb dX3_readStep_33 (by decide) ?_
      exact w_X3_readStep_34 C  _ _ _ _ _ _ _ hf hP hD hS (lv_sub hl [0, 1] rfl)
    · have hf := ite_t hf hc
      refine lv_iconst (v := 1) hx hb dX3_readStep_29 (by decide) ?_
      refine lv_goto (tgt := 34) hx hb dX3_readStep_30 (by decide) ?_
      exact w_X3_readStep_34 C  _ _ _ _ _ _ _ hf hP hD hS (lv_sub hl [0, 1] rfl)
  · have hf := ite_f hf hc
    refine lv_aload_n hx hb dX3_readStep_9 rfl (lv_at hl 0 rfl) ?_
    refine va_get (D := D) (ci := 3) (v := .ref (a0 0)) (C := RX3) (T := TX3) (N := 1) hx hb hts hiX3 hown hK hP 0 rfl rfl 0 (by decide) (hts _ flX3_9) (fun _ h9 => h9) rfl dX3_readStep_10 ?_
    refine lv_iconst (v := 4) hx hb dX3_readStep_13 (by decide) ?_
    obtain ⟨q20, hq20, hf⟩ := bd_s hf
    refine k_pVv (wr := W3 cs h0 a0  ++ W2 cs h2 a2 i2 r2) (ws2 := W3 cs h0 a0  ++ (W9 cs (a0 0) a1 q20 r1 l1 ++ W2 cs h2 a2 i2 r2)) (As := [.int 4]) (rest := []) hx hb hml hown hts hK hA hZ hl.1 hP hD hS (c_X9_fail (h0 := (a0 0)) (a0 := a1) hq20) (gVt mlX3_51 imX9_fail seX9_fail inX9 coX9_fail) rfl qnX9_fail rfl rfl ⟨Nat.le_of_ble_eq_true rfl, Nat.le_of_ble_eq_true rfl⟩ [1, 2, 3, 4, 5, 6] [0, 7, 8, 9, 10, 11] [0, 6, 7, 8, 9, 10, 11, 1, 2, 3, 4, 5] rfl rfl rfl (by decide) 0 9 rfl rfl rfl rfl rfl (Nat.le_of_ble_eq_true rfl) ⟨Nat.zero_le _, Nat.zero_le _⟩ dX3_readStep_14 (fun H locs hP hD hS => ?_)
    obtain rfl := Option.some.inj hf
    exact k_vret hx hb hr hlocks hK hP hD hS dX3_readStep_17
/-! MarbleFloor$FloorReader.readInto(LMarbleFloor$Floor;)Z -/
abbrev wlX3_readInto : List Cond := Cond.code yX3_readInto cX3_readInto 3 (some .boolean) :: tbG
abbrev rmX3_readInto : Room := { frames := 5, cells := 0, slots := 0, locals := 116 }
theorem qnX3_readInto : yX3_readInto.cls = RX3 ∧ yX3_readInto.cls ≠ "java/lang/invoke/MethodHandle" ∧ yX3_readInto.cls ≠ "java/lang/invoke/VarHandle" ∧ (parseMethodDescriptor yX3_readInto.desc).map (fun d => d.parameters.length) = some 1 := by decide +kernel
def f_X3_readInto_70  (K41 : (Nat → Int32) → (Nat → Nat → Int64) → (Nat → Nat → Int32) → (Nat → Int32) → (Nat → Nat → Int32) → Int32 → Option (Int32 × (Nat → Int32) × (Nat → Nat → Int64) × (Nat → Nat → Int32) × (Nat → Int32) × (Nat → Nat → Int32))) (i1 : Nat → Int32) (l1 : Nat → Nat → Int64) (r1 : Nat → Nat → Int32) (i2 : Nat → Int32) (r2 : Nat → Nat → Int32) (x2 : Int32) : Option (Int32 × (Nat → Int32) × (Nat → Nat → Int64) × (Nat → Nat → Int32) × (Nat → Int32) × (Nat → Nat → Int32)) := bd (f_X3_readStep i1 r1 l1 i2 r2) (fun q12 => bd (f_X9_wantKind q12.1 r1 l1 59) (fun q13 => K41 q13 l1 r1 q12.2.1 q12.2.2 (x2 + 1)))
set_option maxRecDepth 100000 in
set_option maxHeartbeats 4000000 in
theorem w_X3_readInto_70 {p : Program} {l : Launch} {e : Env} {s : State} {m : MethodId} {args : Array Value} {below : List Frame} {meth : Method} {c : Code} {A : Nat → Prop} {D : va_G} {cs zs : Nat → Nat} {h0 : Nat} {a0 : Nat → Nat} {a1 : Nat → Nat} {h2 : Nat} {a2 : Nat → Nat}  {q : Int32 × (Nat → Int32) × (Nat → Nat → Int64) × (Nat → Nat → Int32) × (Nat → Int32) × (Nat → Nat → Int32)} (C : Cx p s m args meth c A D cs zs cX3_readInto 3 (some .boolean) RX3) (K41 : (Nat → Int32) → (Nat → Nat → Int64) → (Nat → Nat → Int32) → (Nat → Int32) → (Nat → Nat → Int32) → Int32 → Option (Int32 × (Nat → Int32) × (Nat → Nat → Int64) × (Nat → Nat → Int32) × (Nat → Int32) × (Nat → Nat → Int32))) (hK41 : ∀ (i1 : Nat → Int32) (l1 : Nat → Nat → Int64) (r1 : Nat → Nat → Int32) (i2 : Nat → Int32) (r2 : Nat → Nat → Int32) (x2 : Int32) (H : Heap) (locs : List Loc) (ls : Array Slot), K41 i1 l1 r1 i2 r2 x2 = some q → va_P D vwCl (W3 cs h0 a0  ++ (W9 cs (a0 0) a1 i1 r1 l1 ++ W2 cs h2 a2 i2 r2)) H → va_D A (W3 cs h0 a0  ++ (W9 cs (a0 0) a1 i1 r1 l1 ++ W2 cs h2 a2 i2 r2)) → va_S A s.heap H locs → lv_has ls 3 [(0, .ref h0), (1, .ref h2), (2, .int x2)] → W p l e rmX3_readInto s m args below meth c H locs 0 0 (MQ below (Qi D cs A q.1 (W3 cs h0 a0  ++ (W9 cs (a0 0) a1 q.2.1 q.2.2.2.1 q.2.2.1 ++ W2 cs h2 a2 q.2.2.2.2.1 q.2.2.2.2.2))) args s 0 0 A) (F0 m 41 ls [])) : ∀ (i1 : Nat → Int32) (l1 : Nat → Nat → Int64) (r1 : Nat → Nat → Int32) (i2 : Nat → Int32) (r2 : Nat → Nat → Int32) (x2 : Int32) (H : Heap) (locs : List Loc) (ls : Array Slot), f_X3_readInto_70 K41 i1 l1 r1 i2 r2 x2 = some q → va_P D vwCl (W3 cs h0 a0  ++ (W9 cs (a0 0) a1 i1 r1 l1 ++ W2 cs h2 a2 i2 r2)) H → va_D A (W3 cs h0 a0  ++ (W9 cs (a0 0) a1 i1 r1 l1 ++ W2 cs h2 a2 i2 r2)) → va_S A s.heap H locs → lv_has ls 3 [(0, .ref h0), (1, .ref h2), (2, .int x2)] → W p l e rmX3_readInto s m args below meth c H locs 0 0 (MQ below (Qi D cs A q.1 (W3 cs h0 a0  ++ (W9 cs (a0 0) a1 q.2.1 q.2.2.2.1 q.2.2.1 ++ W2 cs h2 a2 q.2.2.2.2.1 q.2.2.2.2.2))) args s 0 0 A) (F0 m 70 ls []) := by
  obtain ⟨hx, hb, hr, hml, hown, hts, hK, hA, hlocks, hZ⟩ := id C
  intro i1 l1 r1 i2 r2 x2 H locs ls hf hP hD hS hl
  rw [f_X3_readInto_70] at hf
  refine lv_aload_n hx hb dX3_readInto_70 rfl (lv_at hl 0 rfl) ?_
  refine lv_aload_n hx hb dX3_readInto_71 rfl (lv_at hl 1 rfl) ?_
  obtain ⟨q12, hq12, hf⟩ := bd_s hf
  refine k_sVv (ws2 := W3 cs h0 a0  ++ (W9 cs (a0 0) a1 q12.1 r1 l1 ++ W2 cs h2 a2 q12.2.1 q12.2.2)) (As := [.ref h2]) (rest := []) hx hb hml hown hts hK hA hZ hl.1 hP hD hS (c_X3_readStep (h0 := h0) (a0 := a0) (a1 := a1) (h2 := h2) (a2 := a2) hq12) (gVt mlX3_40 imX3_readStep seX3_readStep inX3 coX3_readStep) rfl qnX3_readStep rfl rfl ⟨Nat.le_of_ble_eq_true rfl, Nat.le_of_ble_eq_true rfl⟩ 0 3 rfl rfl rfl rfl rfl (Nat.le_of_ble_eq_true rfl) ⟨Nat.zero_le _, Nat.zero_le _⟩ dX3_readInto_72 (fun H locs hP hD hS => ?_)
  refine lv_aload_n hx hb dX3_readInto_75 rfl (lv_at hl 0 rfl) ?_
  refine va_get (D := D) (ci := 3) (v := .ref (a0 0)) (C := RX3) (T := TX3) (N := 1) hx hb hts hiX3 hown hK hP 0 rfl rfl 0 (by decide) (hts _ flX3_9) (fun _ h9 => h9) rfl dX3_readInto_76 ?_
  refine lv_bipush (v := 59) hx hb dX3_readInto_79 (by decide) ?_
  obtain ⟨q13, hq13, hf⟩ := bd_s hf
  refine k_pVv (wr := W3 cs h0 a0  ++ W2 cs h2 a2 q12.2.1 q12.2.2) (ws2 := W3 cs h0 a0  ++ (W9 cs (a0 0) a1 q13 r1 l1 ++ W2 cs h2 a2 q12.2.1 q12.2.2)) (As := [.int 59]) (rest := []) hx hb hml hown hts hK hA hZ hl.1 hP hD hS (c_X9_wantKind (h0 := (a0 0)) (a0 := a1) hq13) (gVt mlX3_33 imX9_wantKind seX9_wantKind inX9 coX9_wantKind) rfl qnX9_wantKind rfl rfl ⟨Nat.le_of_ble_eq_true rfl, Nat.le_of_ble_eq_true rfl⟩ [1, 2, 3, 4, 5, 6] [0, 7, 8, 9, 10, 11] [0, 6, 7, 8, 9, 10, 11, 1, 2, 3, 4, 5] rfl rfl rfl (by decide) 0 9 rfl rfl rfl rfl rfl (Nat.le_of_ble_eq_true rfl) ⟨Nat.zero_le _, Nat.zero_le _⟩ dX3_readInto_81 (fun H locs hP hD hS => ?_)
  refine lv_iinc (v := x2 + 1) (lv' := [(2, .int (x2 + 1)), (0, .ref h0), (1, .ref h2)]) hx hb dX3_readInto_84 hl (k := 2) rfl rfl (by decide) rfl (fun ls hl => ?_)
  refine lv_goto (tgt := 41) hx hb dX3_readInto_87 (by decide) ?_
  exact hK41 _ _ _ _ _ _ _ _ _ hf hP hD hS (lv_sub hl [1, 2, 0] rfl)
def f_X3_readInto_90   (i1 : Nat → Int32) (l1 : Nat → Nat → Int64) (r1 : Nat → Nat → Int32) (i2 : Nat → Int32) (r2 : Nat → Nat → Int32) : Option (Int32 × (Nat → Int32) × (Nat → Nat → Int64) × (Nat → Nat → Int32) × (Nat → Int32) × (Nat → Nat → Int32)) := bd (f_X9_wantKind i1 r1 l1 0) (fun q14 => bd (f_X9_failed q14 r1 l1) (fun q15 => if q15 = 0 then (some (1, q14, l1, r1, i2, r2)) else (some (0, q14, l1, r1, i2, r2))))
set_option maxRecDepth 100000 in
set_option maxHeartbeats 4000000 in
theorem w_X3_readInto_90 {p : Program} {l : Launch} {e : Env} {s : State} {m : MethodId} {args : Array Value} {below : List Frame} {meth : Method} {c : Code} {A : Nat → Prop} {D : va_G} {cs zs : Nat → Nat} {h0 : Nat} {a0 : Nat → Nat} {a1 : Nat → Nat} {h2 : Nat} {a2 : Nat → Nat}  {q : Int32 × (Nat → Int32) × (Nat → Nat → Int64) × (Nat → Nat → Int32) × (Nat → Int32) × (Nat → Nat → Int32)} (C : Cx p s m args meth c A D cs zs cX3_readInto 3 (some .boolean) RX3)  : ∀ (i1 : Nat → Int32) (l1 : Nat → Nat → Int64) (r1 : Nat → Nat → Int32) (i2 : Nat → Int32) (r2 : Nat → Nat → Int32) (H : Heap) (locs : List Loc) (ls : Array Slot), f_X3_readInto_90 i1 l1 r1 i2 r2 = some q → va_P D vwCl (W3 cs h0 a0  ++ (W9 cs (a0 0) a1 i1 r1 l1 ++ W2 cs h2 a2 i2 r2)) H → va_D A (W3 cs h0 a0  ++ (W9 cs (a0 0) a1 i1 r1 l1 ++ W2 cs h2 a2 i2 r2)) → va_S A s.heap H locs → lv_has ls 3 [(0, .ref h0)] → W p l e rmX3_readInto s m args below meth c H locs 0 0 (MQ below (Qi D cs A q.1 (W3 cs h0 a0  ++ (W9 cs (a0 0) a1 q.2.1 q.2.2.2.1 q.2.2.1 ++ W2 cs h2 a2 q.2.2.2.2.1 q.2.2.2.2.2))) args s 0 0 A) (F0 m 90 ls []) := by
  obtain ⟨hx, hb, hr, hml, hown, hts, hK, hA, hlocks, hZ⟩ := id C
  intro i1 l1 r1 i2 r2 H locs ls hf hP hD hS hl
  rw [f_X3_readInto_90] at hf
  refine lv_aload_n hx hb dX3_readInto_90 rfl (lv_at hl 0 rfl) ?_
  refine va_get (D := D) (ci := 3) (v := .ref (a0 0)) (C := RX3) (T := TX3) (N := 1) hx hb hts hiX3 hown hK hP 0 rfl rfl 0 (by decide) (hts _ flX3_9) (fun _ h9 => h9) rfl dX3_readInto_91 ?_
  refine lv_iconst (v := 0) hx hb dX3_readInto_94 (by decide) ?_
  obtain ⟨q14, hq14, hf⟩ := bd_s hf
  refine k_pVv (wr := W3 cs h0 a0  ++ W2 cs h2 a2 i2 r2) (ws2 := W3 cs h0 a0  ++ (W9 cs (a0 0) a1 q14 r1 l1 ++ W2 cs h2 a2 i2 r2)) (As := [.int 0]) (rest := []) hx hb hml hown hts hK hA hZ hl.1 hP hD hS (c_X9_wantKind (h0 := (a0 0)) (a0 := a1) hq14) (gVt mlX3_33 imX9_wantKind seX9_wantKind inX9 coX9_wantKind) rfl qnX9_wantKind rfl rfl ⟨Nat.le_of_ble_eq_true rfl, Nat.le_of_ble_eq_true rfl⟩ [1, 2, 3, 4, 5, 6] [0, 7, 8, 9, 10, 11] [0, 6, 7, 8, 9, 10, 11, 1, 2, 3, 4, 5] rfl rfl rfl (by decide) 0 9 rfl rfl rfl rfl rfl (Nat.le_of_ble_eq_true rfl) ⟨Nat.zero_le _, Nat.zero_le _⟩ dX3_readInto_95 (fun H locs hP hD hS => ?_)
  refine lv_aload_n hx hb dX3_readInto_98 rfl (lv_at hl 0 rfl) ?_
  refine va_get (D := D) (ci := 3) (v := .ref (a0 0)) (C := RX3) (T := TX3) (N := 1) hx hb hts hiX3 hown hK hP 0 rfl rfl 0 (by decide) (hts _ flX3_9) (fun _ h9 => h9) rfl dX3_readInto_99 ?_
  obtain ⟨q15, hq15, hf⟩ := bd_s hf
  refine k_pVi (wr := W3 cs h0 a0  ++ W2 cs h2 a2 i2 r2) (ws2 := W3 cs h0 a0  ++ (W9 cs (a0 0) a1 q14 r1 l1 ++ W2 cs h2 a2 i2 r2)) (As := []) (rest := []) hx hb hml hown hts hK hA hZ hl.1 hP hD hS (c_X9_failed (h0 := (a0 0)) (a0 := a1) hq15) (gVt mlX3_44 imX9_failed seX9_failed inX9 coX9_failed) rfl qnX9_failed rfl rfl ⟨Nat.le_of_ble_eq_true rfl, Nat.le_of_ble_eq_true rfl⟩ [1, 2, 3, 4, 5, 6] [0, 7, 8, 9, 10, 11] [0, 6, 7, 8, 9, 10, 11, 1, 2, 3, 4, 5] rfl rfl rfl (by decide) 0 9 rfl rfl rfl rfl rfl (Nat.le_of_ble_eq_true rfl) ⟨Nat.zero_le _, Nat.zero_le _⟩ dX3_readInto_102 (fun H locs hP hD hS => ?_)
  refine lv_if_ne (tgt := 112) hx hb dX3_readInto_105 (by decide) (fun hc => ?_) (fun hc => ?_)
  · have hf := ite_f hf hc
    refine lv_iconst (v := 0) hx hb dX3_readInto_112 (by decide) ?_
    obtain rfl := Option.some.inj hf
    exact k_zret (r := 0) hx hb hr hlocks rfl hK hP hD hS dX3_readInto_113
  · have hf := ite_t hf hc
    refine lv_iconst (v := 1) hx hb dX3_readInto_108 (by decide) ?_
    refine lv_goto (tgt := 113) hx hb dX3_readInto_109 (by decide) ?_
    obtain rfl := Option.some.inj hf
    exact k_zret (r := 1) hx hb hr hlocks rfl hK hP hD hS dX3_readInto_113
def f_X3_readInto_41   : Nat → (Nat → Int32) → (Nat → Nat → Int64) → (Nat → Nat → Int32) → (Nat → Int32) → (Nat → Nat → Int32) → Int32 → Option (Int32 × (Nat → Int32) × (Nat → Nat → Int64) × (Nat → Nat → Int32) × (Nat → Int32) × (Nat → Nat → Int32))
  | 0, _, _, _, _, _, _ => none
  | n + 1, i1, l1, r1, i2, r2, x2 => if 40 < x2 then (f_X3_readInto_90 i1 l1 r1 i2 r2) else (bd (f_X9_key i1 r1 l1) (fun q16 => if q16 = 18 then (f_X3_readInto_70 (f_X3_readInto_41 n) i1 l1 r1 i2 r2 x2) else (bd (f_X9_key i1 r1 l1) (fun q17 => if q17 = 3 then (f_X3_readInto_70 (f_X3_readInto_41 n) i1 l1 r1 i2 r2 x2) else (f_X3_readInto_90 i1 l1 r1 i2 r2)))))
set_option maxRecDepth 100000 in
set_option maxHeartbeats 4000000 in
theorem w_X3_readInto_41 {p : Program} {l : Launch} {e : Env} {s : State} {m : MethodId} {args : Array Value} {below : List Frame} {meth : Method} {c : Code} {A : Nat → Prop} {D : va_G} {cs zs : Nat → Nat} {h0 : Nat} {a0 : Nat → Nat} {a1 : Nat → Nat} {h2 : Nat} {a2 : Nat → Nat}  {q : Int32 × (Nat → Int32) × (Nat → Nat → Int64) × (Nat → Nat → Int32) × (Nat → Int32) × (Nat → Nat → Int32)} (C : Cx p s m args meth c A D cs zs cX3_readInto 3 (some .boolean) RX3)  : ∀ (n : Nat), ∀ (i1 : Nat → Int32) (l1 : Nat → Nat → Int64) (r1 : Nat → Nat → Int32) (i2 : Nat → Int32) (r2 : Nat → Nat → Int32) (x2 : Int32) (H : Heap) (locs : List Loc) (ls : Array Slot), f_X3_readInto_41 n i1 l1 r1 i2 r2 x2 = some q → va_P D vwCl (W3 cs h0 a0  ++ (W9 cs (a0 0) a1 i1 r1 l1 ++ W2 cs h2 a2 i2 r2)) H → va_D A (W3 cs h0 a0  ++ (W9 cs (a0 0) a1 i1 r1 l1 ++ W2 cs h2 a2 i2 r2)) → va_S A s.heap H locs → lv_has ls 3 [(0, .ref h0), (1, .ref h2), (2, .int x2)] → W p l e rmX3_readInto s m args below meth c H locs 0 0 (MQ below (Qi D cs A q.1 (W3 cs h0 a0  ++ (W9 cs (a0 0) a1 q.2.1 q.2.2.2.1 q.2.2.1 ++ W2 cs h2 a2 q.2.2.2.2.1 q.2.2.2.2.2))) args s 0 0 A) (F0 m 41 ls []) := by
  obtain ⟨hx, hb, hr, hml, hown, hts, hK, hA, hlocks, hZ⟩ := id C
  intro n
  induction n with
  | zero =>
    intro i1 l1 r1 i2 r2 x2 H locs ls hf
    rw [f_X3_readInto_41] at hf
    cases hf
  | succ n ih =>
    intro i1 l1 r1 i2 r2 x2 H locs ls hf hP hD hS hl
    rw [f_X3_readInto_41] at hf
    refine lv_iload_n hx hb dX3_readInto_41 rfl (lv_at hl 2 rfl) ?_
    refine lv_bipush (v := 40) hx hb dX3_readInto_42 (by decide) ?_
    refine lv_icmp_gt (tgt := 90) hx hb dX3_readInto_44 (by decide) (fun hc => ?_) (fun hc => ?_)
    · have hf := ite_t hf hc
      exact w_X3_readInto_90 C  _ _ _ _ _ _ _ _ hf hP hD hS (lv_sub hl [0] rfl)
    · have hf := ite_f hf hc
      refine lv_aload_n hx hb dX3_readInto_47 rfl (lv_at hl 0 rfl) ?_
      refine va_get (D := D) (ci := 3) (v := .ref (a0 0)) (C := RX3) (T := TX3) (N := 1) hx hb hts hiX3 hown hK hP 0 rfl rfl 0 (by decide) (hts _ flX3_9) (fun _ h9 => h9) rfl dX3_readInto_48 ?_
      obtain ⟨q16, hq16, hf⟩ := bd_s hf
      refine k_pVi (wr := W3 cs h0 a0  ++ W2 cs h2 a2 i2 r2) (ws2 := W3 cs h0 a0  ++ (W9 cs (a0 0) a1 i1 r1 l1 ++ W2 cs h2 a2 i2 r2)) (As := []) (rest := []) hx hb hml hown hts hK hA hZ hl.1 hP hD hS (c_X9_key (h0 := (a0 0)) (a0 := a1) hq16) (gVt mlX3_36 imX9_key seX9_key inX9 coX9_key) rfl qnX9_key rfl rfl ⟨Nat.le_of_ble_eq_true rfl, Nat.le_of_ble_eq_true rfl⟩ [1, 2, 3, 4, 5, 6] [0, 7, 8, 9, 10, 11] [0, 6, 7, 8, 9, 10, 11, 1, 2, 3, 4, 5] rfl rfl rfl (by decide) 0 9 rfl rfl rfl rfl rfl (Nat.le_of_ble_eq_true rfl) ⟨Nat.zero_le _, Nat.zero_le _⟩ dX3_readInto_51 (fun H locs hP hD hS => ?_)
      refine lv_bipush (v := 18) hx hb dX3_readInto_54 (by decide) ?_
      refine lv_icmp_eq (tgt := 70) hx hb dX3_readInto_56 (by decide) (fun hc => ?_) (fun hc => ?_)
      · have hf := ite_t hf hc
        exact w_X3_readInto_70 C _ (ih) _ _ _ _ _ _ _ _ _ hf hP hD hS (lv_sub hl [0, 1, 2] rfl)
      · have hf := ite_f hf hc
        refine lv_aload_n hx hb dX3_readInto_59 rfl (lv_at hl 0 rfl) ?_
        refine va_get (D := D) (ci := 3) (v := .ref (a0 0)) (C := RX3) (T := TX3) (N := 1) hx hb hts hiX3 hown hK hP 0 rfl rfl 0 (by decide) (hts _ flX3_9) (fun _ h9 => h9) rfl dX3_readInto_60 ?_
        obtain ⟨q17, hq17, hf⟩ := bd_s hf
        refine k_pVi (wr := W3 cs h0 a0  ++ W2 cs h2 a2 i2 r2) (ws2 := W3 cs h0 a0  ++ (W9 cs (a0 0) a1 i1 r1 l1 ++ W2 cs h2 a2 i2 r2)) (As := []) (rest := []) hx hb hml hown hts hK hA hZ hl.1 hP hD hS (c_X9_key (h0 := (a0 0)) (a0 := a1) hq17) (gVt mlX3_36 imX9_key seX9_key inX9 coX9_key) rfl qnX9_key rfl rfl ⟨Nat.le_of_ble_eq_true rfl, Nat.le_of_ble_eq_true rfl⟩ [1, 2, 3, 4, 5, 6] [0, 7, 8, 9, 10, 11] [0, 6, 7, 8, 9, 10, 11, 1, 2, 3, 4, 5] rfl rfl rfl (by decide) 0 9 rfl rfl rfl rfl rfl (Nat.le_of_ble_eq_true rfl) ⟨Nat.zero_le _, Nat.zero_le _⟩ dX3_readInto_63 (fun H locs hP hD hS => ?_)
        refine lv_iconst (v := 3) hx hb dX3_readInto_66 (by decide) ?_
        refine lv_icmp_ne (tgt := 90) hx hb dX3_readInto_67 (by decide) (fun hc => ?_) (fun hc => ?_)
        · have hf := ite_f hf hc
          exact w_X3_readInto_90 C  _ _ _ _ _ _ _ _ hf hP hD hS (lv_sub hl [0] rfl)
        · have hf := ite_t hf hc
          exact w_X3_readInto_70 C _ (ih) _ _ _ _ _ _ _ _ _ hf hP hD hS (lv_sub hl [0, 1, 2] rfl)
def f_X3_readInto  (i1 : Nat → Int32) (r1 : Nat → Nat → Int32) (l1 : Nat → Nat → Int64) (i2 : Nat → Int32) (r2 : Nat → Nat → Int32)  : Option (Int32 × (Nat → Int32) × (Nat → Nat → Int64) × (Nat → Nat → Int32) × (Nat → Int32) × (Nat → Nat → Int32)) := bd (f_X9_begin i1 r1 l1) (fun q18 => bd (f_X9_wantKey q18.1 q18.2.2 q18.2.1 17) (fun q19 => bd (f_X9_wantNumber q19 q18.2.2 q18.2.1 1 8) (fun q20 => bd (f_X2_clear i2 r2 q20.1) (fun q21 => bd (f_X9_wantKind q20.2 q18.2.2 q18.2.1 59) (fun q22 => f_X3_readInto_41 2000000 q22 q18.2.1 q18.2.2 q21 r2 0)))))
set_option maxRecDepth 100000 in
set_option maxHeartbeats 4000000 in
theorem c_X3_readInto {l : Launch} {D : va_G} {cs zs : Nat → Nat} {h0 : Nat} {a0 : Nat → Nat} {a1 : Nat → Nat} {h2 : Nat} {a2 : Nat → Nat} {i1 : Nat → Int32} {r1 : Nat → Nat → Int32} {l1 : Nat → Nat → Int64} {i2 : Nat → Int32} {r2 : Nat → Nat → Int32}  {q : Int32 × (Nat → Int32) × (Nat → Nat → Int64) × (Nat → Nat → Int32) × (Nat → Int32) × (Nat → Nat → Int32)} (hf : f_X3_readInto i1 r1 l1 i2 r2 = some q) : Mi l yX3_readInto wlX3_readInto rmX3_readInto D cs zs [.ref h0, .ref h2] (W3 cs h0 a0  ++ (W9 cs (a0 0) a1 i1 r1 l1 ++ W2 cs h2 a2 i2 r2)) q.1 (W3 cs h0 a0  ++ (W9 cs (a0 0) a1 q.2.1 q.2.2.2.1 q.2.2.1 ++ W2 cs h2 a2 q.2.2.2.2.1 q.2.2.2.2.2)) := by
  refine Mi.of RX3 (by decide) rfl (Nat.le_of_ble_eq_true rfl) (fun p e s m below meth c A C hP hD hS ls hl => ?_)
  generalize ([.ref h0, .ref h2] : List Value).toArray = args at C ⊢
  obtain ⟨hx, hb, hr, hml, hown, hts, hK, hA, hlocks, hZ⟩ := id C
  have hl : lv_has ls 3 [(0, .ref h0), (1, .ref h2)] := hl
  rw [f_X3_readInto] at hf
  refine lv_aload_n hx hb dX3_readInto_0 rfl (lv_at hl 0 rfl) ?_
  refine va_get (D := D) (ci := 3) (v := .ref (a0 0)) (C := RX3) (T := TX3) (N := 1) hx hb hts hiX3 hown hK hP 0 rfl rfl 0 (by decide) (hts _ flX3_9) (fun _ h9 => h9) rfl dX3_readInto_1 ?_
  obtain ⟨q18, hq18, hf⟩ := bd_s hf
  refine k_pVv (wr := W3 cs h0 a0  ++ W2 cs h2 a2 i2 r2) (ws2 := W3 cs h0 a0  ++ (W9 cs (a0 0) a1 q18.1 q18.2.2 q18.2.1 ++ W2 cs h2 a2 i2 r2)) (As := []) (rest := []) hx hb hml hown hts hK hA hZ hl.1 hP hD hS (c_X9_begin (h0 := (a0 0)) (a0 := a1) hq18) (gVt mlX3_15 imX9_begin seX9_begin inX9 coX9_begin) rfl qnX9_begin rfl rfl ⟨Nat.le_of_ble_eq_true rfl, Nat.le_of_ble_eq_true rfl⟩ [1, 2, 3, 4, 5, 6] [0, 7, 8, 9, 10, 11] [0, 6, 7, 8, 9, 10, 11, 1, 2, 3, 4, 5] rfl rfl rfl (by decide) 0 9 rfl rfl rfl rfl rfl (Nat.le_of_ble_eq_true rfl) ⟨Nat.zero_le _, Nat.zero_le _⟩ dX3_readInto_4 (fun H locs hP hD hS => ?_)
  refine lv_aload_n hx hb dX3_readInto_7 rfl (lv_at hl 0 rfl) ?_
  refine va_get (D := D) (ci := 3) (v := .ref (a0 0)) (C := RX3) (T := TX3) (N := 1) hx hb hts hiX3 hown hK hP 0 rfl rfl 0 (by decide) (hts _ flX3_9) (fun _ h9 => h9) rfl dX3_readInto_8 ?_
  refine lv_bipush (v := 17) hx hb dX3_readInto_11 (by decide) ?_
  obtain ⟨q19, hq19, hf⟩ := bd_s hf
  refine k_pVv (wr := W3 cs h0 a0  ++ W2 cs h2 a2 i2 r2) (ws2 := W3 cs h0 a0  ++ (W9 cs (a0 0) a1 q19 q18.2.2 q18.2.1 ++ W2 cs h2 a2 i2 r2)) (As := [.int 17]) (rest := []) hx hb hml hown hts hK hA hZ hl.1 hP hD hS (c_X9_wantKey (h0 := (a0 0)) (a0 := a1) hq19) (gVt mlX3_20 imX9_wantKey seX9_wantKey inX9 coX9_wantKey) rfl qnX9_wantKey rfl rfl ⟨Nat.le_of_ble_eq_true rfl, Nat.le_of_ble_eq_true rfl⟩ [1, 2, 3, 4, 5, 6] [0, 7, 8, 9, 10, 11] [0, 6, 7, 8, 9, 10, 11, 1, 2, 3, 4, 5] rfl rfl rfl (by decide) 0 9 rfl rfl rfl rfl rfl (Nat.le_of_ble_eq_true rfl) ⟨Nat.zero_le _, Nat.zero_le _⟩ dX3_readInto_13 (fun H locs hP hD hS => ?_)
  refine lv_aload_n hx hb dX3_readInto_16 rfl (lv_at hl 1 rfl) ?_
  refine lv_aload_n hx hb dX3_readInto_17 rfl (lv_at hl 0 rfl) ?_
  refine va_get (D := D) (ci := 3) (v := .ref (a0 0)) (C := RX3) (T := TX3) (N := 1) hx hb hts hiX3 hown hK hP 0 rfl rfl 0 (by decide) (hts _ flX3_9) (fun _ h9 => h9) rfl dX3_readInto_18 ?_
  refine lv_iconst (v := 1) hx hb dX3_readInto_21 (by decide) ?_
  refine lv_bipush (v := 8) hx hb dX3_readInto_22 (by decide) ?_
  obtain ⟨q20, hq20, hf⟩ := bd_s hf
  refine k_pVi (wr := W3 cs h0 a0  ++ W2 cs h2 a2 i2 r2) (ws2 := W3 cs h0 a0  ++ (W9 cs (a0 0) a1 q20.2 q18.2.2 q18.2.1 ++ W2 cs h2 a2 i2 r2)) (As := [.int 1, .int 8]) (rest := [.ref h2]) hx hb hml hown hts hK hA hZ hl.1 hP hD hS (c_X9_wantNumber (h0 := (a0 0)) (a0 := a1) hq20) (gVt mlX3_24 imX9_wantNumber seX9_wantNumber inX9 coX9_wantNumber) rfl qnX9_wantNumber rfl rfl ⟨Nat.le_of_ble_eq_true rfl, Nat.le_of_ble_eq_true rfl⟩ [1, 2, 3, 4, 5, 6] [0, 7, 8, 9, 10, 11] [0, 6, 7, 8, 9, 10, 11, 1, 2, 3, 4, 5] rfl rfl rfl (by decide) 0 9 rfl rfl rfl rfl rfl (Nat.le_of_ble_eq_true rfl) ⟨Nat.zero_le _, Nat.zero_le _⟩ dX3_readInto_24 (fun H locs hP hD hS => ?_)
  obtain ⟨q21, hq21, hf⟩ := bd_s hf
  refine k_pVv (wr := W3 cs h0 a0  ++ W9 cs (a0 0) a1 q20.2 q18.2.2 q18.2.1) (ws2 := W3 cs h0 a0  ++ (W9 cs (a0 0) a1 q20.2 q18.2.2 q18.2.1 ++ W2 cs h2 a2 q21 r2)) (As := [.int q20.1]) (rest := []) hx hb hml hown hts hK hA hZ hl.1 hP hD hS (c_X2_clear (h0 := h2) (a0 := a2) hq21) (gVt mlX3_28 imX2_clear seX2_clear inX2 coX2_clear) rfl qnX2_clear rfl rfl ⟨Nat.le_of_ble_eq_true rfl, Nat.le_of_ble_eq_true rfl⟩ [7, 8, 9, 10, 11] [0, 1, 2, 3, 4, 5, 6] [0, 1, 2, 3, 4, 5, 6, 7, 8, 9, 10, 11] rfl rfl rfl (by decide) 0 2 rfl rfl rfl rfl rfl (Nat.le_of_ble_eq_true rfl) ⟨Nat.zero_le _, Nat.zero_le _⟩ dX3_readInto_27 (fun H locs hP hD hS => ?_)
  refine lv_aload_n hx hb dX3_readInto_30 rfl (lv_at hl 0 rfl) ?_
  refine va_get (D := D) (ci := 3) (v := .ref (a0 0)) (C := RX3) (T := TX3) (N := 1) hx hb hts hiX3 hown hK hP 0 rfl rfl 0 (by decide) (hts _ flX3_9) (fun _ h9 => h9) rfl dX3_readInto_31 ?_
  refine lv_bipush (v := 59) hx hb dX3_readInto_34 (by decide) ?_
  obtain ⟨q22, hq22, hf⟩ := bd_s hf
  refine k_pVv (wr := W3 cs h0 a0  ++ W2 cs h2 a2 q21 r2) (ws2 := W3 cs h0 a0  ++ (W9 cs (a0 0) a1 q22 q18.2.2 q18.2.1 ++ W2 cs h2 a2 q21 r2)) (As := [.int 59]) (rest := []) hx hb hml hown hts hK hA hZ hl.1 hP hD hS (c_X9_wantKind (h0 := (a0 0)) (a0 := a1) hq22) (gVt mlX3_33 imX9_wantKind seX9_wantKind inX9 coX9_wantKind) rfl qnX9_wantKind rfl rfl ⟨Nat.le_of_ble_eq_true rfl, Nat.le_of_ble_eq_true rfl⟩ [1, 2, 3, 4, 5, 6] [0, 7, 8, 9, 10, 11] [0, 6, 7, 8, 9, 10, 11, 1, 2, 3, 4, 5] rfl rfl rfl (by decide) 0 9 rfl rfl rfl rfl rfl (Nat.le_of_ble_eq_true rfl) ⟨Nat.zero_le _, Nat.zero_le _⟩ dX3_readInto_36 (fun H locs hP hD hS => ?_)
  refine lv_iconst (v := 0) hx hb dX3_readInto_39 (by decide) ?_
  refine lv_istore_n (lv' := [(2, .int 0), (0, .ref h0), (1, .ref h2)]) hx hb dX3_readInto_40 rfl hl (by decide) rfl (fun ls hl => ?_)
  exact w_X3_readInto_41 C  2000000 _ _ _ _ _ _ _ _ _ hf hP hD hS (lv_sub hl [1, 2, 0] rfl)
