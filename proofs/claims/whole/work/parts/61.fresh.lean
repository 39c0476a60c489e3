abbrev rmBX10_fewestMoves (k n : Nat) : Room := { frames := 3, cells := k, slots := n, locals := 75 }
set_option maxRecDepth 100000 in
set_option maxHeartbeats 4000000 in
theorem v_X10_fewestMoves_68 {k9 n9 : Nat} {p : Program} {l : Launch} {e : Env} {s : State} {m : MethodId} {args : Array Value} {below : List Frame} {meth : Method} {c : Code} {A : Nat → Prop} {D : va_G} {cs zs : Nat → Nat} {h0 : Nat} {a0 : Nat → Nat} {u0 : Nat → Nat} {q : Int32 × (Nat → Int32) × (Nat → Nat → Int32)} (C : Cx p s m args meth c A D cs zs cX10_fewestMoves 6 (some .int) RX10)  : ∀ (n : Nat), ∀ (i0 : Nat → Int32) (r0 : Nat → Nat → Int32) (x1 : Int32) (x3 : Int32) (x4 : Int32) (H : Heap) (locs : List Loc) (ls : Array Slot), f_X10_fewestMoves_68 u0 n i0 r0 x1 x3 x4 = some q → va_P D vwCl (W10 cs h0 a0 i0 r0 u0) H → va_D A (W10 cs h0 a0 i0 r0 u0) → va_S A s.heap H locs → lv_has ls 6 [(0, .ref h0), (1, .int x1), (3, .int x3), (4, .int x4)] → W p l e (rmBX10_fewestMoves k9 n9) s m args below meth c H locs k9 n9 (MQ below (Qi D cs A q.1 (W10 cs h0 a0 q.2.1 q.2.2 u0)) args s k9 n9 A) (F0 m 68 ls []) := by
  obtain ⟨hx, hb, hr, hml, hown, hts, hK, hA, hlocks, hZ⟩ := id C
  intro n
  induction n with
  | zero =>
    intro i0 r0 x1 x3 x4 H locs ls hf
    rw [f_X10_fewestMoves_68] at hf
    cases hf
  | succ n ih =>
    intro i0 r0 x1 x3 x4 H locs ls hf hP hD hS hl
    rw [f_X10_fewestMoves_68] at hf
    refine lv_iload hx hb dX10_fewestMoves_68 (lv_at hl 3 rfl) ?_
    refine lv_aload_n hx hb dX10_fewestMoves_70 rfl (lv_at hl 0 rfl) ?_
    refine va_get (D := D) (ci := 10) (v := .int (i0 3)) (C := RX10) (T := TX10) (N := 4) hx hb hts hiX10 hown hK hP 0 rfl rfl 3 (by decide) (hts _ flX10_25) (fun _ h9 => h9) rfl dX10_fewestMoves_71 ?_
    refine lv_icmp_ge (tgt := 117) hx hb dX10_fewestMoves_74 (by decide) (fun hc => ?_) (fun hc => ?_)
    · have hf := ite_t hf hc
      refine lv_aload_n hx hb dX10_fewestMoves_117 rfl (lv_at hl 0 rfl) ?_
      refine va_get (D := D) (ci := 10) (v := .int (i0 3)) (C := RX10) (T := TX10) (N := 4) hx hb hts hiX10 hown hK hP 0 rfl rfl 3 (by decide) (hts _ flX10_25) (fun _ h9 => h9) rfl dX10_fewestMoves_118 ?_
      obtain rfl := Option.some.inj hf
      exact k_iret hx hb hr hlocks hK hP hD hS dX10_fewestMoves_121
    · have hf := ite_f hf hc
      refine lv_aload_n hx hb dX10_fewestMoves_77 rfl (lv_at hl 0 rfl) ?_
      refine lv_iload_n hx hb dX10_fewestMoves_78 rfl (lv_at hl 2 rfl) ?_
      refine lv_iload_n hx hb dX10_fewestMoves_79 rfl (lv_at hl 1 rfl) ?_
      refine lv_aload_n hx hb dX10_fewestMoves_80 rfl (lv_at hl 0 rfl) ?_
      refine va_get (D := D) (ci := 10) (v := .ref (a0 0)) (C := RX10) (T := TX10) (N := 4) hx hb hts hiX10 hown hK hP 0 rfl rfl 0 (by decide) (hts _ flX10_9) (fun _ h9 => h9) rfl dX10_fewestMoves_81 ?_
      refine lv_iload_n hx hb dX10_fewestMoves_84 rfl (lv_at hl 2 rfl) ?_
      refine va_iald (f := r0 0) hx hb hK hP 1 0 rfl rfl (ck_in hf) dX10_fewestMoves_85 ?_
      have hf := ck_2 hf
      refine lv_iconst (v := 1) hx hb dX10_fewestMoves_86 (by decide) ?_
      refine lv_isub hx hb dX10_fewestMoves_87 ?_
      obtain ⟨q3, hq3, hf⟩ := bd_s hf
      refine k_sVi (ws2 := W10 cs h0 a0 i0 r0 u0) (As := [.int x3, .int x1, .int ((r0 0 x3.toNatClampNeg) - 1)]) (rest := []) hx hb hml hown hts hK hA hZ hl.1 hP hD hS (c_X10_placeNearer (h0 := h0) (a0 := a0) hq3) (gVt mlX10_29 imX10_placeNearer seX10_placeNearer inX10 coX10_placeNearer) rfl qnX10_placeNearer rfl rfl ⟨Nat.le_of_ble_eq_true rfl, Nat.le_of_ble_eq_true rfl⟩ 0 10 rfl rfl rfl rfl rfl (Nat.le_of_ble_eq_true rfl) ⟨Nat.le_refl _, Nat.le_refl _⟩ dX10_fewestMoves_88 (fun H locs hP hD hS => ?_)
      refine lv_istore (lv' := [(5, .int q3), (0, .ref h0), (1, .int x1), (3, .int x3), (4, .int x4)]) hx hb dX10_fewestMoves_91 hl (by decide) rfl (fun ls hl => ?_)
      refine lv_aload_n hx hb dX10_fewestMoves_93 rfl (lv_at hl 1 rfl) ?_
      refine va_get (D := D) (ci := 10) (v := .ref (a0 2)) (C := RX10) (T := TX10) (N := 4) hx hb hts hiX10 hown hK hP 0 rfl rfl 2 (by decide) (hts _ flX10_18) (fun _ h9 => h9) rfl dX10_fewestMoves_94 ?_
      refine lv_iload hx hb dX10_fewestMoves_97 (lv_at hl 4 rfl) ?_
      refine lv_iload hx hb dX10_fewestMoves_99 (lv_at hl 0 rfl) ?_
      refine lv_iconst (v := 1) hx hb dX10_fewestMoves_101 (by decide) ?_
      refine lv_iadd hx hb dX10_fewestMoves_102 ?_
      refine va_iast (f := r0 2) hx hb hK hP hD hS 3 0 rfl rfl (ck_in hf) dX10_fewestMoves_103 (fun H locs hP hD hS => ?_)
      have hf := ck_2 hf
      obtain ⟨hP, hD⟩ := st10_2 hP hD
      refine lv_iload_n hx hb dX10_fewestMoves_104 rfl (lv_at hl 3 rfl) ?_
      refine lv_iconst (v := 1) hx hb dX10_fewestMoves_105 (by decide) ?_
      refine lv_iload hx hb dX10_fewestMoves_106 (lv_at hl 0 rfl) ?_
      refine lv_ishl hx hb dX10_fewestMoves_108 ?_
      refine lv_ixor hx hb dX10_fewestMoves_109 ?_
      refine lv_istore_n (lv' := [(3, .int (x3 ^^^ ((1 : Int32) <<< (q3 &&& 31)))), (5, .int q3), (0, .ref h0), (1, .int x1), (4, .int x4)]) hx hb dX10_fewestMoves_110 rfl hl (by decide) rfl (fun ls hl => ?_)
      refine lv_iinc (v := x4 + 1) (lv' := [(4, .int (x4 + 1)), (3, .int (x3 ^^^ ((1 : Int32) <<< (q3 &&& 31)))), (5, .int q3), (0, .ref h0), (1, .int x1)]) hx hb dX10_fewestMoves_111 hl (k := 4) rfl rfl (by decide) rfl (fun ls hl => ?_)
      refine lv_goto (tgt := 68) hx hb dX10_fewestMoves_114 (by decide) ?_
      exact ih _ _ _ _ _ _ _ _ hf hP hD hS (lv_sub hl [3, 4, 1, 0] rfl)
set_option maxRecDepth 100000 in
set_option maxHeartbeats 4000000 in
theorem v_X10_fewestMoves_35 {k9 n9 : Nat} {p : Program} {l : Launch} {e : Env} {s : State} {m : MethodId} {args : Array Value} {below : List Frame} {meth : Method} {c : Code} {A : Nat → Prop} {D : va_G} {cs zs : Nat → Nat} {h0 : Nat} {a0 : Nat → Nat} {u0 : Nat → Nat} {q : Int32 × (Nat → Int32) × (Nat → Nat → Int32)} (C : Cx p s m args meth c A D cs zs cX10_fewestMoves 6 (some .int) RX10)  : ∀ (i0 : Nat → Int32) (r0 : Nat → Nat → Int32) (x1 : Int32) (x2 : Int32) (H : Heap) (locs : List Loc) (ls : Array Slot), f_X10_fewestMoves_35 u0 i0 r0 x1 x2 = some q → va_P D vwCl (W10 cs h0 a0 i0 r0 u0) H → va_D A (W10 cs h0 a0 i0 r0 u0) → va_S A s.heap H locs → lv_has ls 6 [(0, .ref h0), (1, .int x1), (2, .int x2)] → W p l e (rmBX10_fewestMoves k9 n9) s m args below meth c H locs k9 n9 (MQ below (Qi D cs A q.1 (W10 cs h0 a0 q.2.1 q.2.2 u0)) args s k9 n9 A) (F0 m 35 ls []) := by
  obtain ⟨hx, hb, hr, hml, hown, hts, hK, hA, hlocks, hZ⟩ := id C
  intro i0 r0 x1 x2 H locs ls hf hP hD hS hl
  rw [f_X10_fewestMoves_35] at hf
  refine lv_aload_n hx hb dX10_fewestMoves_35 rfl (lv_at hl 0 rfl) ?_
  refine lv_iload_n hx hb dX10_fewestMoves_36 rfl (lv_at hl 1 rfl) ?_
  refine lv_iload_n hx hb dX10_fewestMoves_37 rfl (lv_at hl 2 rfl) ?_
  obtain ⟨q4, hq4, hf⟩ := bd_s hf
  refine k_sVv (ws2 := W10 cs h0 a0 i0 q4 u0) (As := [.int x1, .int x2]) (rest := []) hx hb hml hown hts hK hA hZ hl.1 hP hD hS (c_X10_measure (h0 := h0) (a0 := a0) hq4) (gVt mlX10_21 imX10_measure seX10_measure inX10 coX10_measure) rfl qnX10_measure rfl rfl ⟨Nat.le_of_ble_eq_true rfl, Nat.le_of_ble_eq_true rfl⟩ 0 10 rfl rfl rfl rfl rfl (Nat.le_of_ble_eq_true rfl) ⟨Nat.le_refl _, Nat.le_refl _⟩ dX10_fewestMoves_38 (fun H locs hP hD hS => ?_)
  refine lv_aload_n hx hb dX10_fewestMoves_41 rfl (lv_at hl 0 rfl) ?_
  refine va_get (D := D) (ci := 10) (v := .ref (a0 0)) (C := RX10) (T := TX10) (N := 4) hx hb hts hiX10 hown hK hP 0 rfl rfl 0 (by decide) (hts _ flX10_9) (fun _ h9 => h9) rfl dX10_fewestMoves_42 ?_
  refine lv_iconst (v := 0) hx hb dX10_fewestMoves_45 (by decide) ?_
  refine va_iald (f := q4 0) hx hb hK hP 1 0 rfl rfl (ck_in hf) dX10_fewestMoves_46 ?_
  have hf := ck_2 hf
  refine lv_iconst (v := (-1)) hx hb dX10_fewestMoves_47 (by decide) ?_
  refine lv_icmp_ne (tgt := 53) hx hb dX10_fewestMoves_48 (by decide) (fun hc => ?_) (fun hc => ?_)
  · have hf := ite_f hf hc
    refine lv_aload_n hx hb dX10_fewestMoves_53 rfl (lv_at hl 0 rfl) ?_
    refine lv_aload_n hx hb dX10_fewestMoves_54 rfl (lv_at hl 0 rfl) ?_
    refine va_get (D := D) (ci := 10) (v := .ref (a0 0)) (C := RX10) (T := TX10) (N := 4) hx hb hts hiX10 hown hK hP 0 rfl rfl 0 (by decide) (hts _ flX10_9) (fun _ h9 => h9) rfl dX10_fewestMoves_55 ?_
    refine lv_iconst (v := 0) hx hb dX10_fewestMoves_58 (by decide) ?_
    refine va_iald (f := q4 0) hx hb hK hP 1 0 rfl rfl (ck_in hf) dX10_fewestMoves_59 ?_
    have hf := ck_2 hf
    refine va_put (D := D) (ci := 10) (v := .int (q4 0 (0 : Int32).toNatClampNeg)) (ty := .int) (C := RX10) (T := TX10) (N := 4) hx hb hts hiX10 tyX10 tyX10_ok nmX10 hown hK hP hD hS 0 rfl rfl 3 (by decide) (hts _ flX10_25) (fun _ h9 => h9) rfl (tyX10_ok 3 (by decide)) rfl rfl (Nat.le_of_ble_eq_true rfl) dX10_fewestMoves_60 (fun H locs hP hD hS => ?_)
    obtain ⟨hP, hD⟩ := st10_3 hP hD
    refine lv_iconst (v := 0) hx hb dX10_fewestMoves_63 (by decide) ?_
    refine lv_istore_n (lv' := [(3, .int 0), (0, .ref h0), (1, .int x1), (2, .int x2)]) hx hb dX10_fewestMoves_64 rfl hl (by decide) rfl (fun ls hl => ?_)
    refine lv_iconst (v := 0) hx hb dX10_fewestMoves_65 (by decide) ?_
    refine lv_istore (lv' := [(4, .int 0), (3, .int 0), (0, .ref h0), (1, .int x1), (2, .int x2)]) hx hb dX10_fewestMoves_66 hl (by decide) rfl (fun ls hl => ?_)
    exact v_X10_fewestMoves_68 C  2000000 _ _ _ _ _ _ _ _ hf hP hD hS (lv_sub hl [2, 3, 1, 0] rfl)
  · have hf := ite_t hf hc
    refine lv_iconst (v := (-1)) hx hb dX10_fewestMoves_51 (by decide) ?_
    obtain rfl := Option.some.inj hf
    exact k_iret hx hb hr hlocks hK hP hD hS dX10_fewestMoves_52
abbrev rmBX1_begin (k n : Nat) : Room := { frames := 3, cells := k, slots := n, locals := 73 }
set_option maxRecDepth 100000 in
set_option maxHeartbeats 4000000 in
theorem v_X1_begin_43 {k9 n9 : Nat} {p : Program} {l : Launch} {e : Env} {s : State} {m : MethodId} {args : Array Value} {below : List Frame} {meth : Method} {c : Code} {A : Nat → Prop} {D : va_G} {cs zs : Nat → Nat} {h0 : Nat} {a0 : Nat → Nat} {h1 : Nat} {a1 : Nat → Nat} {u0 : Nat → Nat} {i1 : Nat → Int32} {r1 : Nat → Nat → Int32} {q : (Nat → Int32) × (Nat → Nat → Int32)} (C : Cx p s m args meth c A D cs zs cX1_begin 2 none RX1)  : ∀ (i0 : Nat → Int32) (r0 : Nat → Nat → Int32) (H : Heap) (locs : List Loc) (ls : Array Slot), f_X1_begin_43 u0 i1 r1 i0 r0 = some q → va_P D vwCl (W1 cs h0 a0 i0 r0 u0 ++ W2 cs h1 a1 i1 r1) H → va_D A (W1 cs h0 a0 i0 r0 u0 ++ W2 cs h1 a1 i1 r1) → va_S A s.heap H locs → lv_has ls 2 [(0, .ref h0), (1, .ref h1)] → W p l e (rmBX1_begin k9 n9) s m args below meth c H locs k9 n9 (MQ below (Qv D cs A (W1 cs h0 a0 q.1 q.2 u0 ++ W2 cs h1 a1 i1 r1)) args s k9 n9 A) (F0 m 43 ls []) := by
  obtain ⟨hx, hb, hr, hml, hown, hts, hK, hA, hlocks, hZ⟩ := id C
  intro i0 r0 H locs ls hf hP hD hS hl
  rw [f_X1_begin_43] at hf
  refine lv_aload_n hx hb dX1_begin_43 rfl (lv_at hl 0 rfl) ?_
  refine lv_iconst (v := 0) hx hb dX1_begin_44 (by decide) ?_
  refine va_put (D := D) (ci := 1) (v := .int 0) (ty := .int) (C := RX1) (T := TX1) (N := 16) hx hb hts hiX1 tyX1 tyX1_ok nmX1 hown hK hP hD hS 0 rfl rfl 14 (by decide) (hts _ flX1_53) (fun _ h9 => h9) rfl (tyX1_ok 14 (by decide)) rfl rfl (Nat.le_of_ble_eq_true rfl) dX1_begin_45 (fun H locs hP hD hS => ?_)
  obtain ⟨hP, hD⟩ := st1_14_T hP hD
  refine lv_aload_n hx hb dX1_begin_48 rfl (lv_at hl 0 rfl) ?_
  refine lv_iconst (v := 0) hx hb dX1_begin_49 (by decide) ?_
  refine va_put (D := D) (ci := 1) (v := .int 0) (ty := .int) (C := RX1) (T := TX1) (N := 16) hx hb hts hiX1 tyX1 tyX1_ok nmX1 hown hK hP hD hS 0 rfl rfl 15 (by decide) (hts _ flX1_66) (fun _ h9 => h9) rfl (tyX1_ok 15 (by decide)) rfl rfl (Nat.le_of_ble_eq_true rfl) dX1_begin_50 (fun H locs hP hD hS => ?_)
  obtain ⟨hP, hD⟩ := st1_15_T hP hD
  refine lv_aload_n hx hb dX1_begin_53 rfl (lv_at hl 0 rfl) ?_
  refine lv_aload_n hx hb dX1_begin_54 rfl (lv_at hl 1 rfl) ?_
  obtain ⟨q4, hq4, hf⟩ := bd_s hf
  refine k_sVv (ws2 := W1 cs h0 a0 (upd (upd i0 14 0) 15 0) q4 u0 ++ W2 cs h1 a1 i1 r1) (As := [.ref h1]) (rest := []) hx hb hml hown hts hK hA hZ hl.1 hP hD hS (c_X1_fillOuts (h0 := h0) (a0 := a0) (h1 := h1) (a1 := a1) hq4) (gVt mlX1_69 imX1_fillOuts seX1_fillOuts inX1 coX1_fillOuts) rfl qnX1_fillOuts rfl rfl ⟨Nat.le_of_ble_eq_true rfl, Nat.le_of_ble_eq_true rfl⟩ 0 1 rfl rfl rfl rfl rfl (Nat.le_of_ble_eq_true rfl) ⟨Nat.le_refl _, Nat.le_refl _⟩ dX1_begin_55 (fun H locs hP hD hS => ?_)
  obtain rfl := Option.some.inj hf
  exact k_vret hx hb hr hlocks hK hP hD hS dX1_begin_58
set_option maxRecDepth 100000 in
set_option maxHeartbeats 4000000 in
theorem v_X1_begin_17 {k9 n9 : Nat} {p : Program} {l : Launch} {e : Env} {s : State} {m : MethodId} {args : Array Value} {below : List Frame} {meth : Method} {c : Code} {A : Nat → Prop} {D : va_G} {cs zs : Nat → Nat} {h0 : Nat} {a0 : Nat → Nat} {h1 : Nat} {a1 : Nat → Nat} {u0 : Nat → Nat} {i1 : Nat → Int32} {r1 : Nat → Nat → Int32} {q : (Nat → Int32) × (Nat → Nat → Int32)} (C : Cx p s m args meth c A D cs zs cX1_begin 2 none RX1)  : ∀ (i0 : Nat → Int32) (r0 : Nat → Nat → Int32) (H : Heap) (locs : List Loc) (ls : Array Slot), f_X1_begin_17 u0 i1 r1 i0 r0 = some q → va_P D vwCl (W1 cs h0 a0 i0 r0 u0 ++ W2 cs h1 a1 i1 r1) H → va_D A (W1 cs h0 a0 i0 r0 u0 ++ W2 cs h1 a1 i1 r1) → va_S A s.heap H locs → lv_has ls 2 [(0, .ref h0), (1, .ref h1)] → W p l e (rmBX1_begin k9 n9) s m args below meth c H locs k9 n9 (MQ below (Qv D cs A (W1 cs h0 a0 q.1 q.2 u0 ++ W2 cs h1 a1 i1 r1)) args s k9 n9 A) (F0 m 17 ls []) := by
  obtain ⟨hx, hb, hr, hml, hown, hts, hK, hA, hlocks, hZ⟩ := id C
  intro i0 r0 H locs ls hf hP hD hS hl
  rw [f_X1_begin_17] at hf
  refine lv_aload_n hx hb dX1_begin_17 rfl (lv_at hl 0 rfl) ?_
  refine lv_iconst (v := 1) hx hb dX1_begin_18 (by decide) ?_
  refine va_put (D := D) (ci := 1) (v := .int 1) (ty := .boolean) (C := RX1) (T := TX1) (N := 16) hx hb hts hiX1 tyX1 tyX1_ok nmX1 hown hK hP hD hS 0 rfl rfl 10 (by decide) (hts _ flX1_46) (fun _ h9 => h9) rfl (tyX1_ok 10 (by decide)) rfl rfl (Nat.le_of_ble_eq_true rfl) dX1_begin_19 (fun H locs hP hD hS => ?_)
  obtain ⟨hP, hD⟩ := st1_10_T hP hD
  refine lv_aload_n hx hb dX1_begin_22 rfl (lv_at hl 0 rfl) ?_
  refine lv_aload_n hx hb dX1_begin_23 rfl (lv_at hl 1 rfl) ?_
  obtain ⟨q5, hq5, hf⟩ := bd_s hf
  refine k_pVi (wr := W1 cs h0 a0 (upd i0 10 1) r0 u0) (ws2 := W1 cs h0 a0 (upd i0 10 1) r0 u0 ++ W2 cs h1 a1 i1 r1) (As := []) (rest := [.ref h0]) hx hb hml hown hts hK hA hZ hl.1 hP hD hS (c_X2_steps (h0 := h1) (a0 := a1) hq5) (gVt mlX1_56 imX2_steps seX2_steps inX2 coX2_steps) rfl qnX2_steps rfl rfl ⟨Nat.le_of_ble_eq_true rfl, Nat.le_of_ble_eq_true rfl⟩ [11, 12, 13, 14, 15] [0, 1, 2, 3, 4, 5, 6, 7, 8, 9, 10] [0, 1, 2, 3, 4, 5, 6, 7, 8, 9, 10, 11, 12, 13, 14, 15] rfl rfl rfl (by decide) 0 2 rfl rfl rfl rfl rfl (Nat.le_of_ble_eq_true rfl) ⟨Nat.le_refl _, Nat.le_refl _⟩ dX1_begin_24 (fun H locs hP hD hS => ?_)
  refine va_put (D := D) (ci := 1) (v := .int q5) (ty := .int) (C := RX1) (T := TX1) (N := 16) hx hb hts hiX1 tyX1 tyX1_ok nmX1 hown hK hP hD hS 0 rfl rfl 11 (by decide) (hts _ flX1_62) (fun _ h9 => h9) rfl (tyX1_ok 11 (by decide)) rfl rfl (Nat.le_of_ble_eq_true rfl) dX1_begin_27 (fun H locs hP hD hS => ?_)
  obtain ⟨hP, hD⟩ := st1_11_T hP hD
  refine lv_aload_n hx hb dX1_begin_30 rfl (lv_at hl 0 rfl) ?_
  refine lv_aload_n hx hb dX1_begin_31 rfl (lv_at hl 1 rfl) ?_
  obtain ⟨q6, hq6, hf⟩ := bd_s hf
  refine k_pVi (wr := W1 cs h0 a0 (upd (upd i0 10 1) 11 q5) r0 u0) (ws2 := W1 cs h0 a0 (upd (upd i0 10 1) 11 q5) r0 u0 ++ W2 cs h1 a1 i1 r1) (As := []) (rest := [.ref h0]) hx hb hml hown hts hK hA hZ hl.1 hP hD hS (c_X2_rows (h0 := h1) (a0 := a1) hq6) (gVt mlX1_64 imX2_rows seX2_rows inX2 coX2_rows) rfl qnX2_rows rfl rfl ⟨Nat.le_of_ble_eq_true rfl, Nat.le_of_ble_eq_true rfl⟩ [11, 12, 13, 14, 15] [0, 1, 2, 3, 4, 5, 6, 7, 8, 9, 10] [0, 1, 2, 3, 4, 5, 6, 7, 8, 9, 10, 11, 12, 13, 14, 15] rfl rfl rfl (by decide) 0 2 rfl rfl rfl rfl rfl (Nat.le_of_ble_eq_true rfl) ⟨Nat.le_refl _, Nat.le_refl _⟩ dX1_begin_32 (fun H locs hP hD hS => ?_)
  refine va_put (D := D) (ci := 1) (v := .int q6) (ty := .int) (C := RX1) (T := TX1) (N := 16) hx hb hts hiX1 tyX1 tyX1_ok nmX1 hown hK hP hD hS 0 rfl rfl 12 (by decide) (hts _ flX1_42) (fun _ h9 => h9) rfl (tyX1_ok 12 (by decide)) rfl rfl (Nat.le_of_ble_eq_true rfl) dX1_begin_35 (fun H locs hP hD hS => ?_)
  obtain ⟨hP, hD⟩ := st1_12_T hP hD
  refine lv_aload_n hx hb dX1_begin_38 rfl (lv_at hl 0 rfl) ?_
  refine lv_iconst (v := 0) hx hb dX1_begin_39 (by decide) ?_
  refine va_put (D := D) (ci := 1) (v := .int 0) (ty := .int) (C := RX1) (T := TX1) (N := 16) hx hb hts hiX1 tyX1 tyX1_ok nmX1 hown hK hP hD hS 0 rfl rfl 13 (by decide) (hts _ flX1_50) (fun _ h9 => h9) rfl (tyX1_ok 13 (by decide)) rfl rfl (Nat.le_of_ble_eq_true rfl) dX1_begin_40 (fun H locs hP hD hS => ?_)
  obtain ⟨hP, hD⟩ := st1_13_T hP hD
  exact v_X1_begin_43 C  _ _ _ _ _ hf hP hD hS (lv_sub hl [0, 1] rfl)
abbrev rmBX7_beginNear (k n : Nat) : Room := { frames := 2, cells := k, slots := n, locals := 45 }
set_option maxRecDepth 100000 in
set_option maxHeartbeats 4000000 in
theorem v_X7_beginNear_95 {k9 n9 : Nat} {p : Program} {l : Launch} {e : Env} {s : State} {m : MethodId} {args : Array Value} {below : List Frame} {meth : Method} {c : Code} {A : Nat → Prop} {D : va_G} {cs zs : Nat → Nat} {h0 : Nat} {a0 : Nat → Nat} {u0 : Nat → Nat} {q : (Nat → Int32) × (Nat → Nat → Int32)} (C : Cx p s m args meth c A D cs zs cX7_beginNear 3 none RX7) (K48 : (Nat → Int32) → (Nat → Nat → Int32) → Int32 → Int32 → Option ((Nat → Int32) × (Nat → Nat → Int32))) (hK48 : ∀ (i0 : Nat → Int32) (r0 : Nat → Nat → Int32) (x1 : Int32) (x2 : Int32) (H : Heap) (locs : List Loc) (ls : Array Slot), K48 i0 r0 x1 x2 = some q → va_P D vwCl (W7 cs h0 a0 i0 r0 u0) H → va_D A (W7 cs h0 a0 i0 r0 u0) → va_S A s.heap H locs → lv_has ls 3 [(0, .ref h0), (1, .int x1), (2, .int x2)] → W p l e (rmBX7_beginNear k9 n9) s m args below meth c H locs k9 n9 (MQ below (Qv D cs A (W7 cs h0 a0 q.1 q.2 u0)) args s k9 n9 A) (F0 m 48 ls [])) : ∀ (i0 : Nat → Int32) (r0 : Nat → Nat → Int32) (x1 : Int32) (x2 : Int32) (H : Heap) (locs : List Loc) (ls : Array Slot), f_X7_beginNear_95 u0 K48 i0 r0 x1 x2 = some q → va_P D vwCl (W7 cs h0 a0 i0 r0 u0) H → va_D A (W7 cs h0 a0 i0 r0 u0) → va_S A s.heap H locs → lv_has ls 3 [(0, .ref h0), (1, .int x1), (2, .int x2)] → W p l e (rmBX7_beginNear k9 n9) s m args below meth c H locs k9 n9 (MQ below (Qv D cs A (W7 cs h0 a0 q.1 q.2 u0)) args s k9 n9 A) (F0 m 95 ls []) := by
  obtain ⟨hx, hb, hr, hml, hown, hts, hK, hA, hlocks, hZ⟩ := id C
  intro i0 r0 x1 x2 H locs ls hf hP hD hS hl
  rw [f_X7_beginNear_95] at hf
  refine lv_iinc (v := x2 + 1) (lv' := [(2, .int (x2 + 1)), (0, .ref h0), (1, .int x1)]) hx hb dX7_beginNear_95 hl (k := 2) rfl rfl (by decide) rfl (fun ls hl => ?_)
  refine lv_goto (tgt := 48) hx hb dX7_beginNear_98 (by decide) ?_
  exact hK48 _ _ _ _ _ _ _ hf hP hD hS (lv_sub hl [1, 2, 0] rfl)
set_option maxRecDepth 100000 in
set_option maxHeartbeats 4000000 in
theorem v_X7_beginNear_121 {k9 n9 : Nat} {p : Program} {l : Launch} {e : Env} {s : State} {m : MethodId} {args : Array Value} {below : List Frame} {meth : Method} {c : Code} {A : Nat → Prop} {D : va_G} {cs zs : Nat → Nat} {h0 : Nat} {a0 : Nat → Nat} {u0 : Nat → Nat} {q : (Nat → Int32) × (Nat → Nat → Int32)} (C : Cx p s m args meth c A D cs zs cX7_beginNear 3 none RX7)  : ∀ (i0 : Nat → Int32) (r0 : Nat → Nat → Int32) (H : Heap) (locs : List Loc) (ls : Array Slot), f_X7_beginNear_121 u0 i0 r0 = some q → va_P D vwCl (W7 cs h0 a0 i0 r0 u0) H → va_D A (W7 cs h0 a0 i0 r0 u0) → va_S A s.heap H locs → lv_has ls 3 [(0, .ref h0)] → W p l e (rmBX7_beginNear k9 n9) s m args below meth c H locs k9 n9 (MQ below (Qv D cs A (W7 cs h0 a0 q.1 q.2 u0)) args s k9 n9 A) (F0 m 121 ls []) := by
  obtain ⟨hx, hb, hr, hml, hown, hts, hK, hA, hlocks, hZ⟩ := id C
  intro i0 r0 H locs ls hf hP hD hS hl
  rw [f_X7_beginNear_121] at hf
  refine lv_aload_n hx hb dX7_beginNear_121 rfl (lv_at hl 0 rfl) ?_
  refine lv_ldc (v := 15781034) hx hb hown (hts _ kcX7_114) dX7_beginNear_122 ?_
  obtain ⟨q4, hq4, hf⟩ := bd_s hf
  refine k_sVv (ws2 := W7 cs h0 a0 q4.1 q4.2 u0) (As := [.int 15781034]) (rest := []) hx hb hml hown hts hK hA hZ hl.1 hP hD hS (c_X7_keep (h0 := h0) (a0 := a0) hq4) (gVt mlX7_115 imX7_keep seX7_keep inX7 coX7_keep) rfl qnX7_keep rfl rfl ⟨Nat.le_of_ble_eq_true rfl, Nat.le_of_ble_eq_true rfl⟩ 0 7 rfl rfl rfl rfl rfl (Nat.le_of_ble_eq_true rfl) ⟨Nat.le_refl _, Nat.le_refl _⟩ dX7_beginNear_124 (fun H locs hP hD hS => ?_)
  obtain rfl := Option.some.inj hf
  exact k_vret hx hb hr hlocks hK hP hD hS dX7_beginNear_127
set_option maxRecDepth 100000 in
set_option maxHeartbeats 4000000 in
theorem v_X7_beginNear_48 {k9 n9 : Nat} {p : Program} {l : Launch} {e : Env} {s : State} {m : MethodId} {args : Array Value} {below : List Frame} {meth : Method} {c : Code} {A : Nat → Prop} {D : va_G} {cs zs : Nat → Nat} {h0 : Nat} {a0 : Nat → Nat} {u0 : Nat → Nat} {q : (Nat → Int32) × (Nat → Nat → Int32)} (C : Cx p s m args meth c A D cs zs cX7_beginNear 3 none RX7)  : ∀ (n : Nat), ∀ (i0 : Nat → Int32) (r0 : Nat → Nat → Int32) (x1 : Int32) (x2 : Int32) (H : Heap) (locs : List Loc) (ls : Array Slot), f_X7_beginNear_48 u0 n i0 r0 x1 x2 = some q → va_P D vwCl (W7 cs h0 a0 i0 r0 u0) H → va_D A (W7 cs h0 a0 i0 r0 u0) → va_S A s.heap H locs → lv_has ls 3 [(0, .ref h0), (1, .int x1), (2, .int x2)] → W p l e (rmBX7_beginNear k9 n9) s m args below meth c H locs k9 n9 (MQ below (Qv D cs A (W7 cs h0 a0 q.1 q.2 u0)) args s k9 n9 A) (F0 m 48 ls []) := by
  obtain ⟨hx, hb, hr, hml, hown, hts, hK, hA, hlocks, hZ⟩ := id C
  intro n
  induction n with
  | zero =>
    intro i0 r0 x1 x2 H locs ls hf
    rw [f_X7_beginNear_48] at hf
    cases hf
  | succ n ih =>
    intro i0 r0 x1 x2 H locs ls hf hP hD hS hl
    rw [f_X7_beginNear_48] at hf
    refine lv_iload_n hx hb dX7_beginNear_48 rfl (lv_at hl 2 rfl) ?_
    refine va_gets hx hb hZ.1 hS hown (hts _ flX7_9) (fun _ h9 => h9) dX7_beginNear_49 ?_
    refine va_tlen (v := 18) hx hb hZ.2.1 hS rfl dX7_beginNear_52 ?_
    refine lv_icmp_ge (tgt := 101) hx hb dX7_beginNear_53 (by decide) (fun hc => ?_) (fun hc => ?_)
    · have hf := ite_t hf hc
      refine lv_aload_n hx hb dX7_beginNear_101 rfl (lv_at hl 0 rfl) ?_
      refine lv_iconst (v := 0) hx hb dX7_beginNear_102 (by decide) ?_
      refine va_put (D := D) (ci := 7) (v := .int 0) (ty := .int) (C := RX7) (T := TX7) (N := 13) hx hb hts hiX7 tyX7 tyX7_ok nmX7 hown hK hP hD hS 0 rfl rfl 8 (by decide) (hts _ flX7_56) (fun _ h9 => h9) rfl (tyX7_ok 8 (by decide)) rfl rfl (Nat.le_of_ble_eq_true rfl) dX7_beginNear_103 (fun H locs hP hD hS => ?_)
      obtain ⟨hP, hD⟩ := st7_8 hP hD
      refine lv_aload_n hx hb dX7_beginNear_106 rfl (lv_at hl 0 rfl) ?_
      refine lv_iconst (v := 0) hx hb dX7_beginNear_107 (by decide) ?_
      refine va_put (D := D) (ci := 7) (v := .int 0) (ty := .int) (C := RX7) (T := TX7) (N := 13) hx hb hts hiX7 tyX7 tyX7_ok nmX7 hown hK hP hD hS 0 rfl rfl 9 (by decide) (hts _ flX7_108) (fun _ h9 => h9) rfl (tyX7_ok 9 (by decide)) rfl rfl (Nat.le_of_ble_eq_true rfl) dX7_beginNear_108 (fun H locs hP hD hS => ?_)
      obtain ⟨hP, hD⟩ := st7_9 hP hD
      refine lv_aload_n hx hb dX7_beginNear_111 rfl (lv_at hl 0 rfl) ?_
      refine lv_iconst (v := 0) hx hb dX7_beginNear_112 (by decide) ?_
      refine va_put (D := D) (ci := 7) (v := .int 0) (ty := .int) (C := RX7) (T := TX7) (N := 13) hx hb hts hiX7 tyX7 tyX7_ok nmX7 hown hK hP hD hS 0 rfl rfl 10 (by decide) (hts _ flX7_111) (fun _ h9 => h9) rfl (tyX7_ok 10 (by decide)) rfl rfl (Nat.le_of_ble_eq_true rfl) dX7_beginNear_113 (fun H locs hP hD hS => ?_)
      obtain ⟨hP, hD⟩ := st7_10 hP hD
      refine lv_aload_n hx hb dX7_beginNear_116 rfl (lv_at hl 0 rfl) ?_
      refine lv_iconst (v := 0) hx hb dX7_beginNear_117 (by decide) ?_
      refine va_put (D := D) (ci := 7) (v := .int 0) (ty := .boolean) (C := RX7) (T := TX7) (N := 13) hx hb hts hiX7 tyX7 tyX7_ok nmX7 hown hK hP hD hS 0 rfl rfl 11 (by decide) (hts _ flX7_52) (fun _ h9 => h9) rfl (tyX7_ok 11 (by decide)) rfl rfl (Nat.le_of_ble_eq_true rfl) dX7_beginNear_118 (fun H locs hP hD hS => ?_)
      obtain ⟨hP, hD⟩ := st7_11 hP hD
      exact v_X7_beginNear_121 C  _ _ _ _ _ hf hP hD hS (lv_sub hl [0] rfl)
    · have hf := ite_f hf hc
      refine lv_iload_n hx hb dX7_beginNear_56 rfl (lv_at hl 1 rfl) ?_
      refine va_gets hx hb hZ.1 hS hown (hts _ flX7_9) (fun _ h9 => h9) dX7_beginNear_57 ?_
      refine lv_iload_n hx hb dX7_beginNear_60 rfl (lv_at hl 2 rfl) ?_
      refine va_ti hx hb hZ.2.1 hS (ck_in hf) rfl dX7_beginNear_61 ?_
      have hf := ck_2 hf
      obtain ⟨q5, hq5, hf⟩ := bd_s hf
      refine k_eSi (As := [.int (zSteps.getD x2.toNatClampNeg 0)]) (rest := [.int x1]) hx hb hml hown hts hK hA hZ hl.1 hP hD hS (c_X7_kindOf  hq5) (gSt mlX7_105 stX7_kindOf inX7 coX7_kindOf) rfl qnX7_kindOf rfl rfl ⟨Nat.le_of_ble_eq_true rfl, Nat.le_of_ble_eq_true rfl⟩ rfl rfl (Nat.le_of_ble_eq_true rfl) ⟨Nat.le_refl _, Nat.le_refl _⟩ dX7_beginNear_62 (fun H locs hP hD hS => ?_)
      refine lv_ishr hx hb dX7_beginNear_65 ?_
      refine lv_iconst (v := 1) hx hb dX7_beginNear_66 (by decide) ?_
      refine lv_iand hx hb dX7_beginNear_67 ?_
      refine lv_if_eq (tgt := 95) hx hb dX7_beginNear_68 (by decide) (fun hc => ?_) (fun hc => ?_)
      · have hf := ite_t hf hc
        exact v_X7_beginNear_95 C _ (ih) _ _ _ _ _ _ _ hf hP hD hS (lv_sub hl [0, 1, 2] rfl)
      · have hf := ite_f hf hc
        refine lv_aload_n hx hb dX7_beginNear_71 rfl (lv_at hl 0 rfl) ?_
        refine va_get (D := D) (ci := 7) (v := .ref (a0 0)) (C := RX7) (T := TX7) (N := 13) hx hb hts hiX7 hown hK hP 0 rfl rfl 0 (by decide) (hts _ flX7_15) (fun _ h9 => h9) rfl dX7_beginNear_72 ?_
        refine lv_aload_n hx hb dX7_beginNear_75 rfl (lv_at hl 0 rfl) ?_
        refine va_get (D := D) (ci := 7) (v := .int (i0 6)) (C := RX7) (T := TX7) (N := 13) hx hb hts hiX7 hown hK hP 0 rfl rfl 6 (by decide) (hts _ flX7_102) (fun _ h9 => h9) rfl dX7_beginNear_76 ?_
        refine va_gets hx hb hZ.1 hS hown (hts _ flX7_9) (fun _ h9 => h9) dX7_beginNear_79 ?_
        refine lv_iload_n hx hb dX7_beginNear_82 rfl (lv_at hl 2 rfl) ?_
        refine va_ti hx hb hZ.2.1 hS (ck_in hf) rfl dX7_beginNear_83 ?_
        have hf := ck_2 hf
        refine va_iast (f := r0 0) hx hb hK hP hD hS 1 0 rfl rfl (ck_in hf) dX7_beginNear_84 (fun H locs hP hD hS => ?_)
        have hf := ck_2 hf
        obtain ⟨hP, hD⟩ := st7_0 hP hD
        refine lv_aload_n hx hb dX7_beginNear_85 rfl (lv_at hl 0 rfl) ?_
        refine lv_dup hx hb dX7_beginNear_86 rfl ?_
        refine va_get (D := D) (ci := 7) (v := .int (i0 6)) (C := RX7) (T := TX7) (N := 13) hx hb hts hiX7 hown hK hP 0 rfl rfl 6 (by decide) (hts _ flX7_102) (fun _ h9 => h9) rfl dX7_beginNear_87 ?_
        refine lv_iconst (v := 1) hx hb dX7_beginNear_90 (by decide) ?_
        refine lv_iadd hx hb dX7_beginNear_91 ?_
        refine va_put (D := D) (ci := 7) (v := .int ((i0 6) + 1)) (ty := .int) (C := RX7) (T := TX7) (N := 13) hx hb hts hiX7 tyX7 tyX7_ok nmX7 hown hK hP hD hS 0 rfl rfl 6 (by decide) (hts _ flX7_102) (fun _ h9 => h9) rfl (tyX7_ok 6 (by decide)) rfl rfl (Nat.le_of_ble_eq_true rfl) dX7_beginNear_92 (fun H locs hP hD hS => ?_)
        obtain ⟨hP, hD⟩ := st7_6 hP hD
        exact v_X7_beginNear_95 C _ (ih) _ _ _ _ _ _ _ hf hP hD hS (lv_sub hl [0, 1, 2] rfl)
set_option maxRecDepth 100000 in
set_option maxHeartbeats 4000000 in
theorem v_X7_beginNear_36 {k9 n9 : Nat} {p : Program} {l : Launch} {e : Env} {s : State} {m : MethodId} {args : Array Value} {below : List Frame} {meth : Method} {c : Code} {A : Nat → Prop} {D : va_G} {cs zs : Nat → Nat} {h0 : Nat} {a0 : Nat → Nat} {u0 : Nat → Nat} {q : (Nat → Int32) × (Nat → Nat → Int32)} (C : Cx p s m args meth c A D cs zs cX7_beginNear 3 none RX7)  : ∀ (i0 : Nat → Int32) (r0 : Nat → Nat → Int32) (x1 : Int32) (H : Heap) (locs : List Loc) (ls : Array Slot), f_X7_beginNear_36 u0 i0 r0 x1 = some q → va_P D vwCl (W7 cs h0 a0 i0 r0 u0) H → va_D A (W7 cs h0 a0 i0 r0 u0) → va_S A s.heap H locs → lv_has ls 3 [(0, .ref h0), (1, .int x1)] → W p l e (rmBX7_beginNear k9 n9) s m args below meth c H locs k9 n9 (MQ below (Qv D cs A (W7 cs h0 a0 q.1 q.2 u0)) args s k9 n9 A) (F0 m 36 ls []) := by
  obtain ⟨hx, hb, hr, hml, hown, hts, hK, hA, hlocks, hZ⟩ := id C
  intro i0 r0 x1 H locs ls hf hP hD hS hl
  rw [f_X7_beginNear_36] at hf
  refine lv_aload_n hx hb dX7_beginNear_36 rfl (lv_at hl 0 rfl) ?_
  refine lv_iload_n hx hb dX7_beginNear_37 rfl (lv_at hl 1 rfl) ?_
  refine va_put (D := D) (ci := 7) (v := .int x1) (ty := .int) (C := RX7) (T := TX7) (N := 13) hx hb hts hiX7 tyX7 tyX7_ok nmX7 hown hK hP hD hS 0 rfl rfl 7 (by decide) (hts _ flX7_33) (fun _ h9 => h9) rfl (tyX7_ok 7 (by decide)) rfl rfl (Nat.le_of_ble_eq_true rfl) dX7_beginNear_38 (fun H locs hP hD hS => ?_)
  obtain ⟨hP, hD⟩ := st7_7 hP hD
  refine lv_aload_n hx hb dX7_beginNear_41 rfl (lv_at hl 0 rfl) ?_
  refine lv_iconst (v := 0) hx hb dX7_beginNear_42 (by decide) ?_
  refine va_put (D := D) (ci := 7) (v := .int 0) (ty := .int) (C := RX7) (T := TX7) (N := 13) hx hb hts hiX7 tyX7 tyX7_ok nmX7 hown hK hP hD hS 0 rfl rfl 6 (by decide) (hts _ flX7_102) (fun _ h9 => h9) rfl (tyX7_ok 6 (by decide)) rfl rfl (Nat.le_of_ble_eq_true rfl) dX7_beginNear_43 (fun H locs hP hD hS => ?_)
  obtain ⟨hP, hD⟩ := st7_6 hP hD
  refine lv_iconst (v := 0) hx hb dX7_beginNear_46 (by decide) ?_
  refine lv_istore_n (lv' := [(2, .int 0), (0, .ref h0), (1, .int x1)]) hx hb dX7_beginNear_47 rfl hl (by decide) rfl (fun ls hl => ?_)
  exact v_X7_beginNear_48 C  2000000 _ _ _ _ _ _ _ hf hP hD hS (lv_sub hl [1, 2, 0] rfl)
abbrev rmBX7_find (k n : Nat) : Room := { frames := 4, cells := k, slots := n, locals := 90 }
set_option maxRecDepth 100000 in
set_option maxHeartbeats 4000000 in
theorem v_X7_find_123 {k9 n9 : Nat} {p : Program} {l : Launch} {e : Env} {s : State} {m : MethodId} {args : Array Value} {below : List Frame} {meth : Method} {c : Code} {A : Nat → Prop} {D : va_G} {cs zs : Nat → Nat} {h0 : Nat} {a0 : Nat → Nat} {h1 : Nat} {a1 : Nat → Nat} {h2 : Nat} {a2 : Nat → Nat} {u0 : Nat → Nat} {i1 : Nat → Int32} {r1 : Nat → Nat → Int32} {q : Int32 × (Nat → Int32) × (Nat → Nat → Int32) × (Nat → Int32) × (Nat → Nat → Int32)} (C : Cx p s m args meth c A D cs zs cX7_find 7 (some .boolean) RX7)  : ∀ (n : Nat), ∀ (i0 : Nat → Int32) (r0 : Nat → Nat → Int32) (i2 : Nat → Int32) (r2 : Nat → Nat → Int32) (x5 : Int32) (x6 : Int32) (H : Heap) (locs : List Loc) (ls : Array Slot), f_X7_find_123 u0 i1 r1 n i0 r0 i2 r2 x5 x6 = some q → va_P D vwCl (W7 cs h0 a0 i0 r0 u0 ++ (W2 cs h1 a1 i1 r1 ++ W2 cs h2 a2 i2 r2)) H → va_D A (W7 cs h0 a0 i0 r0 u0 ++ (W2 cs h1 a1 i1 r1 ++ W2 cs h2 a2 i2 r2)) → va_S A s.heap H locs → lv_has ls 7 [(0, .ref h0), (3, .ref h2), (5, .int x5), (6, .int x6)] → W p l e (rmBX7_find k9 n9) s m args below meth c H locs k9 n9 (MQ below (Qi D cs A q.1 (W7 cs h0 a0 q.2.1 q.2.2.1 u0 ++ (W2 cs h1 a1 i1 r1 ++ W2 cs h2 a2 q.2.2.2.1 q.2.2.2.2))) args s k9 n9 A) (F0 m 123 ls []) := by
  obtain ⟨hx, hb, hr, hml, hown, hts, hK, hA, hlocks, hZ⟩ := id C
  intro n
  induction n with
  | zero =>
    intro i0 r0 i2 r2 x5 x6 H locs ls hf
    rw [f_X7_find_123] at hf
    cases hf
  | succ n ih =>
    intro i0 r0 i2 r2 x5 x6 H locs ls hf hP hD hS hl
    rw [f_X7_find_123] at hf
    refine lv_iload hx hb dX7_find_123 (lv_at hl 3 rfl) ?_
    refine lv_iload hx hb dX7_find_125 (lv_at hl 2 rfl) ?_
    refine lv_icmp_ge (tgt := 147) hx hb dX7_find_127 (by decide) (fun hc => ?_) (fun hc => ?_)
    · have hf := ite_t hf hc
      refine lv_iconst (v := 1) hx hb dX7_find_147 (by decide) ?_
      obtain rfl := Option.some.inj hf
      exact k_zret (r := 1) hx hb hr hlocks rfl hK hP hD hS dX7_find_148
    · have hf := ite_f hf hc
      refine lv_aload_n hx hb dX7_find_130 rfl (lv_at hl 1 rfl) ?_
      refine lv_aload_n hx hb dX7_find_131 rfl (lv_at hl 0 rfl) ?_
      refine va_get (D := D) (ci := 7) (v := .ref (a0 1)) (C := RX7) (T := TX7) (N := 13) hx hb hts hiX7 hown hK hP 0 rfl rfl 1 (by decide) (hts _ flX7_18) (fun _ h9 => h9) rfl dX7_find_132 ?_
      refine lv_iload hx hb dX7_find_135 (lv_at hl 3 rfl) ?_
      refine va_iald (f := r0 1) hx hb hK hP 2 0 rfl rfl (ck_in hf) dX7_find_137 ?_
      have hf := ck_2 hf
      obtain ⟨q10, hq10, hf⟩ := bd_s hf
      refine k_pSv (wr := W7 cs h0 a0 i0 r0 u0 ++ W2 cs h1 a1 i1 r1) (ws2 := W7 cs h0 a0 i0 r0 u0 ++ (W2 cs h1 a1 i1 r1 ++ W2 cs h2 a2 q10.1 q10.2)) (As := [.ref h2, .int (r0 1 x6.toNatClampNeg)]) (rest := []) hx hb hml hown hts hK hA hZ hl.1 hP hD hS (c_X7_addPicked (h0 := h2) (a0 := a2) hq10) (gSt mlX7_74 stX7_addPicked inX7 coX7_addPicked) rfl qnX7_addPicked rfl rfl ⟨Nat.le_of_ble_eq_true rfl, Nat.le_of_ble_eq_true rfl⟩ [12, 13, 14, 15, 16] [0, 1, 2, 3, 4, 5, 6, 7, 8, 9, 10, 11] [0, 1, 2, 3, 4, 5, 6, 7, 8, 9, 10, 11, 12, 13, 14, 15, 16] rfl rfl rfl (by decide) rfl rfl (Nat.le_of_ble_eq_true rfl) ⟨Nat.le_refl _, Nat.le_refl _⟩ dX7_find_138 (fun H locs hP hD hS => ?_)
      refine lv_iinc (v := x6 + 1) (lv' := [(6, .int (x6 + 1)), (0, .ref h0), (3, .ref h2), (5, .int x5)]) hx hb dX7_find_141 hl (k := 3) rfl rfl (by decide) rfl (fun ls hl => ?_)
      refine lv_goto (tgt := 123) hx hb dX7_find_144 (by decide) ?_
      exact ih _ _ _ _ _ _ _ _ _ hf hP hD hS (lv_sub hl [1, 2, 3, 0] rfl)
set_option maxRecDepth 100000 in
set_option maxHeartbeats 4000000 in
theorem v_X7_find_100 {k9 n9 : Nat} {p : Program} {l : Launch} {e : Env} {s : State} {m : MethodId} {args : Array Value} {below : List Frame} {meth : Method} {c : Code} {A : Nat → Prop} {D : va_G} {cs zs : Nat → Nat} {h0 : Nat} {a0 : Nat → Nat} {h1 : Nat} {a1 : Nat → Nat} {h2 : Nat} {a2 : Nat → Nat} {u0 : Nat → Nat} {i1 : Nat → Int32} {r1 : Nat → Nat → Int32} {q : Int32 × (Nat → Int32) × (Nat → Nat → Int32) × (Nat → Int32) × (Nat → Nat → Int32)} (C : Cx p s m args meth c A D cs zs cX7_find 7 (some .boolean) RX7)  : ∀ (i0 : Nat → Int32) (r0 : Nat → Nat → Int32) (i2 : Nat → Int32) (r2 : Nat → Nat → Int32) (x4 : Int32) (H : Heap) (locs : List Loc) (ls : Array Slot), f_X7_find_100 u0 i1 r1 i0 r0 i2 r2 x4 = some q → va_P D vwCl (W7 cs h0 a0 i0 r0 u0 ++ (W2 cs h1 a1 i1 r1 ++ W2 cs h2 a2 i2 r2)) H → va_D A (W7 cs h0 a0 i0 r0 u0 ++ (W2 cs h1 a1 i1 r1 ++ W2 cs h2 a2 i2 r2)) → va_S A s.heap H locs → lv_has ls 7 [(0, .ref h0), (3, .ref h2), (4, .int x4)] → W p l e (rmBX7_find k9 n9) s m args below meth c H locs k9 n9 (MQ below (Qi D cs A q.1 (W7 cs h0 a0 q.2.1 q.2.2.1 u0 ++ (W2 cs h1 a1 i1 r1 ++ W2 cs h2 a2 q.2.2.2.1 q.2.2.2.2))) args s k9 n9 A) (F0 m 100 ls []) := by
  obtain ⟨hx, hb, hr, hml, hown, hts, hK, hA, hlocks, hZ⟩ := id C
  intro i0 r0 i2 r2 x4 H locs ls hf hP hD hS hl
  rw [f_X7_find_100] at hf
  refine lv_iload hx hb dX7_find_100 (lv_at hl 2 rfl) ?_
  refine lv_if_ge (tgt := 107) hx hb dX7_find_102 (by decide) (fun hc => ?_) (fun hc => ?_)
  · have hf := ite_t hf hc
    refine lv_aload_n hx hb dX7_find_107 rfl (lv_at hl 0 rfl) ?_
    refine lv_iload hx hb dX7_find_108 (lv_at hl 2 rfl) ?_
    obtain ⟨q11, hq11, hf⟩ := bd_s hf
    refine k_pVi (wr := W2 cs h1 a1 i1 r1 ++ W2 cs h2 a2 i2 r2) (ws2 := W7 cs h0 a0 q11.2.1 q11.2.2 u0 ++ (W2 cs h1 a1 i1 r1 ++ W2 cs h2 a2 i2 r2)) (As := [.int x4]) (rest := []) hx hb hml hown hts hK hA hZ hl.1 hP hD hS (c_X7_walkHome (h0 := h0) (a0 := a0) hq11) (gVt mlX7_66 imX7_walkHome seX7_walkHome inX7 coX7_walkHome) rfl qnX7_walkHome rfl rfl ⟨Nat.le_of_ble_eq_true rfl, Nat.le_of_ble_eq_true rfl⟩ [0, 1, 2, 3, 4, 5, 6] [7, 8, 9, 10, 11, 12, 13, 14, 15, 16] [10, 11, 12, 13, 14, 15, 16, 0, 1, 2, 3, 4, 5, 6, 7, 8, 9] rfl rfl rfl (by decide) 0 7 rfl rfl rfl rfl rfl (Nat.le_of_ble_eq_true rfl) ⟨Nat.le_refl _, Nat.le_refl _⟩ dX7_find_110 (fun H locs hP hD hS => ?_)
    refine lv_istore (lv' := [(5, .int q11.1), (0, .ref h0), (3, .ref h2), (4, .int x4)]) hx hb dX7_find_113 hl (by decide) rfl (fun ls hl => ?_)
    refine lv_aload_n hx hb dX7_find_115 rfl (lv_at hl 2 rfl) ?_
    refine lv_iconst (v := 3) hx hb dX7_find_116 (by decide) ?_
    obtain ⟨q12, hq12, hf⟩ := bd_s hf
    refine k_pVv (wr := W7 cs h0 a0 q11.2.1 q11.2.2 u0 ++ W2 cs h1 a1 i1 r1) (ws2 := W7 cs h0 a0 q11.2.1 q11.2.2 u0 ++ (W2 cs h1 a1 i1 r1 ++ W2 cs h2 a2 q12 r2)) (As := [.int 3]) (rest := []) hx hb hml hown hts hK hA hZ hl.1 hP hD hS (c_X2_clear (h0 := h2) (a0 := a2) hq12) (gVt mlX7_69 imX2_clear seX2_clear inX2 coX2_clear) rfl qnX2_clear rfl rfl ⟨Nat.le_of_ble_eq_true rfl, Nat.le_of_ble_eq_true rfl⟩ [12, 13, 14, 15, 16] [0, 1, 2, 3, 4, 5, 6, 7, 8, 9, 10, 11] [0, 1, 2, 3, 4, 5, 6, 7, 8, 9, 10, 11, 12, 13, 14, 15, 16] rfl rfl rfl (by decide) 0 2 rfl rfl rfl rfl rfl (Nat.le_of_ble_eq_true rfl) ⟨Nat.le_refl _, Nat.le_refl _⟩ dX7_find_117 (fun H locs hP hD hS => ?_)
    refine lv_iconst (v := 0) hx hb dX7_find_120 (by decide) ?_
    refine lv_istore (lv' := [(6, .int 0), (5, .int q11.1), (0, .ref h0), (3, .ref h2), (4, .int x4)]) hx hb dX7_find_121 hl (by decide) rfl (fun ls hl => ?_)
    exact v_X7_find_123 C  2000000 _ _ _ _ _ _ _ _ _ hf hP hD hS (lv_sub hl [2, 3, 1, 0] rfl)
  · have hf := ite_f hf hc
    refine lv_iconst (v := 0) hx hb dX7_find_105 (by decide) ?_
    obtain rfl := Option.some.inj hf
    exact k_zret (r := 0) hx hb hr hlocks rfl hK hP hD hS dX7_find_106
set_option maxRecDepth 100000 in
set_option maxHeartbeats 4000000 in
theorem v_X7_find_98 {k9 n9 : Nat} {p : Program} {l : Launch} {e : Env} {s : State} {m : MethodId} {args : Array Value} {below : List Frame} {meth : Method} {c : Code} {A : Nat → Prop} {D : va_G} {cs zs : Nat → Nat} {h0 : Nat} {a0 : Nat → Nat} {h1 : Nat} {a1 : Nat → Nat} {h2 : Nat} {a2 : Nat → Nat} {u0 : Nat → Nat} {i1 : Nat → Int32} {r1 : Nat → Nat → Int32} {q : Int32 × (Nat → Int32) × (Nat → Nat → Int32) × (Nat → Int32) × (Nat → Nat → Int32)} (C : Cx p s m args meth c A D cs zs cX7_find 7 (some .boolean) RX7)  : ∀ (i0 : Nat → Int32) (r0 : Nat → Nat → Int32) (i2 : Nat → Int32) (r2 : Nat → Nat → Int32) (y0 : Int32) (H : Heap) (locs : List Loc) (ls : Array Slot), f_X7_find_98 u0 i1 r1 i0 r0 i2 r2 y0 = some q → va_P D vwCl (W7 cs h0 a0 i0 r0 u0 ++ (W2 cs h1 a1 i1 r1 ++ W2 cs h2 a2 i2 r2)) H → va_D A (W7 cs h0 a0 i0 r0 u0 ++ (W2 cs h1 a1 i1 r1 ++ W2 cs h2 a2 i2 r2)) → va_S A s.heap H locs → lv_has ls 7 [(0, .ref h0), (3, .ref h2)] → W p l e (rmBX7_find k9 n9) s m args below meth c H locs k9 n9 (MQ below (Qi D cs A q.1 (W7 cs h0 a0 q.2.1 q.2.2.1 u0 ++ (W2 cs h1 a1 i1 r1 ++ W2 cs h2 a2 q.2.2.2.1 q.2.2.2.2))) args s k9 n9 A) (F0 m 98 ls [.int y0]) := by
  obtain ⟨hx, hb, hr, hml, hown, hts, hK, hA, hlocks, hZ⟩ := id C
  intro i0 r0 i2 r2 y0 H locs ls hf hP hD hS hl
  rw [f_X7_find_98] at hf
  refine lv_istore (lv' := [(4, .int y0), (0, .ref h0), (3, .ref h2)]) hx hb dX7_find_98 hl (by decide) rfl (fun ls hl => ?_)
  exact v_X7_find_100 C  _ _ _ _ _ _ _ _ hf hP hD hS (lv_sub hl [1, 2, 0] rfl)
set_option maxRecDepth 100000 in
set_option maxHeartbeats 4000000 in
theorem v_X7_find_69 {k9 n9 : Nat} {p : Program} {l : Launch} {e : Env} {s : State} {m : MethodId} {args : Array Value} {below : List Frame} {meth : Method} {c : Code} {A : Nat → Prop} {D : va_G} {cs zs : Nat → Nat} {h0 : Nat} {a0 : Nat → Nat} {h1 : Nat} {a1 : Nat → Nat} {h2 : Nat} {a2 : Nat → Nat} {u0 : Nat → Nat} {i1 : Nat → Int32} {r1 : Nat → Nat → Int32} {q : Int32 × (Nat → Int32) × (Nat → Nat → Int32) × (Nat → Int32) × (Nat → Nat → Int32)} (C : Cx p s m args meth c A D cs zs cX7_find 7 (some .boolean) RX7)  : ∀ (i0 : Nat → Int32) (r0 : Nat → Nat → Int32) (i2 : Nat → Int32) (r2 : Nat → Nat → Int32) (H : Heap) (locs : List Loc) (ls : Array Slot), f_X7_find_69 u0 i1 r1 i0 r0 i2 r2 = some q → va_P D vwCl (W7 cs h0 a0 i0 r0 u0 ++ (W2 cs h1 a1 i1 r1 ++ W2 cs h2 a2 i2 r2)) H → va_D A (W7 cs h0 a0 i0 r0 u0 ++ (W2 cs h1 a1 i1 r1 ++ W2 cs h2 a2 i2 r2)) → va_S A s.heap H locs → lv_has ls 7 [(0, .ref h0), (3, .ref h2)] → W p l e (rmBX7_find k9 n9) s m args below meth c H locs k9 n9 (MQ below (Qi D cs A q.1 (W7 cs h0 a0 q.2.1 q.2.2.1 u0 ++ (W2 cs h1 a1 i1 r1 ++ W2 cs h2 a2 q.2.2.2.1 q.2.2.2.2))) args s k9 n9 A) (F0 m 69 ls []) := by
  obtain ⟨hx, hb, hr, hml, hown, hts, hK, hA, hlocks, hZ⟩ := id C
  intro i0 r0 i2 r2 H locs ls hf hP hD hS hl
  rw [f_X7_find_69] at hf
  refine lv_iconst (v := 0) hx hb dX7_find_69 (by decide) ?_
  refine lv_istore (lv' := [(4, .int 0), (0, .ref h0), (3, .ref h2)]) hx hb dX7_find_70 hl (by decide) rfl (fun ls hl => ?_)
  refine lv_aload_n hx hb dX7_find_72 rfl (lv_at hl 1 rfl) ?_
  refine lv_aload_n hx hb dX7_find_73 rfl (lv_at hl 1 rfl) ?_
  refine va_get (D := D) (ci := 7) (v := .int (i0 12)) (C := RX7) (T := TX7) (N := 13) hx hb hts hiX7 hown hK hP 0 rfl rfl 12 (by decide) (hts _ flX7_45) (fun _ h9 => h9) rfl dX7_find_74 ?_
  obtain ⟨q13, hq13, hf⟩ := bd_s hf
  refine k_pVi (wr := W2 cs h1 a1 i1 r1 ++ W2 cs h2 a2 i2 r2) (ws2 := W7 cs h0 a0 i0 r0 u0 ++ (W2 cs h1 a1 i1 r1 ++ W2 cs h2 a2 i2 r2)) (As := [.int (i0 12)]) (rest := []) hx hb hml hown hts hK hA hZ hl.1 hP hD hS (c_X7_distance (h0 := h0) (a0 := a0) hq13) (gVt mlX7_48 imX7_distance seX7_distance inX7 coX7_distance) rfl qnX7_distance rfl rfl ⟨Nat.le_of_ble_eq_true rfl, Nat.le_of_ble_eq_true rfl⟩ [0, 1, 2, 3, 4, 5, 6] [7, 8, 9, 10, 11, 12, 13, 14, 15, 16] [10, 11, 12, 13, 14, 15, 16, 0, 1, 2, 3, 4, 5, 6, 7, 8, 9] rfl rfl rfl (by decide) 0 7 rfl rfl rfl rfl rfl (Nat.le_of_ble_eq_true rfl) ⟨Nat.le_refl _, Nat.le_refl _⟩ dX7_find_77 (fun H locs hP hD hS => ?_)
  refine lv_if_ge (tgt := 100) hx hb dX7_find_80 (by decide) (fun hc => ?_) (fun hc => ?_)
  · have hf := ite_t hf hc
    exact v_X7_find_100 C  _ _ _ _ _ _ _ _ hf hP hD hS (lv_sub hl [1, 2, 0] rfl)
  · have hf := ite_f hf hc
    refine lv_aload_n hx hb dX7_find_83 rfl (lv_at hl 1 rfl) ?_
    refine va_get (D := D) (ci := 7) (v := .int (i0 11)) (C := RX7) (T := TX7) (N := 13) hx hb hts hiX7 hown hK hP 0 rfl rfl 11 (by decide) (hts _ flX7_52) (fun _ h9 => h9) rfl dX7_find_84 ?_
    refine lv_if_eq (tgt := 94) hx hb dX7_find_87 (by decide) (fun hc => ?_) (fun hc => ?_)
    · have hf := ite_t hf hc
      refine lv_aload_n hx hb dX7_find_94 rfl (lv_at hl 1 rfl) ?_
      obtain ⟨q14, hq14, hf⟩ := bd_s hf
      refine k_pVi (wr := W2 cs h1 a1 i1 r1 ++ W2 cs h2 a2 i2 r2) (ws2 := W7 cs h0 a0 q14.2.1 q14.2.2 u0 ++ (W2 cs h1 a1 i1 r1 ++ W2 cs h2 a2 i2 r2)) (As := []) (rest := []) hx hb hml hown hts hK hA hZ hl.1 hP hD hS (c_X7_stepsToRim (h0 := h0) (a0 := a0) hq14) (gVt mlX7_62 imX7_stepsToRim seX7_stepsToRim inX7 coX7_stepsToRim) rfl qnX7_stepsToRim rfl rfl ⟨Nat.le_of_ble_eq_true rfl, Nat.le_of_ble_eq_true rfl⟩ [0, 1, 2, 3, 4, 5, 6] [7, 8, 9, 10, 11, 12, 13, 14, 15, 16] [10, 11, 12, 13, 14, 15, 16, 0, 1, 2, 3, 4, 5, 6, 7, 8, 9] rfl rfl rfl (by decide) 0 7 rfl rfl rfl rfl rfl (Nat.le_of_ble_eq_true rfl) ⟨Nat.le_refl _, Nat.le_refl _⟩ dX7_find_95 (fun H locs hP hD hS => ?_)
      exact v_X7_find_98 C  _ _ _ _ _ _ _ _ hf hP hD hS (lv_sub hl [1, 2] rfl)
    · have hf := ite_f hf hc
      refine lv_iconst (v := (-1)) hx hb dX7_find_90 (by decide) ?_
      refine lv_goto (tgt := 98) hx hb dX7_find_91 (by decide) ?_
      exact v_X7_find_98 C  _ _ _ _ _ _ _ _ hf hP hD hS (lv_sub hl [1, 2] rfl)
set_option maxRecDepth 100000 in
set_option maxHeartbeats 4000000 in
theorem v_X7_find_24 {k9 n9 : Nat} {p : Program} {l : Launch} {e : Env} {s : State} {m : MethodId} {args : Array Value} {below : List Frame} {meth : Method} {c : Code} {A : Nat → Prop} {D : va_G} {cs zs : Nat → Nat} {h0 : Nat} {a0 : Nat → Nat} {h1 : Nat} {a1 : Nat → Nat} {h2 : Nat} {a2 : Nat → Nat} {u0 : Nat → Nat} {i1 : Nat → Int32} {r1 : Nat → Nat → Int32} {q : Int32 × (Nat → Int32) × (Nat → Nat → Int32) × (Nat → Int32) × (Nat → Nat → Int32)} (C : Cx p s m args meth c A D cs zs cX7_find 7 (some .boolean) RX7)  : ∀ (n : Nat), ∀ (i0 : Nat → Int32) (r0 : Nat → Nat → Int32) (i2 : Nat → Int32) (r2 : Nat → Nat → Int32) (x4 : Int32) (H : Heap) (locs : List Loc) (ls : Array Slot), f_X7_find_24 u0 i1 r1 n i0 r0 i2 r2 x4 = some q → va_P D vwCl (W7 cs h0 a0 i0 r0 u0 ++ (W2 cs h1 a1 i1 r1 ++ W2 cs h2 a2 i2 r2)) H → va_D A (W7 cs h0 a0 i0 r0 u0 ++ (W2 cs h1 a1 i1 r1 ++ W2 cs h2 a2 i2 r2)) → va_S A s.heap H locs → lv_has ls 7 [(0, .ref h0), (3, .ref h2), (4, .int x4)] → W p l e (rmBX7_find k9 n9) s m args below meth c H locs k9 n9 (MQ below (Qi D cs A q.1 (W7 cs h0 a0 q.2.1 q.2.2.1 u0 ++ (W2 cs h1 a1 i1 r1 ++ W2 cs h2 a2 q.2.2.2.1 q.2.2.2.2))) args s k9 n9 A) (F0 m 24 ls []) := by
  obtain ⟨hx, hb, hr, hml, hown, hts, hK, hA, hlocks, hZ⟩ := id C
  intro n
  induction n with
  | zero =>
    intro i0 r0 i2 r2 x4 H locs ls hf
    rw [f_X7_find_24] at hf
    cases hf
  | succ n ih =>
    intro i0 r0 i2 r2 x4 H locs ls hf hP hD hS hl
    rw [f_X7_find_24] at hf
    refine lv_iload hx hb dX7_find_24 (lv_at hl 2 rfl) ?_
    refine lv_bipush (v := 40) hx hb dX7_find_26 (by decide) ?_
    refine lv_icmp_ge (tgt := 69) hx hb dX7_find_28 (by decide) (fun hc => ?_) (fun hc => ?_)
    · have hf := ite_t hf hc
      exact v_X7_find_69 C  _ _ _ _ _ _ _ hf hP hD hS (lv_sub hl [0, 1] rfl)
    · have hf := ite_f hf hc
      refine lv_aload_n hx hb dX7_find_31 rfl (lv_at hl 0 rfl) ?_
      refine lv_aload_n hx hb dX7_find_32 rfl (lv_at hl 0 rfl) ?_
      refine va_get (D := D) (ci := 7) (v := .int (i0 12)) (C := RX7) (T := TX7) (N := 13) hx hb hts hiX7 hown hK hP 0 rfl rfl 12 (by decide) (hts _ flX7_45) (fun _ h9 => h9) rfl dX7_find_33 ?_
      obtain ⟨q15, hq15, hf⟩ := bd_s hf
      refine k_pVi (wr := W2 cs h1 a1 i1 r1 ++ W2 cs h2 a2 i2 r2) (ws2 := W7 cs h0 a0 i0 r0 u0 ++ (W2 cs h1 a1 i1 r1 ++ W2 cs h2 a2 i2 r2)) (As := [.int (i0 12)]) (rest := []) hx hb hml hown hts hK hA hZ hl.1 hP hD hS (c_X7_distance (h0 := h0) (a0 := a0) hq15) (gVt mlX7_48 imX7_distance seX7_distance inX7 coX7_distance) rfl qnX7_distance rfl rfl ⟨Nat.le_of_ble_eq_true rfl, Nat.le_of_ble_eq_true rfl⟩ [0, 1, 2, 3, 4, 5, 6] [7, 8, 9, 10, 11, 12, 13, 14, 15, 16] [10, 11, 12, 13, 14, 15, 16, 0, 1, 2, 3, 4, 5, 6, 7, 8, 9] rfl rfl rfl (by decide) 0 7 rfl rfl rfl rfl rfl (Nat.le_of_ble_eq_true rfl) ⟨Nat.le_refl _, Nat.le_refl _⟩ dX7_find_36 (fun H locs hP hD hS => ?_)
      refine lv_if_ge (tgt := 69) hx hb dX7_find_39 (by decide) (fun hc => ?_) (fun hc => ?_)
      · have hf := ite_t hf hc
        exact v_X7_find_69 C  _ _ _ _ _ _ _ hf hP hD hS (lv_sub hl [0, 1] rfl)
      · have hf := ite_f hf hc
        refine lv_aload_n hx hb dX7_find_42 rfl (lv_at hl 0 rfl) ?_
        refine va_get (D := D) (ci := 7) (v := .int (i0 11)) (C := RX7) (T := TX7) (N := 13) hx hb hts hiX7 hown hK hP 0 rfl rfl 11 (by decide) (hts _ flX7_52) (fun _ h9 => h9) rfl dX7_find_43 ?_
        refine lv_if_ne (tgt := 69) hx hb dX7_find_46 (by decide) (fun hc => ?_) (fun hc => ?_)
        · have hf := ite_f hf hc
          exact v_X7_find_69 C  _ _ _ _ _ _ _ hf hP hD hS (lv_sub hl [0, 1] rfl)
        · have hf := ite_t hf hc
          refine lv_aload_n hx hb dX7_find_49 rfl (lv_at hl 0 rfl) ?_
          refine va_get (D := D) (ci := 7) (v := .int (i0 8)) (C := RX7) (T := TX7) (N := 13) hx hb hts hiX7 hown hK hP 0 rfl rfl 8 (by decide) (hts _ flX7_56) (fun _ h9 => h9) rfl dX7_find_50 ?_
          refine lv_sipush (v := 5040) hx hb dX7_find_53 (by decide) ?_
          refine lv_icmp_gt (tgt := 69) hx hb dX7_find_56 (by decide) (fun hc => ?_) (fun hc => ?_)
          · have hf := ite_t hf hc
            exact v_X7_find_69 C  _ _ _ _ _ _ _ hf hP hD hS (lv_sub hl [0, 1] rfl)
          · have hf := ite_f hf hc
            refine lv_aload_n hx hb dX7_find_59 rfl (lv_at hl 0 rfl) ?_
            obtain ⟨q16, hq16, hf⟩ := bd_s hf
            refine k_pVv (wr := W2 cs h1 a1 i1 r1 ++ W2 cs h2 a2 i2 r2) (ws2 := W7 cs h0 a0 q16.1 q16.2 u0 ++ (W2 cs h1 a1 i1 r1 ++ W2 cs h2 a2 i2 r2)) (As := []) (rest := []) hx hb hml hown hts hK hA hZ hl.1 hP hD hS (c_X7_growNear (h0 := h0) (a0 := a0) hq16) (gVt mlX7_59 imX7_growNear seX7_growNear inX7 coX7_growNear) rfl qnX7_growNear rfl rfl ⟨Nat.le_of_ble_eq_true rfl, Nat.le_of_ble_eq_true rfl⟩ [0, 1, 2, 3, 4, 5, 6] [7, 8, 9, 10, 11, 12, 13, 14, 15, 16] [10, 11, 12, 13, 14, 15, 16, 0, 1, 2, 3, 4, 5, 6, 7, 8, 9] rfl rfl rfl (by decide) 0 7 rfl rfl rfl rfl rfl (Nat.le_of_ble_eq_true rfl) ⟨Nat.le_refl _, Nat.le_refl _⟩ dX7_find_60 (fun H locs hP hD hS => ?_)
            refine lv_iinc (v := x4 + 1) (lv' := [(4, .int (x4 + 1)), (0, .ref h0), (3, .ref h2)]) hx hb dX7_find_63 hl (k := 2) rfl rfl (by decide) rfl (fun ls hl => ?_)
            refine lv_goto (tgt := 24) hx hb dX7_find_66 (by decide) ?_
            exact ih _ _ _ _ _ _ _ _ hf hP hD hS (lv_sub hl [1, 2, 0] rfl)
set_option maxRecDepth 100000 in
set_option maxHeartbeats 4000000 in
theorem v_X7_find_13 {k9 n9 : Nat} {p : Program} {l : Launch} {e : Env} {s : State} {m : MethodId} {args : Array Value} {below : List Frame} {meth : Method} {c : Code} {A : Nat → Prop} {D : va_G} {cs zs : Nat → Nat} {h0 : Nat} {a0 : Nat → Nat} {h1 : Nat} {a1 : Nat → Nat} {h2 : Nat} {a2 : Nat → Nat} {u0 : Nat → Nat} {i1 : Nat → Int32} {r1 : Nat → Nat → Int32} {q : Int32 × (Nat → Int32) × (Nat → Nat → Int32) × (Nat → Int32) × (Nat → Nat → Int32)} (C : Cx p s m args meth c A D cs zs cX7_find 7 (some .boolean) RX7)  : ∀ (i0 : Nat → Int32) (r0 : Nat → Nat → Int32) (i2 : Nat → Int32) (r2 : Nat → Nat → Int32) (H : Heap) (locs : List Loc) (ls : Array Slot), f_X7_find_13 u0 i1 r1 i0 r0 i2 r2 = some q → va_P D vwCl (W7 cs h0 a0 i0 r0 u0 ++ (W2 cs h1 a1 i1 r1 ++ W2 cs h2 a2 i2 r2)) H → va_D A (W7 cs h0 a0 i0 r0 u0 ++ (W2 cs h1 a1 i1 r1 ++ W2 cs h2 a2 i2 r2)) → va_S A s.heap H locs → lv_has ls 7 [(0, .ref h0), (1, .ref h1), (3, .ref h2)] → W p l e (rmBX7_find k9 n9) s m args below meth c H locs k9 n9 (MQ below (Qi D cs A q.1 (W7 cs h0 a0 q.2.1 q.2.2.1 u0 ++ (W2 cs h1 a1 i1 r1 ++ W2 cs h2 a2 q.2.2.2.1 q.2.2.2.2))) args s k9 n9 A) (F0 m 13 ls []) := by
  obtain ⟨hx, hb, hr, hml, hown, hts, hK, hA, hlocks, hZ⟩ := id C
  intro i0 r0 i2 r2 H locs ls hf hP hD hS hl
  rw [f_X7_find_13] at hf
  refine lv_aload_n hx hb dX7_find_13 rfl (lv_at hl 0 rfl) ?_
  refine lv_aload_n hx hb dX7_find_14 rfl (lv_at hl 1 rfl) ?_
  obtain ⟨q17, hq17, hf⟩ := bd_s hf
  refine k_pSi (wr := W7 cs h0 a0 i0 r0 u0 ++ W2 cs h2 a2 i2 r2) (ws2 := W7 cs h0 a0 i0 r0 u0 ++ (W2 cs h1 a1 i1 r1 ++ W2 cs h2 a2 i2 r2)) (As := [.ref h1]) (rest := [.ref h0]) hx hb hml hown hts hK hA hZ hl.1 hP hD hS (c_X7_undoing (h0 := h1) (a0 := a1) hq17) (gSt mlX7_41 stX7_undoing inX7 coX7_undoing) rfl qnX7_undoing rfl rfl ⟨Nat.le_of_ble_eq_true rfl, Nat.le_of_ble_eq_true rfl⟩ [7, 8, 9, 10, 11] [0, 1, 2, 3, 4, 5, 6, 12, 13, 14, 15, 16] [0, 1, 2, 3, 4, 5, 6, 12, 13, 14, 15, 16, 7, 8, 9, 10, 11] rfl rfl rfl (by decide) rfl rfl (Nat.le_of_ble_eq_true rfl) ⟨Nat.le_refl _, Nat.le_refl _⟩ dX7_find_15 (fun H locs hP hD hS => ?_)
  refine va_put (D := D) (ci := 7) (v := .int q17) (ty := .int) (C := RX7) (T := TX7) (N := 13) hx hb hts hiX7 tyX7 tyX7_ok nmX7 hown hK hP hD hS 0 rfl rfl 12 (by decide) (hts _ flX7_45) (fun _ h9 => h9) rfl (tyX7_ok 12 (by decide)) rfl rfl (Nat.le_of_ble_eq_true rfl) dX7_find_18 (fun H locs hP hD hS => ?_)
  obtain ⟨hP, hD⟩ := st7_12_T hP hD
  refine lv_iconst (v := 0) hx hb dX7_find_21 (by decide) ?_
  refine lv_istore (lv' := [(4, .int 0), (0, .ref h0), (1, .ref h1), (3, .ref h2)]) hx hb dX7_find_22 hl (by decide) rfl (fun ls hl => ?_)
  exact v_X7_find_24 C  2000000 _ _ _ _ _ _ _ _ hf hP hD hS (lv_sub hl [1, 3, 0] rfl)
