/-! MarbleFloor.trail(II)I -/
abbrev wlX11_trail : List Cond := Cond.code yX11_trail cX11_trail 3 (some .int) :: tbG
abbrev rmX11_trail : Room := { frames := 4, cells := 0, slots := 0, locals := 100 }
theorem qnX11_trail : yX11_trail.cls = RX11 ∧ yX11_trail.cls ≠ "java/lang/invoke/MethodHandle" ∧ yX11_trail.cls ≠ "java/lang/invoke/VarHandle" ∧ (parseMethodDescriptor yX11_trail.desc).map (fun d => d.parameters.length) = some 2 := by decide +kernel
def f_X11_trail  (i1 : Nat → Int32) (r1 : Nat → Nat → Int32) (u1 : Nat → Nat) (x1 : Int32) (x2 : Int32) : Option (Int32 × (Nat → Int32) × (Nat → Nat → Int32)) := if x1 < 1 then (some ((-2), i1, r1)) else (if 12 < x1 then (some ((-2), i1, r1)) else (if x2 < 1 then (some ((-2), i1, r1)) else (if x2 ≤ 12 then (bd (f_X10_fewestMoves i1 r1 u1 x1 x2) (fun q2 => some (q2.1, q2.2.1, q2.2.2))) else (some ((-2), i1, r1)))))
set_option maxRecDepth 100000 in
set_option maxHeartbeats 4000000 in
theorem c_X11_trail {l : Launch} {D : va_G} {cs zs : Nat → Nat} {h0 : Nat} {a0 : Nat → Nat} {a1 : Nat → Nat} {i1 : Nat → Int32} {r1 : Nat → Nat → Int32} {u1 : Nat → Nat} {x1 : Int32} {x2 : Int32} {q : Int32 × (Nat → Int32) × (Nat → Nat → Int32)} (hf : f_X11_trail i1 r1 u1 x1 x2 = some q) : Mi l yX11_trail wlX11_trail rmX11_trail D cs zs [.ref h0, .int x1, .int x2] (W11 cs h0 a0  ++ W10 cs (a0 11) a1 i1 r1 u1) q.1 (W11 cs h0 a0  ++ W10 cs (a0 11) a1 q.2.1 q.2.2 u1) := by
  refine Mi.of RX11 (by decide) rfl (Nat.le_of_ble_eq_true rfl) (fun p e s m below meth c A C hP hD hS ls hl => ?_)
  generalize ([.ref h0, .int x1, .int x2] : List Value).toArray = args at C ⊢
  obtain ⟨hx, hb, hr, hml, hown, hts, hK, hA, hlocks, hZ⟩ := id C
  have hl : lv_has ls 3 [(0, .ref h0), (1, .int x1), (2, .int x2)] := hl
  rw [f_X11_trail] at hf
  refine lv_iload_n hx hb dX11_trail_0 rfl (lv_at hl 1 rfl) ?_
  refine lv_iconst (v := 1) hx hb dX11_trail_1 (by decide) ?_
  refine lv_icmp_lt (tgt := 22) hx hb dX11_trail_2 (by decide) (fun hc => ?_) (fun hc => ?_)
  · have hf := ite_t hf hc
    refine lv_bipush (v := (-2)) hx hb dX11_trail_22 (by decide) ?_
    obtain rfl := Option.some.inj hf
    exact k_iret hx hb hr hlocks hK hP hD hS dX11_trail_24
  · have hf := ite_f hf hc
    refine lv_iload_n hx hb dX11_trail_5 rfl (lv_at hl 1 rfl) ?_
    refine lv_bipush (v := 12) hx hb dX11_trail_6 (by decide) ?_
    refine lv_icmp_gt (tgt := 22) hx hb dX11_trail_8 (by decide) (fun hc => ?_) (fun hc => ?_)
    · have hf := ite_t hf hc
      refine lv_bipush (v := (-2)) hx hb dX11_trail_22 (by decide) ?_
      obtain rfl := Option.some.inj hf
      exact k_iret hx hb hr hlocks hK hP hD hS dX11_trail_24
    · have hf := ite_f hf hc
      refine lv_iload_n hx hb dX11_trail_11 rfl (lv_at hl 2 rfl) ?_
      refine lv_iconst (v := 1) hx hb dX11_trail_12 (by decide) ?_
      refine lv_icmp_lt (tgt := 22) hx hb dX11_trail_13 (by decide) (fun hc => ?_) (fun hc => ?_)
      · have hf := ite_t hf hc
        refine lv_bipush (v := (-2)) hx hb dX11_trail_22 (by decide) ?_
        obtain rfl := Option.some.inj hf
        exact k_iret hx hb hr hlocks hK hP hD hS dX11_trail_24
      · have hf := ite_f hf hc
        refine lv_iload_n hx hb dX11_trail_16 rfl (lv_at hl 2 rfl) ?_
        refine lv_bipush (v := 12) hx hb dX11_trail_17 (by decide) ?_
        refine lv_icmp_le (tgt := 25) hx hb dX11_trail_19 (by decide) (fun hc => ?_) (fun hc => ?_)
        · have hf := ite_t hf hc
          refine lv_aload_n hx hb dX11_trail_25 rfl (lv_at hl 0 rfl) ?_
          refine va_get (D := D) (ci := 11) (v := .ref (a0 11)) (C := RX11) (T := TX11) (N := 13) hx hb hts hiX11 hown hK hP 0 rfl rfl 11 (by decide) (hts _ flX11_88) (fun _ h9 => h9) rfl dX11_trail_26 ?_
          refine lv_iload_n hx hb dX11_trail_29 rfl (lv_at hl 1 rfl) ?_
          refine lv_iload_n hx hb dX11_trail_30 rfl (lv_at hl 2 rfl) ?_
          obtain ⟨q2, hq2, hf⟩ := bd_s hf
          refine k_pVi (wr := W11 cs h0 a0 ) (ws2 := W11 cs h0 a0  ++ W10 cs (a0 11) a1 q2.2.1 q2.2.2 u1) (As := [.int x1, .int x2]) (rest := []) hx hb hml hown hts hK hA hZ hl.1 hP hD hS (c_X10_fewestMoves (h0 := (a0 11)) (a0 := a1) hq2) (gVt mlX11_243 imX10_fewestMoves seX10_fewestMoves inX10 coX10_fewestMoves) rfl qnX10_fewestMoves rfl rfl ⟨Nat.le_of_ble_eq_true rfl, Nat.le_of_ble_eq_true rfl⟩ [1, 2, 3, 4] [0] [0, 1, 2, 3, 4] rfl rfl rfl (by decide) 0 10 rfl rfl rfl rfl rfl (Nat.le_of_ble_eq_true rfl) ⟨Nat.zero_le _, Nat.zero_le _⟩ dX11_trail_31 (fun H locs hP hD hS => ?_)
          obtain rfl := Option.some.inj hf
          exact k_iret hx hb hr hlocks hK hP hD hS dX11_trail_34
        · have hf := ite_f hf hc
          refine lv_bipush (v := (-2)) hx hb dX11_trail_22 (by decide) ?_
          obtain rfl := Option.some.inj hf
          exact k_iret hx hb hr hlocks hK hP hD hS dX11_trail_24
