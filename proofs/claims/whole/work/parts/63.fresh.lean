/-- the same for a method that answers nothing -/
def MvN (l : Launch) (y : MethodName) (wl : List Cond) (rm : Room) (D : va_G) (cs zs : Nat → Nat) (av : List Value) (ws : va_W) (ws' : (Nat → Nat) → va_W) (mc ms : Nat) : Prop :=
  ∀ sz : Nat, Met l y wl rm (va_Pc av (PW D cs zs ws sz)) (va_Qv (fun (_ : Nat → Nat) => True) (fun u t => RW D cs (va_A ws sz) (ws' u) t) (va_A ws sz)) mc ms (va_A ws sz)
theorem MvN.of {l : Launch} {y : MethodName} {rm : Room} {D : va_G} {cs zs : Nat → Nat} {av : List Value} {ws : va_W} {ws' : (Nat → Nat) → va_W} {mc ms : Nat} {cc : ByteArray} {nL : Nat} {ret : Option FieldType} (own : String) (hy : plainName y.cls = true) (ho : y.cls = own) (hcells : (lg_sl av).length ≤ nL)
    (body : ∀ (p : Program) (e : Env) (s : State) (m : MethodId) (below : List Frame) (meth : Method) (c : Code) (A : Nat → Prop), Cx p s m av.toArray meth c A D cs zs cc nL ret own → va_P D vwCl ws s.heap → va_D A ws → va_S A s.heap s.heap [] → ∀ ls : Array Slot, lv_has ls nL (lv_args 0 av) → W p l e rm s m av.toArray below meth c s.heap [] 0 0 (fun t => ∃ u : Nat → Nat, MQ below (Qv D cs A (ws' u)) av.toArray s mc ms A t) (F0 m 0 ls [])) : MvN l y (Cond.code y cc nL ret :: tbG) rm D cs zs av ws ws' mc ms := by
  intro sz
  refine Met.ofW (cc := cc) (maxL := nL) (ret := ret) hy rfl ?_
  intro p e s m args below meth c s₁ B hml hv
  obtain ⟨rfl, hsz, hP, hK, hD0, hZ⟩ := hv
  have hts := atoms_spec (ws := Cond.code y cc nL ret :: tbG) B.pre
  have hown : s.vm.findClass own = some m.cls := by rw [← ho]; exact findClass_of_methodNamed B.named
  subst hsz
  have hD := hD0.self (sz := s.heap.size)
  have hl := lv_entry av (n := nL) hcells
  rw [lg_entry_eq]
  refine k_mono (body p e s m below meth c _ ⟨B.exec, B.bytes, B.returns, hml, hown, fun w h => hts w (List.mem_cons_of_mem _ h), hK, fun q h => Or.inr h, B.notSynchronized, hZ⟩ hP hD va_S.rf _ hl) (fun t ht => ?_)
  obtain ⟨u, o, h1, h2, ⟨⟨-, h3, -, h5⟩, h6⟩, h7⟩ := ht
  exact ⟨o, h1, h2, ⟨⟨u, h3, trivial, h5⟩, h6⟩, h7⟩
set_option maxRecDepth 100000 in
set_option maxHeartbeats 4000000 in
theorem b_X1_begin {l : Launch} {D : va_G} {cs zs : Nat → Nat} {h0 : Nat} {a0 : Nat → Nat} {h1 : Nat} {a1 : Nat → Nat} {i0 : Nat → Int32} {r0 : Nat → Nat → Int32} {u0 : Nat → Nat} {i1 : Nat → Int32} {r1 : Nat → Nat → Int32} {q : (Nat → Int32) × (Nat → Nat → Int32)} (hu : Int32.ofNat (u0 9) = 0) (hf : f_X1_begin_17 (va_up u0 9 10496) i1 r1 i0 (va_up r0 9 (fun _ => 0)) = some q) : MvN l yX1_begin wlX1_begin (rmBX1_begin 1 10496) D cs zs [.ref h0, .ref h1] (W1 cs h0 a0 i0 r0 u0 ++ W2 cs h1 a1 i1 r1) (fun a' => W1 cs h0 a' q.1 q.2 (va_up u0 9 10496) ++ W2 cs h1 a1 i1 r1) 1 10496 := by
  refine MvN.of RX1 (by decide) rfl (Nat.le_of_ble_eq_true rfl) (fun p e s m below meth c A C hP hD hS ls hl => ?_)
  generalize ([.ref h0, .ref h1] : List Value).toArray = args at C ⊢
  obtain ⟨hx, hb, hr, hml, hown, hts, hK, hA, hlocks, hZ⟩ := id C
  have hl : lv_has ls 2 [(0, .ref h0), (1, .ref h1)] := hl
  refine lv_aload_n hx hb dX1_begin_0 rfl (lv_at hl 0 rfl) ?_
  refine va_get (D := D) (ci := 1) (v := .ref (a0 9)) (C := RX1) (T := TX1) (N := 16) hx hb hts hiX1 hown hK hP 0 rfl rfl 9 (by decide) (hts _ flX1_39) (fun _ h9 => h9) rfl dX1_begin_1 ?_
  refine va_alen (v := Int32.ofNat (u0 9)) hx hb hK hP 10 0 rfl rfl rfl dX1_begin_4 ?_
  refine lv_if_ne (tgt := 17) hx hb dX1_begin_5 (by decide) (fun hc => absurd hu hc) (fun _ => ?_)
  refine lv_aload_n hx hb dX1_begin_8 rfl (lv_at hl 0 rfl) ?_
  refine lv_sipush (v := 10496) hx hb dX1_begin_9 (by decide) ?_
  refine k_newi (N := 10496) hx hb hts hK hP hD hS hA (by decide) (by decide) (by decide) (Nat.le_of_ble_eq_true rfl) (Nat.le_of_ble_eq_true rfl) dX1_begin_12 (fun b1 H hP hD hS => ?_)
  refine va_put (D := D) (ci := 1) (v := .ref b1) (ty := (tyX1 9)) (C := RX1) (T := TX1) (N := 16) hx hb hts hiX1 tyX1 tyX1_ok nmX1 hown hK hP hD hS 0 rfl rfl 9 (by decide) (hts _ flX1_39) (fun _ h9 => h9) rfl (tyX1_ok 9 (by decide)) rfl rfl (Nat.le_of_ble_eq_true rfl) dX1_begin_14 (fun H locs hP hD hS => ?_)
  have hP : va_P D vwCl (W1 cs h0 (va_up a0 9 b1) i0 (va_up r0 9 (fun _ => 0)) (va_up u0 9 10496) ++ W2 cs h1 a1 i1 r1) H := k_sub hP [0, 1, 2, 3, 4, 5, 6, 7, 8, 9, 16, 11, 12, 13, 14, 15] rfl
  have hD : va_D A (W1 cs h0 (va_up a0 9 b1) i0 (va_up r0 9 (fun _ => 0)) (va_up u0 9 10496) ++ W2 cs h1 a1 i1 r1) := hD.sub [0, 1, 2, 3, 4, 5, 6, 7, 8, 9, 16, 11, 12, 13, 14, 15] (by decide) rfl
  exact k_mono (v_X1_begin_17 (k9 := 1) (n9 := 10496) C _ _ _ _ _ hf hP hD hS (lv_sub hl [0, 1] rfl)) (fun t ht => ⟨_, ht⟩)
set_option maxRecDepth 100000 in
set_option maxHeartbeats 4000000 in
theorem b_X7_beginNear {l : Launch} {D : va_G} {cs zs : Nat → Nat} {h0 : Nat} {a0 : Nat → Nat} {i0 : Nat → Int32} {r0 : Nat → Nat → Int32} {u0 : Nat → Nat} {x1 : Int32} {q : (Nat → Int32) × (Nat → Nat → Int32)} (hu : Int32.ofNat (u0 4) = 0) (hf : f_X7_beginNear_36 (va_up (va_up u0 4 32768) 5 16384) i0 (va_up (va_up r0 4 (fun _ => 0)) 5 (fun _ => 0)) x1 = some q) : MvN l yX7_beginNear wlX7_beginNear (rmBX7_beginNear 2 49152) D cs zs [.ref h0, .int x1] (W7 cs h0 a0 i0 r0 u0) (fun a' => W7 cs h0 a' q.1 q.2 (va_up (va_up u0 4 32768) 5 16384)) 2 49152 := by
  refine MvN.of RX7 (by decide) rfl (Nat.le_of_ble_eq_true rfl) (fun p e s m below meth c A C hP hD hS ls hl => ?_)
  generalize ([.ref h0, .int x1] : List Value).toArray = args at C ⊢
  obtain ⟨hx, hb, hr, hml, hown, hts, hK, hA, hlocks, hZ⟩ := id C
  have hl : lv_has ls 3 [(0, .ref h0), (1, .int x1)] := hl
  refine lv_aload_n hx hb dX7_beginNear_0 rfl (lv_at hl 0 rfl) ?_
  refine va_get (D := D) (ci := 7) (v := .ref (a0 4)) (C := RX7) (T := TX7) (N := 13) hx hb hts hiX7 hown hK hP 0 rfl rfl 4 (by decide) (hts _ flX7_27) (fun _ h9 => h9) rfl dX7_beginNear_1 ?_
  refine va_alen (v := Int32.ofNat (u0 4)) hx hb hK hP 5 0 rfl rfl rfl dX7_beginNear_4 ?_
  refine lv_if_ne (tgt := 28) hx hb dX7_beginNear_5 (by decide) (fun hc => absurd hu hc) (fun _ => ?_)
  refine lv_aload_n hx hb dX7_beginNear_8 rfl (lv_at hl 0 rfl) ?_
  refine lv_ldc (v := 32768) hx hb hown (hts _ kcX7_95) dX7_beginNear_9 ?_
  refine k_newi (N := 32768) hx hb hts hK hP hD hS hA (by decide) (by decide) (by decide) (Nat.le_of_ble_eq_true rfl) (Nat.le_of_ble_eq_true rfl) dX7_beginNear_11 (fun b1 H hP hD hS => ?_)
  refine va_put (D := D) (ci := 7) (v := .ref b1) (ty := (tyX7 4)) (C := RX7) (T := TX7) (N := 13) hx hb hts hiX7 tyX7 tyX7_ok nmX7 hown hK hP hD hS 0 rfl rfl 4 (by decide) (hts _ flX7_27) (fun _ h9 => h9) rfl (tyX7_ok 4 (by decide)) rfl rfl (Nat.le_of_ble_eq_true rfl) dX7_beginNear_13 (fun H locs hP hD hS => ?_)
  have hP : va_P D vwCl (W7 cs h0 (va_up a0 4 b1) i0 (va_up r0 4 (fun _ => 0)) (va_up u0 4 32768)) H := k_sub hP [0, 1, 2, 3, 4, 7, 6] rfl
  have hD : va_D A (W7 cs h0 (va_up a0 4 b1) i0 (va_up r0 4 (fun _ => 0)) (va_up u0 4 32768)) := hD.sub [0, 1, 2, 3, 4, 7, 6] (by decide) rfl
  refine lv_aload_n hx hb dX7_beginNear_16 rfl (lv_at hl 0 rfl) ?_
  refine lv_sipush (v := 16384) hx hb dX7_beginNear_17 (by decide) ?_
  refine k_newi (N := 16384) hx hb hts hK hP hD hS hA (by decide) (by decide) (by decide) (Nat.le_of_ble_eq_true rfl) (Nat.le_of_ble_eq_true rfl) dX7_beginNear_20 (fun b2 H hP hD hS => ?_)
  refine va_put (D := D) (ci := 7) (v := .ref b2) (ty := (tyX7 5)) (C := RX7) (T := TX7) (N := 13) hx hb hts hiX7 tyX7 tyX7_ok nmX7 hown hK hP hD hS 0 rfl rfl 5 (by decide) (hts _ flX7_30) (fun _ h9 => h9) rfl (tyX7_ok 5 (by decide)) rfl rfl (Nat.le_of_ble_eq_true rfl) dX7_beginNear_22 (fun H locs hP hD hS => ?_)
  have hP : va_P D vwCl (W7 cs h0 (va_up (va_up a0 4 b1) 5 b2) i0 (va_up (va_up r0 4 (fun _ => 0)) 5 (fun _ => 0)) (va_up (va_up u0 4 32768) 5 16384)) H := k_sub hP [0, 1, 2, 3, 4, 5, 7] rfl
  have hD : va_D A (W7 cs h0 (va_up (va_up a0 4 b1) 5 b2) i0 (va_up (va_up r0 4 (fun _ => 0)) 5 (fun _ => 0)) (va_up (va_up u0 4 32768) 5 16384)) := hD.sub [0, 1, 2, 3, 4, 5, 7] (by decide) rfl
  refine lv_goto (tgt := 36) hx hb dX7_beginNear_25 (by decide) ?_
  exact k_mono (v_X7_beginNear_36 (k9 := 2) (n9 := 49152) C _ _ _ _ _ _ hf hP hD hS (lv_sub hl [0, 1] rfl)) (fun t ht => ⟨_, ht⟩)
