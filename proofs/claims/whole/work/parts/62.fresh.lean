/-! ===== the first call of a method that makes its late arrays ===== -/
/-- the method answers r; it has made mc cells, and the object's arrays lie at new addresses -/
def MiN (l : Launch) (y : MethodName) (wl : List Cond) (rm : Room) (D : va_G) (cs zs : Nat → Nat) (av : List Value) (ws : va_W) (r : Int32) (ws' : (Nat → Nat) → va_W) (mc ms : Nat) : Prop :=
  ∀ sz : Nat, Met l y wl rm (va_Pc av (PW D cs zs ws sz)) (va_Qi (fun (r' : Int32) (_ : Nat → Nat) => r' = r) (fun u t => RW D cs (va_A ws sz) (ws' u) t) (va_A ws sz)) mc ms (va_A ws sz)
section KN
variable {p : Program} {l : Launch} {e : Env} {R : Room} {s : State} {m : MethodId} {args : Array Value} {below : List Frame} {meth : Method} {c : Code} {H : Heap} {locs : List Loc} {cells slots : Nat} {Q Q' : State → Prop} {cc : ByteArray} {A : Nat → Prop} {D : va_G} {cs : Nat → ClassId} {pc : Nat} {ls : Array Slot} {rest : List Value} {ws : va_W}
theorem k_mono {g : JFrame} (h : W p l e R s m args below meth c H locs cells slots Q g) (hq : ∀ t, Q t → Q' t) : W p l e R s m args below meth c H locs cells slots Q' g := by
  intro T hT X
  obtain ⟨t, a, b⟩ := h T hT X
  exact ⟨t, a, hq t b⟩
theorem k_newi (hx : p.tables.exec = Jvm.exec) (hb : c.code = cc) (hts : ∀ w ∈ tbG, w.before args s = true) (hK : va_K D vwCl (tys cs) s) (hP : va_P D vwCl ws H) (hD : va_D A ws) (hS : va_S A s.heap H locs) (hA : ∀ q : Nat, s.heap.size ≤ q → A q) {n : Int32} {N : Nat} (hn : ¬ n < 0) (hN : n.toNatClampNeg = N) (hby : N * 4 ≤ 536870912) (hcells : cells + 1 ≤ R.cells) (hslots : slots + N ≤ R.slots) (hdg : decode cc pc = .ok (.newarray .int, 2))
    (kk : ∀ (q : Nat) (H1 : Heap), va_P D vwCl (ws ++ [(q, .inl (cs 0, N, .inl (fun _ => 0)))]) H1 → va_D A (ws ++ [(q, .inl (cs 0, N, .inl (fun _ => 0)))]) → va_S A s.heap H1 locs → W p l e R s m args below meth c H1 locs (cells + 1) (slots + N) Q (F0 m (pc + 2) ls (.ref q :: rest))) : W p l e R s m args below meth c H locs cells slots Q (F0 m pc ls (.int n :: rest)) := by
  refine va_newa (atype := .int) (ty := .int) (a0 := (N, .inl (fun _ => 0))) hx hb (hts _ ac_int) rfl hK hP hD hS hA (fun _ => rfl) hn hN hby hcells hslots hdg (fun q cA H1 hK1 hP1 hD1 hS1 => ?_)
  have h1 := (hK.2 0 _ rfl).2
  have h2 := (hK1.2 6 _ rfl).2
  have h3 : cA = cs 0 := Option.some.inj (h2.symm.trans h1)
  rw [h3] at hP1 hD1
  exact kk q H1 hP1 hD1 hS1
end KN
theorem MiN.of {l : Launch} {y : MethodName} {rm : Room} {D : va_G} {cs zs : Nat → Nat} {av : List Value} {ws : va_W} {ws' : (Nat → Nat) → va_W} {mc ms : Nat} {r : Int32} {cc : ByteArray} {nL : Nat} {ret : Option FieldType} (own : String) (hy : plainName y.cls = true) (ho : y.cls = own) (hcells : (lg_sl av).length ≤ nL)
    (body : ∀ (p : Program) (e : Env) (s : State) (m : MethodId) (below : List Frame) (meth : Method) (c : Code) (A : Nat → Prop), Cx p s m av.toArray meth c A D cs zs cc nL ret own → va_P D vwCl ws s.heap → va_D A ws → va_S A s.heap s.heap [] → ∀ ls : Array Slot, lv_has ls nL (lv_args 0 av) → W p l e rm s m av.toArray below meth c s.heap [] 0 0 (fun t => ∃ u : Nat → Nat, MQ below (Qi D cs A r (ws' u)) av.toArray s mc ms A t) (F0 m 0 ls [])) : MiN l y (Cond.code y cc nL ret :: tbG) rm D cs zs av ws r ws' mc ms := by
  intro sz
  refine Met.ofW (cc := cc) (maxL := nL) (ret := ret) hy rfl ?_
  intro p e s m args below meth c s₁ B hml hv
  obtain ⟨rfl, hsz, hP, hK, hD0, hZ⟩ := hv
  have hts := atoms_spec (ws := Cond.code y cc nL ret :: tbG) B.pre
  have hown : s.vm.findClass own = some m.cls := by rw [← ho]; exact findClass_of_methodNamed B.named
  subst hsz
  have hD := hD0.self (sz := s.heap.size)
  have hl := lv_entry av (n := nL) hcells
  rw [lg_entry_eq]
  refine k_mono (body p e s m below meth c _ ⟨B.exec, B.bytes, B.returns, hml, hown, fun w h => hts w (List.mem_cons_of_mem _ h), hK, fun q h => Or.inr h, B.notSynchronized, hZ⟩ hP hD va_S.rf _ hl) (fun t ht => ?_)
  obtain ⟨u, o, h1, h2, ⟨⟨r', -, h3, h4, h5⟩, h6⟩, h7⟩ := ht
  exact ⟨o, h1, h2, ⟨⟨r', u, h3, h4, h5⟩, h6⟩, h7⟩
set_option maxRecDepth 100000 in
set_option maxHeartbeats 4000000 in
theorem b_X10_fewestMoves {l : Launch} {D : va_G} {cs zs : Nat → Nat} {h0 : Nat} {a0 : Nat → Nat} {i0 : Nat → Int32} {r0 : Nat → Nat → Int32} {u0 : Nat → Nat} {x1 : Int32} {x2 : Int32} {q : Int32 × (Nat → Int32) × (Nat → Nat → Int32)} (hu : Int32.ofNat (u0 0) = 0) (hf : f_X10_fewestMoves_35 (fun _ => 4096) i0 (fun _ _ => 0) x1 x2 = some q) : MiN l yX10_fewestMoves wlX10_fewestMoves (rmBX10_fewestMoves 3 12288) D cs zs [.ref h0, .int x1, .int x2] (W10 cs h0 a0 i0 r0 u0) q.1 (fun a' => W10 cs h0 a' q.2.1 q.2.2 (fun _ => 4096)) 3 12288 := by
  refine MiN.of RX10 (by decide) rfl (Nat.le_of_ble_eq_true rfl) (fun p e s m below meth c A C hP hD hS ls hl => ?_)
  generalize ([.ref h0, .int x1, .int x2] : List Value).toArray = args at C ⊢
  obtain ⟨hx, hb, hr, hml, hown, hts, hK, hA, hlocks, hZ⟩ := id C
  have hl : lv_has ls 6 [(0, .ref h0), (1, .int x1), (2, .int x2)] := hl
  refine lv_aload_n hx hb dX10_fewestMoves_0 rfl (lv_at hl 0 rfl) ?_
  refine va_get (D := D) (ci := 10) (v := .ref (a0 0)) (C := RX10) (T := TX10) (N := 4) hx hb hts hiX10 hown hK hP 0 rfl rfl 0 (by decide) (hts _ flX10_9) (fun _ h9 => h9) rfl dX10_fewestMoves_1 ?_
  refine va_alen (v := Int32.ofNat (u0 0)) hx hb hK hP 1 0 rfl rfl rfl dX10_fewestMoves_4 ?_
  refine lv_if_ne (tgt := 35) hx hb dX10_fewestMoves_5 (by decide) (fun hc => absurd hu hc) (fun _ => ?_)
  refine lv_aload_n hx hb dX10_fewestMoves_8 rfl (lv_at hl 0 rfl) ?_
  refine lv_sipush (v := 4096) hx hb dX10_fewestMoves_9 (by decide) ?_
  refine k_newi (N := 4096) hx hb hts hK hP hD hS hA (by decide) (by decide) (by decide) (Nat.le_of_ble_eq_true rfl) (Nat.le_of_ble_eq_true rfl) dX10_fewestMoves_12 (fun b1 H hP hD hS => ?_)
  refine va_put (D := D) (ci := 10) (v := .ref b1) (ty := (tyX10 0)) (C := RX10) (T := TX10) (N := 4) hx hb hts hiX10 tyX10 tyX10_ok nmX10 hown hK hP hD hS 0 rfl rfl 0 (by decide) (hts _ flX10_9) (fun _ h9 => h9) rfl (tyX10_ok 0 (by decide)) rfl rfl (Nat.le_of_ble_eq_true rfl) dX10_fewestMoves_14 (fun H locs hP hD hS => ?_)
  have hP : va_P D vwCl (W10 cs h0 (va_up a0 0 b1) i0 (va_up r0 0 (fun _ => 0)) (va_up u0 0 4096)) H := k_sub hP [0, 4, 2, 3] rfl
  have hD : va_D A (W10 cs h0 (va_up a0 0 b1) i0 (va_up r0 0 (fun _ => 0)) (va_up u0 0 4096)) := hD.sub [0, 4, 2, 3] (by decide) rfl
  refine lv_aload_n hx hb dX10_fewestMoves_17 rfl (lv_at hl 0 rfl) ?_
  refine lv_sipush (v := 4096) hx hb dX10_fewestMoves_18 (by decide) ?_
  refine k_newi (N := 4096) hx hb hts hK hP hD hS hA (by decide) (by decide) (by decide) (Nat.le_of_ble_eq_true rfl) (Nat.le_of_ble_eq_true rfl) dX10_fewestMoves_21 (fun b2 H hP hD hS => ?_)
  refine va_put (D := D) (ci := 10) (v := .ref b2) (ty := (tyX10 1)) (C := RX10) (T := TX10) (N := 4) hx hb hts hiX10 tyX10 tyX10_ok nmX10 hown hK hP hD hS 0 rfl rfl 1 (by decide) (hts _ flX10_15) (fun _ h9 => h9) rfl (tyX10_ok 1 (by decide)) rfl rfl (Nat.le_of_ble_eq_true rfl) dX10_fewestMoves_23 (fun H locs hP hD hS => ?_)
  have hP : va_P D vwCl (W10 cs h0 (va_up (va_up a0 0 b1) 1 b2) i0 (va_up (va_up r0 0 (fun _ => 0)) 1 (fun _ => 0)) (va_up (va_up u0 0 4096) 1 4096)) H := k_sub hP [0, 1, 4, 3] rfl
  have hD : va_D A (W10 cs h0 (va_up (va_up a0 0 b1) 1 b2) i0 (va_up (va_up r0 0 (fun _ => 0)) 1 (fun _ => 0)) (va_up (va_up u0 0 4096) 1 4096)) := hD.sub [0, 1, 4, 3] (by decide) rfl
  refine lv_aload_n hx hb dX10_fewestMoves_26 rfl (lv_at hl 0 rfl) ?_
  refine lv_sipush (v := 4096) hx hb dX10_fewestMoves_27 (by decide) ?_
  refine k_newi (N := 4096) hx hb hts hK hP hD hS hA (by decide) (by decide) (by decide) (Nat.le_of_ble_eq_true rfl) (Nat.le_of_ble_eq_true rfl) dX10_fewestMoves_30 (fun b3 H hP hD hS => ?_)
  refine va_put (D := D) (ci := 10) (v := .ref b3) (ty := (tyX10 2)) (C := RX10) (T := TX10) (N := 4) hx hb hts hiX10 tyX10 tyX10_ok nmX10 hown hK hP hD hS 0 rfl rfl 2 (by decide) (hts _ flX10_18) (fun _ h9 => h9) rfl (tyX10_ok 2 (by decide)) rfl rfl (Nat.le_of_ble_eq_true rfl) dX10_fewestMoves_32 (fun H locs hP hD hS => ?_)
  have hP : va_P D vwCl (W10 cs h0 (va_up (va_up (va_up a0 0 b1) 1 b2) 2 b3) i0 (fun _ _ => 0) (fun _ => 4096)) H := k_sub hP [0, 1, 2, 4] rfl
  have hD : va_D A (W10 cs h0 (va_up (va_up (va_up a0 0 b1) 1 b2) 2 b3) i0 (fun _ _ => 0) (fun _ => 4096)) := hD.sub [0, 1, 2, 4] (by decide) rfl
  exact k_mono (v_X10_fewestMoves_35 (k9 := 3) (n9 := 12288) C _ _ _ _ _ _ _ hf hP hD hS (lv_sub hl [0, 1, 2] rfl)) (fun t ht => ⟨_, ht⟩)
