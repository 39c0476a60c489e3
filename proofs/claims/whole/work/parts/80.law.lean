/-! ===== the law: its world, its context, its 34 calls ===== -/
def LB (cs : Nat → ClassId) (h g : Nat) (a : Nat → Nat → Nat) (I : Nat → Nat → Int32) (J : Nat → Nat → Nat → Int32) (K : Nat → Nat → Nat → Int64) (U : Nat → Nat → Nat) (P : Nat → Nat → Int32) (S : Nat → Nat → Nat → Int32) (f : List Value) : List va_W := [W11 cs h (a 20), W9 cs (a 20 0) (a 0) (I 0) (J 0) (K 0), [va_ar cs (a 20 1) (a 21)], W2 cs (a 20 2) (a 2) (I 2) (J 2), W3 cs (a 20 3) (va_up (a 3) 0 (a 20 0)), W8 cs (a 20 4) (a 4) (I 4) (J 4), W7 cs (a 20 5) (a 5) (I 5) (J 5) (U 5), W5 cs (a 20 6) (a 6) (I 6) (J 6) (K 6), W5 cs (a 20 7) (a 7) (I 7) (J 7) (K 7), W6 cs (a 20 8) (va_up (a 8) 0 (a 20 0)) (I 8) (J 8), W4 cs (a 20 9) (a 9) (I 9) (J 9), W0 cs (a 20 10) (a 10) (I 10) (J 10), W10 cs (a 20 11) (a 11) (I 11) (J 11) (U 11), W1 cs (a 20 12) (a 12) (I 12) (J 12) (U 12), W13 cs g (a 22) (I 13) (J 13) (K 13), W12 cs (a 22 0) (fun _ => 0) f, FO cs (a 21) (fun j => a (30 + j)) P S (List.range 6)]
abbrev LW (cs : Nat → ClassId) (h g : Nat) (a : Nat → Nat → Nat) (I : Nat → Nat → Int32) (J : Nat → Nat → Nat → Int32) (K : Nat → Nat → Nat → Int64) (U : Nat → Nat → Nat) (P : Nat → Nat → Int32) (S : Nat → Nat → Nat → Int32) (f : List Value) : va_W := cat (LB cs h g a I J K U P S f)
def LX (p : Program) (s : State) (m : MethodId) (meth : Method) (c : Code) (A : Nat → Prop) (D : va_G) (cs zs : Nat → Nat) (b L : Nat) (xs : Nat → Int32) : Prop :=
  p.tables.exec = Jvm.exec ∧ c.code = cL_law ∧ c.maxLocals = 4 ∧ s.vm.findClass RL = some m.cls ∧ (∀ w ∈ tbG, w.before #[Value.ref b] s = true) ∧ va_K D vwCl (tys cs) s ∧ (∀ q : Nat, s.heap.size ≤ q → A q) ∧ SP zs A s s.heap ∧ va_X b L xs s s.heap ∧ b < s.heap.size ∧ ¬ A b
def nb (x : Int32) : Int32 := if x = 0 then 0 else 1
theorem lg_cmp_same {x y : Int64} (h : x = y) : lg_cmp x y = 0 := by
  subst h
  unfold lg_cmp
  have h1 : ¬ x > x := fun q => absurd q (by rw [gt_iff_lt, Int64.lt_iff_toInt_lt]; omega)
  rw [if_neg h1, if_pos rfl]
section KF2
variable {p : Program} {l : Launch} {e : Env} {R : Room} {s : State} {m : MethodId} {args : Array Value} {below : List Frame} {meth : Method} {c : Code} {H : Heap} {locs : List Loc} {cells slots : Nat} {Q : State → Prop} {cc bytes : ByteArray} {A : Nat → Prop} {D : va_G} {cs zs : Nat → Nat} {pc nL n index maxL mc ms : Nat} {ls : Array Slot} {own C : String} {y : MethodName} {ret : Option FieldType} {Ts wl wl' : List Cond} {rm : Room} {b : Nat} {As rest st0 : List Value} {ws wc wr : va_W}
theorem k_fViN {r : Int32} {q : vw_C} {fs : List Value} {wc' ws2 : (Nat → Nat) → va_W} (hx : p.tables.exec = Jvm.exec) (hb : c.code = cc) (hml : c.maxLocals = nL) (hown : s.vm.findClass own = some m.cls) (hts : ∀ w ∈ Ts, w.before args s = true) (hK : va_K D vwCl (tys cs) s) (hA : ∀ q : Nat, s.heap.size ≤ q → A q) (hZ : SP zs A s s.heap) (hls : ls.size = nL)
    (hP : va_P D vwCl ws H) (hD : va_D A ws) (hS : va_S A s.heap H locs) (hM : MiN l y wl rm D cs zs (.ref b :: As) wc r wc' mc ms) (hG : GoodIn Ts (wsV own index C y wl)) (hw : wl = Cond.code y bytes maxL ret :: wl') (hd : y.cls = C ∧ y.cls ≠ "java/lang/invoke/MethodHandle" ∧ y.cls ≠ "java/lang/invoke/VarHandle" ∧ (parseMethodDescriptor y.desc).map (fun d => d.parameters.length) = some n) (hc0 : rm.cells = mc) (hs0 : rm.slots = ms) (hR : rm.frames + 1 ≤ R.frames ∧ 8 + (maxL + 11) + rm.locals ≤ R.locals)
    (hp1 : ws.Perm (wc ++ wr)) (hp2 : ∀ u, (ws2 u).Perm (wc' u ++ wr)) (q0 ci : Nat) (hq : vwCl[ci]? = some q) (hqC : q.1 = C) (he : wc[q0]? = some (b, .inr (ci, fs)))
    (hn : As.length = n) (hst : st0 = As.reverse ++ .ref b :: rest) (hrm : (rest.map fun v => v.category).sum ≤ 8) (hf : cells + mc ≤ R.cells ∧ slots + ms ≤ R.slots) (hdg : decode cc pc = .ok (.invokevirtual index, 3))
    (kk : ∀ (u : Nat → Nat) (H1 : Heap) (locs1 : List Loc), va_P D vwCl (ws2 u) H1 → va_D A (ws2 u) → va_S A s.heap H1 locs1 → W p l e R s m args below meth c H1 locs1 (cells + mc) (slots + ms) Q (F0 m (pc + 3) ls (.int r :: rest))) : W p l e R s m args below meth c H locs cells slots Q (F0 m pc ls st0) := by
  subst hqC
  subst hst
  have hP' := hP.perm hp1
  have hD' := hD.perm hp1
  have hC : (List.range wc.length).map (fun i => (wc ++ wr)[i]?) = wc.map some := all_l
  have hDc := hD'.sub (List.range wc.length) (by rw [List.range_eq_range']; exact k_nd_range _ _) hC
  have hPc : va_P D vwCl wc H := k_sub hP' (List.range wc.length) hC
  have hFc := va_free hD' hS hA (List.range wc.length) hC
  refine va_calli (va_runV (As := As) (rest := rest) ⟨hx, hb, hml, hown, hts⟩ (hM H.size) (cwV n hts hG hw hc0 hs0 hd hR) ⟨PW_blind, va_recv hK hPc hq he, fun U hU hW => ⟨rfl, by rw [hU], by rw [hU]; exact hPc, va_K.moved hW.alike hK, hDc.weaken (fun _ _ _ _ => trivial), by rw [hU]; exact ((SP.warm hW hZ).kept hS.2.1).narrow hFc⟩⟩ rfl hn hls rfl (lv_room hrm) hdg hf) hS (fun q _ h => hFc q h) hFc (fun x u t H1 locs1 ht hvm hw hB hz1 hk1 hS1 => ?_)
  subst hw
  obtain ⟨hP1, hK1, hD1⟩ := hB
  rw [ht] at hP1
  obtain ⟨hP2, hD2⟩ := va_join hP' hD' (List.range wc.length) (List.range' wc.length wr.length) hC all_r (k_nd_range _ _) (fun i hi => by have := List.mem_range'_1.mp hi; simp; omega) hk1 hFc hP1 hD1
  exact kk u H1 locs1 (hP2.perm (List.perm_append_comm.trans (hp2 u).symm)) (hD2.perm (List.perm_append_comm.trans (hp2 u).symm)) hS1
theorem k_fVvN {q : vw_C} {fs : List Value} {wc' ws2 : (Nat → Nat) → va_W} (hx : p.tables.exec = Jvm.exec) (hb : c.code = cc) (hml : c.maxLocals = nL) (hown : s.vm.findClass own = some m.cls) (hts : ∀ w ∈ Ts, w.before args s = true) (hK : va_K D vwCl (tys cs) s) (hA : ∀ q : Nat, s.heap.size ≤ q → A q) (hZ : SP zs A s s.heap) (hls : ls.size = nL)
    (hP : va_P D vwCl ws H) (hD : va_D A ws) (hS : va_S A s.heap H locs) (hM : MvN l y wl rm D cs zs (.ref b :: As) wc wc' mc ms) (hG : GoodIn Ts (wsV own index C y wl)) (hw : wl = Cond.code y bytes maxL ret :: wl') (hd : y.cls = C ∧ y.cls ≠ "java/lang/invoke/MethodHandle" ∧ y.cls ≠ "java/lang/invoke/VarHandle" ∧ (parseMethodDescriptor y.desc).map (fun d => d.parameters.length) = some n) (hc0 : rm.cells = mc) (hs0 : rm.slots = ms) (hR : rm.frames + 1 ≤ R.frames ∧ 8 + (maxL + 11) + rm.locals ≤ R.locals)
    (hp1 : ws.Perm (wc ++ wr)) (hp2 : ∀ u, (ws2 u).Perm (wc' u ++ wr)) (q0 ci : Nat) (hq : vwCl[ci]? = some q) (hqC : q.1 = C) (he : wc[q0]? = some (b, .inr (ci, fs)))
    (hn : As.length = n) (hst : st0 = As.reverse ++ .ref b :: rest) (hrm : (rest.map fun v => v.category).sum ≤ 8) (hf : cells + mc ≤ R.cells ∧ slots + ms ≤ R.slots) (hdg : decode cc pc = .ok (.invokevirtual index, 3))
    (kk : ∀ (u : Nat → Nat) (H1 : Heap) (locs1 : List Loc), va_P D vwCl (ws2 u) H1 → va_D A (ws2 u) → va_S A s.heap H1 locs1 → W p l e R s m args below meth c H1 locs1 (cells + mc) (slots + ms) Q (F0 m (pc + 3) ls (rest))) : W p l e R s m args below meth c H locs cells slots Q (F0 m pc ls st0) := by
  subst hqC
  subst hst
  have hP' := hP.perm hp1
  have hD' := hD.perm hp1
  have hC : (List.range wc.length).map (fun i => (wc ++ wr)[i]?) = wc.map some := all_l
  have hDc := hD'.sub (List.range wc.length) (by rw [List.range_eq_range']; exact k_nd_range _ _) hC
  have hPc : va_P D vwCl wc H := k_sub hP' (List.range wc.length) hC
  have hFc := va_free hD' hS hA (List.range wc.length) hC
  refine va_callv (va_runV (As := As) (rest := rest) ⟨hx, hb, hml, hown, hts⟩ (hM H.size) (cwV n hts hG hw hc0 hs0 hd hR) ⟨PW_blind, va_recv hK hPc hq he, fun U hU hW => ⟨rfl, by rw [hU], by rw [hU]; exact hPc, va_K.moved hW.alike hK, hDc.weaken (fun _ _ _ _ => trivial), by rw [hU]; exact ((SP.warm hW hZ).kept hS.2.1).narrow hFc⟩⟩ rfl hn hls rfl (lv_room hrm) hdg hf) hS (fun q _ h => hFc q h) hFc (fun u t H1 locs1 ht hvm hw hB hz1 hk1 hS1 => ?_)
  obtain ⟨hP1, hK1, hD1⟩ := hB
  rw [ht] at hP1
  obtain ⟨hP2, hD2⟩ := va_join hP' hD' (List.range wc.length) (List.range' wc.length wr.length) hC all_r (k_nd_range _ _) (fun i hi => by have := List.mem_range'_1.mp hi; simp; omega) hk1 hFc hP1 hD1
  exact kk u H1 locs1 (hP2.perm (List.perm_append_comm.trans (hp2 u).symm)) (hD2.perm (List.perm_append_comm.trans (hp2 u).symm)) hS1
variable {hh : List (Nat × Nat × Nat × Nat)} {wc' ws2 : va_W}
theorem k_fVh {r : Int32} {q : vw_C} {fs : List Value} (hx : p.tables.exec = Jvm.exec) (hb : c.code = cc) (hml : c.maxLocals = nL) (hown : s.vm.findClass own = some m.cls) (hts : ∀ w ∈ Ts, w.before args s = true) (hK : va_K D vwCl (tys cs) s) (hA : ∀ q : Nat, s.heap.size ≤ q → A q) (hZ : SP zs A s s.heap) (hls : ls.size = nL)
    (hP : va_P D vwCl ws H) (hD : va_D A ws) (hS : va_S A s.heap H locs) (hM : Mi l y wl rm D cs zs (.ref b :: As) wc r wc') (hG : GoodIn Ts (wsV own index C y wl)) (hw : wl = Cond.codeWith y bytes maxL ret hh :: wl') (hd : y.cls = C ∧ y.cls ≠ "java/lang/invoke/MethodHandle" ∧ y.cls ≠ "java/lang/invoke/VarHandle" ∧ (parseMethodDescriptor y.desc).map (fun d => d.parameters.length) = some n) (hc0 : rm.cells = 0) (hs0 : rm.slots = 0) (hR : rm.frames + 1 ≤ R.frames ∧ 8 + (maxL + 11) + rm.locals ≤ R.locals)
    (hp1 : ws.Perm (wc ++ wr)) (hp2 : ws2.Perm (wc' ++ wr)) (q0 ci : Nat) (hq : vwCl[ci]? = some q) (hqC : q.1 = C) (he : wc[q0]? = some (b, .inr (ci, fs)))
    (hn : As.length = n) (hst : st0 = As.reverse ++ .ref b :: rest) (hrm : (rest.map fun v => v.category).sum ≤ 8) (hf : cells ≤ R.cells ∧ slots ≤ R.slots) (hdg : decode cc pc = .ok (.invokevirtual index, 3))
    (kk : ∀ (H1 : Heap) (locs1 : List Loc), va_P D vwCl ws2 H1 → va_D A ws2 → va_S A s.heap H1 locs1 → W p l e R s m args below meth c H1 locs1 cells slots Q (F0 m (pc + 3) ls (.int r :: rest))) : W p l e R s m args below meth c H locs cells slots Q (F0 m pc ls st0) :=
  k_pVh (ws2 := wr ++ wc') hx hb hml hown hts hK hA hZ hls (hP.perm hp1) (hD.perm hp1) hS hM hG hw hd hc0 hs0 hR (List.range wc.length) (List.range' wc.length wr.length) (List.range (wr ++ wc').length) all_l all_r all_w nd_all q0 ci hq hqC he hn hst hrm hf hdg (fun H1 locs1 hP1 hD1 hS1 => kk H1 locs1 (hP1.perm (List.perm_append_comm.trans hp2.symm)) (hD1.perm (List.perm_append_comm.trans hp2.symm)) hS1)
end KF2
