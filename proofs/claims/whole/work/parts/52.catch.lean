section KH
variable {p : Program} {l : Launch} {e : Env} {R : Room} {s : State} {m : MethodId} {args : Array Value} {below : List Frame} {meth : Method} {c : Code} {H : Heap} {locs : List Loc} {cells slots : Nat} {Q : State → Prop} {cc bytes : ByteArray} {A : Nat → Prop} {D : va_G} {cs zs : Nat → Nat} {pc nL n index maxL : Nat} {ls : Array Slot} {own C : String} {y : MethodName} {ret : Option FieldType} {Ts wl wl' : List Cond} {rm : Room} {b x : Nat} {As rest st0 : List Value} {ws wc wc' wr ws2 : va_W}
/-- the callee throws, and the caller's own handler takes it: the thrown object's class is the handler's -/
theorem k_pVc {q q2 : vw_C} {fs fs2 : List Value} {xe : ExceptionTableEntry} {idx hpc : Nat} {C2 : String} (hx : p.tables.exec = Jvm.exec) (hb : c.code = cc) (hml : c.maxLocals = nL) (hown : s.vm.findClass own = some m.cls) (hts : ∀ w ∈ Ts, w.before args s = true) (hK : va_K D vwCl (tys cs) s) (hA : ∀ q : Nat, s.heap.size ≤ q → A q) (hZ : SP zs A s s.heap) (hls : ls.size = nL)
    (hP : va_P D vwCl ws H) (hD : va_D A ws) (hS : va_S A s.heap H locs) (hM : MT l y wl rm D cs zs (.ref b :: As) wc x wc') (hG : GoodIn Ts (wsV own index C y wl)) (hw : wl = Cond.code y bytes maxL ret :: wl') (hd : y.cls = C ∧ y.cls ≠ "java/lang/invoke/MethodHandle" ∧ y.cls ≠ "java/lang/invoke/VarHandle" ∧ (parseMethodDescriptor y.desc).map (fun d => d.parameters.length) = some n) (hc0 : rm.cells = 0) (hs0 : rm.slots = 0) (hR : rm.frames + 1 ≤ R.frames ∧ 8 + (maxL + 11) + rm.locals ≤ R.locals)
    (isC isR isN : List Nat) (hC : isC.map (fun i => ws[i]?) = wc.map some) (hRr : isR.map (fun i => ws[i]?) = wr.map some) (hN : isN.map (fun i => (wr ++ wc')[i]?) = ws2.map some) (hnd : (va_nd isC && va_nd isR && va_nd isN && isR.all (fun i => !isC.contains i)) = true)
    (q0 ci : Nat) (hq : vwCl[ci]? = some q) (hqC : q.1 = C) (he : wc[q0]? = some (b, .inr (ci, fs)))
    (hn : As.length = n) (hst : st0 = As.reverse ++ .ref b :: rest) (hrm : (rest.map fun v => v.category).sum ≤ 8) (hf : cells ≤ R.cells ∧ slots ≤ R.slots) (hdg : decode cc pc = .ok (.invokevirtual index, 3))
    (htab : c.exceptionTable.toList = [xe]) (hcov : covers xe pc = true) (hct : xe.catchType = idx) (h0 : idx ≠ 0) (hhp : xe.handlerPc = hpc) (hclink : (Cond.classLink own idx C2).before args s = true)
    (q1 ci2 : Nat) (hq2 : vwCl[ci2]? = some q2) (hqC2 : q2.1 = C2) (he2 : ws2[q1]? = some (x, .inr (ci2, fs2)))
    (kk : ∀ (H1 : Heap) (locs1 : List Loc), va_P D vwCl ws2 H1 → va_D A ws2 → va_S A s.heap H1 locs1 → W p l e R s m args below meth c H1 locs1 cells slots Q (F0 m hpc ls [.ref x])) : W p l e R s m args below meth c H locs cells slots Q (F0 m pc ls st0) := by
  subst hst
  subst hqC2
  simp only [Bool.and_eq_true, List.all_eq_true, Bool.not_eq_true', List.contains_eq_mem, decide_eq_false_iff_not] at hnd
  obtain ⟨⟨⟨n1, n2⟩, n3⟩, n4⟩ := hnd
  have hDc := hD.sub isC n1 hC
  have hPc : va_P D vwCl wc H := k_sub hP isC hC
  have hFc := va_free hD hS hA isC hC
  intro T hT X
  obtain ⟨t, T', L, X', e1, hL, hal, ⟨hP1, hK1, hD1⟩, hz, hk, st⟩ := k_thrown X hT hx hb hml hown hts hK hZ hls hPc hDc hS hFc hM hG hw hd hc0 hs0 hR q0 ci hq hqC he hn hrm hf hdg
  obtain ⟨hP2, hD2⟩ := va_join hP hD isC isR hC hRr n2 (fun i hi => n4 i hi) hk hFc hP1 hD1
  have hP3 := k_sub hP2 isN hN
  have hD3 := hD2.sub isN n3 hN
  have hS1 : va_S A s.heap t.heap (locs ++ L) := by
    refine ⟨Nat.le_trans hS.1 hz, fun q h1 h2 => ?_, fun q hq => ?_⟩
    · rw [hk q (Nat.lt_of_lt_of_le h1 hS.1) (fun z => h2 (hFc q z))]
      exact hS.2.1 q h1 h2
    · rcases List.mem_append.mp hq with h | h
      · exact hS.2.2 q h
      · exact hL q h
  obtain ⟨cell, g1, g2, g3⟩ := va_recv hK hP3 hq2 he2
  have hpl : e.platform.magicAccessors = ({} : Platform).magicAccessors := by rw [X'.admits.platform]
  obtain ⟨cc2, hfcc, hcl⟩ := Cond.classLink_spec hown hclink e.platform hpl
  cases g3.symm.trans hfcc
  obtain ⟨hg₁, hwarm₁, hready₁⟩ := State.classEntry (e := e) X'.warmed hcl
  have hsz : (T'.vm.noted m.cls idx (.cls cell.cls)).classes.size ≤ T'.vm.classes.size := by no_record
  generalize T'.vm.noted m.cls idx (.cls cell.cls) = vm₁ at hg₁ hwarm₁ hready₁ hsz
  obtain ⟨k0, hk0⟩ := Vm.classAt_of_findClass hfcc
  obtain ⟨k1, hk1, -⟩ := hwarm₁.alike.2.2 _ _ hk0
  have hmm : ((T'.setTop (F0 m pc ls rest)).pushFrame (.throwing x)).vm = T'.vm := throwing_vm T' (F0 m pc ls rest) x
  have hhh : ((T'.setTop (F0 m pc ls rest)).pushFrame (.throwing x)).heap = T'.heap := throwing_heap T' (F0 m pc ls rest) x
  obtain ⟨t2, a1, b1⟩ := kk t.heap (locs ++ L) hP3 hD3 hS1 (T'.setVm vm₁) e1 (X'.noted hwarm₁)
  refine ⟨t2, st.trans (caught_cold (g := F0 m pc ls rest) X'.here (pc := hpc) (vm' := vm₁) (fun Q E d acts => ?_) a1), b1⟩
  subst hhp
  subst hct
  exact fh_cold (f := F0 m pc ls rest) (by rw [hmm]; exact X'.method') X'.code htab hcov h0 (by rw [hmm]; exact hg₁) (by rw [hmm]; exact hsz) (by rw [hhh, e1]; exact g1) (VmData.ne_statics_of g2) ⟨k1, hk1⟩ ⟨k1, hk1⟩ (va_asg _ _) Q E d acts
end KH
