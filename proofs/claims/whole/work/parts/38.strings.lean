/-! ===== Strings that are constants; answers that are bytes, chars, an object ===== -/
abbrev Qr (D : va_G) (cs : Nat → ClassId) (A : Nat → Prop) (x : Nat) (ws : va_W) : Array Value → State → Outcome → State → Prop := va_Qr (fun (_ : Unit) => True) (fun _ a t => a = x ∧ RW D cs A ws t) A
def Mr (l : Launch) (y : MethodName) (wl : List Cond) (rm : Room) (D : va_G) (cs zs : Nat → Nat) (av : List Value) (ws : va_W) (x : Nat) (ws' : va_W) : Prop :=
  ∀ sz : Nat, Met l y wl rm (va_Pc av (PW D cs zs ws sz)) (Qr D cs (va_A ws sz) x ws') 0 0 (va_A ws sz)
def cz (x : Int32) : Bool := decide ((x.toUInt32 % 65536).toInt32 = x)
theorem ck_cz {α : Type} {i : Int32} {x : Option α} {y : α} (h : ck (cz i) x = some y) : narrow .char (.int i) = .int i := by
  have h1 : (i.toUInt32 % 65536).toInt32 = i := of_decide_eq_true (ck_1 h)
  have h2 := pk_nc i
  rw [h1] at h2
  exact h2
section KS
variable {p : Program} {l : Launch} {e : Env} {R : Room} {s : State} {m : MethodId} {args : Array Value} {below : List Frame} {meth : Method} {c : Code} {H : Heap} {locs : List Loc} {cells slots : Nat} {Q : State → Prop} {cc bytes : ByteArray} {A : Nat → Prop} {D : va_G} {cs zs : Nat → Nat} {pc nL n index maxL : Nat} {ls : Array Slot} {own C : String} {y : MethodName} {ret : Option FieldType} {Ts wl wl' : List Cond} {rm : Room} {b x : Nat} {As rest st0 : List Value} {ws wc wc' wr ws2 : va_W}
theorem k_ldcSw (hx : p.tables.exec = Jvm.exec) (hb : c.code = cc) {tx : String} {q : Nat} (hown : s.vm.findClass own = some m.cls) (hZ : vk_R own index tx q s) (hdg : decode cc pc = .ok (.ldc_w index, 3))
    (k : W p l e R s m args below meth c H locs cells slots Q (F0 m (pc + 3) ls (.ref q :: rest))) : W p l e R s m args below meth c H locs cells slots Q (F0 m pc ls rest) := by
  intro T hT X
  obtain ⟨t, a1, b1⟩ := k T hT X
  exact ⟨t, X.ldcStringW hx hown (text := tx) (a := q) hZ.1 hZ.2 (g := F0 m pc ls rest) rfl (by rw [hb]; exact hdg) t a1, b1⟩
theorem k_nret {r : Int32} {ty : FieldType} (hx : p.tables.exec = Jvm.exec) (hb : c.code = cc) (hr : meth.sig.returnType = some ty) (hlocks : meth.locks = false) (hn : narrow ty (.int r) = .int r) (hK : va_K D vwCl (tys cs) s) (hP : va_P D vwCl ws H) (hD : va_D A ws) (hS : va_S A s.heap H locs) (hdg : decode cc pc = .ok (.ireturn, 1)) :
    W p l e R s m args below meth c H locs cells slots (MQ below (Qi D cs A r ws) args s cells slots A) (F0 m pc ls [.int r]) :=
  W.zret (v := r) hx hb hr hn (fun t ht hW => ⟨⟨r, (), rfl, rfl, by rw [ht]; exact hP, va_K.moved hW.alike hK, hD⟩, hS.F ht⟩) hS.2.2 hdg hlocks
theorem k_aret {rt : FieldType} (hx : p.tables.exec = Jvm.exec) (hb : c.code = cc) (hr : meth.sig.returnType = some rt) (hrt : (∃ n, rt = .object n) ∨ ∃ t, rt = .array t) (hlocks : meth.locks = false) (hK : va_K D vwCl (tys cs) s) (hP : va_P D vwCl ws H) (hD : va_D A ws) (hS : va_S A s.heap H locs) (hdg : decode cc pc = .ok (.areturn, 1)) :
    W p l e R s m args below meth c H locs cells slots (MQ below (Qr D cs A x ws) args s cells slots A) (F0 m pc ls [.ref x]) :=
  W.aret (v := .ref x) hx hb hr hrt (Or.inr ⟨x, rfl⟩) (fun t ht hW => ⟨⟨(), x, rfl, trivial, rfl, by rw [ht]; exact hP, va_K.moved hW.alike hK, hD⟩, hS.F ht⟩) hS.2.2 hdg hlocks
theorem k_eVi {r : Int32} (hx : p.tables.exec = Jvm.exec) (hb : c.code = cc) (hml : c.maxLocals = nL) (hown : s.vm.findClass own = some m.cls) (hts : ∀ w ∈ Ts, w.before args s = true) (hK : va_K D vwCl (tys cs) s) (hA : ∀ q : Nat, s.heap.size ≤ q → A q) (hZ : SP zs A s s.heap) (hls : ls.size = nL)
    (hP : va_P D vwCl ws H) (hD : va_D A ws) (hS : va_S A s.heap H locs) (hM : Mi l y wl rm D cs zs (.ref b :: As) [] r []) (hG : GoodIn Ts (wsV own index C y wl)) (hw : wl = Cond.code y bytes maxL ret :: wl') (hd : y.cls = C ∧ y.cls ≠ "java/lang/invoke/MethodHandle" ∧ y.cls ≠ "java/lang/invoke/VarHandle" ∧ (parseMethodDescriptor y.desc).map (fun d => d.parameters.length) = some n) (hc0 : rm.cells = 0) (hs0 : rm.slots = 0) (hR : rm.frames + 1 ≤ R.frames ∧ 8 + (maxL + 11) + rm.locals ≤ R.locals)
    (hrecv : ∃ cell : Cell, H[b]? = some cell ∧ cell.vm.isStatics = false ∧ s.vm.findClass C = some cell.cls)
    (hn : As.length = n) (hst : st0 = As.reverse ++ .ref b :: rest) (hrm : (rest.map fun v => v.category).sum ≤ 8) (hf : cells ≤ R.cells ∧ slots ≤ R.slots) (hdg : decode cc pc = .ok (.invokevirtual index, 3))
    (kk : ∀ (H1 : Heap) (locs1 : List Loc), va_P D vwCl ws H1 → va_D A ws → va_S A s.heap H1 locs1 → W p l e R s m args below meth c H1 locs1 cells slots Q (F0 m (pc + 3) ls (.int r :: rest))) : W p l e R s m args below meth c H locs cells slots Q (F0 m pc ls st0) := by
  subst hst
  have hPc : va_P D vwCl [] H := fun k q h => by simp at h
  have hDc : va_D A [] := ⟨fun i j p q h => by simp at h, fun k q h => by simp at h⟩
  have hFc : ∀ q, va_A [] H.size q → A q := fun q h => by
    rcases h with ⟨k, e1, h⟩ | h
    · simp at h
    · exact hA q (Nat.le_trans hS.1 h)
  refine va_calli (va_runV (As := As) (rest := rest) ⟨hx, hb, hml, hown, hts⟩ (hM H.size) (cwV n hts hG hw hc0 hs0 hd hR) ⟨PW_blind, hrecv, fun U hU hW => ⟨rfl, by rw [hU], by rw [hU]; exact hPc, va_K.moved hW.alike hK, hDc.weaken (fun _ _ _ _ => trivial), by rw [hU]; exact ((SP.warm hW hZ).kept hS.2.1).narrow hFc⟩⟩ rfl hn hls rfl (lv_room hrm) hdg hf) hS (fun q _ h => hFc q h) hFc (fun x u t H1 locs1 ht hvm hw hB hz1 hk1 hS1 => ?_)
  subst hw
  have h1 : (List.range ws.length).map (fun i => ws[i]?) = ws.map some := by rw [k_all ws.length (Nat.le_refl _), List.take_length]
  have h2 : va_nd (List.range ws.length) = true := by rw [List.range_eq_range']; exact k_nd_range _ _
  obtain ⟨hP1, hK1, hD1⟩ := hB
  rw [ht] at hP1
  obtain ⟨hP2, hD2⟩ := va_join hP hD [] (List.range ws.length) rfl h1 h2 (fun i hi => by simp) hk1 hFc hP1 hD1
  rw [List.append_nil] at hP2 hD2
  exact kk H1 locs1 hP2 hD2 hS1
theorem k_sVr {q : vw_C} {fs : List Value} (hx : p.tables.exec = Jvm.exec) (hb : c.code = cc) (hml : c.maxLocals = nL) (hown : s.vm.findClass own = some m.cls) (hts : ∀ w ∈ Ts, w.before args s = true) (hK : va_K D vwCl (tys cs) s) (hA : ∀ q : Nat, s.heap.size ≤ q → A q) (hZ : SP zs A s s.heap) (hls : ls.size = nL)
    (hP : va_P D vwCl ws H) (hD : va_D A ws) (hS : va_S A s.heap H locs) (hM : Mr l y wl rm D cs zs (.ref b :: As) ws x ws2) (hG : GoodIn Ts (wsV own index C y wl)) (hw : wl = Cond.code y bytes maxL ret :: wl') (hd : y.cls = C ∧ y.cls ≠ "java/lang/invoke/MethodHandle" ∧ y.cls ≠ "java/lang/invoke/VarHandle" ∧ (parseMethodDescriptor y.desc).map (fun d => d.parameters.length) = some n) (hc0 : rm.cells = 0) (hs0 : rm.slots = 0) (hR : rm.frames + 1 ≤ R.frames ∧ 8 + (maxL + 11) + rm.locals ≤ R.locals)
    (q0 ci : Nat) (hq : vwCl[ci]? = some q) (hqC : q.1 = C) (he : ws[q0]? = some (b, .inr (ci, fs)))
    (hn : As.length = n) (hst : st0 = As.reverse ++ .ref b :: rest) (hrm : (rest.map fun v => v.category).sum ≤ 8) (hf : cells ≤ R.cells ∧ slots ≤ R.slots) (hdg : decode cc pc = .ok (.invokevirtual index, 3))
    (kk : ∀ (H1 : Heap) (locs1 : List Loc), va_P D vwCl ws2 H1 → va_D A ws2 → va_S A s.heap H1 locs1 → W p l e R s m args below meth c H1 locs1 cells slots Q (F0 m (pc + 3) ls (.ref x :: rest))) : W p l e R s m args below meth c H locs cells slots Q (F0 m pc ls st0) := by
  subst hqC
  subst hst
  have hFc : ∀ q, va_A ws H.size q → A q := fun q h => by
    rcases h with ⟨k, e1, h⟩ | h
    · exact hD.2 k (q, e1) h
    · exact hA q (Nat.le_trans hS.1 h)
  refine va_callr (va_runV (As := As) (rest := rest) ⟨hx, hb, hml, hown, hts⟩ (hM H.size) (cwV n hts hG hw hc0 hs0 hd hR) ⟨PW_blind, va_recv hK hP hq he, fun U hU hW => ⟨rfl, by rw [hU], by rw [hU]; exact hP, va_K.moved hW.alike hK, hD.weaken (fun _ _ _ _ => trivial), by rw [hU]; exact ((SP.warm hW hZ).kept hS.2.1).narrow hFc⟩⟩ rfl hn hls rfl (lv_room hrm) hdg hf) hS (fun q _ h => hFc q h) hFc (fun u a t H1 locs1 ht hvm hw hB hz1 hk1 hS1 => ?_)
  obtain ⟨rfl, hP1, hK1, hD1⟩ := hB
  rw [ht] at hP1
  exact kk H1 locs1 hP1 (hD1.weaken (fun k q _ h => hFc q.1 h)) hS1
end KS
theorem Mr.of {l : Launch} {y : MethodName} {rm : Room} {D : va_G} {cs zs : Nat → Nat} {av : List Value} {ws ws' : va_W} {x : Nat} {cc : ByteArray} {nL : Nat} {ret : Option FieldType} (own : String) (hy : plainName y.cls = true) (ho : y.cls = own) (hcells : (lg_sl av).length ≤ nL)
    (body : ∀ (p : Program) (e : Env) (s : State) (m : MethodId) (below : List Frame) (meth : Method) (c : Code) (A : Nat → Prop), Cx p s m av.toArray meth c A D cs zs cc nL ret own → va_P D vwCl ws s.heap → va_D A ws → va_S A s.heap s.heap [] → ∀ ls : Array Slot, lv_has ls nL (lv_args 0 av) → W p l e rm s m av.toArray below meth c s.heap [] 0 0 (MQ below (Qr D cs A x ws') av.toArray s 0 0 A) (F0 m 0 ls [])) : Mr l y (Cond.code y cc nL ret :: tbG) rm D cs zs av ws x ws' := by
  intro sz
  refine Met.ofW (cc := cc) (maxL := nL) (ret := ret) hy rfl ?_
  intro p e s m args below meth c s₁ B hml hv
  obtain ⟨rfl, hsz, hP, hK, hD0, hZ⟩ := hv
  have hts := atoms_spec (ws := Cond.code y cc nL ret :: tbG) B.pre
  have hown : s.vm.findClass own = some m.cls := by rw [← ho]; exact findClass_of_methodNamed B.named
  subst hsz
  have hD := hD0.self (sz := s.heap.size)
  have hl := lv_entry av (n := nL) hcells
  rw [lg_entry_eq]
  exact body p e s m below meth c _ ⟨B.exec, B.bytes, B.returns, hml, hown, fun w h => hts w (List.mem_cons_of_mem _ h), hK, fun q h => Or.inr h, B.notSynchronized, hZ⟩ hP hD va_S.rf _ hl
theorem MT.of {l : Launch} {y : MethodName} {rm : Room} {D : va_G} {cs zs : Nat → Nat} {av : List Value} {ws ws' : va_W} {x : Nat} {cc : ByteArray} {nL : Nat} {ret : Option FieldType} (own : String) (hy : plainName y.cls = true) (ho : y.cls = own) (hcells : (lg_sl av).length ≤ nL)
    (body : ∀ (p : Program) (e : Env) (s : State) (m : MethodId) (below : List Frame) (meth : Method) (c : Code) (A : Nat → Prop), Cx p s m av.toArray meth c A D cs zs cc nL ret own → NoH c → va_P D vwCl ws s.heap → va_D A ws → va_S A s.heap s.heap [] → ∀ ls : Array Slot, lv_has ls nL (lv_args 0 av) → W p l e rm s m av.toArray below meth c s.heap [] 0 0 (MQT below D cs A x ws' av.toArray s) (F0 m 0 ls [])) : MT l y (Cond.code y cc nL ret :: tbG) rm D cs zs av ws x ws' := by
  intro sz
  refine MetFree.of_bodyS (code := cc) (maxLocals := nL) (ret := ret) hy ?_ ?_
  · intro args s m h hn
    obtain ⟨meth, c, h1, h2, h3, h4, h5, h6, -, -⟩ := Cond.code_spec hn (atoms_spec (ws := Cond.code y cc nL ret :: tbG) h _ List.mem_cons_self)
    exact ⟨meth, c, h1, h2, h3, h4, h5, h6⟩
  · intro p e s m args below meth c s₁ B hml hv _
    obtain ⟨rfl, hsz, hP, hK, hD0, hZ⟩ := hv
    have hts := atoms_spec (ws := Cond.code y cc nL ret :: tbG) B.pre
    have hown : s.vm.findClass own = some m.cls := by rw [← ho]; exact findClass_of_methodNamed B.named
    subst hsz
    have hD := hD0.self (sz := s.heap.size)
    have hl := lv_entry av (n := nL) hcells
    have hh0 : s₁.heap = s.heap := by rw [B.state]; rfl
    have K := body p e s m below meth c _ ⟨B.exec, B.bytes, B.returns, hml, hown, fun w h => hts w (List.mem_cons_of_mem _ h), hK, fun q h => Or.inr h, B.notSynchronized, hZ⟩ (noH_of B (hts _ List.mem_cons_self)) hP hD va_S.rf _ hl
    rw [← lg_entry_eq] at K
    obtain ⟨t, a1, o, b1, b2, b3⟩ := K s₁ hh0 (Stand.of_body B)
    exact ⟨t, o, a1, b1, b2, b3⟩
theorem Mi.ofT {l : Launch} {y : MethodName} {rm : Room} {D : va_G} {cs zs : Nat → Nat} {av : List Value} {ws ws' : va_W} {r : Int32} {cc : ByteArray} {nL : Nat} {ret : Option FieldType} (own : String) (hy : plainName y.cls = true) (ho : y.cls = own) (hcells : (lg_sl av).length ≤ nL)
    (body : ∀ (p : Program) (e : Env) (s : State) (m : MethodId) (below : List Frame) (meth : Method) (c : Code) (A : Nat → Prop), Cx p s m av.toArray meth c A D cs zs cc nL ret own → NoH c → va_P D vwCl ws s.heap → va_D A ws → va_S A s.heap s.heap [] → ∀ ls : Array Slot, lv_has ls nL (lv_args 0 av) → W p l e rm s m av.toArray below meth c s.heap [] 0 0 (MQ below (Qi D cs A r ws') av.toArray s 0 0 A) (F0 m 0 ls [])) : Mi l y (Cond.code y cc nL ret :: tbG) rm D cs zs av ws r ws' := by
  intro sz
  refine Met.ofW (cc := cc) (maxL := nL) (ret := ret) hy rfl ?_
  intro p e s m args below meth c s₁ B hml hv
  obtain ⟨rfl, hsz, hP, hK, hD0, hZ⟩ := hv
  have hts := atoms_spec (ws := Cond.code y cc nL ret :: tbG) B.pre
  have hown : s.vm.findClass own = some m.cls := by rw [← ho]; exact findClass_of_methodNamed B.named
  subst hsz
  have hD := hD0.self (sz := s.heap.size)
  have hl := lv_entry av (n := nL) hcells
  rw [lg_entry_eq]
  exact body p e s m below meth c _ ⟨B.exec, B.bytes, B.returns, hml, hown, fun w h => hts w (List.mem_cons_of_mem _ h), hK, fun q h => Or.inr h, B.notSynchronized, hZ⟩ (noH_of B (hts _ List.mem_cons_self)) hP hD va_S.rf _ hl
theorem Ml.ofT {l : Launch} {y : MethodName} {rm : Room} {D : va_G} {cs zs : Nat → Nat} {av : List Value} {ws ws' : va_W} {r : Int64} {cc : ByteArray} {nL : Nat} {ret : Option FieldType} (own : String) (hy : plainName y.cls = true) (ho : y.cls = own) (hcells : (lg_sl av).length ≤ nL)
    (body : ∀ (p : Program) (e : Env) (s : State) (m : MethodId) (below : List Frame) (meth : Method) (c : Code) (A : Nat → Prop), Cx p s m av.toArray meth c A D cs zs cc nL ret own → NoH c → va_P D vwCl ws s.heap → va_D A ws → va_S A s.heap s.heap [] → ∀ ls : Array Slot, lv_has ls nL (lv_args 0 av) → W p l e rm s m av.toArray below meth c s.heap [] 0 0 (MQ below (Ql D cs A r ws') av.toArray s 0 0 A) (F0 m 0 ls [])) : Ml l y (Cond.code y cc nL ret :: tbG) rm D cs zs av ws r ws' := by
  intro sz
  refine Met.ofW (cc := cc) (maxL := nL) (ret := ret) hy rfl ?_
  intro p e s m args below meth c s₁ B hml hv
  obtain ⟨rfl, hsz, hP, hK, hD0, hZ⟩ := hv
  have hts := atoms_spec (ws := Cond.code y cc nL ret :: tbG) B.pre
  have hown : s.vm.findClass own = some m.cls := by rw [← ho]; exact findClass_of_methodNamed B.named
  subst hsz
  have hD := hD0.self (sz := s.heap.size)
  have hl := lv_entry av (n := nL) hcells
  rw [lg_entry_eq]
  exact body p e s m below meth c _ ⟨B.exec, B.bytes, B.returns, hml, hown, fun w h => hts w (List.mem_cons_of_mem _ h), hK, fun q h => Or.inr h, B.notSynchronized, hZ⟩ (noH_of B (hts _ List.mem_cons_self)) hP hD va_S.rf _ hl
theorem Mv.ofT {l : Launch} {y : MethodName} {rm : Room} {D : va_G} {cs zs : Nat → Nat} {av : List Value} {ws ws' : va_W} {cc : ByteArray} {nL : Nat} {ret : Option FieldType} (own : String) (hy : plainName y.cls = true) (ho : y.cls = own) (hcells : (lg_sl av).length ≤ nL)
    (body : ∀ (p : Program) (e : Env) (s : State) (m : MethodId) (below : List Frame) (meth : Method) (c : Code) (A : Nat → Prop), Cx p s m av.toArray meth c A D cs zs cc nL ret own → NoH c → va_P D vwCl ws s.heap → va_D A ws → va_S A s.heap s.heap [] → ∀ ls : Array Slot, lv_has ls nL (lv_args 0 av) → W p l e rm s m av.toArray below meth c s.heap [] 0 0 (MQ below (Qv D cs A ws') av.toArray s 0 0 A) (F0 m 0 ls [])) : Mv l y (Cond.code y cc nL ret :: tbG) rm D cs zs av ws ws' := by
  intro sz
  refine Met.ofW (cc := cc) (maxL := nL) (ret := ret) hy rfl ?_
  intro p e s m args below meth c s₁ B hml hv
  obtain ⟨rfl, hsz, hP, hK, hD0, hZ⟩ := hv
  have hts := atoms_spec (ws := Cond.code y cc nL ret :: tbG) B.pre
  have hown : s.vm.findClass own = some m.cls := by rw [← ho]; exact findClass_of_methodNamed B.named
  subst hsz
  have hD := hD0.self (sz := s.heap.size)
  have hl := lv_entry av (n := nL) hcells
  rw [lg_entry_eq]
  exact body p e s m below meth c _ ⟨B.exec, B.bytes, B.returns, hml, hown, fun w h => hts w (List.mem_cons_of_mem _ h), hK, fun q h => Or.inr h, B.notSynchronized, hZ⟩ (noH_of B (hts _ List.mem_cons_self)) hP hD va_S.rf _ hl
