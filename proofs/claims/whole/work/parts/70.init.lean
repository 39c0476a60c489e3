/-! ===== constructors ===== -/
def va_AOA (ty : FieldType) (U : State) : Prop := (Cond.arrayOver (.array ty)).before #[] U = true
theorem va_AOA.use {ty : FieldType} {A : Array Value} {U : State} (h : va_AOA ty U) : (Cond.arrayOver (.array ty)).before A U = true := h
theorem va_AOA.moved {u U : State} (hal : u.vm.Alike U.vm) (h : va_AOA .int u) : va_AOA .int U := by
  unfold va_AOA at h ⊢
  simp only [Cond.before, Cond.holds, Cond.value] at h ⊢
  rw [hal.findClass]
  cases hf : u.vm.findClass (FieldType.array FieldType.int).toString with
  | none => rw [hf] at h; simp at h
  | some comp =>
    rw [hf] at h
    simp only [Option.bind_some] at h ⊢
    rw [hal.findIdx_congr _ (fun _ _ _ _ => rfl)]
    generalize hF : (u.vm.classes.findIdx? fun (x : Class) => match x.kind with | .array component _ => component == comp | _ => false) = fi at h ⊢
    cases fi with
    | none => simp at h
    | some c =>
      simp only [Option.bind_some] at h ⊢
      cases hk : u.vm.classes[c]? with
      | none => rw [hk] at h; simp at h
      | some k =>
        obtain ⟨k', hk', ek⟩ := hal.2.2 _ _ hk
        rw [hk] at h
        rw [hk', hal.findClass]
        have ekind : k'.kind = k.kind := by rw [ek]
        simp only [Option.map_some] at h ⊢
        rw [ekind]
        exact h
/-- what constructors want of the start, beside SP -/
def SX (A : Nat → Prop) (U : State) (H : Heap) : Prop := va_AO "MarbleFloor$Floor" U ∧ va_AOA .int U ∧ va_Zq "java/lang/Throwable" "UNASSIGNED_STACK" "[Ljava/lang/StackTraceElement;" A U H ∧ va_Zq "java/lang/Throwable" "SUPPRESSED_SENTINEL" "Ljava/util/List;" A U H
theorem SX.same {A : Nat → Prop} {u U : State} {H : Heap} (hv : U.vm = u.vm) (h : SX A u H) : SX A U H := by
  have hvm : u.vm.Alike U.vm := by rw [hv]; exact Vm.Alike.refl u.vm
  exact ⟨h.1.moved hvm, h.2.1.moved hvm, h.2.2.1.moved hvm, h.2.2.2.moved hvm⟩
theorem SX.warm {A : Nat → Prop} {s U : State} {H : Heap} (hW : s.WarmedH U.vm) (h : SX A s H) : SX A U H := by
  have hvm := hW.alike
  exact ⟨h.1.moved hvm, h.2.1.moved hvm, h.2.2.1.moved hvm, h.2.2.2.moved hvm⟩
theorem SX.kept {A : Nat → Prop} {U : State} {H H1 : Heap} (h : SX A U H) (hq : ∀ a : Nat, a < H.size → ¬ A a → H1[a]? = H[a]?) : SX A U H1 := ⟨h.1, h.2.1, h.2.2.1.kept hq, h.2.2.2.kept hq⟩
theorem SX.narrow {A B : Nat → Prop} {U : State} {H : Heap} (h : SX A U H) (hAB : ∀ q, B q → A q) : SX B U H := ⟨h.1, h.2.1, h.2.2.1.narrow hAB, h.2.2.2.narrow hAB⟩
/-- a constructor's contract: from the world ws it makes the world ws' u, for some u -/
def MN {S : Type} (l : Launch) (y : MethodName) (wl : List Cond) (rm : Room) (D : va_G) (cs zs : Nat → Nat) (av : List Value) (ws : va_W) (ws' : S → va_W) (mc ms : Nat) : Prop :=
  ∀ sz : Nat, Met l y wl rm (va_Pc av (fun U => PW D cs zs ws sz U ∧ SX (va_A ws sz) U U.heap)) (va_Qv (fun (_ : S) => True) (fun u t => RW D cs (va_A ws sz) (ws' u) t) (va_A ws sz)) mc ms (va_A ws sz)
theorem PX_blind {D : va_G} {cs zs : Nat → Nat} {ws : va_W} {sz : Nat} {av : List Value} : FrameBlind (va_Pc av (fun U => PW D cs zs ws sz U ∧ SX (va_A ws sz) U U.heap)) := by
  intro a U g mk q
  obtain ⟨q0, ⟨q1, qP, qK, qD, qZ⟩, qX⟩ := q
  exact ⟨q0, ⟨q1, qP, va_K.moved (u := U) (U := U.calling g mk a) (Vm.Alike.refl U.vm) qK, qD, SP.same (u := U) (U := U.calling g mk a) rfl qZ⟩, SX.same (u := U) (U := U.calling g mk a) rfl qX⟩
theorem MN.of {S : Type} {l : Launch} {y : MethodName} {rm : Room} {D : va_G} {cs zs : Nat → Nat} {av : List Value} {ws : va_W} {ws' : S → va_W} {mc ms : Nat} {cc : ByteArray} {nL : Nat} (own : String) (hy : plainName y.cls = true) (ho : y.cls = own) (hyn : y.name = "<init>") (hcells : (lg_sl av).length ≤ nL)
    (body : ∀ (p : Program) (e : Env) (s : State) (m : MethodId) (below : List Frame) (meth : Method) (c : Code) (A : Nat → Prop), Cx p s m av.toArray meth c A D cs zs cc nL none own → meth.name = "<init>" → SX A s s.heap → va_P D vwCl ws s.heap → va_D A ws → va_S A s.heap s.heap [] → ∀ ls : Array Slot, lv_has ls nL (lv_args 0 av) → W p l e rm s m av.toArray below meth c s.heap [] 0 0 (fun t => ∃ u : S, MQ below (Qv D cs A (ws' u)) av.toArray s mc ms A t) (F0 m 0 ls [])) : MN l y (Cond.code y cc nL none :: tbG) rm D cs zs av ws ws' mc ms := by
  intro sz
  refine Met.ofW (cc := cc) (maxL := nL) (ret := none) hy rfl ?_
  intro p e s m args below meth c s₁ B hml hv
  obtain ⟨rfl, ⟨hsz, hP, hK, hD0, hZ⟩, hX⟩ := hv
  have hts := atoms_spec (ws := Cond.code y cc nL none :: tbG) B.pre
  have hown : s.vm.findClass own = some m.cls := by rw [← ho]; exact findClass_of_methodNamed B.named
  have hin : meth.name = "<init>" := (name_of_methodNamed B.named B.method).1.trans hyn
  subst hsz
  have hD := hD0.self (sz := s.heap.size)
  have hl := lv_entry av (n := nL) hcells
  rw [lg_entry_eq]
  refine k_mono (body p e s m below meth c _ ⟨B.exec, B.bytes, B.returns, hml, hown, fun w h => hts w (List.mem_cons_of_mem _ h), hK, fun q h => Or.inr h, B.notSynchronized, hZ⟩ hin hX hP hD va_S.rf _ hl) (fun t ht => ?_)
  obtain ⟨u, o, h1, h2, ⟨⟨-, h3, -, h5⟩, h6⟩, h7⟩ := ht
  exact ⟨o, h1, h2, ⟨⟨u, h3, trivial, h5⟩, h6⟩, h7⟩
theorem gIt {n : Nat} {y : MethodName} {bc : ByteArray} {ret : Option FieldType} (h5 : Cond.code y bc n ret ∈ tbG) : GoodIn tbG (Cond.code y bc n ret :: tbG) := by
  intro w hw
  have hm : w ∈ tbG := by
    rcases List.mem_cons.mp hw with rfl | h
    · exact h5
    · exact h
  exact ⟨hm, tbG_good hm⟩
section KI
variable {p : Program} {l : Launch} {e : Env} {R : Room} {s : State} {m : MethodId} {args : Array Value} {below : List Frame} {meth : Method} {c : Code} {H : Heap} {locs : List Loc} {cells slots : Nat} {Q : State → Prop} {cc bytes : ByteArray} {A : Nat → Prop} {D : va_G} {cs zs : Nat → Nat} {pc nL n index maxL mc ms : Nat} {ls : Array Slot} {own : String} {y : MethodName} {Ts wl wl' : List Cond} {rm : Room} {b : Nat} {As rest st0 : List Value} {X : va_W} {cell : va_E}
/-- a constructor is called on the world's last cell -/
theorem k_iN {S : Type} {wc' : S → va_W} (hx : p.tables.exec = Jvm.exec) (hb : c.code = cc) (hml : c.maxLocals = nL) (hown : s.vm.findClass own = some m.cls) (hts : ∀ w ∈ Ts, w.before args s = true) (hK : va_K D vwCl (tys cs) s) (hA : ∀ q : Nat, s.heap.size ≤ q → A q) (hZ : SP zs A s s.heap) (hX : SX A s s.heap) (hls : ls.size = nL)
    (hP : va_P D vwCl (X ++ [(b, cell)]) H) (hD : va_D A (X ++ [(b, cell)])) (hS : va_S A s.heap H locs) (hM : MN l y wl rm D cs zs (.ref b :: As) [(b, cell)] wc' mc ms) (hG : GoodIn Ts wl) (hw : wl = Cond.code y bytes maxL none :: wl') (hini : Cond.initialized y.cls ∈ Ts) (hlk : Cond.methodLink own index y ∈ Ts) (him : Cond.instanceMethod y ∈ Ts) (hyn : y.name = "<init>")
    (hd : y.cls ≠ "java/lang/invoke/MethodHandle" ∧ y.cls ≠ "java/lang/invoke/VarHandle" ∧ (parseMethodDescriptor y.desc).map (fun d => d.parameters.length) = some n) (hc0 : rm.cells = mc) (hs0 : rm.slots = ms) (hR : rm.frames + 1 ≤ R.frames ∧ 8 + (maxL + 11) + rm.locals ≤ R.locals)
    (hn : As.length = n) (hst : st0 = As.reverse ++ .ref b :: rest) (hrm : (rest.map fun v => v.category).sum ≤ 8) (hf : cells + mc ≤ R.cells ∧ slots + ms ≤ R.slots) (hdg : decode cc pc = .ok (.invokespecial index, 3))
    (kk : ∀ (u : S) (H1 : Heap) (locs1 : List Loc), va_P D vwCl (X ++ wc' u) H1 → va_D A (X ++ wc' u) → va_S A s.heap H1 locs1 → W p l e R s m args below meth c H1 locs1 (cells + mc) (slots + ms) Q (F0 m (pc + 3) ls rest)) : W p l e R s m args below meth c H locs cells slots Q (F0 m pc ls st0) := by
  subst hst
  have hC : [X.length].map (fun i => (X ++ [(b, cell)])[i]?) = [(b, cell)].map some := by simp
  have hRr : (List.range X.length).map (fun i => (X ++ [(b, cell)])[i]?) = X.map some := all_l
  have hDc := hD.sub [X.length] (by simp [va_nd]) hC
  have hPc : va_P D vwCl [(b, cell)] H := k_sub hP [X.length] hC
  have hFc := va_free hD hS hA [X.length] hC
  refine va_callv (va_runI (As := As) (rest := rest) ⟨hx, hb, hml, hown, hts⟩ (hM H.size) (cwI n hts hG hw hc0 hs0 (hts _ hini) (hts _ hlk) (hts _ him) hyn hd hR) ⟨PX_blind, fun U hU hW => ⟨rfl, ⟨by rw [hU], by rw [hU]; exact hPc, va_K.moved hW.alike hK, hDc.weaken (fun _ _ _ _ => trivial), by rw [hU]; exact ((SP.warm hW hZ).kept hS.2.1).narrow hFc⟩, by rw [hU]; exact ((SX.warm hW hX).kept hS.2.1).narrow hFc⟩⟩ rfl hn hls rfl (lv_room hrm) hdg hf) hS (fun q _ h => hFc q h) hFc (fun u t H1 locs1 ht hvm hw hB hz1 hk1 hS1 => ?_)
  obtain ⟨hP1, hK1, hD1⟩ := hB
  rw [ht] at hP1
  obtain ⟨hP2, hD2⟩ := va_join hP hD [X.length] (List.range X.length) hC hRr (by rw [List.range_eq_range']; exact k_nd_range _ _) (fun i hi => by simp at hi; simp; omega) hk1 hFc hP1 hD1
  exact kk u H1 locs1 hP2 hD2 hS1
end KI
section KN2
variable {p : Program} {l : Launch} {e : Env} {R : Room} {s : State} {m : MethodId} {args : Array Value} {below : List Frame} {meth : Method} {c : Code} {H : Heap} {locs : List Loc} {cells slots : Nat} {Q Q' : State → Prop} {cc : ByteArray} {A : Nat → Prop} {D : va_G} {cs : Nat → ClassId} {pc : Nat} {ls : Array Slot} {rest : List Value} {ws : va_W}
theorem k_newl (hx : p.tables.exec = Jvm.exec) (hb : c.code = cc) (hts : ∀ w ∈ tbG, w.before args s = true) (hK : va_K D vwCl (tys cs) s) (hP : va_P D vwCl ws H) (hD : va_D A ws) (hS : va_S A s.heap H locs) (hA : ∀ q : Nat, s.heap.size ≤ q → A q) {n : Int32} {N : Nat} (hn : ¬ n < 0) (hN : n.toNatClampNeg = N) (hby : N * 8 ≤ 536870912) (hcells : cells + 1 ≤ R.cells) (hslots : slots + N ≤ R.slots) (hdg : decode cc pc = .ok (.newarray .long, 2))
    (kk : ∀ (q : Nat) (H1 : Heap), va_P D vwCl (ws ++ [(q, .inl (cs 1, N, .inr (.inl (fun _ => 0))))]) H1 → va_D A (ws ++ [(q, .inl (cs 1, N, .inr (.inl (fun _ => 0))))]) → va_S A s.heap H1 locs → W p l e R s m args below meth c H1 locs (cells + 1) (slots + N) Q (F0 m (pc + 2) ls (.ref q :: rest))) : W p l e R s m args below meth c H locs cells slots Q (F0 m pc ls (.int n :: rest)) := by
  refine va_newa (atype := .long) (ty := .long) (a0 := (N, .inr (.inl (fun _ => 0)))) hx hb (hts _ ac_long) rfl hK hP hD hS hA (fun _ => rfl) hn hN hby hcells hslots hdg (fun q cA H1 hK1 hP1 hD1 hS1 => ?_)
  have h3 : cA = cs 1 := Option.some.inj ((hK1.2 6 _ rfl).2.symm.trans (hK.2 1 _ rfl).2)
  rw [h3] at hP1 hD1
  exact kk q H1 hP1 hD1 hS1
theorem k_newz (hx : p.tables.exec = Jvm.exec) (hb : c.code = cc) (hts : ∀ w ∈ tbG, w.before args s = true) (hK : va_K D vwCl (tys cs) s) (hP : va_P D vwCl ws H) (hD : va_D A ws) (hS : va_S A s.heap H locs) (hA : ∀ q : Nat, s.heap.size ≤ q → A q) {n : Int32} {N : Nat} (hn : ¬ n < 0) (hN : n.toNatClampNeg = N) (hby : N * 1 ≤ 536870912) (hcells : cells + 1 ≤ R.cells) (hslots : slots + N ≤ R.slots) (hdg : decode cc pc = .ok (.newarray .boolean, 2))
    (kk : ∀ (q : Nat) (H1 : Heap), va_P D vwCl (ws ++ [(q, .inl (cs 2, N, .inl (fun _ => 0)))]) H1 → va_D A (ws ++ [(q, .inl (cs 2, N, .inl (fun _ => 0)))]) → va_S A s.heap H1 locs → W p l e R s m args below meth c H1 locs (cells + 1) (slots + N) Q (F0 m (pc + 2) ls (.ref q :: rest))) : W p l e R s m args below meth c H locs cells slots Q (F0 m pc ls (.int n :: rest)) := by
  refine va_newa (atype := .boolean) (ty := .boolean) (a0 := (N, .inl (fun _ => 0))) hx hb (hts _ ac_boolean) rfl hK hP hD hS hA (fun _ => rfl) hn hN hby hcells hslots hdg (fun q cA H1 hK1 hP1 hD1 hS1 => ?_)
  have h3 : cA = cs 2 := Option.some.inj ((hK1.2 6 _ rfl).2.symm.trans (hK.2 2 _ rfl).2)
  rw [h3] at hP1 hD1
  exact kk q H1 hP1 hD1 hS1
theorem k_newb (hx : p.tables.exec = Jvm.exec) (hb : c.code = cc) (hts : ∀ w ∈ tbG, w.before args s = true) (hK : va_K D vwCl (tys cs) s) (hP : va_P D vwCl ws H) (hD : va_D A ws) (hS : va_S A s.heap H locs) (hA : ∀ q : Nat, s.heap.size ≤ q → A q) {n : Int32} {N : Nat} (hn : ¬ n < 0) (hN : n.toNatClampNeg = N) (hby : N * 1 ≤ 536870912) (hcells : cells + 1 ≤ R.cells) (hslots : slots + N ≤ R.slots) (hdg : decode cc pc = .ok (.newarray .byte, 2))
    (kk : ∀ (q : Nat) (H1 : Heap), va_P D vwCl (ws ++ [(q, .inl (cs 3, N, .inl (fun _ => 0)))]) H1 → va_D A (ws ++ [(q, .inl (cs 3, N, .inl (fun _ => 0)))]) → va_S A s.heap H1 locs → W p l e R s m args below meth c H1 locs (cells + 1) (slots + N) Q (F0 m (pc + 2) ls (.ref q :: rest))) : W p l e R s m args below meth c H locs cells slots Q (F0 m pc ls (.int n :: rest)) := by
  refine va_newa (atype := .byte) (ty := .byte) (a0 := (N, .inl (fun _ => 0))) hx hb (hts _ ac_byte) rfl hK hP hD hS hA (fun _ => rfl) hn hN hby hcells hslots hdg (fun q cA H1 hK1 hP1 hD1 hS1 => ?_)
  have h3 : cA = cs 3 := Option.some.inj ((hK1.2 6 _ rfl).2.symm.trans (hK.2 3 _ rfl).2)
  rw [h3] at hP1 hD1
  exact kk q H1 hP1 hD1 hS1
end KN2
