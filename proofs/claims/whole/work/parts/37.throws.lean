/-! ===== methods that throw: an object of the reference's own, out of the method ===== -/
/-- it threw x, and left the world ws -/
def QT (D : va_G) (cs : Nat → ClassId) (A : Nat → Prop) (x : Nat) (ws : va_W) : Array Value → State → Outcome → State → Prop := fun _ st o t => (o = .threw x ∧ RW D cs A ws t) ∧ va_F A st t
def MT (l : Launch) (y : MethodName) (wl : List Cond) (rm : Room) (D : va_G) (cs zs : Nat → Nat) (av : List Value) (ws : va_W) (x : Nat) (ws' : va_W) : Prop :=
  ∀ sz : Nat, MetFree l y (headSpec wl rm) (va_Pc av (PW D cs zs ws sz)) (fun _ _ _ _ _ => True) (fun a st o t => QT D cs (va_A ws sz) x ws' a st o t ∧ ∃ L, FrameEndT st o t L 0 0 ∧ ∀ q ∈ L, va_A ws sz q.base)
def MQT (below : List Frame) (D : va_G) (cs : Nat → ClassId) (A : Nat → Prop) (x : Nat) (ws : va_W) (args : Array Value) (s : State) : State → Prop := fun t =>
  ∃ o, t.status = .running ∧ Ended t below o ∧ QT D cs A x ws args s o t ∧ ∃ L, FrameEndT s o t L 0 0 ∧ ∀ q ∈ L, A q.base
/-- the method has no handler of its own -/
def NoH (c : Code) : Prop := ∀ x ∈ c.exceptionTable.toList, False
def bt {α β γ : Type} (x : Option (α ⊕ β)) (k : α → Option γ) (k2 : β → Option γ) : Option γ := match x with
  | some (.inl a) => k a
  | some (.inr b) => k2 b
  | none => none
theorem bt_s {α β γ : Type} {x : Option (α ⊕ β)} {k : α → Option γ} {k2 : β → Option γ} {y : γ} (h : bt x k k2 = some y) : (∃ a, x = some (.inl a) ∧ k a = some y) ∨ ∃ b, x = some (.inr b) ∧ k2 b = some y := by
  match x, h with
  | some (.inl a), h => exact Or.inl ⟨a, rfl, h⟩
  | some (.inr b), h => exact Or.inr ⟨b, rfl, h⟩
section KT
variable {p : Program} {l : Launch} {e : Env} {R : Room} {s : State} {m : MethodId} {args : Array Value} {below : List Frame} {meth : Method} {c : Code} {H : Heap} {locs : List Loc} {cells slots : Nat} {Q : State → Prop} {cc bytes : ByteArray} {A : Nat → Prop} {D : va_G} {cs zs : Nat → Nat} {pc nL n index maxL : Nat} {ls : Array Slot} {own C : String} {y : MethodName} {ret : Option FieldType} {Ts wl wl' : List Cond} {rm : Room} {b x : Nat} {As rest st0 : List Value} {ws wc wc' wr ws2 : va_W}
theorem k_athrow (hx : p.tables.exec = Jvm.exec) (hb : c.code = cc) (hlocks : meth.locks = false) (hne : NoH c) (hK : va_K D vwCl (tys cs) s) (hP : va_P D vwCl ws H) (hD : va_D A ws) (hS : va_S A s.heap H locs) (hdg : decode cc pc = .ok (.athrow, 1)) :
    W p l e R s m args below meth c H locs 0 0 (MQT below D cs A x ws args s) (F0 m pc ls (.ref x :: rest)) := by
  intro T hT X
  obtain ⟨h1, h2, h3, h4, h5⟩ := X.athrowLeaves hx (g := F0 m pc ls (.ref x :: rest)) rfl rfl rfl (fun z hz => (hne z hz).elim) (a := x) (rest := rest) rfl (by rw [hb]; exact hdg) hlocks
  have hh : (T.setFrames (.throwing x :: below)).heap = H := hT
  refine ⟨_, h1, .threw x, h2, h3, ⟨⟨rfl, by rw [hh]; exact hP, va_K.moved h4.alike hK, hD⟩, hS.F hh⟩, locs, ⟨⟨x, rfl⟩, h4, h5⟩, hS.2.2⟩
/-- a callee that throws, as the machine's rows want it -/
theorem k_backT {Wd len : Nat} {sargs : Array Value} {Pc : Array Value → State → Prop} {Qc : Array Value → State → Outcome → State → Prop} {free : Addr → Prop}
    (hM : MetFree l y (headSpec wl rm) Pc (fun _ _ _ _ _ => True) (fun a st o t => Qc a st o t ∧ ∃ L, FrameEndT st o t L 0 0 ∧ ∀ q ∈ L, free q.base)) (hblind : FrameBlind Pc) (hrc : rm.cells = 0) (hrs : rm.slots = 0)
    (hframes : rm.frames + 1 ≤ R.frames) (hlocals : Wd + (maxL + 11) + rm.locals ≤ R.locals)
    (hws : ∀ w ∈ wl, ∀ a' U, s.WarmedH U.vm → w.before a' U = true) (hcode : Cond.code y bytes maxL ret ∈ wl) (hinit : ∀ a' U, s.WarmedH U.vm → (Cond.initialized y.cls).before a' U = true) :
    BackT l R p e below s sargs y len Wd (PreOf R 0 0 Pc) (fun A a v B => ∃ (g : JFrame) (mk : MethodId) (t : State) (L : List Loc), B.U.heap = t.heap ∧ B.U.vm = t.vm ∧ Qc a (A.U.calling g mk a) (.threw v) t ∧ B.locs = A.locs ++ L ∧ (∀ q ∈ L, free q.base) ∧ B.cells = A.cells + 0 ∧ B.slots = A.slots + 0) := by
  refine BackT.of_free (S := headSpec wl rm) (P := Pc) (K := fun _ _ _ _ _ => True) (Q := fun a st o t => Qc a st o t ∧ ∃ L, FrameEndT st o t L 0 0 ∧ ∀ q ∈ L, free q.base) (bytes := bytes) (maxL := maxL) (ret := ret)
    (E := fun a st o t L k n => k = 0 ∧ n = 0 ∧ ∀ q ∈ L, free q.base) hM hframes hlocals ?_ ?_ (fun _ _ _ _ _ _ _ _ _ => trivial) ?_ ?_
  · intro m meth c A a X hp
    exact ⟨atoms_intro fun w hw => hws w hw _ _ X.warmed, hws _ hcode _ _ X.warmed, hinit _ _ X.warmed, by rw [show (headSpec wl rm).room.cells = 0 from hrc]; exact hp.1, by rw [show (headSpec wl rm).room.slots = 0 from hrs]; exact hp.2.1⟩
  · intro m meth c A a g mk X hp
    exact hblind _ _ _ _ hp.2.2
  · intro a st o t ⟨hq, L, hF, hL⟩
    exact ⟨L, 0, 0, hF, rfl, rfl, hL⟩
  · intro m meth c A a g mk v t L k n X hp hq hF ⟨e1, e2, hL⟩
    subst e1; subst e2
    exact ⟨g, mk, t, L, rfl, rfl, hq.1, rfl, hL, rfl, rfl⟩
theorem callVT {T : State} (X : Stand p l e R s m args below meth c T locs cells slots) (hexec : p.tables.exec = Jvm.exec)
    (hown : s.vm.findClass own = some m.cls) (hlink : (Cond.methodLink own index y).before args s = true) (hinst : (Cond.instanceMethod y).before args s = true) (hsel : (Cond.selects C y y).before args s = true)
    (hcode : (Cond.code y bytes maxL ret).before args s = true) (hy : y.cls ≠ "java/lang/invoke/MethodHandle" ∧ y.cls ≠ "java/lang/invoke/VarHandle")
    {Wd : Nat} {Pre : Pt → Array Value → Prop} {Post : Pt → Array Value → Addr → Pt → Prop} (hK : BackT l R p e below s args y 3 Wd Pre Post)
    {cellB : Cell} (hcell : T.heap[b]? = some cellB) (hobj : cellB.vm.isStatics = false) (hcls : s.vm.findClass C = some cellB.cls)
    {g : JFrame} (hg : g.method = m) (hsize : g.locals.size = c.maxLocals) {argsL : List Value} (hlen : ∀ sig, parseMethodDescriptor y.desc = some sig → argsL.length = sig.parameters.length)
    (hstack : g.stack = argsL.reverse ++ .ref b :: rest) (hW : 2 * g.monitorRoom + (rest.map fun v => v.category).sum ≤ Wd) (hdg : decode c.code g.pc = .ok (.invokevirtual index, 3))
    (hpre : ∀ vm₁, s.WarmedH vm₁ → Pre ⟨T.setVm vm₁, locs, cells, slots⟩ (Value.ref b :: argsL).toArray) :
    ∃ (v : Addr) (vm₁ : Vm) (B : Pt), s.WarmedH vm₁ ∧ Stand p l e R s m args below meth c B.U B.locs B.cells B.slots ∧ Post ⟨T.setVm vm₁, locs, cells, slots⟩ (Value.ref b :: argsL).toArray v B ∧
      Steps p.tables e below (T.setTop g) ((B.U.setTop { g with stack := rest }).pushFrame (.throwing v)) := by
  obtain ⟨mk, methM, hnamed, hmethM, hstM, habM⟩ := Cond.instanceMethod_spec hinst
  obtain ⟨methM', cM, hmethM', -, -, -, -, -, -, hsigM⟩ := Cond.code_spec hnamed hcode
  cases hmethM.symm.trans hmethM'
  obtain ⟨c2, r2, m2, q1, q2, q3, q4, kP, hkP, hkPi⟩ := Cond.selects_spec hsel
  cases hcls.symm.trans q1
  cases (State.methodFound?_of_named hnamed hy).symm.trans q2
  cases hnamed.symm.trans q3
  have hselP : selectMethod e.platform s.vm cellB.cls mk = .method mk := by rw [Launch.admits_selectMethod X.admits]; exact q4
  obtain ⟨vm₁, X₁, hstep₁⟩ := X.invokevirtual hexec hown hlink hnamed hmethM hstM hkP hkPi hy (a := b) (cell := cellB) hcell
    (fun z h => by rw [h] at hobj; cases hobj) hselP hmethM habM hkP hkPi (g := g) hg (argsL := argsL) (rest := rest) (hlen _ hsigM) hstack hdg
  obtain ⟨v, B, X', hpost, hsteps⟩ := hK m meth c ⟨T.setVm vm₁, locs, cells, slots⟩ { g with stack := rest } (.invokevirtual index) mk (Value.ref b :: argsL).toArray X₁ hg hsize hdg hW (X₁.named hnamed) (hpre vm₁ X₁.warmed)
  exact ⟨v, vm₁, B, X₁.warmed, X', hpost, hstep₁ _ fun acts => by rw [doInvoke_state]; exact hsteps⟩
/-- the same, over worlds: where the callee has thrown, the caller's frame lies there with the note over it -/
theorem k_thrown {T : State} {q : vw_C} {fs : List Value} (X : Stand p l e R s m args below meth c T locs cells slots) (hT : T.heap = H) (hx : p.tables.exec = Jvm.exec) (hb : c.code = cc) (hml : c.maxLocals = nL) (hown : s.vm.findClass own = some m.cls) (hts : ∀ w ∈ Ts, w.before args s = true) (hK : va_K D vwCl (tys cs) s) (hZ : SP zs A s s.heap) (hls : ls.size = nL)
    (hPc : va_P D vwCl wc H) (hDc : va_D A wc) (hS : va_S A s.heap H locs) (hFc : ∀ q, va_A wc H.size q → A q) (hM : MT l y wl rm D cs zs (.ref b :: As) wc x wc') (hG : GoodIn Ts (wsV own index C y wl)) (hw : wl = Cond.code y bytes maxL ret :: wl') (hd : y.cls = C ∧ y.cls ≠ "java/lang/invoke/MethodHandle" ∧ y.cls ≠ "java/lang/invoke/VarHandle" ∧ (parseMethodDescriptor y.desc).map (fun d => d.parameters.length) = some n) (hc0 : rm.cells = 0) (hs0 : rm.slots = 0) (hR : rm.frames + 1 ≤ R.frames ∧ 8 + (maxL + 11) + rm.locals ≤ R.locals)
    (q0 ci : Nat) (hq : vwCl[ci]? = some q) (hqC : q.1 = C) (he : wc[q0]? = some (b, .inr (ci, fs)))
    (hn : As.length = n) (hrm : (rest.map fun v => v.category).sum ≤ 8) (hf : cells ≤ R.cells ∧ slots ≤ R.slots) (hdg : decode cc pc = .ok (.invokevirtual index, 3)) :
    ∃ (t T' : State) (L : List Loc), Stand p l e R s m args below meth c T' (locs ++ L) cells slots ∧ T'.heap = t.heap ∧ (∀ q ∈ L, A q.base) ∧ s.vm.Alike t.vm ∧ RW D cs (va_A wc H.size) wc' t ∧ H.size ≤ t.heap.size ∧ (∀ q : Nat, q < H.size → ¬ va_A wc H.size q → t.heap[q]? = H[q]?) ∧
      Steps p.tables e below (T.setTop (F0 m pc ls (As.reverse ++ .ref b :: rest))) ((T'.setTop (F0 m pc ls rest)).pushFrame (.throwing x)) := by
  subst hqC
  obtain ⟨⟨-, -, -, -, h5, -, hcode, hini, hy, hlen, hl⟩, hin, hse⟩ := cwV (R := R) n hts hG hw hc0 hs0 hd hR
  obtain ⟨cellB, hcB, hoB, hclB⟩ := va_recv hK hPc hq he
  have hcm : Cond.code y bytes maxL ret ∈ wl := by rw [hw]; exact List.mem_cons_self
  have hinit : ∀ a' U, s.WarmedH U.vm → (Cond.initialized y.cls).before a' U = true := fun a' U hW => word_at hW (Or.inl rfl) hini
  have hKb : BackT l R p e below s args y 3 8 (PreOf R 0 0 _) _ := k_backT (hM H.size) PW_blind hc0 hs0 hR.1 hR.2 h5 hcm hinit
  obtain ⟨v, vm₁, ⟨U', l2, c2, s2⟩, hW₁, X', ⟨g', mk, t, L, e1, e2, hqt, h1, hL, h2, h3⟩, st⟩ := callVT X hx hown hl hin hse hcode hy hKb (by rw [hT]; exact hcB) hoB hclB (g := F0 m pc ls (As.reverse ++ .ref b :: rest)) rfl (hls.trans hml.symm) (argsL := As) (rest := rest) (fun sig h => hn.trans (hlen sig h)) rfl (lv_room hrm) (by rw [hb]; exact hdg)
    (fun vm₁ hW₁ => ⟨hf.1, hf.2, rfl, by show T.heap.size = _; rw [hT], by show va_P D vwCl wc T.heap; rw [hT]; exact hPc, va_K.moved hW₁.alike hK, hDc.weaken (fun _ _ _ _ => trivial), by show SP zs _ (T.setVm vm₁) T.heap; rw [hT]; exact ((SP.warm (U := T.setVm vm₁) hW₁ hZ).kept hS.2.1).narrow hFc⟩)
  dsimp only [Pt.U, Pt.locs, Pt.cells, Pt.slots] at X' e1 e2 h1 h2 h3 st
  subst h1; subst h2; subst h3
  obtain ⟨⟨hv, hRW⟩, hz, hk⟩ := hqt
  cases hv
  have hst : ((T.setVm vm₁).calling g' mk (Value.ref b :: As).toArray).heap = H := hT
  rw [hst] at hz hk
  exact ⟨t, U', L, X', e1, fun q h => hFc _ (hL q h), by rw [← e2]; exact X'.warmed.alike, hRW, hz, hk, st⟩
/-- the callee throws, and so does the caller: over the caller's whole world -/
theorem k_sVt {q : vw_C} {fs : List Value} (hx : p.tables.exec = Jvm.exec) (hb : c.code = cc) (hml : c.maxLocals = nL) (hown : s.vm.findClass own = some m.cls) (hts : ∀ w ∈ Ts, w.before args s = true) (hK : va_K D vwCl (tys cs) s) (hA : ∀ q : Nat, s.heap.size ≤ q → A q) (hZ : SP zs A s s.heap) (hls : ls.size = nL)
    (hP : va_P D vwCl ws H) (hD : va_D A ws) (hS : va_S A s.heap H locs) (hM : MT l y wl rm D cs zs (.ref b :: As) ws x ws2) (hG : GoodIn Ts (wsV own index C y wl)) (hw : wl = Cond.code y bytes maxL ret :: wl') (hd : y.cls = C ∧ y.cls ≠ "java/lang/invoke/MethodHandle" ∧ y.cls ≠ "java/lang/invoke/VarHandle" ∧ (parseMethodDescriptor y.desc).map (fun d => d.parameters.length) = some n) (hc0 : rm.cells = 0) (hs0 : rm.slots = 0) (hR : rm.frames + 1 ≤ R.frames ∧ 8 + (maxL + 11) + rm.locals ≤ R.locals)
    (q0 ci : Nat) (hq : vwCl[ci]? = some q) (hqC : q.1 = C) (he : ws[q0]? = some (b, .inr (ci, fs)))
    (hn : As.length = n) (hst : st0 = As.reverse ++ .ref b :: rest) (hrm : (rest.map fun v => v.category).sum ≤ 8) (hdg : decode cc pc = .ok (.invokevirtual index, 3)) (hlocks : meth.locks = false) (hne : NoH c) :
    W p l e R s m args below meth c H locs 0 0 (MQT below D cs A x ws2 args s) (F0 m pc ls st0) := by
  subst hst
  intro T hT X
  have hFc : ∀ q, va_A ws H.size q → A q := fun q h => by
    rcases h with ⟨k, e1, h⟩ | h
    · exact hD.2 k (q, e1) h
    · exact hA q (Nat.le_trans hS.1 h)
  obtain ⟨t, T', L, X', e1, hL, hal, ⟨hP1, hK1, hD1⟩, hz, hk, st⟩ := k_thrown X hT hx hb hml hown hts hK hZ hls hP hD hS hFc hM hG hw hd hc0 hs0 hR q0 ci hq hqC he hn hrm ⟨Nat.zero_le _, Nat.zero_le _⟩ hdg
  obtain ⟨hwalk, hrun, hend, hW2, hsame⟩ := X'.leaveThrown x (g := F0 m pc ls rest) rfl rfl rfl (fun z hz => (hne z hz).elim) hlocks
  have hh : (T'.setFrames (.throwing x :: below)).heap = t.heap := e1
  refine ⟨_, st.trans hwalk, .threw x, hrun, hend, ⟨⟨rfl, by rw [hh]; exact hP1, va_K.moved hW2.alike hK, hD1.weaken (fun k q _ h => hFc q.1 h)⟩, ?_⟩, locs ++ L, ⟨⟨x, rfl⟩, hW2, hsame⟩, fun q hq => ?_⟩
  · refine ⟨by rw [hh]; exact Nat.le_trans hS.1 hz, fun q h1 h2 => ?_⟩
    rw [hh, hk q (Nat.lt_of_lt_of_le h1 hS.1) (fun z => h2 (hFc q z))]
    exact hS.2.1 q h1 h2
  · rcases List.mem_append.mp hq with h | h
    · exact hS.2.2 q h
    · exact hL q h
end KT
/-- contracts out of a walk: the method may throw; it has no handler -/
theorem noH_of {l : Launch} {p : Program} {e : Env} {s : State} {m : MethodId} {args : Array Value} {below : List Frame} {meth : Method} {c : Code} {s₁ : State} {y : MethodName} {cc : ByteArray} {nL : Nat} {ret : Option FieldType} {S : Spec} (B : BodyLoose p l y S cc nL ret e s m args below meth c s₁) (hc : (Cond.code y cc nL ret).before args s = true) : NoH c := by
  obtain ⟨meth', c', hm', hc', -, -, -, -, hempty, -⟩ := Cond.code_spec B.named hc
  cases B.method.symm.trans hm'
  have h1 : s₁.code? m = some c := B.here.code
  have h2 : s₁.code? m = s.code? m := by rw [B.state]; rfl
  have h3 : s.code? m = some c' := by rw [State.code?_eq, hm']; exact hc'
  have h4 : c = c' := Option.some.inj (h1.symm.trans (h2.trans h3))
  subst h4
  intro z hz
  have h0 : c.exceptionTable.size = 0 := by simpa [Array.isEmpty] using hempty
  have h5 : c.exceptionTable.toList = [] := List.eq_nil_of_length_eq_zero (by simpa using h0)
  rw [h5] at hz
  cases hz
