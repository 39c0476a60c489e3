/-! ===== a method with one handler of its own ===== -/
def HT (c : Code) (hd : Nat × Nat × Nat × Nat) : Prop := ∃ xe : ExceptionTableEntry, c.exceptionTable.toList = [xe] ∧ xe.startPc = hd.1 ∧ xe.endPc = hd.2.1 ∧ xe.handlerPc = hd.2.2.1 ∧ xe.catchType = hd.2.2.2
theorem ht_of {l : Launch} {p : Program} {e : Env} {s : State} {m : MethodId} {args : Array Value} {below : List Frame} {meth : Method} {c : Code} {s₁ : State} {y : MethodName} {cc : ByteArray} {nL : Nat} {ret : Option FieldType} {S : Spec} {hd : Nat × Nat × Nat × Nat} (B : BodyLoose p l y S cc nL ret e s m args below meth c s₁) (hc : (Cond.codeWith y cc nL ret [hd]).before args s = true) : HT c hd := by
  obtain ⟨m9, meth', c', hn9, hm', hc', -, -, htab, -, -, -⟩ := Cond.codeWith_spec hc
  cases B.named.symm.trans hn9
  cases B.method.symm.trans hm'
  have h1 : s₁.code? m = some c := B.here.code
  have h2 : s₁.code? m = s.code? m := by rw [B.state]; rfl
  have h3 : s.code? m = some c' := by rw [State.code?_eq, hm']; exact hc'
  have h4 : c = c' := Option.some.inj (h1.symm.trans (h2.trans h3))
  subst h4
  match hl : c.exceptionTable.toList with
  | [] => rw [hl] at htab; cases htab
  | [xe] =>
    rw [hl] at htab
    simp only [List.map_cons, List.map_nil, List.cons.injEq, and_true] at htab
    subst htab
    exact ⟨xe, hl, rfl, rfl, rfl, rfl⟩
  | _ :: _ :: _ => rw [hl] at htab; simp at htab
theorem Mi.ofH {l : Launch} {y : MethodName} {rm : Room} {D : va_G} {cs zs : Nat → Nat} {av : List Value} {ws ws' : va_W} {r : Int32} {cc : ByteArray} {nL : Nat} {ret : Option FieldType} {hd : Nat × Nat × Nat × Nat} (own : String) (hy : plainName y.cls = true) (ho : y.cls = own) (hcells : (lg_sl av).length ≤ nL)
    (body : ∀ (p : Program) (e : Env) (s : State) (m : MethodId) (below : List Frame) (meth : Method) (c : Code) (A : Nat → Prop), Cx p s m av.toArray meth c A D cs zs cc nL ret own → HT c hd → va_P D vwCl ws s.heap → va_D A ws → va_S A s.heap s.heap [] → ∀ ls : Array Slot, lv_has ls nL (lv_args 0 av) → W p l e rm s m av.toArray below meth c s.heap [] 0 0 (MQ below (Qi D cs A r ws') av.toArray s 0 0 A) (F0 m 0 ls [])) : Mi l y (Cond.codeWith y cc nL ret [hd] :: tbG) rm D cs zs av ws r ws' := by
  intro sz
  refine va_MetW (cc := cc) (maxL := nL) (ret := ret) (hh := [hd]) hy rfl ?_
  intro p e s m args below meth c s₁ B hml hv
  obtain ⟨rfl, hsz, hP, hK, hD0, hZ⟩ := hv
  have hts := atoms_spec (ws := Cond.codeWith y cc nL ret [hd] :: tbG) B.pre
  have hown : s.vm.findClass own = some m.cls := by rw [← ho]; exact findClass_of_methodNamed B.named
  subst hsz
  have hD := hD0.self (sz := s.heap.size)
  have hl := lv_entry av (n := nL) hcells
  rw [lg_entry_eq]
  exact body p e s m below meth c _ ⟨B.exec, B.bytes, B.returns, hml, hown, fun w h => hts w (List.mem_cons_of_mem _ h), hK, fun q h => Or.inr h, B.notSynchronized, hZ⟩ (ht_of B (hts _ List.mem_cons_self)) hP hD va_S.rf _ hl
/-- an object of which only its class matters -/
def W12 (cs : Nat → ClassId) (h : Nat) (a : Nat → Nat) (f : List Value) : va_W := [(h, .inr (12, f))]
