theorem gVt {own C : String} {idx n : Nat} {y : MethodName} {bc : ByteArray} {ret : Option FieldType} (h1 : Cond.methodLink own idx y ∈ tbG) (h2 : Cond.instanceMethod y ∈ tbG) (h3 : Cond.selects C y y ∈ tbG) (h4 : Cond.initialized C ∈ tbG) (h5 : Cond.code y bc n ret ∈ tbG) : GoodIn tbG (wsV own idx C y (Cond.code y bc n ret :: tbG)) := by
  intro w hw
  have hm : w ∈ tbG := by
    rcases List.mem_append.mp hw with h | h
    · simp only [List.mem_cons, List.not_mem_nil, or_false] at h
      rcases h with rfl | rfl | rfl | rfl <;> assumption
    · rcases List.mem_cons.mp h with rfl | h
      · exact h5
      · exact h
  exact ⟨hm, tbG_good hm⟩
theorem gSt {own : String} {idx n : Nat} {y : MethodName} {bc : ByteArray} {ret : Option FieldType} (h1 : Cond.methodLink own idx y ∈ tbG) (h2 : Cond.static y ∈ tbG) (h4 : Cond.initialized y.cls ∈ tbG) (h5 : Cond.code y bc n ret ∈ tbG) : GoodIn tbG (va_wsS own idx y (Cond.code y bc n ret :: tbG)) := by
  intro w hw
  have hm : w ∈ tbG := by
    rcases List.mem_append.mp hw with h | h
    · simp only [List.mem_cons, List.not_mem_nil, or_false] at h
      rcases h with rfl | rfl | rfl <;> assumption
    · rcases List.mem_cons.mp h with rfl | h
      · exact h5
      · exact h
  exact ⟨hm, tbG_good hm⟩
/-! ===== what a method's own function is made of ===== -/
/-- an index within its array -/
def inb (i : Int32) (n : Nat) : Bool := decide (¬ (i < 0 ∨ n ≤ i.toNatClampNeg))
theorem inb_in {i : Int32} {n : Nat} (h : inb i n = true) : vp_in i n := (of_decide_eq_true h : ¬ (i < 0 ∨ n ≤ i.toNatClampNeg))
/-- goes on only where b holds -/
def ck {α : Type} (b : Bool) (x : Option α) : Option α := match b with
  | true => x
  | false => none
theorem ck_1 {α : Type} {b : Bool} {x : Option α} {y : α} (h : ck b x = some y) : b = true := by
  cases b with
  | true => rfl
  | false => cases h
theorem ck_2 {α : Type} {b : Bool} {x : Option α} {y : α} (h : ck b x = some y) : x = some y := by
  cases b with
  | true => exact h
  | false => cases h
theorem ck_in {α : Type} {i : Int32} {n : Nat} {x : Option α} {y : α} (h : ck (inb i n) x = some y) : vp_in i n := inb_in (ck_1 h)
def nz (x : Int32) : Bool := decide (¬ x = 0)
def nzl (x : Int64) : Bool := decide (¬ x = 0)
theorem ck_nz {α : Type} {i : Int32} {x : Option α} {y : α} (h : ck (nz i) x = some y) : ¬ i = 0 := of_decide_eq_true (ck_1 h)
theorem ck_nzl {α : Type} {i : Int64} {x : Option α} {y : α} (h : ck (nzl i) x = some y) : ¬ i = 0 := of_decide_eq_true (ck_1 h)
/-- a truth value -/
def bz (x : Int32) : Bool := decide (x = 0 ∨ x = 1)
theorem ck_bz {α : Type} {i : Int32} {x : Option α} {y : α} (h : ck (bz i) x = some y) : narrow .boolean (.int i) = .int i := by
  rcases (of_decide_eq_true (ck_1 h) : i = 0 ∨ i = 1) with rfl | rfl <;> rfl
theorem ck_bzf {α : Type} {i : Int32} {x : Option α} {y : α} (h : ck (bz i) x = some y) : fits .boolean (.int i) = true := by
  rcases (of_decide_eq_true (ck_1 h) : i = 0 ∨ i = 1) with rfl | rfl <;> rfl
theorem sw_ne {x : Int32} {k : Int} {y : Int32} (hy : y.toInt = k) (h : ¬ x = y) : x.toInt ≠ k := fun e => h (Int32.toInt_inj.mp (e.trans hy.symm))
theorem ite_t {α : Type} {c : Prop} [Decidable c] {a b x : α} (h : (if c then a else b) = x) (hc : c) : a = x := by rw [if_pos hc] at h; exact h
theorem ite_f {α : Type} {c : Prop} [Decidable c] {a b x : α} (h : (if c then a else b) = x) (hc : ¬ c) : b = x := by rw [if_neg hc] at h; exact h
def bd {α β : Type} (x : Option α) (k : α → Option β) : Option β := match x with
  | some a => k a
  | none => none
theorem bd_s {α β : Type} {x : Option α} {k : α → Option β} {y : β} (h : bd x k = some y) : ∃ a, x = some a ∧ k a = some y := by
  cases x with
  | none => cases h
  | some a => exact ⟨a, rfl, h⟩
/-- the arrays' classes: int, long, boolean, byte, an array of Floors, an array of int arrays -/
abbrev tys (cs : Nat → ClassId) : List (ClassId × FieldType) := [(cs 0, .int), (cs 1, .long), (cs 2, .boolean), (cs 3, .byte), (cs 4, .object "MarbleFloor$Floor"), (cs 5, .array .int)]
/-! the constants that lie outside of all worlds: two arrays of the class, the reference's Strings. zs: where they lie -/
def zSteps : List Int32 := [0, 2, 4, 6, 8, 9, 12, 13, 16, 17, 18, 19, 72, 76, 80, 82, 112, 113]
def zWords : List Int64 := [6382692, 7566690, 7892850, 1937203568, 26982, 1718775661, 1667329132, 129116974181484, 1886547811, 26995, 6647396, 1952998766, 1701606245, 26217, 25711, 1819242352, 504364296556, 465491092851, 1953854062]
def zStrs : List (Nat × String) := [(119, "lanes"), (102, "swap"), (104, "turn"), (109, "if"), (426, "proc"), (446, "add"), (447, "sub"), (449, "xor"), (451, "from"), (452, "call"), (454, "uncall"), (428, "is"), (429, "end"), (431, "then"), (433, "else"), (435, "fi"), (437, "do"), (439, "loop"), (441, "until"), (379, "z")]
def zLen : List Nat := [5, 4, 4, 2, 4, 3, 3, 3, 4, 4, 6, 2, 3, 4, 4, 2, 2, 4, 5, 1]
def zByt : List (List Int32) := [[108, 97, 110, 101, 115], [115, 119, 97, 112], [116, 117, 114, 110], [105, 102], [112, 114, 111, 99], [97, 100, 100], [115, 117, 98], [120, 111, 114], [102, 114, 111, 109], [99, 97, 108, 108], [117, 110, 99, 97, 108, 108], [105, 115], [101, 110, 100], [116, 104, 101, 110], [101, 108, 115, 101], [102, 105], [100, 111], [108, 111, 111, 112], [117, 110, 116, 105, 108], [122]]
def SP (zs : Nat → Nat) (A : Nat → Prop) (U : State) (H : Heap) : Prop :=
  va_Z "MarbleFloor$Shortest" "STEPS" "[I" (.ref (zs 0)) A U H ∧ va_T .int (zs 0) 18 (fun j => .int (zSteps.getD j 0)) A U H ∧ va_Z "MarbleFloor$Tape" "WORDS" "[J" (.ref (zs 1)) A U H ∧ va_T .long (zs 1) 19 (fun j => .long (zWords.getD j 0)) A U H ∧ va_Z "java/lang/String" "COMPACT_STRINGS" "Z" (.int 1) A U H ∧ vk_S 20 zLen zByt (fun i => zs (10 + i)) (fun i => zs (40 + i)) A U H ∧ (∀ (i : Nat) (q : Nat × String), zStrs[i]? = some q → vk_R "MarbleFloorModel" q.1 q.2 (zs (10 + i)) U) ∧ va_Zq "jdk/internal/util/Preconditions" "SIOOBE_FORMATTER" "Ljava/util/function/BiFunction;" A U H
theorem SP.same {zs : Nat → Nat} {A : Nat → Prop} {u U : State} {H : Heap} (hv : U.vm = u.vm) (h : SP zs A u H) : SP zs A U H := by
  have hvm : u.vm.Alike U.vm := by rw [hv]; exact Vm.Alike.refl u.vm
  obtain ⟨h1, h2, h3, h4, h5, h6, h7, h8⟩ := h
  exact ⟨h1.moved hvm, h2.moved hvm, h3.moved hvm, h4.moved hvm, h5.moved hvm, h6.moved hvm, fun i q hq => vk_R.same hv (h7 i q hq), h8.moved hvm⟩
theorem SP.warm {zs : Nat → Nat} {A : Nat → Prop} {s U : State} {H : Heap} (hW : s.WarmedH U.vm) (h : SP zs A s H) : SP zs A U H := by
  have hvm := hW.alike
  obtain ⟨h1, h2, h3, h4, h5, h6, h7, h8⟩ := h
  exact ⟨h1.moved hvm, h2.moved hvm, h3.moved hvm, h4.moved hvm, h5.moved hvm, h6.moved hvm, fun i q hq => vk_R.warm hW (h7 i q hq), h8.moved hvm⟩
theorem SP.kept {zs : Nat → Nat} {A : Nat → Prop} {U : State} {H H1 : Heap} (h : SP zs A U H) (hq : ∀ a : Nat, a < H.size → ¬ A a → H1[a]? = H[a]?) : SP zs A U H1 := by
  obtain ⟨h1, h2, h3, h4, h5, h6, h7, h8⟩ := h
  exact ⟨h1.kept hq, h2.kept hq, h3.kept hq, h4.kept hq, h5.kept hq, h6.kept hq, h7, h8.kept hq⟩
theorem SP.narrow {zs : Nat → Nat} {A B : Nat → Prop} {U : State} {H : Heap} (h : SP zs A U H) (hAB : ∀ q, B q → A q) : SP zs B U H := by
  obtain ⟨h1, h2, h3, h4, h5, h6, h7, h8⟩ := h
  exact ⟨h1.narrow hAB, h2.narrow hAB, h3.narrow hAB, h4.narrow hAB, h5.narrow hAB, h6.narrow hAB, h7, h8.narrow hAB⟩
/-- a method's start: its world's cells, at their addresses -/
abbrev PW (D : va_G) (cs zs : Nat → Nat) (ws : va_W) (sz : Nat) : State → Prop := fun U => U.heap.size = sz ∧ va_P D vwCl ws U.heap ∧ va_K D vwCl (tys cs) U ∧ va_D (fun _ => True) ws ∧ SP zs (va_A ws sz) U U.heap
abbrev RW (D : va_G) (cs : Nat → ClassId) (A : Nat → Prop) (ws : va_W) : State → Prop := fun t => va_P D vwCl ws t.heap ∧ va_K D vwCl (tys cs) t ∧ va_D A ws
abbrev Qi (D : va_G) (cs : Nat → ClassId) (A : Nat → Prop) (r : Int32) (ws : va_W) : Array Value → State → Outcome → State → Prop := va_Qi (fun (x : Int32) (_ : Unit) => x = r) (fun _ t => RW D cs A ws t) A
abbrev Ql (D : va_G) (cs : Nat → ClassId) (A : Nat → Prop) (r : Int64) (ws : va_W) : Array Value → State → Outcome → State → Prop := va_Ql (fun (x : Int64) (_ : Unit) => x = r) (fun _ t => RW D cs A ws t) A
abbrev Qv (D : va_G) (cs : Nat → ClassId) (A : Nat → Prop) (ws : va_W) : Array Value → State → Outcome → State → Prop := va_Qv (fun (_ : Unit) => True) (fun _ t => RW D cs A ws t) A
/-- contracts: the method, started with av over the world ws, answers r (nothing) and leaves the world ws' -/
def Mi (l : Launch) (y : MethodName) (wl : List Cond) (rm : Room) (D : va_G) (cs zs : Nat → Nat) (av : List Value) (ws : va_W) (r : Int32) (ws' : va_W) : Prop :=
  ∀ sz : Nat, Met l y wl rm (va_Pc av (PW D cs zs ws sz)) (Qi D cs (va_A ws sz) r ws') 0 0 (va_A ws sz)
def Ml (l : Launch) (y : MethodName) (wl : List Cond) (rm : Room) (D : va_G) (cs zs : Nat → Nat) (av : List Value) (ws : va_W) (r : Int64) (ws' : va_W) : Prop :=
  ∀ sz : Nat, Met l y wl rm (va_Pc av (PW D cs zs ws sz)) (Ql D cs (va_A ws sz) r ws') 0 0 (va_A ws sz)
def Mv (l : Launch) (y : MethodName) (wl : List Cond) (rm : Room) (D : va_G) (cs zs : Nat → Nat) (av : List Value) (ws : va_W) (ws' : va_W) : Prop :=
  ∀ sz : Nat, Met l y wl rm (va_Pc av (PW D cs zs ws sz)) (Qv D cs (va_A ws sz) ws') 0 0 (va_A ws sz)
/-- what stays the same all through a method's body -/
def Cx (p : Program) (s : State) (m : MethodId) (args : Array Value) (meth : Method) (c : Code) (A : Nat → Prop) (D : va_G) (cs zs : Nat → Nat) (cc : ByteArray) (nL : Nat) (ret : Option FieldType) (own : String) : Prop :=
  p.tables.exec = Jvm.exec ∧ c.code = cc ∧ meth.sig.returnType = ret ∧ c.maxLocals = nL ∧ s.vm.findClass own = some m.cls ∧ (∀ w ∈ tbG, w.before args s = true) ∧ va_K D vwCl (tys cs) s ∧ (∀ q : Nat, s.heap.size ≤ q → A q) ∧ meth.locks = false ∧ SP zs A s s.heap
theorem PW_blind {D : va_G} {cs zs : Nat → Nat} {ws : va_W} {sz : Nat} {av : List Value} : FrameBlind (va_Pc av (PW D cs zs ws sz)) := by
  intro a U g mk q
  obtain ⟨q0, q1, qP, qK, qD, qZ⟩ := q
  exact ⟨q0, q1, qP, va_K.moved (u := U) (U := U.calling g mk a) (Vm.Alike.refl U.vm) qK, qD, SP.same (u := U) (U := U.calling g mk a) rfl qZ⟩
section KB
variable {p : Program} {l : Launch} {e : Env} {R : Room} {s : State} {m : MethodId} {args : Array Value} {below : List Frame} {meth : Method} {c : Code} {H : Heap} {locs : List Loc} {cells slots : Nat} {Q : State → Prop} {cc : ByteArray} {A : Nat → Prop} {D : va_G} {cs : Nat → ClassId} {pc : Nat} {ls : Array Slot}
/-- ends -/
theorem k_iret {r : Int32} {ws : va_W} (hx : p.tables.exec = Jvm.exec) (hb : c.code = cc) (hr : meth.sig.returnType = some .int) (hlocks : meth.locks = false) (hK : va_K D vwCl (tys cs) s) (hP : va_P D vwCl ws H) (hD : va_D A ws) (hS : va_S A s.heap H locs) (hdg : decode cc pc = .ok (.ireturn, 1)) :
    W p l e R s m args below meth c H locs cells slots (MQ below (Qi D cs A r ws) args s cells slots A) (F0 m pc ls [.int r]) :=
  W.iret (v := r) hx hb hr (fun t ht hW => ⟨⟨r, (), rfl, rfl, by rw [ht]; exact hP, va_K.moved hW.alike hK, hD⟩, hS.F ht⟩) hS.2.2 hdg hlocks
theorem k_zret {r : Int32} {ws : va_W} (hx : p.tables.exec = Jvm.exec) (hb : c.code = cc) (hr : meth.sig.returnType = some .boolean) (hlocks : meth.locks = false) (hn : narrow .boolean (.int r) = .int r) (hK : va_K D vwCl (tys cs) s) (hP : va_P D vwCl ws H) (hD : va_D A ws) (hS : va_S A s.heap H locs) (hdg : decode cc pc = .ok (.ireturn, 1)) :
    W p l e R s m args below meth c H locs cells slots (MQ below (Qi D cs A r ws) args s cells slots A) (F0 m pc ls [.int r]) :=
  W.zret (v := r) hx hb hr hn (fun t ht hW => ⟨⟨r, (), rfl, rfl, by rw [ht]; exact hP, va_K.moved hW.alike hK, hD⟩, hS.F ht⟩) hS.2.2 hdg hlocks
theorem k_lret {r : Int64} {ws : va_W} (hx : p.tables.exec = Jvm.exec) (hb : c.code = cc) (hr : meth.sig.returnType = some .long) (hlocks : meth.locks = false) (hK : va_K D vwCl (tys cs) s) (hP : va_P D vwCl ws H) (hD : va_D A ws) (hS : va_S A s.heap H locs) (hdg : decode cc pc = .ok (.lreturn, 1)) :
    W p l e R s m args below meth c H locs cells slots (MQ below (Ql D cs A r ws) args s cells slots A) (F0 m pc ls [.long r]) :=
  W.lret (v := r) hx hb hr (fun t ht hW => ⟨⟨r, (), rfl, rfl, by rw [ht]; exact hP, va_K.moved hW.alike hK, hD⟩, hS.F ht⟩) hS.2.2 hdg hlocks
theorem k_vret {ws : va_W} (hx : p.tables.exec = Jvm.exec) (hb : c.code = cc) (hr : meth.sig.returnType = none) (hlocks : meth.locks = false) (hK : va_K D vwCl (tys cs) s) (hP : va_P D vwCl ws H) (hD : va_D A ws) (hS : va_S A s.heap H locs) (hdg : decode cc pc = .ok (.return_, 1)) :
    W p l e R s m args below meth c H locs cells slots (MQ below (Qv D cs A ws) args s cells slots A) (F0 m pc ls []) :=
  W.vret hx hb hr (fun t ht hW => ⟨⟨(), rfl, trivial, by rw [ht]; exact hP, va_K.moved hW.alike hK, hD⟩, hS.F ht⟩) hS.2.2 hdg hlocks
end KB
/-- a contract out of a walk from its entry -/
theorem Mi.of {l : Launch} {y : MethodName} {rm : Room} {D : va_G} {cs zs : Nat → Nat} {av : List Value} {ws ws' : va_W} {r : Int32} {cc : ByteArray} {nL : Nat} {ret : Option FieldType} (own : String) (hy : plainName y.cls = true) (ho : y.cls = own) (hcells : (lg_sl av).length ≤ nL)
    (body : ∀ (p : Program) (e : Env) (s : State) (m : MethodId) (below : List Frame) (meth : Method) (c : Code) (A : Nat → Prop), Cx p s m av.toArray meth c A D cs zs cc nL ret own → va_P D vwCl ws s.heap → va_D A ws → va_S A s.heap s.heap [] → ∀ ls : Array Slot, lv_has ls nL (lv_args 0 av) → W p l e rm s m av.toArray below meth c s.heap [] 0 0 (MQ below (Qi D cs A r ws') av.toArray s 0 0 A) (F0 m 0 ls [])) : Mi l y (Cond.code y cc nL ret :: tbG) rm D cs zs av ws r ws' := by
  intro sz
  refine Met.ofW (cc := cc) (maxL := nL) (ret := ret) hy rfl ?_
  intro p e s m args below meth c s₁ B hml hv
  obtain ⟨rfl, hsz, hP, hK, hD0, hZ⟩ := hv
  have hts := atoms_spec (ws := Cond.code y cc nL ret :: tbG) B.pre
  have hown : s.vm.findClass own = some m.cls := by rw [← ho]; exact findClass_of_methodNamed B.named
  subst hsz
  have hD := hD0.self (sz := s.heap.size)
  have hl := lv_entry av (n := nL) hcells
  rw [lg_entry_eq]
  exact body p e s m below meth c _ ⟨B.exec, B.bytes, B.returns, hml, hown, fun w h => hts w (List.mem_cons_of_mem _ h), hK, fun q h => Or.inr h, B.notSynchronized, hZ⟩ hP hD va_S.rf _ hl
theorem Ml.of {l : Launch} {y : MethodName} {rm : Room} {D : va_G} {cs zs : Nat → Nat} {av : List Value} {ws ws' : va_W} {r : Int64} {cc : ByteArray} {nL : Nat} {ret : Option FieldType} (own : String) (hy : plainName y.cls = true) (ho : y.cls = own) (hcells : (lg_sl av).length ≤ nL)
    (body : ∀ (p : Program) (e : Env) (s : State) (m : MethodId) (below : List Frame) (meth : Method) (c : Code) (A : Nat → Prop), Cx p s m av.toArray meth c A D cs zs cc nL ret own → va_P D vwCl ws s.heap → va_D A ws → va_S A s.heap s.heap [] → ∀ ls : Array Slot, lv_has ls nL (lv_args 0 av) → W p l e rm s m av.toArray below meth c s.heap [] 0 0 (MQ below (Ql D cs A r ws') av.toArray s 0 0 A) (F0 m 0 ls [])) : Ml l y (Cond.code y cc nL ret :: tbG) rm D cs zs av ws r ws' := by
  intro sz
  refine Met.ofW (cc := cc) (maxL := nL) (ret := ret) hy rfl ?_
  intro p e s m args below meth c s₁ B hml hv
  obtain ⟨rfl, hsz, hP, hK, hD0, hZ⟩ := hv
  have hts := atoms_spec (ws := Cond.code y cc nL ret :: tbG) B.pre
  have hown : s.vm.findClass own = some m.cls := by rw [← ho]; exact findClass_of_methodNamed B.named
  subst hsz
  have hD := hD0.self (sz := s.heap.size)
  have hl := lv_entry av (n := nL) hcells
  rw [lg_entry_eq]
  exact body p e s m below meth c _ ⟨B.exec, B.bytes, B.returns, hml, hown, fun w h => hts w (List.mem_cons_of_mem _ h), hK, fun q h => Or.inr h, B.notSynchronized, hZ⟩ hP hD va_S.rf _ hl
theorem Mv.of {l : Launch} {y : MethodName} {rm : Room} {D : va_G} {cs zs : Nat → Nat} {av : List Value} {ws ws' : va_W} {cc : ByteArray} {nL : Nat} {ret : Option FieldType} (own : String) (hy : plainName y.cls = true) (ho : y.cls = own) (hcells : (lg_sl av).length ≤ nL)
    (body : ∀ (p : Program) (e : Env) (s : State) (m : MethodId) (below : List Frame) (meth : Method) (c : Code) (A : Nat → Prop), Cx p s m av.toArray meth c A D cs zs cc nL ret own → va_P D vwCl ws s.heap → va_D A ws → va_S A s.heap s.heap [] → ∀ ls : Array Slot, lv_has ls nL (lv_args 0 av) → W p l e rm s m av.toArray below meth c s.heap [] 0 0 (MQ below (Qv D cs A ws') av.toArray s 0 0 A) (F0 m 0 ls [])) : Mv l y (Cond.code y cc nL ret :: tbG) rm D cs zs av ws ws' := by
  intro sz
  refine Met.ofW (cc := cc) (maxL := nL) (ret := ret) hy rfl ?_
  intro p e s m args below meth c s₁ B hml hv
  obtain ⟨rfl, hsz, hP, hK, hD0, hZ⟩ := hv
  have hts := atoms_spec (ws := Cond.code y cc nL ret :: tbG) B.pre
  have hown : s.vm.findClass own = some m.cls := by rw [← ho]; exact findClass_of_methodNamed B.named
  subst hsz
  have hD := hD0.self (sz := s.heap.size)
  have hl := lv_entry av (n := nL) hcells
  rw [lg_entry_eq]
  exact body p e s m below meth c _ ⟨B.exec, B.bytes, B.returns, hml, hown, fun w h => hts w (List.mem_cons_of_mem _ h), hK, fun q h => Or.inr h, B.notSynchronized, hZ⟩ hP hD va_S.rf _ hl
