/-! ===== the six floors; worlds up to the order of their cells ===== -/
abbrev va_ar (cs : Nat → ClassId) (h : Nat) (fl : Nat → Nat) : Nat × va_E := (h, .inl (cs 4, 6, .inr (.inr (.inr (.inr (fun j => some (fl j)))))))
def F1 (cs : Nat → ClassId) (fl : Nat → Nat) (fa : Nat → Nat → Nat) (p : Nat → Nat → Int32) (s : Nat → Nat → Nat → Int32) (j : Nat) : va_W := W2 cs (fl j) (fa j) (p j) (s j)
def FO (cs : Nat → ClassId) (fl : Nat → Nat) (fa : Nat → Nat → Nat) (p : Nat → Nat → Int32) (s : Nat → Nat → Nat → Int32) (js : List Nat) : va_W := js.flatMap (F1 cs fl fa p s)
def cat : List va_W → va_W
  | [] => []
  | [a] => a
  | a :: b :: t => a ++ cat (b :: t)
theorem cat_flat : ∀ (l : List va_W), cat l = l.flatten
  | [] => rfl
  | [a] => by simp [cat]
  | a :: b :: t => by
    rw [cat, cat_flat (b :: t)]
    simp
theorem va_P.mem {D : va_G} {cl : List vw_C} {ws : va_W} {H : Heap} : va_P D cl ws H ↔ ∀ q ∈ ws, va_at D cl q H := by
  refine ⟨fun h q hq => ?_, fun h k q hk => h q (List.mem_of_getElem? hk)⟩
  obtain ⟨k, hk⟩ := List.getElem?_of_mem hq
  exact h k q hk
theorem va_P.perm {D : va_G} {cl : List vw_C} {ws ws' : va_W} {H : Heap} (h : va_P D cl ws H) (hp : ws.Perm ws') : va_P D cl ws' H := va_P.mem.mpr fun q hq => va_P.mem.mp h q (hp.mem_iff.mpr hq)
theorem va_D.mem {A : Nat → Prop} {ws : va_W} : va_D A ws ↔ (ws.map Prod.fst).Nodup ∧ ∀ q ∈ ws, A q.1 := by
  constructor
  · intro h
    refine ⟨?_, fun q hq => ?_⟩
    · rw [List.nodup_iff_pairwise_ne, List.pairwise_iff_getElem]
      intro i j hi hj hij he
      rw [List.length_map] at hi hj
      rw [List.getElem_map, List.getElem_map] at he
      have := h.1 i j ws[i] ws[j] (List.getElem?_eq_getElem hi) (List.getElem?_eq_getElem hj) he
      omega
    · obtain ⟨k, hk⟩ := List.getElem?_of_mem hq
      exact h.2 k q hk
  · intro h
    refine ⟨fun i j p q hi hj he => ?_, fun k q hk => h.2 q (List.mem_of_getElem? hk)⟩
    have hil : i < (ws.map Prod.fst).length := by rw [List.length_map]; exact (List.getElem?_eq_some_iff.mp hi).1
    refine (List.getElem?_inj hil h.1).mp ?_
    rw [List.getElem?_map, List.getElem?_map, hi, hj]
    exact congrArg some he
theorem va_D.perm {A : Nat → Prop} {ws ws' : va_W} (h : va_D A ws) (hp : ws.Perm ws') : va_D A ws' := by
  obtain ⟨h1, h2⟩ := va_D.mem.mp h
  exact va_D.mem.mpr ⟨(hp.map Prod.fst).nodup h1, fun q hq => h2 q (hp.mem_iff.mpr hq)⟩
theorem perm_ix {α : Type} {l l' : List α} (is : List Nat) (h : is.map (fun i => l[i]?) = l'.map some) (hp : is.isPerm (List.range l.length) = true) : l.Perm l' := by
  have h1 : (is.map (fun i => l[i]?)).Perm ((List.range l.length).map (fun i => l[i]?)) := (List.isPerm_iff.mp hp).map _
  have h2 : (List.range l.length).map (fun i => l[i]?) = l.map some := by
    apply List.ext_getElem
    · simp
    · intro i hi hj
      simp at hi
      simp
  rw [h, h2] at h1
  have h3 := h1.symm.filterMap (fun x : Option α => x)
  have h4 : ∀ t : List α, (t.map some).filterMap (fun x : Option α => x) = t := by
    intro t
    induction t with
    | nil => rfl
    | cons a t ih => simp [ih]
  rwa [h4, h4] at h3
theorem cat_app (a b : List va_W) : cat (a ++ b) = cat a ++ cat b := by rw [cat_flat, cat_flat, cat_flat, List.flatten_append]
/-- a world, block by block: its last block F taken apart, the blocks put in another order, in two groups -/
theorem bp {l lc lr : List va_W} {F : va_W} (bs : List va_W) (hF : F.Perm (cat bs)) (is : List Nat) (h : is.map (fun i => (l ++ bs)[i]?) = (lc ++ lr).map some) (hp : is.isPerm (List.range (l ++ bs).length) = true) : (cat (l ++ [F])).Perm (cat lc ++ cat lr) := by
  have h1 : (cat (l ++ [F])).Perm (cat (l ++ bs)) := by
    rw [cat_app, cat_app]
    exact List.Perm.append_left _ hF
  refine h1.trans ?_
  rw [← cat_app, cat_flat, cat_flat]
  exact (perm_ix is h hp).flatten
theorem bp0 {l lc lr : List va_W} (is : List Nat) (h : is.map (fun i => l[i]?) = (lc ++ lr).map some) (hp : is.isPerm (List.range l.length) = true) : (cat l).Perm (cat lc ++ cat lr) := by
  rw [← cat_app, cat_flat, cat_flat]
  exact (perm_ix is h hp).flatten
section FL
variable {cs : Nat → ClassId} {fl : Nat → Nat} {fa : Nat → Nat → Nat} {p : Nat → Nat → Int32} {s : Nat → Nat → Nat → Int32} {j k : Nat}
theorem FO_1 {js : List Nat} (hj : j ∈ js) : (FO cs fl fa p s js).Perm (cat [W2 cs (fl j) (fa j) (p j) (s j), FO cs fl fa p s (js.erase j)]) :=
  (List.perm_cons_erase hj).flatMap_right _
theorem in6 (hj : j < 6) : j ∈ List.range 6 := List.mem_range.mpr hj
theorem foc (hj : j < 6) : (FO cs fl fa p s (List.range 6)).Perm (cat [W2 cs (fl j) (fa j) (p j) (s j), FO cs fl fa p s ((List.range 6).erase j)]) := FO_1 (in6 hj)
theorem foc2 (hj : j < 6) (hk : k < 6) (hne : ¬ j = k) : (FO cs fl fa p s (List.range 6)).Perm (cat [W2 cs (fl j) (fa j) (p j) (s j), W2 cs (fl k) (fa k) (p k) (s k), FO cs fl fa p s (((List.range 6).erase j).erase k)]) := by
  refine (foc hj).trans ?_
  have h : k ∈ (List.range 6).erase j := (List.mem_erase_of_ne (fun h => hne h.symm)).mpr (in6 hk)
  exact List.Perm.append_left _ (FO_1 h)
theorem FO_up {js : List Nat} (hj : j ∉ js) {v : Nat → Int32} {w : Nat → Nat → Int32} : FO cs fl fa (va_up p j v) (va_up s j w) js = FO cs fl fa p s js := by
  induction js with
  | nil => rfl
  | cons a t ih =>
    have h1 : ¬ a = j := fun h => hj (by rw [h]; exact List.mem_cons_self)
    have h2 : j ∉ t := fun h => hj (List.mem_cons_of_mem _ h)
    show F1 cs fl fa (va_up p j v) (va_up s j w) a ++ FO cs fl fa (va_up p j v) (va_up s j w) t = F1 cs fl fa p s a ++ FO cs fl fa p s t
    rw [ih h2]
    show W2 cs (fl a) (fa a) (va_up p j v a) (va_up s j w a) ++ _ = _
    rw [va_up_ne _ _ h1, va_up_ne _ _ h1]
    rfl
theorem foc_up (hj : j < 6) {v : Nat → Int32} {w : Nat → Nat → Int32} : (FO cs fl fa (va_up p j v) (va_up s j w) (List.range 6)).Perm (cat [W2 cs (fl j) (fa j) v w, FO cs fl fa p s ((List.range 6).erase j)]) := by
  refine (foc hj).trans ?_
  have h : j ∉ (List.range 6).erase j := fun h => absurd h (by rw [List.nodup_range.mem_erase_iff]; exact fun h => h.1 rfl)
  rw [FO_up h, va_up_self, va_up_self]
end FL
theorem all_r {wc wr : va_W} : (List.range' wc.length wr.length).map (fun i => (wc ++ wr)[i]?) = wr.map some := by
  rw [List.range'_eq_map_range, List.map_map]
  have h : ((fun i => (wc ++ wr)[i]?) ∘ fun x => wc.length + x) = fun i => wr[i]? := by
    funext i
    show (wc ++ wr)[wc.length + i]? = wr[i]?
    rw [List.getElem?_append_right (Nat.le_add_right _ _), Nat.add_sub_cancel_left]
  rw [h, k_all wr.length (Nat.le_refl _), List.take_length]
theorem all_l {wc wr : va_W} : (List.range wc.length).map (fun i => (wc ++ wr)[i]?) = wc.map some := by
  rw [k_all wc.length (by rw [List.length_append]; omega), List.take_left]
theorem all_w {ws : va_W} : (List.range ws.length).map (fun i => ws[i]?) = ws.map some := by rw [k_all ws.length (Nat.le_refl _), List.take_length]
theorem nd_all {a b c : Nat} : (va_nd (List.range a) && va_nd (List.range' a b) && va_nd (List.range c) && (List.range' a b).all (fun i => !(List.range a).contains i)) = true := by
  rw [List.range_eq_range', List.range_eq_range', k_nd_range, k_nd_range, k_nd_range]
  simp only [Bool.and_self, Bool.true_and, List.all_eq_true, Bool.not_eq_true', List.contains_eq_mem, decide_eq_false_iff_not]
  intro x hx hy
  have := List.mem_range'_1.mp hx
  have := List.mem_range'_1.mp hy
  omega
section KF
variable {p : Program} {l : Launch} {e : Env} {R : Room} {s : State} {m : MethodId} {args : Array Value} {below : List Frame} {meth : Method} {c : Code} {H : Heap} {locs : List Loc} {cells slots : Nat} {Q : State → Prop} {cc bytes : ByteArray} {A : Nat → Prop} {D : va_G} {cs zs : Nat → Nat} {pc nL n index maxL : Nat} {ls : Array Slot} {own C : String} {y : MethodName} {ret : Option FieldType} {Ts wl wl' : List Cond} {rm : Room} {b : Nat} {As rest st0 : List Value} {ws wc wc' wr ws2 : va_W}
theorem k_fVi {r : Int32} {q : vw_C} {fs : List Value} (hx : p.tables.exec = Jvm.exec) (hb : c.code = cc) (hml : c.maxLocals = nL) (hown : s.vm.findClass own = some m.cls) (hts : ∀ w ∈ Ts, w.before args s = true) (hK : va_K D vwCl (tys cs) s) (hA : ∀ q : Nat, s.heap.size ≤ q → A q) (hZ : SP zs A s s.heap) (hls : ls.size = nL)
    (hP : va_P D vwCl ws H) (hD : va_D A ws) (hS : va_S A s.heap H locs) (hM : Mi l y wl rm D cs zs (.ref b :: As) wc r wc') (hG : GoodIn Ts (wsV own index C y wl)) (hw : wl = Cond.code y bytes maxL ret :: wl') (hd : y.cls = C ∧ y.cls ≠ "java/lang/invoke/MethodHandle" ∧ y.cls ≠ "java/lang/invoke/VarHandle" ∧ (parseMethodDescriptor y.desc).map (fun d => d.parameters.length) = some n) (hc0 : rm.cells = 0) (hs0 : rm.slots = 0) (hR : rm.frames + 1 ≤ R.frames ∧ 8 + (maxL + 11) + rm.locals ≤ R.locals)
    (hp1 : ws.Perm (wc ++ wr)) (hp2 : ws2.Perm (wc' ++ wr))
    (q0 ci : Nat) (hq : vwCl[ci]? = some q) (hqC : q.1 = C) (he : wc[q0]? = some (b, .inr (ci, fs)))
    (hn : As.length = n) (hst : st0 = As.reverse ++ .ref b :: rest) (hrm : (rest.map fun v => v.category).sum ≤ 8) (hf : cells ≤ R.cells ∧ slots ≤ R.slots) (hdg : decode cc pc = .ok (.invokevirtual index, 3))
    (kk : ∀ (H1 : Heap) (locs1 : List Loc), va_P D vwCl ws2 H1 → va_D A ws2 → va_S A s.heap H1 locs1 → W p l e R s m args below meth c H1 locs1 cells slots Q (F0 m (pc + 3) ls (.int r :: rest))) : W p l e R s m args below meth c H locs cells slots Q (F0 m pc ls st0) :=
  k_pVi (ws2 := wr ++ wc') hx hb hml hown hts hK hA hZ hls (hP.perm hp1) (hD.perm hp1) hS hM hG hw hd hc0 hs0 hR (List.range wc.length) (List.range' wc.length wr.length) (List.range (wr ++ wc').length) all_l all_r all_w nd_all q0 ci hq hqC he hn hst hrm hf hdg (fun H1 locs1 hP1 hD1 hS1 => kk H1 locs1 (hP1.perm (List.perm_append_comm.trans hp2.symm)) (hD1.perm (List.perm_append_comm.trans hp2.symm)) hS1)
theorem k_fVl {r : Int64} {q : vw_C} {fs : List Value} (hx : p.tables.exec = Jvm.exec) (hb : c.code = cc) (hml : c.maxLocals = nL) (hown : s.vm.findClass own = some m.cls) (hts : ∀ w ∈ Ts, w.before args s = true) (hK : va_K D vwCl (tys cs) s) (hA : ∀ q : Nat, s.heap.size ≤ q → A q) (hZ : SP zs A s s.heap) (hls : ls.size = nL)
    (hP : va_P D vwCl ws H) (hD : va_D A ws) (hS : va_S A s.heap H locs) (hM : Ml l y wl rm D cs zs (.ref b :: As) wc r wc') (hG : GoodIn Ts (wsV own index C y wl)) (hw : wl = Cond.code y bytes maxL ret :: wl') (hd : y.cls = C ∧ y.cls ≠ "java/lang/invoke/MethodHandle" ∧ y.cls ≠ "java/lang/invoke/VarHandle" ∧ (parseMethodDescriptor y.desc).map (fun d => d.parameters.length) = some n) (hc0 : rm.cells = 0) (hs0 : rm.slots = 0) (hR : rm.frames + 1 ≤ R.frames ∧ 8 + (maxL + 11) + rm.locals ≤ R.locals)
    (hp1 : ws.Perm (wc ++ wr)) (hp2 : ws2.Perm (wc' ++ wr))
    (q0 ci : Nat) (hq : vwCl[ci]? = some q) (hqC : q.1 = C) (he : wc[q0]? = some (b, .inr (ci, fs)))
    (hn : As.length = n) (hst : st0 = As.reverse ++ .ref b :: rest) (hrm : (rest.map fun v => v.category).sum ≤ 8) (hf : cells ≤ R.cells ∧ slots ≤ R.slots) (hdg : decode cc pc = .ok (.invokevirtual index, 3))
    (kk : ∀ (H1 : Heap) (locs1 : List Loc), va_P D vwCl ws2 H1 → va_D A ws2 → va_S A s.heap H1 locs1 → W p l e R s m args below meth c H1 locs1 cells slots Q (F0 m (pc + 3) ls (.long r :: rest))) : W p l e R s m args below meth c H locs cells slots Q (F0 m pc ls st0) :=
  k_pVl (ws2 := wr ++ wc') hx hb hml hown hts hK hA hZ hls (hP.perm hp1) (hD.perm hp1) hS hM hG hw hd hc0 hs0 hR (List.range wc.length) (List.range' wc.length wr.length) (List.range (wr ++ wc').length) all_l all_r all_w nd_all q0 ci hq hqC he hn hst hrm hf hdg (fun H1 locs1 hP1 hD1 hS1 => kk H1 locs1 (hP1.perm (List.perm_append_comm.trans hp2.symm)) (hD1.perm (List.perm_append_comm.trans hp2.symm)) hS1)
theorem k_fVv  {q : vw_C} {fs : List Value} (hx : p.tables.exec = Jvm.exec) (hb : c.code = cc) (hml : c.maxLocals = nL) (hown : s.vm.findClass own = some m.cls) (hts : ∀ w ∈ Ts, w.before args s = true) (hK : va_K D vwCl (tys cs) s) (hA : ∀ q : Nat, s.heap.size ≤ q → A q) (hZ : SP zs A s s.heap) (hls : ls.size = nL)
    (hP : va_P D vwCl ws H) (hD : va_D A ws) (hS : va_S A s.heap H locs) (hM : Mv l y wl rm D cs zs (.ref b :: As) wc wc') (hG : GoodIn Ts (wsV own index C y wl)) (hw : wl = Cond.code y bytes maxL ret :: wl') (hd : y.cls = C ∧ y.cls ≠ "java/lang/invoke/MethodHandle" ∧ y.cls ≠ "java/lang/invoke/VarHandle" ∧ (parseMethodDescriptor y.desc).map (fun d => d.parameters.length) = some n) (hc0 : rm.cells = 0) (hs0 : rm.slots = 0) (hR : rm.frames + 1 ≤ R.frames ∧ 8 + (maxL + 11) + rm.locals ≤ R.locals)
    (hp1 : ws.Perm (wc ++ wr)) (hp2 : ws2.Perm (wc' ++ wr))
    (q0 ci : Nat) (hq : vwCl[ci]? = some q) (hqC : q.1 = C) (he : wc[q0]? = some (b, .inr (ci, fs)))
    (hn : As.length = n) (hst : st0 = As.reverse ++ .ref b :: rest) (hrm : (rest.map fun v => v.category).sum ≤ 8) (hf : cells ≤ R.cells ∧ slots ≤ R.slots) (hdg : decode cc pc = .ok (.invokevirtual index, 3))
    (kk : ∀ (H1 : Heap) (locs1 : List Loc), va_P D vwCl ws2 H1 → va_D A ws2 → va_S A s.heap H1 locs1 → W p l e R s m args below meth c H1 locs1 cells slots Q (F0 m (pc + 3) ls (rest))) : W p l e R s m args below meth c H locs cells slots Q (F0 m pc ls st0) :=
  k_pVv (ws2 := wr ++ wc') hx hb hml hown hts hK hA hZ hls (hP.perm hp1) (hD.perm hp1) hS hM hG hw hd hc0 hs0 hR (List.range wc.length) (List.range' wc.length wr.length) (List.range (wr ++ wc').length) all_l all_r all_w nd_all q0 ci hq hqC he hn hst hrm hf hdg (fun H1 locs1 hP1 hD1 hS1 => kk H1 locs1 (hP1.perm (List.perm_append_comm.trans hp2.symm)) (hD1.perm (List.perm_append_comm.trans hp2.symm)) hS1)
end KF
