/-! ===== a call of a method with one handler of its own ===== -/
theorem gVh {own C : String} {idx n : Nat} {y : MethodName} {bc : ByteArray} {ret : Option FieldType} {hh : List (Nat × Nat × Nat × Nat)} (h1 : Cond.methodLink own idx y ∈ tbG) (h2 : Cond.instanceMethod y ∈ tbG) (h3 : Cond.selects C y y ∈ tbG) (h4 : Cond.initialized C ∈ tbG) (h5 : Cond.codeWith y bc n ret hh ∈ tbG) : GoodIn tbG (wsV own idx C y (Cond.codeWith y bc n ret hh :: tbG)) := by
  intro w hw
  have hm : w ∈ tbG := by
    rcases List.mem_append.mp hw with h | h
    · simp only [List.mem_cons, List.not_mem_nil, or_false] at h
      rcases h with rfl | rfl | rfl | rfl <;> assumption
    · rcases List.mem_cons.mp h with rfl | h
      · exact h5
      · exact h
  exact ⟨hm, tbG_good hm⟩
section KJ
variable {p : Program} {l : Launch} {e : Env} {R : Room} {s : State} {m : MethodId} {args : Array Value} {below : List Frame} {meth : Method} {c : Code} {H : Heap} {locs : List Loc} {cells slots : Nat} {Q : State → Prop} {cc bytes : ByteArray} {A : Nat → Prop} {D : va_G} {cs zs : Nat → Nat} {pc nL n index maxL : Nat} {ls : Array Slot} {own C : String} {y : MethodName} {ret : Option FieldType} {Ts wl wl' : List Cond} {rm : Room} {b : Nat} {As rest st0 : List Value} {ws wc wc' wr ws2 : va_W} {hh : List (Nat × Nat × Nat × Nat)}
theorem k_runH {g : JFrame} {Pc : Array Value → State → Prop} {Qc : Array Value → State → Outcome → State → Prop} {free : Addr → Prop} (S : CallFix p m c cc nL s args Ts own) (hM : Met l y wl rm Pc Qc 0 0 free) (hG : GoodIn Ts (wsV own index C y wl)) (hw : wl = Cond.codeWith y bytes maxL ret hh :: wl') (hc0 : rm.cells = 0) (hs0 : rm.slots = 0)
    (hd : y.cls = C ∧ y.cls ≠ "java/lang/invoke/MethodHandle" ∧ y.cls ≠ "java/lang/invoke/VarHandle" ∧ (parseMethodDescriptor y.desc).map (fun d => d.parameters.length) = some n) (hR : rm.frames + 1 ≤ R.frames ∧ 8 + (maxL + 11) + rm.locals ≤ R.locals) (hp : PreV s H C b Pc As)
    (hg : g.method = m) (hn : As.length = n) (hsize : g.locals.size = nL) (hstack : g.stack = As.reverse ++ .ref b :: rest) (hW : 2 * g.monitorRoom + (rest.map fun v => v.category).sum ≤ 8) (hdg : decode cc g.pc = .ok (.invokevirtual index, 3)) (hf : cells ≤ R.cells ∧ slots ≤ R.slots) :
    va_Run p l e R s m args below meth c H locs cells slots 0 0 g rest (Qc (Value.ref b :: As).toArray) free := by
  obtain ⟨hx, hb, hml, ho, ht⟩ := S
  obtain ⟨hC, hy1, hy2, hd⟩ := hd
  subst hC
  have ok : ∀ w ∈ wsV own index y.cls y wl, w.before args s = true := fun w h => ht w (hG w h).1
  have hGw : GoodIn Ts wl := fun w h => hG w (by unfold wsV; exact List.mem_append_right _ h)
  have hcm : Cond.codeWith y bytes maxL ret hh ∈ wl := by rw [hw]; exact List.mem_cons_self
  have hini : (Cond.initialized y.cls).before args s = true := ok _ (by simp [wsV])
  have hK : Back l R p e below s args y 3 8 (PreOf R 0 0 Pc) (PostOf Qc 0 0 free) := va_backW (hh := hh) (bytes := bytes) (maxL := maxL) (ret := ret) hM hp.1 hc0 hs0 hR.1 hR.2 (pay_in ht hGw) hcm (fun a' U hW => word_at hW (Or.inl rfl) hini)
  obtain ⟨-, ⟨cellB, hcB, hoB, hclB⟩, hPc⟩ := hp
  obtain ⟨mk, methM, hnamed, hmethM, hstM, habM⟩ := Cond.instanceMethod_spec (ok (.instanceMethod y) (by simp [wsV]))
  obtain ⟨m9, methM', cM, hn9, hmethM', -, -, -, -, -, -, hsig⟩ := Cond.codeWith_spec (ht _ (hGw _ hcm).1)
  cases hnamed.symm.trans hn9
  cases hmethM.symm.trans hmethM'
  obtain ⟨c2, r2, m2, q1, q2, q3, q4, kP, hkP, hkPi⟩ := Cond.selects_spec (ok (.selects y.cls y y) (by simp [wsV]))
  cases hclB.symm.trans q1
  cases (State.methodFound?_of_named hnamed ⟨hy1, hy2⟩).symm.trans q2
  cases hnamed.symm.trans q3
  have hlen : As.length = methM.sig.parameters.length := by
    rw [hsig] at hd
    exact hn.trans (Option.some.inj hd).symm
  intro T hT X
  obtain ⟨vm₁, X₁, hgo⟩ := X.invokevirtual hx ho (ok (.methodLink own index y) (by simp [wsV])) hnamed hmethM hstM hkP hkPi ⟨hy1, hy2⟩ (a := b) (cell := cellB) (by rw [hT]; exact hcB)
    (fun z h => by rw [h] at hoB; cases hoB) (by rw [Launch.admits_selectMethod X.admits]; exact q4) hmethM habM hkP hkPi (g := g) hg (argsL := As) (rest := rest) hlen hstack (by rw [hb]; exact hdg)
  obtain ⟨v, ⟨U', l2, c2, s2⟩, X', ⟨g', mk', t, L, e1, e2, hq, h1, hL, h2, h3⟩, hst⟩ := hK m meth c ⟨T.setVm vm₁, locs, cells, slots⟩ { g with stack := rest } (.invokevirtual index) mk (Value.ref b :: As).toArray X₁ hg (hsize.trans hml.symm) (by rw [hb]; exact hdg) hW (X₁.named hnamed) ⟨hf.1, hf.2, hPc (T.setVm vm₁) hT X₁.warmed⟩
  dsimp only [Pt.U, Pt.locs, Pt.cells, Pt.slots] at X' e1 e2 h1 h2 h3 hst
  subst h1; subst h2; subst h3
  exact ⟨v, (T.setVm vm₁).calling g' mk' (Value.ref b :: As).toArray, t, U', L, hT, X', hL, e1, e2, hq, fun target h => hgo _ fun acts => by rw [doInvoke_state]; exact hst.trans h⟩
theorem k_pVh {r : Int32} {q : vw_C} {fs : List Value} (hx : p.tables.exec = Jvm.exec) (hb : c.code = cc) (hml : c.maxLocals = nL) (hown : s.vm.findClass own = some m.cls) (hts : ∀ w ∈ Ts, w.before args s = true) (hK : va_K D vwCl (tys cs) s) (hA : ∀ q : Nat, s.heap.size ≤ q → A q) (hZ : SP zs A s s.heap) (hls : ls.size = nL)
    (hP : va_P D vwCl ws H) (hD : va_D A ws) (hS : va_S A s.heap H locs) (hM : Mi l y wl rm D cs zs (.ref b :: As) wc r wc') (hG : GoodIn Ts (wsV own index C y wl)) (hw : wl = Cond.codeWith y bytes maxL ret hh :: wl') (hd : y.cls = C ∧ y.cls ≠ "java/lang/invoke/MethodHandle" ∧ y.cls ≠ "java/lang/invoke/VarHandle" ∧ (parseMethodDescriptor y.desc).map (fun d => d.parameters.length) = some n) (hc0 : rm.cells = 0) (hs0 : rm.slots = 0) (hR : rm.frames + 1 ≤ R.frames ∧ 8 + (maxL + 11) + rm.locals ≤ R.locals)
    (isC isR isN : List Nat) (hC : isC.map (fun i => ws[i]?) = wc.map some) (hRr : isR.map (fun i => ws[i]?) = wr.map some) (hN : isN.map (fun i => (wr ++ wc')[i]?) = ws2.map some) (hnd : (va_nd isC && va_nd isR && va_nd isN && isR.all (fun i => !isC.contains i)) = true)
    (q0 ci : Nat) (hq : vwCl[ci]? = some q) (hqC : q.1 = C) (he : wc[q0]? = some (b, .inr (ci, fs)))
    (hn : As.length = n) (hst : st0 = As.reverse ++ .ref b :: rest) (hrm : (rest.map fun v => v.category).sum ≤ 8) (hf : cells ≤ R.cells ∧ slots ≤ R.slots) (hdg : decode cc pc = .ok (.invokevirtual index, 3))
    (kk : ∀ (H1 : Heap) (locs1 : List Loc), va_P D vwCl ws2 H1 → va_D A ws2 → va_S A s.heap H1 locs1 → W p l e R s m args below meth c H1 locs1 cells slots Q (F0 m (pc + 3) ls (.int r :: rest))) : W p l e R s m args below meth c H locs cells slots Q (F0 m pc ls st0) := by
  subst hqC
  subst hst
  simp only [Bool.and_eq_true, List.all_eq_true, Bool.not_eq_true', List.contains_eq_mem, decide_eq_false_iff_not] at hnd
  obtain ⟨⟨⟨n1, n2⟩, n3⟩, n4⟩ := hnd
  have hDc := hD.sub isC n1 hC
  have hPc : va_P D vwCl wc H := k_sub hP isC hC
  have hFc := va_free hD hS hA isC hC
  refine va_calli (mc := 0) (ms := 0) (k_runH (As := As) (rest := rest) ⟨hx, hb, hml, hown, hts⟩ (hM H.size) hG hw hc0 hs0 hd hR ⟨PW_blind, va_recv hK hPc hq he, fun U hU hW => ⟨rfl, by rw [hU], by rw [hU]; exact hPc, va_K.moved hW.alike hK, hDc.weaken (fun _ _ _ _ => trivial), by rw [hU]; exact ((SP.warm hW hZ).kept hS.2.1).narrow hFc⟩⟩ rfl hn hls rfl (lv_room hrm) hdg hf) hS (fun q _ h => hFc q h) hFc (fun x u t H1 locs1 ht hvm hw hB hz1 hk1 hS1 => ?_)
  subst hw
  obtain ⟨hP1, hK1, hD1⟩ := hB
  rw [ht] at hP1
  obtain ⟨hP2, hD2⟩ := va_join hP hD isC isR hC hRr n2 (fun i hi => n4 i hi) hk1 hFc hP1 hD1
  exact kk H1 locs1 (k_sub hP2 isN hN) (hD2.sub isN n3 hN) hS1
end KJ
