section KM
variable {p : Program} {l : Launch} {e : Env} {R : Room} {s : State} {m : MethodId} {args : Array Value} {below : List Frame} {meth : Method} {c : Code} {H : Heap} {locs : List Loc} {cells slots : Nat} {Q : State → Prop} {cc bytes : ByteArray} {A : Nat → Prop} {D : va_G} {cs zs : Nat → Nat} {pc nL n index maxL mc ms : Nat} {ls : Array Slot} {own C : String} {y : MethodName} {ret : Option FieldType} {Ts wl wl' : List Cond} {rm : Room} {b : Nat} {As rest st0 : List Value} {ws wc wr : va_W} {wc' ws2 : (Nat → Nat) → va_W}
/-- a call that makes cells: the callee's arrays lie at new addresses u -/
theorem k_pVvN {q : vw_C} {fs : List Value} (hx : p.tables.exec = Jvm.exec) (hb : c.code = cc) (hml : c.maxLocals = nL) (hown : s.vm.findClass own = some m.cls) (hts : ∀ w ∈ Ts, w.before args s = true) (hK : va_K D vwCl (tys cs) s) (hA : ∀ q : Nat, s.heap.size ≤ q → A q) (hZ : SP zs A s s.heap) (hls : ls.size = nL)
    (hP : va_P D vwCl ws H) (hD : va_D A ws) (hS : va_S A s.heap H locs) (hM : MvN l y wl rm D cs zs (.ref b :: As) wc wc' mc ms) (hG : GoodIn Ts (wsV own index C y wl)) (hw : wl = Cond.code y bytes maxL ret :: wl') (hd : y.cls = C ∧ y.cls ≠ "java/lang/invoke/MethodHandle" ∧ y.cls ≠ "java/lang/invoke/VarHandle" ∧ (parseMethodDescriptor y.desc).map (fun d => d.parameters.length) = some n) (hc0 : rm.cells = mc) (hs0 : rm.slots = ms) (hR : rm.frames + 1 ≤ R.frames ∧ 8 + (maxL + 11) + rm.locals ≤ R.locals)
    (isC isR isN : List Nat) (hC : isC.map (fun i => ws[i]?) = wc.map some) (hRr : isR.map (fun i => ws[i]?) = wr.map some) (hN : ∀ u, isN.map (fun i => (wr ++ wc' u)[i]?) = (ws2 u).map some) (hnd : (va_nd isC && va_nd isR && va_nd isN && isR.all (fun i => !isC.contains i)) = true)
    (q0 ci : Nat) (hq : vwCl[ci]? = some q) (hqC : q.1 = C) (he : wc[q0]? = some (b, .inr (ci, fs)))
    (hn : As.length = n) (hst : st0 = As.reverse ++ .ref b :: rest) (hrm : (rest.map fun v => v.category).sum ≤ 8) (hf : cells + mc ≤ R.cells ∧ slots + ms ≤ R.slots) (hdg : decode cc pc = .ok (.invokevirtual index, 3))
    (kk : ∀ (u : Nat → Nat) (H1 : Heap) (locs1 : List Loc), va_P D vwCl (ws2 u) H1 → va_D A (ws2 u) → va_S A s.heap H1 locs1 → W p l e R s m args below meth c H1 locs1 (cells + mc) (slots + ms) Q (F0 m (pc + 3) ls rest)) : W p l e R s m args below meth c H locs cells slots Q (F0 m pc ls st0) := by
  subst hqC
  subst hst
  simp only [Bool.and_eq_true, List.all_eq_true, Bool.not_eq_true', List.contains_eq_mem, decide_eq_false_iff_not] at hnd
  obtain ⟨⟨⟨n1, n2⟩, n3⟩, n4⟩ := hnd
  have hDc := hD.sub isC n1 hC
  have hPc : va_P D vwCl wc H := k_sub hP isC hC
  have hFc := va_free hD hS hA isC hC
  refine va_callv (va_runV (As := As) (rest := rest) ⟨hx, hb, hml, hown, hts⟩ (hM H.size) (cwV n hts hG hw hc0 hs0 hd hR) ⟨PW_blind, va_recv hK hPc hq he, fun U hU hW => ⟨rfl, by rw [hU], by rw [hU]; exact hPc, va_K.moved hW.alike hK, hDc.weaken (fun _ _ _ _ => trivial), by rw [hU]; exact ((SP.warm hW hZ).kept hS.2.1).narrow hFc⟩⟩ rfl hn hls rfl (lv_room hrm) hdg hf) hS (fun q _ h => hFc q h) hFc (fun u t H1 locs1 ht hvm hw hB hz1 hk1 hS1 => ?_)
  obtain ⟨hP1, hK1, hD1⟩ := hB
  rw [ht] at hP1
  obtain ⟨hP2, hD2⟩ := va_join hP hD isC isR hC hRr n2 (fun i hi => n4 i hi) hk1 hFc hP1 hD1
  exact kk u H1 locs1 (k_sub hP2 isN (hN u)) (hD2.sub isN n3 (hN u)) hS1
end KM
set_option maxRecDepth 100000 in
set_option maxHeartbeats 4000000 in
theorem b_X7_find {l : Launch} {D : va_G} {cs zs : Nat → Nat} {h0 : Nat} {a0 : Nat → Nat} {h1 : Nat} {a1 : Nat → Nat} {h2 : Nat} {a2 : Nat → Nat} {i0 : Nat → Int32} {r0 : Nat → Nat → Int32} {u0 : Nat → Nat} {i1 : Nat → Int32} {r1 : Nat → Nat → Int32} {i2 : Nat → Int32} {r2 : Nat → Nat → Int32} {x2 : Int32} {q18 : (Nat → Int32) × (Nat → Nat → Int32)} {q : Int32 × (Nat → Int32) × (Nat → Nat → Int32) × (Nat → Int32) × (Nat → Nat → Int32)} (hx2 : ¬ x2 = i0 7) (hu : Int32.ofNat (u0 4) = 0) (hq18 : f_X7_beginNear_36 (va_up (va_up u0 4 32768) 5 16384) i0 (va_up (va_up r0 4 (fun _ => 0)) 5 (fun _ => 0)) x2 = some q18) (hf : f_X7_find_13 (va_up (va_up u0 4 32768) 5 16384) i1 r1 q18.1 q18.2 i2 r2 = some q) : MiN l yX7_find wlX7_find (rmBX7_find 2 49152) D cs zs [.ref h0, .ref h1, .int x2, .ref h2] (W7 cs h0 a0 i0 r0 u0 ++ (W2 cs h1 a1 i1 r1 ++ W2 cs h2 a2 i2 r2)) q.1 (fun a' => W7 cs h0 a' q.2.1 q.2.2.1 (va_up (va_up u0 4 32768) 5 16384) ++ (W2 cs h1 a1 i1 r1 ++ W2 cs h2 a2 q.2.2.2.1 q.2.2.2.2)) 2 49152 := by
  refine MiN.of RX7 (by decide) rfl (Nat.le_of_ble_eq_true rfl) (fun p e s m below meth c A C hP hD hS ls hl => ?_)
  generalize ([.ref h0, .ref h1, .int x2, .ref h2] : List Value).toArray = args at C ⊢
  obtain ⟨hx, hb, hr, hml, hown, hts, hK, hA, hlocks, hZ⟩ := id C
  have hl : lv_has ls 7 [(0, .ref h0), (1, .ref h1), (2, .int x2), (3, .ref h2)] := hl
  refine lv_iload_n hx hb dX7_find_0 rfl (lv_at hl 2 rfl) ?_
  refine lv_aload_n hx hb dX7_find_1 rfl (lv_at hl 0 rfl) ?_
  refine va_get (D := D) (ci := 7) (v := .int (i0 7)) (C := RX7) (T := TX7) (N := 13) hx hb hts hiX7 hown hK hP 0 rfl rfl 7 (by decide) (hts _ flX7_33) (fun _ h9 => h9) rfl dX7_find_2 ?_
  refine lv_icmp_eq (tgt := 13) hx hb dX7_find_5 (by decide) (fun hc => absurd hc hx2) (fun _ => ?_)
  refine lv_aload_n hx hb dX7_find_8 rfl (lv_at hl 0 rfl) ?_
  refine lv_iload_n hx hb dX7_find_9 rfl (lv_at hl 2 rfl) ?_
  refine k_pVvN (wr := W2 cs h1 a1 i1 r1 ++ W2 cs h2 a2 i2 r2) (ws2 := fun a' => W7 cs h0 a' q18.1 q18.2 (va_up (va_up u0 4 32768) 5 16384) ++ (W2 cs h1 a1 i1 r1 ++ W2 cs h2 a2 i2 r2)) (As := [.int x2]) (rest := []) hx hb hml hown hts hK hA hZ hl.1 hP hD hS (b_X7_beginNear (h0 := h0) (a0 := a0) hu hq18) (gVt mlX7_37 imX7_beginNear seX7_beginNear inX7 coX7_beginNear) rfl qnX7_beginNear rfl rfl ⟨Nat.le_of_ble_eq_true rfl, Nat.le_of_ble_eq_true rfl⟩ [0, 1, 2, 3, 4, 5, 6] [7, 8, 9, 10, 11, 12, 13, 14, 15, 16] [10, 11, 12, 13, 14, 15, 16, 0, 1, 2, 3, 4, 5, 6, 7, 8, 9] rfl rfl (fun _ => rfl) (by decide) 0 7 rfl rfl rfl rfl rfl (Nat.le_of_ble_eq_true rfl) ⟨Nat.le_of_ble_eq_true rfl, Nat.le_of_ble_eq_true rfl⟩ dX7_find_10 (fun a' H locs hP hD hS => ?_)
  exact k_mono (v_X7_find_13 (k9 := 2) (n9 := 49152) C _ _ _ _ _ _ _ hf hP hD hS (lv_sub hl [0, 1, 3] rfl)) (fun t ht => ⟨_, ht⟩)
