section KMi
variable {p : Program} {l : Launch} {e : Env} {R : Room} {s : State} {m : MethodId} {args : Array Value} {below : List Frame} {meth : Method} {c : Code} {H : Heap} {locs : List Loc} {cells slots : Nat} {Q : State → Prop} {cc bytes : ByteArray} {A : Nat → Prop} {D : va_G} {cs zs : Nat → Nat} {pc nL n index maxL mc ms : Nat} {ls : Array Slot} {own C : String} {y : MethodName} {ret : Option FieldType} {Ts wl wl' : List Cond} {rm : Room} {b : Nat} {As rest st0 : List Value} {ws wc wr : va_W} {wc' ws2 : (Nat → Nat) → va_W}
/-- the same, with an answer -/
theorem k_pViN {r : Int32} {q : vw_C} {fs : List Value} (hx : p.tables.exec = Jvm.exec) (hb : c.code = cc) (hml : c.maxLocals = nL) (hown : s.vm.findClass own = some m.cls) (hts : ∀ w ∈ Ts, w.before args s = true) (hK : va_K D vwCl (tys cs) s) (hA : ∀ q : Nat, s.heap.size ≤ q → A q) (hZ : SP zs A s s.heap) (hls : ls.size = nL)
    (hP : va_P D vwCl ws H) (hD : va_D A ws) (hS : va_S A s.heap H locs) (hM : MiN l y wl rm D cs zs (.ref b :: As) wc r wc' mc ms) (hG : GoodIn Ts (wsV own index C y wl)) (hw : wl = Cond.code y bytes maxL ret :: wl') (hd : y.cls = C ∧ y.cls ≠ "java/lang/invoke/MethodHandle" ∧ y.cls ≠ "java/lang/invoke/VarHandle" ∧ (parseMethodDescriptor y.desc).map (fun d => d.parameters.length) = some n) (hc0 : rm.cells = mc) (hs0 : rm.slots = ms) (hR : rm.frames + 1 ≤ R.frames ∧ 8 + (maxL + 11) + rm.locals ≤ R.locals)
    (isC isR isN : List Nat) (hC : isC.map (fun i => ws[i]?) = wc.map some) (hRr : isR.map (fun i => ws[i]?) = wr.map some) (hN : ∀ u, isN.map (fun i => (wr ++ wc' u)[i]?) = (ws2 u).map some) (hnd : (va_nd isC && va_nd isR && va_nd isN && isR.all (fun i => !isC.contains i)) = true)
    (q0 ci : Nat) (hq : vwCl[ci]? = some q) (hqC : q.1 = C) (he : wc[q0]? = some (b, .inr (ci, fs)))
    (hn : As.length = n) (hst : st0 = As.reverse ++ .ref b :: rest) (hrm : (rest.map fun v => v.category).sum ≤ 8) (hf : cells + mc ≤ R.cells ∧ slots + ms ≤ R.slots) (hdg : decode cc pc = .ok (.invokevirtual index, 3))
    (kk : ∀ (u : Nat → Nat) (H1 : Heap) (locs1 : List Loc), va_P D vwCl (ws2 u) H1 → va_D A (ws2 u) → va_S A s.heap H1 locs1 → W p l e R s m args below meth c H1 locs1 (cells + mc) (slots + ms) Q (F0 m (pc + 3) ls (.int r :: rest))) : W p l e R s m args below meth c H locs cells slots Q (F0 m pc ls st0) := by
  subst hqC
  subst hst
  simp only [Bool.and_eq_true, List.all_eq_true, Bool.not_eq_true', List.contains_eq_mem, decide_eq_false_iff_not] at hnd
  obtain ⟨⟨⟨n1, n2⟩, n3⟩, n4⟩ := hnd
  have hDc := hD.sub isC n1 hC
  have hPc : va_P D vwCl wc H := k_sub hP isC hC
  have hFc := va_free hD hS hA isC hC
  refine va_calli (va_runV (As := As) (rest := rest) ⟨hx, hb, hml, hown, hts⟩ (hM H.size) (cwV n hts hG hw hc0 hs0 hd hR) ⟨PW_blind, va_recv hK hPc hq he, fun U hU hW => ⟨rfl, by rw [hU], by rw [hU]; exact hPc, va_K.moved hW.alike hK, hDc.weaken (fun _ _ _ _ => trivial), by rw [hU]; exact ((SP.warm hW hZ).kept hS.2.1).narrow hFc⟩⟩ rfl hn hls rfl (lv_room hrm) hdg hf) hS (fun q _ h => hFc q h) hFc (fun x u t H1 locs1 ht hvm hw hB hz1 hk1 hS1 => ?_)
  subst hw
  obtain ⟨hP1, hK1, hD1⟩ := hB
  rw [ht] at hP1
  obtain ⟨hP2, hD2⟩ := va_join hP hD isC isR hC hRr n2 (fun i hi => n4 i hi) hk1 hFc hP1 hD1
  exact kk u H1 locs1 (k_sub hP2 isN (hN u)) (hD2.sub isN n3 (hN u)) hS1
end KMi
set_option maxRecDepth 100000 in
set_option maxHeartbeats 4000000 in
theorem b_X11_trail {l : Launch} {D : va_G} {cs zs : Nat → Nat} {h0 : Nat} {a0 : Nat → Nat} {a1 : Nat → Nat} {i1 : Nat → Int32} {r1 : Nat → Nat → Int32} {u1 : Nat → Nat} {x1 : Int32} {x2 : Int32} {q : Int32 × (Nat → Int32) × (Nat → Nat → Int32)} (c1 : ¬ x1 < 1) (c2 : ¬ 12 < x1) (c3 : ¬ x2 < 1) (c4 : x2 ≤ 12) (hu : Int32.ofNat (u1 0) = 0) (hf : f_X10_fewestMoves_35 (fun _ => 4096) i1 (fun _ _ => 0) x1 x2 = some q) : MiN l yX11_trail wlX11_trail { frames := 4, cells := 3, slots := 12288, locals := 100 } D cs zs [.ref h0, .int x1, .int x2] (W11 cs h0 a0 ++ W10 cs (a0 11) a1 i1 r1 u1) q.1 (fun a' => W11 cs h0 a0 ++ W10 cs (a0 11) a' q.2.1 q.2.2 (fun _ => 4096)) 3 12288 := by
  refine MiN.of RX11 (by decide) rfl (Nat.le_of_ble_eq_true rfl) (fun p e s m below meth c A C hP hD hS ls hl => ?_)
  generalize ([.ref h0, .int x1, .int x2] : List Value).toArray = args at C ⊢
  obtain ⟨hx, hb, hr, hml, hown, hts, hK, hA, hlocks, hZ⟩ := id C
  have hl : lv_has ls 3 [(0, .ref h0), (1, .int x1), (2, .int x2)] := hl
  refine lv_iload_n hx hb dX11_trail_0 rfl (lv_at hl 1 rfl) ?_
  refine lv_iconst (v := 1) hx hb dX11_trail_1 (by decide) ?_
  refine lv_icmp_lt (tgt := 22) hx hb dX11_trail_2 (by decide) (fun hc => absurd hc c1) (fun hc => ?_)
  refine lv_iload_n hx hb dX11_trail_5 rfl (lv_at hl 1 rfl) ?_
  refine lv_bipush (v := 12) hx hb dX11_trail_6 (by decide) ?_
  refine lv_icmp_gt (tgt := 22) hx hb dX11_trail_8 (by decide) (fun hc => absurd hc c2) (fun hc => ?_)
  refine lv_iload_n hx hb dX11_trail_11 rfl (lv_at hl 2 rfl) ?_
  refine lv_iconst (v := 1) hx hb dX11_trail_12 (by decide) ?_
  refine lv_icmp_lt (tgt := 22) hx hb dX11_trail_13 (by decide) (fun hc => absurd hc c3) (fun hc => ?_)
  refine lv_iload_n hx hb dX11_trail_16 rfl (lv_at hl 2 rfl) ?_
  refine lv_bipush (v := 12) hx hb dX11_trail_17 (by decide) ?_
  refine lv_icmp_le (tgt := 25) hx hb dX11_trail_19 (by decide) (fun hc => ?_) (fun hc => absurd c4 hc)
  refine lv_aload_n hx hb dX11_trail_25 rfl (lv_at hl 0 rfl) ?_
  refine va_get (D := D) (ci := 11) (v := .ref (a0 11)) (C := RX11) (T := TX11) (N := 13) hx hb hts hiX11 hown hK hP 0 rfl rfl 11 (by decide) (hts _ flX11_88) (fun _ h9 => h9) rfl dX11_trail_26 ?_
  refine lv_iload_n hx hb dX11_trail_29 rfl (lv_at hl 1 rfl) ?_
  refine lv_iload_n hx hb dX11_trail_30 rfl (lv_at hl 2 rfl) ?_
  refine k_pViN (wr := W11 cs h0 a0) (ws2 := fun a' => W11 cs h0 a0 ++ W10 cs (a0 11) a' q.2.1 q.2.2 (fun _ => 4096)) (As := [.int x1, .int x2]) (rest := []) hx hb hml hown hts hK hA hZ hl.1 hP hD hS (b_X10_fewestMoves (h0 := (a0 11)) (a0 := a1) hu hf) (gVt mlX11_243 imX10_fewestMoves seX10_fewestMoves inX10 coX10_fewestMoves) rfl qnX10_fewestMoves rfl rfl ⟨Nat.le_of_ble_eq_true rfl, Nat.le_of_ble_eq_true rfl⟩ [1, 2, 3, 4] [0] [0, 1, 2, 3, 4] rfl rfl (fun _ => rfl) (by decide) 0 10 rfl rfl rfl rfl rfl (Nat.le_of_ble_eq_true rfl) ⟨Nat.le_of_ble_eq_true rfl, Nat.le_of_ble_eq_true rfl⟩ dX11_trail_31 (fun a' H locs hP hD hS => ?_)
  exact k_mono (k_iret hx hb hr hlocks hK hP hD hS dX11_trail_34) (fun t ht => ⟨a', ht⟩)
