/-! ===== MarbleFloor$Cells: arrays of arrays. Rows 10.. of balls, 20.. of saved, 30.. of parts ===== -/
def fs0 (a : Nat → Nat) (i : Nat → Int32) : List Value := [.ref (a 0), .ref (a 1), .ref (a 2), .int (i 3), .int (i 4), .int (i 5), .int (i 6)]
def W0 (cs : Nat → ClassId) (h : Nat) (a : Nat → Nat) (i : Nat → Int32) (r : Nat → Nat → Int32) : va_W := [(h, .inr (0, fs0 a i)),
  (a 0, .inl (cs 5, 4, .inr (.inr (.inr (.inr (fun j => some (a (10 + j)))))))), (a 1, .inl (cs 5, 4, .inr (.inr (.inr (.inr (fun j => some (a (20 + j)))))))), (a 2, .inl (cs 5, 4, .inr (.inr (.inr (.inr (fun j => some (a (30 + j)))))))),
  (a 10, .inl (cs 0, 10, .inl (r 10))), (a 11, .inl (cs 0, 10, .inl (r 11))), (a 12, .inl (cs 0, 10, .inl (r 12))), (a 13, .inl (cs 0, 10, .inl (r 13))),
  (a 20, .inl (cs 0, 10, .inl (r 20))), (a 21, .inl (cs 0, 10, .inl (r 21))), (a 22, .inl (cs 0, 10, .inl (r 22))), (a 23, .inl (cs 0, 10, .inl (r 23))),
  (a 30, .inl (cs 0, 10, .inl (r 30))), (a 31, .inl (cs 0, 10, .inl (r 31))), (a 32, .inl (cs 0, 10, .inl (r 32))), (a 33, .inl (cs 0, 10, .inl (r 33)))]
theorem inb_lt {i : Int32} {n : Nat} (h : vp_in i n) : i.toNatClampNeg < n := Nat.not_le.mp fun q => h (Or.inr q)
section GR
variable {D : va_G} {A : Nat → Prop} {H : Heap} {cs : Nat → ClassId} {h : Nat} {a : Nat → Nat} {i : Nat → Int32} {r : Nat → Nat → Int32} {f : Nat → Int32} {v : Int32} {j : Nat}
theorem row0_10 (hj : j < 4) : (W0 cs h a i r)[4 + j]? = some (a (10 + j), .inl (cs 0, 10, .inl (r (10 + j)))) := by
  match j, hj with
  | 0, _ => rfl
  | 1, _ => rfl
  | 2, _ => rfl
  | 3, _ => rfl
theorem row0_20 (hj : j < 4) : (W0 cs h a i r)[8 + j]? = some (a (20 + j), .inl (cs 0, 10, .inl (r (20 + j)))) := by
  match j, hj with
  | 0, _ => rfl
  | 1, _ => rfl
  | 2, _ => rfl
  | 3, _ => rfl
theorem row0_30 (hj : j < 4) : (W0 cs h a i r)[12 + j]? = some (a (30 + j), .inl (cs 0, 10, .inl (r (30 + j)))) := by
  match j, hj with
  | 0, _ => rfl
  | 1, _ => rfl
  | 2, _ => rfl
  | 3, _ => rfl
theorem set0_10 (hj : j < 4) (hP : va_P D vwCl ((W0 cs h a i r).set (4 + j) (a (10 + j), .inl (cs 0, 10, .inl f))) H) (hD : va_D A ((W0 cs h a i r).set (4 + j) (a (10 + j), .inl (cs 0, 10, .inl f)))) : va_P D vwCl (W0 cs h a i (va_up r (10 + j) f)) H ∧ va_D A (W0 cs h a i (va_up r (10 + j) f)) := by
  match j, hj with
  | 0, _ => exact ⟨hP, hD⟩
  | 1, _ => exact ⟨hP, hD⟩
  | 2, _ => exact ⟨hP, hD⟩
  | 3, _ => exact ⟨hP, hD⟩
theorem set0_20 (hj : j < 4) (hP : va_P D vwCl ((W0 cs h a i r).set (8 + j) (a (20 + j), .inl (cs 0, 10, .inl f))) H) (hD : va_D A ((W0 cs h a i r).set (8 + j) (a (20 + j), .inl (cs 0, 10, .inl f)))) : va_P D vwCl (W0 cs h a i (va_up r (20 + j) f)) H ∧ va_D A (W0 cs h a i (va_up r (20 + j) f)) := by
  match j, hj with
  | 0, _ => exact ⟨hP, hD⟩
  | 1, _ => exact ⟨hP, hD⟩
  | 2, _ => exact ⟨hP, hD⟩
  | 3, _ => exact ⟨hP, hD⟩
theorem set0_30 (hj : j < 4) (hP : va_P D vwCl ((W0 cs h a i r).set (12 + j) (a (30 + j), .inl (cs 0, 10, .inl f))) H) (hD : va_D A ((W0 cs h a i r).set (12 + j) (a (30 + j), .inl (cs 0, 10, .inl f)))) : va_P D vwCl (W0 cs h a i (va_up r (30 + j) f)) H ∧ va_D A (W0 cs h a i (va_up r (30 + j) f)) := by
  match j, hj with
  | 0, _ => exact ⟨hP, hD⟩
  | 1, _ => exact ⟨hP, hD⟩
  | 2, _ => exact ⟨hP, hD⟩
  | 3, _ => exact ⟨hP, hD⟩
theorem st0_3 (hP : va_P D vwCl ((W0 cs h a i r).set 0 (h, .inr (0, (fs0 a i).set 3 (.int v)))) H) (hD : va_D A ((W0 cs h a i r).set 0 (h, .inr (0, (fs0 a i).set 3 (.int v))))) : va_P D vwCl (W0 cs h a (upd i 3 v) r) H ∧ va_D A (W0 cs h a (upd i 3 v) r) := ⟨hP, hD⟩
theorem st0_4 (hP : va_P D vwCl ((W0 cs h a i r).set 0 (h, .inr (0, (fs0 a i).set 4 (.int v)))) H) (hD : va_D A ((W0 cs h a i r).set 0 (h, .inr (0, (fs0 a i).set 4 (.int v))))) : va_P D vwCl (W0 cs h a (upd i 4 v) r) H ∧ va_D A (W0 cs h a (upd i 4 v) r) := ⟨hP, hD⟩
theorem st0_5 (hP : va_P D vwCl ((W0 cs h a i r).set 0 (h, .inr (0, (fs0 a i).set 5 (.int v)))) H) (hD : va_D A ((W0 cs h a i r).set 0 (h, .inr (0, (fs0 a i).set 5 (.int v))))) : va_P D vwCl (W0 cs h a (upd i 5 v) r) H ∧ va_D A (W0 cs h a (upd i 5 v) r) := ⟨hP, hD⟩
theorem st0_6 (hP : va_P D vwCl ((W0 cs h a i r).set 0 (h, .inr (0, (fs0 a i).set 6 (.int v)))) H) (hD : va_D A ((W0 cs h a i r).set 0 (h, .inr (0, (fs0 a i).set 6 (.int v))))) : va_P D vwCl (W0 cs h a (upd i 6 v) r) H ∧ va_D A (W0 cs h a (upd i 6 v) r) := ⟨hP, hD⟩
/-- the world, one row apart: what a method that is handed the row alone wants, and the way back -/
theorem cut0 {k : Nat} {w : Nat × va_E} {ws : va_W} {H1 : Heap} {w' : Nat × va_E} (hP : va_P D vwCl ws H) (hD : va_D A ws) (hk : ws[k]? = some w) (hw : w'.1 = w.1) (hk1 : ∀ q : Nat, q < H.size → ¬ va_A [w] H.size q → H1[q]? = H[q]?) (hP1 : va_P D vwCl [w'] H1) : va_P D vwCl (ws.set k w') H1 ∧ va_D A (ws.set k w') := by
  obtain ⟨wa, we⟩ := w
  obtain ⟨wa', we'⟩ := w'
  cases hw
  refine ⟨fun n q hq => ?_, hD.set hk⟩
  have hl := (List.getElem?_eq_some_iff.mp hk).1
  by_cases hn : n = k
  · subst hn
    rw [List.getElem?_set_self hl] at hq
    exact hP1 0 q hq
  · rw [List.getElem?_set_ne (Ne.symm hn)] at hq
    refine (hP n q hq).kept (hk1 q.1 (hP n q hq).lt (fun z => ?_))
    rcases z with ⟨k2, e2, z⟩ | z
    · match k2, z with
      | 0, z => cases z; exact hn (hD.1 n k q _ hq hk rfl)
    · exact absurd z (Nat.not_le.mpr (hP n q hq).lt)
end GR
section GA
variable {p : Program} {l : Launch} {e : Env} {R : Room} {s : State} {m : MethodId} {args : Array Value} {below : List Frame} {meth : Method} {c : Code} {H : Heap} {locs : List Loc} {cells slots : Nat} {Q : State → Prop} {cc bytes : ByteArray} {A : Nat → Prop} {D : va_G} {cs zs : Nat → Nat} {pc nL n index maxL : Nat} {ls : Array Slot} {own : String} {y : MethodName} {ret : Option FieldType} {Ts wl wl' : List Cond} {rm : Room} {As rest st0 : List Value} {ws : va_W} {a : Nat}
theorem k_aald (hx : p.tables.exec = Jvm.exec) (hb : c.code = cc) {cl : List vw_C} {ty0 : List (ClassId × FieldType)} (hK : va_K D cl ty0 s) (hP : va_P D cl ws H) (q0 t0 : Nat) {cA : ClassId} {f : Nat → Nat} {ty : FieldType} (ha : ws[q0]? = some (a, .inl (cA, n, .inr (.inr (.inr (.inr (fun j => some (f j)))))))) (ht : ty0[t0]? = some (cA, ty)) (hty : refKind ty = true) {i : Int32} (hin : vp_in i n) {j : Nat} (hj : i.toNatClampNeg = j) (hdg : decode cc pc = .ok (.aaload, 1))
    (kk : W p l e R s m args below meth c H locs cells slots Q (F0 m (pc + 1) ls (.ref (f j) :: rest))) : W p l e R s m args below meth c H locs cells slots Q (F0 m pc ls (.int i :: .ref a :: rest)) := by
  have hlt : i.toNatClampNeg < n := Nat.not_le.mp fun q => hin (Or.inr q)
  subst hj
  exact W.aald (v := .ref (f i.toNatClampNeg)) (ty := ty) hx hb (hP q0 _ ha) ((hK.2 t0 _ ht).1 n (fun j => va_rf (some (f j)))) hty (fun q => by cases q) (by show ¬ (i < 0 ∨ (arrV _ _ _).slots.size ≤ _); rw [arrV_size]; exact hin) (by show (arrV _ _ _).slots[_]? = _; rw [arrV_read _ _ hlt]; rfl) rfl rfl hdg kk
/-- a static method that is handed one row -/
theorem k_rSv {k : Nat} {w w' : Nat × va_E} (hx : p.tables.exec = Jvm.exec) (hb : c.code = cc) (hml : c.maxLocals = nL) (hown : s.vm.findClass own = some m.cls) (hts : ∀ w ∈ Ts, w.before args s = true) (hK : va_K D vwCl (tys cs) s) (hA : ∀ q : Nat, s.heap.size ≤ q → A q) (hZ : SP zs A s s.heap) (hls : ls.size = nL)
    (hP : va_P D vwCl ws H) (hD : va_D A ws) (hS : va_S A s.heap H locs) (hM : Mv l y wl rm D cs zs As [w] [w']) (hG : GoodIn Ts (va_wsS own index y wl)) (hw : wl = Cond.code y bytes maxL ret :: wl') (hd : y.cls ≠ "java/lang/invoke/MethodHandle" ∧ y.cls ≠ "java/lang/invoke/VarHandle" ∧ (parseMethodDescriptor y.desc).map (fun d => d.parameters.length) = some n) (hc0 : rm.cells = 0) (hs0 : rm.slots = 0) (hR : rm.frames + 1 ≤ R.frames ∧ 8 + (maxL + 11) + rm.locals ≤ R.locals)
    (hk : ws[k]? = some w) (hww : w'.1 = w.1) (hn : As.length = n) (hst : st0 = As.reverse ++ rest) (hrm : (rest.map fun v => v.category).sum ≤ 8) (hf : cells ≤ R.cells ∧ slots ≤ R.slots) (hdg : decode cc pc = .ok (.invokestatic index, 3))
    (kk : ∀ (H1 : Heap) (locs1 : List Loc), va_P D vwCl (ws.set k w') H1 → va_D A (ws.set k w') → va_S A s.heap H1 locs1 → W p l e R s m args below meth c H1 locs1 cells slots Q (F0 m (pc + 3) ls rest)) : W p l e R s m args below meth c H locs cells slots Q (F0 m pc ls st0) := by
  subst hst
  have hPc : va_P D vwCl [w] H := fun n q h => by
    match n, h with
    | 0, h => cases h; exact hP k w hk
  have hDc : va_D A [w] := ⟨fun i j p q h1 h2 _ => by
    match i, j, h1, h2 with
    | 0, 0, _, _ => rfl, fun n q h => by
    match n, h with
    | 0, h => cases h; exact hD.2 k w hk⟩
  have hFc : ∀ q, va_A [w] H.size q → A q := fun q h => by
    rcases h with ⟨k2, e1, h⟩ | h
    · match k2, h with
      | 0, h => cases h; exact hD.2 k (q, e1) hk
    · exact hA q (Nat.le_trans hS.1 h)
  refine va_callv (va_runS (As := As) (rest := rest) ⟨hx, hb, hml, hown, hts⟩ (hM H.size) (va_cwS n hts hG hw hc0 hs0 hd hR) ⟨PW_blind, fun U hU hW => ⟨rfl, by rw [hU], by rw [hU]; exact hPc, va_K.moved hW.alike hK, hDc.weaken (fun _ _ _ _ => trivial), by rw [hU]; exact ((SP.warm hW hZ).kept hS.2.1).narrow hFc⟩⟩ rfl hn hls rfl (lv_room hrm) hdg hf) hS (fun q _ h => hFc q h) hFc (fun u t H1 locs1 ht hvm hw hB hz1 hk1 hS1 => ?_)
  obtain ⟨hP1, hK1, hD1⟩ := hB
  rw [ht] at hP1
  obtain ⟨hP2, hD2⟩ := cut0 hP hD hk hww hk1 hP1
  exact kk H1 locs1 hP2 hD2 hS1
end GA
