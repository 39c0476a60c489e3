/-! ===== cells whose contents are told otherwise; new T[n][m] ===== -/
theorem at_q {D : va_G} {cl : List vw_C} {a n : Nat} {c : ClassId} {f g : Nat → Option Nat} {H : Heap} (h : ∀ j, j < n → f j = g j) (hP : va_at D cl (a, .inl (c, n, .inr (.inr (.inr (.inr f))))) H) : va_at D cl (a, .inl (c, n, .inr (.inr (.inr (.inr g))))) H := by
  have e : vp_cell c (n, .inr (.inr (.inr (.inr f)))) = vp_cell c (n, .inr (.inr (.inr (.inr g)))) := by
    rw [vp_cell_q, vp_cell_q]
    unfold arrV
    congr 1
    apply Array.ext
    · simp
    · intro j h1 h2
      simp only [Array.getElem_ofFn]
      rw [h j (by simpa using h1)]
  show H[a]? = some (vp_cell c (n, .inr (.inr (.inr (.inr g)))))
  rw [← e]
  exact hP
theorem va_P.alt {D : va_G} {cl : List vw_C} {ws : va_W} {H : Heap} (hP : va_P D cl ws H) (k : Nat) {c' : Nat × va_E} (h : va_at D cl c' H) : va_P D cl (ws.set k c') H := by
  intro j q hj
  by_cases e : k = j
  · subst e
    by_cases hl : k < ws.length
    · rw [List.getElem?_set_self hl] at hj
      cases hj
      exact h
    · rw [List.getElem?_eq_none (by rw [List.length_set]; omega)] at hj
      cases hj
  · rw [List.getElem?_set_ne e] at hj
    exact hP j q hj
theorem va_D.alt {A : Nat → Prop} {ws ws' : va_W} (hD : va_D A ws) (h : ws'.map Prod.fst = ws.map Prod.fst) : va_D A ws' := by
  obtain ⟨h1, h2⟩ := va_D.mem.mp hD
  refine va_D.mem.mpr ⟨by rw [h]; exact h1, fun q hq => ?_⟩
  have hm : q.1 ∈ ws.map Prod.fst := by rw [← h]; exact List.mem_map_of_mem hq
  obtain ⟨q', h3, h4⟩ := List.mem_map.mp hm
  rw [← h4]
  exact h2 q' h3
theorem newq_cs {D : va_G} {cs : Nat → ClassId} {cA : ClassId} {s : State} (hK : va_K D vwCl (tys cs) s) (hK1 : va_K D vwCl (tys cs ++ [(cA, .object "MarbleFloor$Floor")]) s) : cA = cs 4 := by
  obtain ⟨kA, comp, h1, h2, h3, h4⟩ := (hK.2 4 _ rfl).2
  obtain ⟨kA', comp', h1', h2', h3', h4'⟩ := (hK1.2 6 _ rfl).2
  exact Option.some.inj (h4'.symm.trans h4)
/-- rows of a new T[4][10] -/
abbrev rows4 (cs : Nat → ClassId) (q : Nat) (r : Nat → Nat) : va_W := [(q, .inl (cs 5, 4, .inr (.inr (.inr (.inr (fun j => some (r j))))))), (r 0, .inl (cs 0, 10, .inl (fun _ => 0))), (r 1, .inl (cs 0, 10, .inl (fun _ => 0))), (r 2, .inl (cs 0, 10, .inl (fun _ => 0))), (r 3, .inl (cs 0, 10, .inl (fun _ => 0)))]
section KG
variable {p : Program} {l : Launch} {e : Env} {R : Room} {s : State} {m : MethodId} {args : Array Value} {below : List Frame} {meth : Method} {c : Code} {H : Heap} {locs : List Loc} {cells slots : Nat} {Q Q' : State → Prop} {cc : ByteArray} {A : Nat → Prop} {D : va_G} {cs : Nat → ClassId} {pc index : Nat} {own : String} {ls : Array Slot} {rest : List Value} {ws : va_W}
theorem k_mna (hx : p.tables.exec = Jvm.exec) (hb : c.code = cc) (hown : s.vm.findClass own = some m.cls) (hcl : (Cond.classLink own index "[[I").before args s = true) (hts : ∀ w ∈ tbG, w.before args s = true) (hO : va_AOA .int s) (hK : va_K D vwCl (tys cs) s) (hP : va_P D vwCl ws H) (hD : va_D A ws) (hS : va_S A s.heap H locs) (hA : ∀ q : Nat, s.heap.size ≤ q → A q) (hcells : cells + 5 ≤ R.cells) (hslots : slots + 44 ≤ R.slots) (hdg : decode cc pc = .ok (.multianewarray index 2, 4))
    (kk : ∀ (q : Nat) (r : Nat → Nat) (H1 : Heap), va_P D vwCl (ws ++ rows4 cs q r) H1 → va_D A (ws ++ rows4 cs q r) → va_S A s.heap H1 locs → W p l e R s m args below meth c H1 locs (cells + 5) (slots + 44) Q (F0 m (pc + 4) ls (.ref q :: rest))) : W p l e R s m args below meth c H locs cells slots Q (F0 m pc ls (.int 10 :: .int 4 :: rest)) := by
  have e0 : ws ++ va_pl [] (fun _ => (.inl (cs 0, 10, .inl (fun _ => 0)) : va_E)) = ws := by
    show ws ++ [] = ws
    exact List.append_nil _
  refine va_mna (X := ws) (L := []) (f := fun _ => .inl (cs 0, 10, .inl (fun _ => 0))) (ty := .int) (cy := cs 0) (N' := 4) (K' := 10) (z := (10, .inl (fun _ => 0))) hx hb hown hcl hO (hts _ ac_int) (hK.2 0 _ rfl).2 hK (by rw [e0]; exact hP) (by rw [e0]; exact hD) hS hA (by decide) (by decide) (by decide) (by decide) (by decide) (by decide) (by decide) rfl rfl hcells hslots (fun _ => rfl) hdg (fun q r cA H1 hi hn hK1 hP1 hD1 hS1 => ?_)
  have h3 : cA = cs 5 := Option.some.inj ((hK1.2 6 _ rfl).2.symm.trans (hK.2 5 _ rfl).2)
  subst h3
  have e1 : va_pl ([] ++ (List.range 4).map r) (vr_up (fun _ => (.inl (cs 0, 10, .inl (fun _ => 0)) : va_E)) ((List.range 4).map r) (.inl (cs 0, 10, .inl (fun _ => 0)))) = [(r 0, .inl (cs 0, 10, .inl (fun _ => 0))), (r 1, .inl (cs 0, 10, .inl (fun _ => 0))), (r 2, .inl (cs 0, 10, .inl (fun _ => 0))), (r 3, .inl (cs 0, 10, .inl (fun _ => 0)))] := by
    rw [← vr_rows (fun a _ h => by cases h)]
    rfl
  rw [e1, List.append_assoc] at hP1 hD1
  have hw : W p l e R s m args below meth c H1 locs (cells + 5) (slots + 44) Q (F0 m (pc + 4) ls (.ref q :: rest)) := by
    refine kk q r H1 ?_ ?_ hS1
    · refine va_P.mem.mpr fun x hx9 => ?_
      rcases List.mem_append.mp hx9 with h | h
      · exact va_P.mem.mp hP1 x (List.mem_append_left _ h)
      · rcases List.mem_cons.mp h with rfl | h
        · refine at_q (fun j hj => ?_) (va_P.mem.mp hP1 _ (List.mem_append_right _ List.mem_cons_self))
          rw [if_pos hj]
        · exact va_P.mem.mp hP1 x (List.mem_append_right _ (List.mem_cons_of_mem _ h))
    · refine hD1.alt ?_
      simp
  exact hw
end KG
/-- where Cells' arrays lie -/
def adr0 (q0 q1 q2 : Nat) (r0 r1 r2 : Nat → Nat) : Nat → Nat := fun k => if k = 0 then q0 else if k = 1 then q1 else if k = 2 then q2 else if k < 20 then r0 (k - 10) else if k < 30 then r1 (k - 20) else r2 (k - 30)
theorem W0_of {D : va_G} {A : Nat → Prop} {H : Heap} {cs : Nat → ClassId} {h q0 q1 q2 : Nat} {r0 r1 r2 : Nat → Nat} (hP : va_P D vwCl ([(h, .inr (0, [.ref q0, .ref q1, .ref q2, .int 0, .int 0, .int 0, .int 0]))] ++ rows4 cs q0 r0 ++ rows4 cs q1 r1 ++ rows4 cs q2 r2) H) (hD : va_D A ([(h, .inr (0, [.ref q0, .ref q1, .ref q2, .int 0, .int 0, .int 0, .int 0]))] ++ rows4 cs q0 r0 ++ rows4 cs q1 r1 ++ rows4 cs q2 r2)) : va_P D vwCl (W0 cs h (adr0 q0 q1 q2 r0 r1 r2) (fun _ => 0) (fun _ _ => 0)) H ∧ va_D A (W0 cs h (adr0 q0 q1 q2 r0 r1 r2) (fun _ => 0) (fun _ _ => 0)) := by
  have hP0 : va_P D vwCl [(h, .inr (0, [.ref q0, .ref q1, .ref q2, .int 0, .int 0, .int 0, .int 0])), (q0, .inl (cs 5, 4, .inr (.inr (.inr (.inr (fun j => some (r0 j))))))), (q1, .inl (cs 5, 4, .inr (.inr (.inr (.inr (fun j => some (r1 j))))))), (q2, .inl (cs 5, 4, .inr (.inr (.inr (.inr (fun j => some (r2 j))))))), (r0 0, .inl (cs 0, 10, .inl (fun _ => 0))), (r0 1, .inl (cs 0, 10, .inl (fun _ => 0))), (r0 2, .inl (cs 0, 10, .inl (fun _ => 0))), (r0 3, .inl (cs 0, 10, .inl (fun _ => 0))), (r1 0, .inl (cs 0, 10, .inl (fun _ => 0))), (r1 1, .inl (cs 0, 10, .inl (fun _ => 0))), (r1 2, .inl (cs 0, 10, .inl (fun _ => 0))), (r1 3, .inl (cs 0, 10, .inl (fun _ => 0))), (r2 0, .inl (cs 0, 10, .inl (fun _ => 0))), (r2 1, .inl (cs 0, 10, .inl (fun _ => 0))), (r2 2, .inl (cs 0, 10, .inl (fun _ => 0))), (r2 3, .inl (cs 0, 10, .inl (fun _ => 0)))] H := k_sub hP [0, 1, 6, 11, 2, 3, 4, 5, 7, 8, 9, 10, 12, 13, 14, 15] rfl
  have hD0 : va_D A [(h, .inr (0, [.ref q0, .ref q1, .ref q2, .int 0, .int 0, .int 0, .int 0])), (q0, .inl (cs 5, 4, .inr (.inr (.inr (.inr (fun j => some (r0 j))))))), (q1, .inl (cs 5, 4, .inr (.inr (.inr (.inr (fun j => some (r1 j))))))), (q2, .inl (cs 5, 4, .inr (.inr (.inr (.inr (fun j => some (r2 j))))))), (r0 0, .inl (cs 0, 10, .inl (fun _ => 0))), (r0 1, .inl (cs 0, 10, .inl (fun _ => 0))), (r0 2, .inl (cs 0, 10, .inl (fun _ => 0))), (r0 3, .inl (cs 0, 10, .inl (fun _ => 0))), (r1 0, .inl (cs 0, 10, .inl (fun _ => 0))), (r1 1, .inl (cs 0, 10, .inl (fun _ => 0))), (r1 2, .inl (cs 0, 10, .inl (fun _ => 0))), (r1 3, .inl (cs 0, 10, .inl (fun _ => 0))), (r2 0, .inl (cs 0, 10, .inl (fun _ => 0))), (r2 1, .inl (cs 0, 10, .inl (fun _ => 0))), (r2 2, .inl (cs 0, 10, .inl (fun _ => 0))), (r2 3, .inl (cs 0, 10, .inl (fun _ => 0)))] := hD.sub [0, 1, 6, 11, 2, 3, 4, 5, 7, 8, 9, 10, 12, 13, 14, 15] (by decide) rfl
  have x0 : ∀ j, j < 4 → (some (r0 j) : Option Nat) = some (adr0 q0 q1 q2 r0 r1 r2 (10 + j)) := fun j hj => by
    match j, hj with
    | 0, _ => rfl
    | 1, _ => rfl
    | 2, _ => rfl
    | 3, _ => rfl
  have x1 : ∀ j, j < 4 → (some (r1 j) : Option Nat) = some (adr0 q0 q1 q2 r0 r1 r2 (20 + j)) := fun j hj => by
    match j, hj with
    | 0, _ => rfl
    | 1, _ => rfl
    | 2, _ => rfl
    | 3, _ => rfl
  have x2 : ∀ j, j < 4 → (some (r2 j) : Option Nat) = some (adr0 q0 q1 q2 r0 r1 r2 (30 + j)) := fun j hj => by
    match j, hj with
    | 0, _ => rfl
    | 1, _ => rfl
    | 2, _ => rfl
    | 3, _ => rfl
  have p1 := va_P.alt hP0 1 (at_q x0 (hP0 1 _ rfl))
  have p2 := va_P.alt p1 2 (at_q x1 (hP0 2 _ rfl))
  have p3 := va_P.alt p2 3 (at_q x2 (hP0 3 _ rfl))
  exact ⟨p3, hD0.alt rfl⟩
