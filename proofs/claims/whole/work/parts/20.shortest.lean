def fs7 (a : Nat → Nat) (i : Nat → Int32) : List Value := [.ref (a 0), .ref (a 1), .ref (a 2), .ref (a 3), .ref (a 4), .ref (a 5), .int (i 6), .int (i 7), .int (i 8), .int (i 9), .int (i 10), .int (i 11), .int (i 12)]
def W7 (cs : Nat → ClassId) (h : Nat) (a : Nat → Nat) (i : Nat → Int32) (r : Nat → Nat → Int32) (u : Nat → Nat) : va_W := [(h, .inr (7, fs7 a i)), (a 0, .inl (cs 0, 18, .inl (r 0))), (a 1, .inl (cs 0, 40, .inl (r 1))), (a 2, .inl (cs 0, 13, .inl (r 2))), (a 3, .inl (cs 0, 13, .inl (r 3))), (a 4, .inl (cs 0, u 4, .inl (r 4))), (a 5, .inl (cs 0, u 5, .inl (r 5)))]
theorem st7_0 {D : va_G} {A : Nat → Prop} {H : Heap} {cs : Nat → ClassId} {h : Nat} {a : Nat → Nat} {i : Nat → Int32} {r : Nat → Nat → Int32} {u : Nat → Nat} {f : Nat → Int32} (hP : va_P D vwCl ((W7 cs h a i r u).set 1 (a 0, .inl (cs 0, 18, .inl f))) H) (hD : va_D A ((W7 cs h a i r u).set 1 (a 0, .inl (cs 0, 18, .inl f)))) : va_P D vwCl (W7 cs h a i (va_up r 0 f) u) H ∧ va_D A (W7 cs h a i (va_up r 0 f) u) := ⟨hP, hD⟩
theorem st7_0_T {D : va_G} {A : Nat → Prop} {H : Heap} {cs : Nat → ClassId} {h : Nat} {a : Nat → Nat} {i : Nat → Int32} {r : Nat → Nat → Int32} {u : Nat → Nat} {f : Nat → Int32} {T : va_W} (hP : va_P D vwCl ((W7 cs h a i r u ++ T).set 1 (a 0, .inl (cs 0, 18, .inl f))) H) (hD : va_D A ((W7 cs h a i r u ++ T).set 1 (a 0, .inl (cs 0, 18, .inl f)))) : va_P D vwCl (W7 cs h a i (va_up r 0 f) u ++ T) H ∧ va_D A (W7 cs h a i (va_up r 0 f) u ++ T) := ⟨hP, hD⟩
theorem st7_1 {D : va_G} {A : Nat → Prop} {H : Heap} {cs : Nat → ClassId} {h : Nat} {a : Nat → Nat} {i : Nat → Int32} {r : Nat → Nat → Int32} {u : Nat → Nat} {f : Nat → Int32} (hP : va_P D vwCl ((W7 cs h a i r u).set 2 (a 1, .inl (cs 0, 40, .inl f))) H) (hD : va_D A ((W7 cs h a i r u).set 2 (a 1, .inl (cs 0, 40, .inl f)))) : va_P D vwCl (W7 cs h a i (va_up r 1 f) u) H ∧ va_D A (W7 cs h a i (va_up r 1 f) u) := ⟨hP, hD⟩
theorem st7_1_T {D : va_G} {A : Nat → Prop} {H : Heap} {cs : Nat → ClassId} {h : Nat} {a : Nat → Nat} {i : Nat → Int32} {r : Nat → Nat → Int32} {u : Nat → Nat} {f : Nat → Int32} {T : va_W} (hP : va_P D vwCl ((W7 cs h a i r u ++ T).set 2 (a 1, .inl (cs 0, 40, .inl f))) H) (hD : va_D A ((W7 cs h a i r u ++ T).set 2 (a 1, .inl (cs 0, 40, .inl f)))) : va_P D vwCl (W7 cs h a i (va_up r 1 f) u ++ T) H ∧ va_D A (W7 cs h a i (va_up r 1 f) u ++ T) := ⟨hP, hD⟩
theorem st7_2 {D : va_G} {A : Nat → Prop} {H : Heap} {cs : Nat → ClassId} {h : Nat} {a : Nat → Nat} {i : Nat → Int32} {r : Nat → Nat → Int32} {u : Nat → Nat} {f : Nat → Int32} (hP : va_P D vwCl ((W7 cs h a i r u).set 3 (a 2, .inl (cs 0, 13, .inl f))) H) (hD : va_D A ((W7 cs h a i r u).set 3 (a 2, .inl (cs 0, 13, .inl f)))) : va_P D vwCl (W7 cs h a i (va_up r 2 f) u) H ∧ va_D A (W7 cs h a i (va_up r 2 f) u) := ⟨hP, hD⟩
theorem st7_2_T {D : va_G} {A : Nat → Prop} {H : Heap} {cs : Nat → ClassId} {h : Nat} {a : Nat → Nat} {i : Nat → Int32} {r : Nat → Nat → Int32} {u : Nat → Nat} {f : Nat → Int32} {T : va_W} (hP : va_P D vwCl ((W7 cs h a i r u ++ T).set 3 (a 2, .inl (cs 0, 13, .inl f))) H) (hD : va_D A ((W7 cs h a i r u ++ T).set 3 (a 2, .inl (cs 0, 13, .inl f)))) : va_P D vwCl (W7 cs h a i (va_up r 2 f) u ++ T) H ∧ va_D A (W7 cs h a i (va_up r 2 f) u ++ T) := ⟨hP, hD⟩
theorem st7_3 {D : va_G} {A : Nat → Prop} {H : Heap} {cs : Nat → ClassId} {h : Nat} {a : Nat → Nat} {i : Nat → Int32} {r : Nat → Nat → Int32} {u : Nat → Nat} {f : Nat → Int32} (hP : va_P D vwCl ((W7 cs h a i r u).set 4 (a 3, .inl (cs 0, 13, .inl f))) H) (hD : va_D A ((W7 cs h a i r u).set 4 (a 3, .inl (cs 0, 13, .inl f)))) : va_P D vwCl (W7 cs h a i (va_up r 3 f) u) H ∧ va_D A (W7 cs h a i (va_up r 3 f) u) := ⟨hP, hD⟩
theorem st7_3_T {D : va_G} {A : Nat → Prop} {H : Heap} {cs : Nat → ClassId} {h : Nat} {a : Nat → Nat} {i : Nat → Int32} {r : Nat → Nat → Int32} {u : Nat → Nat} {f : Nat → Int32} {T : va_W} (hP : va_P D vwCl ((W7 cs h a i r u ++ T).set 4 (a 3, .inl (cs 0, 13, .inl f))) H) (hD : va_D A ((W7 cs h a i r u ++ T).set 4 (a 3, .inl (cs 0, 13, .inl f)))) : va_P D vwCl (W7 cs h a i (va_up r 3 f) u ++ T) H ∧ va_D A (W7 cs h a i (va_up r 3 f) u ++ T) := ⟨hP, hD⟩
theorem st7_4 {D : va_G} {A : Nat → Prop} {H : Heap} {cs : Nat → ClassId} {h : Nat} {a : Nat → Nat} {i : Nat → Int32} {r : Nat → Nat → Int32} {u : Nat → Nat} {f : Nat → Int32} (hP : va_P D vwCl ((W7 cs h a i r u).set 5 (a 4, .inl (cs 0, u 4, .inl f))) H) (hD : va_D A ((W7 cs h a i r u).set 5 (a 4, .inl (cs 0, u 4, .inl f)))) : va_P D vwCl (W7 cs h a i (va_up r 4 f) u) H ∧ va_D A (W7 cs h a i (va_up r 4 f) u) := ⟨hP, hD⟩
theorem st7_4_T {D : va_G} {A : Nat → Prop} {H : Heap} {cs : Nat → ClassId} {h : Nat} {a : Nat → Nat} {i : Nat → Int32} {r : Nat → Nat → Int32} {u : Nat → Nat} {f : Nat → Int32} {T : va_W} (hP : va_P D vwCl ((W7 cs h a i r u ++ T).set 5 (a 4, .inl (cs 0, u 4, .inl f))) H) (hD : va_D A ((W7 cs h a i r u ++ T).set 5 (a 4, .inl (cs 0, u 4, .inl f)))) : va_P D vwCl (W7 cs h a i (va_up r 4 f) u ++ T) H ∧ va_D A (W7 cs h a i (va_up r 4 f) u ++ T) := ⟨hP, hD⟩
theorem st7_5 {D : va_G} {A : Nat → Prop} {H : Heap} {cs : Nat → ClassId} {h : Nat} {a : Nat → Nat} {i : Nat → Int32} {r : Nat → Nat → Int32} {u : Nat → Nat} {f : Nat → Int32} (hP : va_P D vwCl ((W7 cs h a i r u).set 6 (a 5, .inl (cs 0, u 5, .inl f))) H) (hD : va_D A ((W7 cs h a i r u).set 6 (a 5, .inl (cs 0, u 5, .inl f)))) : va_P D vwCl (W7 cs h a i (va_up r 5 f) u) H ∧ va_D A (W7 cs h a i (va_up r 5 f) u) := ⟨hP, hD⟩
theorem st7_5_T {D : va_G} {A : Nat → Prop} {H : Heap} {cs : Nat → ClassId} {h : Nat} {a : Nat → Nat} {i : Nat → Int32} {r : Nat → Nat → Int32} {u : Nat → Nat} {f : Nat → Int32} {T : va_W} (hP : va_P D vwCl ((W7 cs h a i r u ++ T).set 6 (a 5, .inl (cs 0, u 5, .inl f))) H) (hD : va_D A ((W7 cs h a i r u ++ T).set 6 (a 5, .inl (cs 0, u 5, .inl f)))) : va_P D vwCl (W7 cs h a i (va_up r 5 f) u ++ T) H ∧ va_D A (W7 cs h a i (va_up r 5 f) u ++ T) := ⟨hP, hD⟩
theorem st7_6 {D : va_G} {A : Nat → Prop} {H : Heap} {cs : Nat → ClassId} {h : Nat} {a : Nat → Nat} {i : Nat → Int32} {r : Nat → Nat → Int32} {u : Nat → Nat} {v : Int32} (hP : va_P D vwCl ((W7 cs h a i r u).set 0 (h, .inr (7, (fs7 a i).set 6 (.int v)))) H) (hD : va_D A ((W7 cs h a i r u).set 0 (h, .inr (7, (fs7 a i).set 6 (.int v))))) : va_P D vwCl (W7 cs h a (upd i 6 v) r u) H ∧ va_D A (W7 cs h a (upd i 6 v) r u) := ⟨hP, hD⟩
theorem st7_6_T {D : va_G} {A : Nat → Prop} {H : Heap} {cs : Nat → ClassId} {h : Nat} {a : Nat → Nat} {i : Nat → Int32} {r : Nat → Nat → Int32} {u : Nat → Nat} {v : Int32} {T : va_W} (hP : va_P D vwCl ((W7 cs h a i r u ++ T).set 0 (h, .inr (7, (fs7 a i).set 6 (.int v)))) H) (hD : va_D A ((W7 cs h a i r u ++ T).set 0 (h, .inr (7, (fs7 a i).set 6 (.int v))))) : va_P D vwCl (W7 cs h a (upd i 6 v) r u ++ T) H ∧ va_D A (W7 cs h a (upd i 6 v) r u ++ T) := ⟨hP, hD⟩
theorem st7_7 {D : va_G} {A : Nat → Prop} {H : Heap} {cs : Nat → ClassId} {h : Nat} {a : Nat → Nat} {i : Nat → Int32} {r : Nat → Nat → Int32} {u : Nat → Nat} {v : Int32} (hP : va_P D vwCl ((W7 cs h a i r u).set 0 (h, .inr (7, (fs7 a i).set 7 (.int v)))) H) (hD : va_D A ((W7 cs h a i r u).set 0 (h, .inr (7, (fs7 a i).set 7 (.int v))))) : va_P D vwCl (W7 cs h a (upd i 7 v) r u) H ∧ va_D A (W7 cs h a (upd i 7 v) r u) := ⟨hP, hD⟩
theorem st7_7_T {D : va_G} {A : Nat → Prop} {H : Heap} {cs : Nat → ClassId} {h : Nat} {a : Nat → Nat} {i : Nat → Int32} {r : Nat → Nat → Int32} {u : Nat → Nat} {v : Int32} {T : va_W} (hP : va_P D vwCl ((W7 cs h a i r u ++ T).set 0 (h, .inr (7, (fs7 a i).set 7 (.int v)))) H) (hD : va_D A ((W7 cs h a i r u ++ T).set 0 (h, .inr (7, (fs7 a i).set 7 (.int v))))) : va_P D vwCl (W7 cs h a (upd i 7 v) r u ++ T) H ∧ va_D A (W7 cs h a (upd i 7 v) r u ++ T) := ⟨hP, hD⟩
theorem st7_8 {D : va_G} {A : Nat → Prop} {H : Heap} {cs : Nat → ClassId} {h : Nat} {a : Nat → Nat} {i : Nat → Int32} {r : Nat → Nat → Int32} {u : Nat → Nat} {v : Int32} (hP : va_P D vwCl ((W7 cs h a i r u).set 0 (h, .inr (7, (fs7 a i).set 8 (.int v)))) H) (hD : va_D A ((W7 cs h a i r u).set 0 (h, .inr (7, (fs7 a i).set 8 (.int v))))) : va_P D vwCl (W7 cs h a (upd i 8 v) r u) H ∧ va_D A (W7 cs h a (upd i 8 v) r u) := ⟨hP, hD⟩
theorem st7_8_T {D : va_G} {A : Nat → Prop} {H : Heap} {cs : Nat → ClassId} {h : Nat} {a : Nat → Nat} {i : Nat → Int32} {r : Nat → Nat → Int32} {u : Nat → Nat} {v : Int32} {T : va_W} (hP : va_P D vwCl ((W7 cs h a i r u ++ T).set 0 (h, .inr (7, (fs7 a i).set 8 (.int v)))) H) (hD : va_D A ((W7 cs h a i r u ++ T).set 0 (h, .inr (7, (fs7 a i).set 8 (.int v))))) : va_P D vwCl (W7 cs h a (upd i 8 v) r u ++ T) H ∧ va_D A (W7 cs h a (upd i 8 v) r u ++ T) := ⟨hP, hD⟩
theorem st7_9 {D : va_G} {A : Nat → Prop} {H : Heap} {cs : Nat → ClassId} {h : Nat} {a : Nat → Nat} {i : Nat → Int32} {r : Nat → Nat → Int32} {u : Nat → Nat} {v : Int32} (hP : va_P D vwCl ((W7 cs h a i r u).set 0 (h, .inr (7, (fs7 a i).set 9 (.int v)))) H) (hD : va_D A ((W7 cs h a i r u).set 0 (h, .inr (7, (fs7 a i).set 9 (.int v))))) : va_P D vwCl (W7 cs h a (upd i 9 v) r u) H ∧ va_D A (W7 cs h a (upd i 9 v) r u) := ⟨hP, hD⟩
theorem st7_9_T {D : va_G} {A : Nat → Prop} {H : Heap} {cs : Nat → ClassId} {h : Nat} {a : Nat → Nat} {i : Nat → Int32} {r : Nat → Nat → Int32} {u : Nat → Nat} {v : Int32} {T : va_W} (hP : va_P D vwCl ((W7 cs h a i r u ++ T).set 0 (h, .inr (7, (fs7 a i).set 9 (.int v)))) H) (hD : va_D A ((W7 cs h a i r u ++ T).set 0 (h, .inr (7, (fs7 a i).set 9 (.int v))))) : va_P D vwCl (W7 cs h a (upd i 9 v) r u ++ T) H ∧ va_D A (W7 cs h a (upd i 9 v) r u ++ T) := ⟨hP, hD⟩
theorem st7_10 {D : va_G} {A : Nat → Prop} {H : Heap} {cs : Nat → ClassId} {h : Nat} {a : Nat → Nat} {i : Nat → Int32} {r : Nat → Nat → Int32} {u : Nat → Nat} {v : Int32} (hP : va_P D vwCl ((W7 cs h a i r u).set 0 (h, .inr (7, (fs7 a i).set 10 (.int v)))) H) (hD : va_D A ((W7 cs h a i r u).set 0 (h, .inr (7, (fs7 a i).set 10 (.int v))))) : va_P D vwCl (W7 cs h a (upd i 10 v) r u) H ∧ va_D A (W7 cs h a (upd i 10 v) r u) := ⟨hP, hD⟩
theorem st7_10_T {D : va_G} {A : Nat → Prop} {H : Heap} {cs : Nat → ClassId} {h : Nat} {a : Nat → Nat} {i : Nat → Int32} {r : Nat → Nat → Int32} {u : Nat → Nat} {v : Int32} {T : va_W} (hP : va_P D vwCl ((W7 cs h a i r u ++ T).set 0 (h, .inr (7, (fs7 a i).set 10 (.int v)))) H) (hD : va_D A ((W7 cs h a i r u ++ T).set 0 (h, .inr (7, (fs7 a i).set 10 (.int v))))) : va_P D vwCl (W7 cs h a (upd i 10 v) r u ++ T) H ∧ va_D A (W7 cs h a (upd i 10 v) r u ++ T) := ⟨hP, hD⟩
theorem st7_11 {D : va_G} {A : Nat → Prop} {H : Heap} {cs : Nat → ClassId} {h : Nat} {a : Nat → Nat} {i : Nat → Int32} {r : Nat → Nat → Int32} {u : Nat → Nat} {v : Int32} (hP : va_P D vwCl ((W7 cs h a i r u).set 0 (h, .inr (7, (fs7 a i).set 11 (.int v)))) H) (hD : va_D A ((W7 cs h a i r u).set 0 (h, .inr (7, (fs7 a i).set 11 (.int v))))) : va_P D vwCl (W7 cs h a (upd i 11 v) r u) H ∧ va_D A (W7 cs h a (upd i 11 v) r u) := ⟨hP, hD⟩
theorem st7_11_T {D : va_G} {A : Nat → Prop} {H : Heap} {cs : Nat → ClassId} {h : Nat} {a : Nat → Nat} {i : Nat → Int32} {r : Nat → Nat → Int32} {u : Nat → Nat} {v : Int32} {T : va_W} (hP : va_P D vwCl ((W7 cs h a i r u ++ T).set 0 (h, .inr (7, (fs7 a i).set 11 (.int v)))) H) (hD : va_D A ((W7 cs h a i r u ++ T).set 0 (h, .inr (7, (fs7 a i).set 11 (.int v))))) : va_P D vwCl (W7 cs h a (upd i 11 v) r u ++ T) H ∧ va_D A (W7 cs h a (upd i 11 v) r u ++ T) := ⟨hP, hD⟩
theorem st7_12 {D : va_G} {A : Nat → Prop} {H : Heap} {cs : Nat → ClassId} {h : Nat} {a : Nat → Nat} {i : Nat → Int32} {r : Nat → Nat → Int32} {u : Nat → Nat} {v : Int32} (hP : va_P D vwCl ((W7 cs h a i r u).set 0 (h, .inr (7, (fs7 a i).set 12 (.int v)))) H) (hD : va_D A ((W7 cs h a i r u).set 0 (h, .inr (7, (fs7 a i).set 12 (.int v))))) : va_P D vwCl (W7 cs h a (upd i 12 v) r u) H ∧ va_D A (W7 cs h a (upd i 12 v) r u) := ⟨hP, hD⟩
theorem st7_12_T {D : va_G} {A : Nat → Prop} {H : Heap} {cs : Nat → ClassId} {h : Nat} {a : Nat → Nat} {i : Nat → Int32} {r : Nat → Nat → Int32} {u : Nat → Nat} {v : Int32} {T : va_W} (hP : va_P D vwCl ((W7 cs h a i r u ++ T).set 0 (h, .inr (7, (fs7 a i).set 12 (.int v)))) H) (hD : va_D A ((W7 cs h a i r u ++ T).set 0 (h, .inr (7, (fs7 a i).set 12 (.int v))))) : va_P D vwCl (W7 cs h a (upd i 12 v) r u ++ T) H ∧ va_D A (W7 cs h a (upd i 12 v) r u ++ T) := ⟨hP, hD⟩
/-! MarbleFloor$Shortest.addPicked(LMarbleFloor$Floor;I)V -/
abbrev wlX7_addPicked : List Cond := Cond.code yX7_addPicked cX7_addPicked 2 none :: tbG
abbrev rmX7_addPicked : Room := { frames := 2, cells := 0, slots := 0, locals := 47 }
theorem qnX7_addPicked : yX7_addPicked.cls ≠ "java/lang/invoke/MethodHandle" ∧ yX7_addPicked.cls ≠ "java/lang/invoke/VarHandle" ∧ (parseMethodDescriptor yX7_addPicked.desc).map (fun d => d.parameters.length) = some 2 := by decide +kernel
def f_X7_addPicked  (i0 : Nat → Int32) (r0 : Nat → Nat → Int32) (x1 : Int32) : Option ((Nat → Int32) × (Nat → Nat → Int32)) := if 64 ≤ x1 then (bd (f_X2_addSwap i0 r0 ((x1 - 64) >>> (5 &&& 31)) ((x1 >>> (3 &&& 31)) &&& 3) (x1 &&& 7)) (fun q3 => some (q3.1, q3.2))) else (bd (f_X2_addTurn i0 r0 (x1 >>> (3 &&& 31)) (x1 &&& 7)) (fun q4 => some (q4.1, q4.2)))
set_option maxRecDepth 100000 in
set_option maxHeartbeats 4000000 in
theorem c_X7_addPicked {l : Launch} {D : va_G} {cs zs : Nat → Nat} {h0 : Nat} {a0 : Nat → Nat} {i0 : Nat → Int32} {r0 : Nat → Nat → Int32} {x1 : Int32} {q : (Nat → Int32) × (Nat → Nat → Int32)} (hf : f_X7_addPicked i0 r0 x1 = some q) : Mv l yX7_addPicked wlX7_addPicked rmX7_addPicked D cs zs [.ref h0, .int x1] (W2 cs h0 a0 i0 r0) (W2 cs h0 a0 q.1 q.2) := by
  refine Mv.of RX7 (by decide) rfl (Nat.le_of_ble_eq_true rfl) (fun p e s m below meth c A C hP hD hS ls hl => ?_)
  generalize ([.ref h0, .int x1] : List Value).toArray = args at C ⊢
  obtain ⟨hx, hb, hr, hml, hown, hts, hK, hA, hlocks, hZ⟩ := id C
  have hl : lv_has ls 2 [(0, .ref h0), (1, .int x1)] := hl
  rw [f_X7_addPicked] at hf
  refine lv_iload_n hx hb dX7_addPicked_0 rfl (lv_at hl 1 rfl) ?_
  refine lv_bipush (v := 64) hx hb dX7_addPicked_1 (by decide) ?_
  refine lv_icmp_ge (tgt := 20) hx hb dX7_addPicked_3 (by decide) (fun hc => ?_) (fun hc => ?_)
  · have hf := ite_t hf hc
    refine lv_aload_n hx hb dX7_addPicked_20 rfl (lv_at hl 0 rfl) ?_
    refine lv_iload_n hx hb dX7_addPicked_21 rfl (lv_at hl 1 rfl) ?_
    refine lv_bipush (v := 64) hx hb dX7_addPicked_22 (by decide) ?_
    refine lv_isub hx hb dX7_addPicked_24 ?_
    refine lv_iconst (v := 5) hx hb dX7_addPicked_25 (by decide) ?_
    refine lv_ishr hx hb dX7_addPicked_26 ?_
    refine lv_iload_n hx hb dX7_addPicked_27 rfl (lv_at hl 1 rfl) ?_
    refine lv_iconst (v := 3) hx hb dX7_addPicked_28 (by decide) ?_
    refine lv_ishr hx hb dX7_addPicked_29 ?_
    refine lv_iconst (v := 3) hx hb dX7_addPicked_30 (by decide) ?_
    refine lv_iand hx hb dX7_addPicked_31 ?_
    refine lv_iload_n hx hb dX7_addPicked_32 rfl (lv_at hl 1 rfl) ?_
    refine lv_bipush (v := 7) hx hb dX7_addPicked_33 (by decide) ?_
    refine lv_iand hx hb dX7_addPicked_35 ?_
    obtain ⟨q3, hq3, hf⟩ := bd_s hf
    refine k_sVv (ws2 := W2 cs h0 a0 q3.1 q3.2) (As := [.int ((x1 - 64) >>> (5 &&& 31)), .int ((x1 >>> (3 &&& 31)) &&& 3), .int (x1 &&& 7)]) (rest := []) hx hb hml hown hts hK hA hZ hl.1 hP hD hS (c_X2_addSwap (h0 := h0) (a0 := a0) hq3) (gVt mlX7_82 imX2_addSwap seX2_addSwap inX2 coX2_addSwap) rfl qnX2_addSwap rfl rfl ⟨Nat.le_of_ble_eq_true rfl, Nat.le_of_ble_eq_true rfl⟩ 0 2 rfl rfl rfl rfl rfl (Nat.le_of_ble_eq_true rfl) ⟨Nat.zero_le _, Nat.zero_le _⟩ dX7_addPicked_36 (fun H locs hP hD hS => ?_)
    obtain rfl := Option.some.inj hf
    exact k_vret hx hb hr hlocks hK hP hD hS dX7_addPicked_39
  · have hf := ite_f hf hc
    refine lv_aload_n hx hb dX7_addPicked_6 rfl (lv_at hl 0 rfl) ?_
    refine lv_iload_n hx hb dX7_addPicked_7 rfl (lv_at hl 1 rfl) ?_
    refine lv_iconst (v := 3) hx hb dX7_addPicked_8 (by decide) ?_
    refine lv_ishr hx hb dX7_addPicked_9 ?_
    refine lv_iload_n hx hb dX7_addPicked_10 rfl (lv_at hl 1 rfl) ?_
    refine lv_bipush (v := 7) hx hb dX7_addPicked_11 (by decide) ?_
    refine lv_iand hx hb dX7_addPicked_13 ?_
    obtain ⟨q4, hq4, hf⟩ := bd_s hf
    refine k_sVv (ws2 := W2 cs h0 a0 q4.1 q4.2) (As := [.int (x1 >>> (3 &&& 31)), .int (x1 &&& 7)]) (rest := []) hx hb hml hown hts hK hA hZ hl.1 hP hD hS (c_X2_addTurn (h0 := h0) (a0 := a0) hq4) (gVt mlX7_78 imX2_addTurn seX2_addTurn inX2 coX2_addTurn) rfl qnX2_addTurn rfl rfl ⟨Nat.le_of_ble_eq_true rfl, Nat.le_of_ble_eq_true rfl⟩ 0 2 rfl rfl rfl rfl rfl (Nat.le_of_ble_eq_true rfl) ⟨Nat.zero_le _, Nat.zero_le _⟩ dX7_addPicked_14 (fun H locs hP hD hS => ?_)
    refine lv_goto (tgt := 39) hx hb dX7_addPicked_17 (by decide) ?_
    obtain rfl := Option.some.inj hf
    exact k_vret hx hb hr hlocks hK hP hD hS dX7_addPicked_39
/-! MarbleFloor$Shortest.undoing(LMarbleFloor$Floor;)I -/
abbrev wlX7_undoing : List Cond := Cond.code yX7_undoing cX7_undoing 5 (some .int) :: tbG
abbrev rmX7_undoing : Room := { frames := 2, cells := 0, slots := 0, locals := 48 }
theorem qnX7_undoing : yX7_undoing.cls ≠ "java/lang/invoke/MethodHandle" ∧ yX7_undoing.cls ≠ "java/lang/invoke/VarHandle" ∧ (parseMethodDescriptor yX7_undoing.desc).map (fun d => d.parameters.length) = some 1 := by decide +kernel
def f_X7_undoing_20 (i0 : Nat → Int32) (r0 : Nat → Nat → Int32) (K4 : Int32 → Int32 → Option (Int32)) : Nat → Int32 → Int32 → Int32 → Int32 → Option (Int32)
  | 0, _, _, _, _ => none
  | n + 1, x1, x2, x3, x4 => if 3 ≤ x4 then (K4 x1 (x2 + 1)) else (f_X7_undoing_20 i0 r0 K4 n (x1 ||| (((x2 >>> (x4 &&& 31)) &&& 1) <<< (((8 * x4) + x3) &&& 31))) x2 x3 (x4 + 1))
set_option maxRecDepth 100000 in
set_option maxHeartbeats 4000000 in
theorem w_X7_undoing_20 {p : Program} {l : Launch} {e : Env} {s : State} {m : MethodId} {args : Array Value} {below : List Frame} {meth : Method} {c : Code} {A : Nat → Prop} {D : va_G} {cs zs : Nat → Nat} {h0 : Nat} {a0 : Nat → Nat} {i0 : Nat → Int32} {r0 : Nat → Nat → Int32} {q : Int32} (C : Cx p s m args meth c A D cs zs cX7_undoing 5 (some .int) RX7) (K4 : Int32 → Int32 → Option (Int32)) (hK4 : ∀ (x1 : Int32) (x2 : Int32) (H : Heap) (locs : List Loc) (ls : Array Slot), K4 x1 x2 = some q → va_P D vwCl (W2 cs h0 a0 i0 r0) H → va_D A (W2 cs h0 a0 i0 r0) → va_S A s.heap H locs → lv_has ls 5 [(0, .ref h0), (1, .int x1), (2, .int x2)] → W p l e rmX7_undoing s m args below meth c H locs 0 0 (MQ below (Qi D cs A q (W2 cs h0 a0 i0 r0)) args s 0 0 A) (F0 m 4 ls [])) : ∀ (n : Nat), ∀ (x1 : Int32) (x2 : Int32) (x3 : Int32) (x4 : Int32) (H : Heap) (locs : List Loc) (ls : Array Slot), f_X7_undoing_20 i0 r0 K4 n x1 x2 x3 x4 = some q → va_P D vwCl (W2 cs h0 a0 i0 r0) H → va_D A (W2 cs h0 a0 i0 r0) → va_S A s.heap H locs → lv_has ls 5 [(0, .ref h0), (1, .int x1), (2, .int x2), (3, .int x3), (4, .int x4)] → W p l e rmX7_undoing s m args below meth c H locs 0 0 (MQ below (Qi D cs A q (W2 cs h0 a0 i0 r0)) args s 0 0 A) (F0 m 20 ls []) := by
  obtain ⟨hx, hb, hr, hml, hown, hts, hK, hA, hlocks, hZ⟩ := id C
  intro n
  induction n with
  | zero =>
    intro x1 x2 x3 x4 H locs ls hf
    rw [f_X7_undoing_20] at hf
    cases hf
  | succ n ih =>
    intro x1 x2 x3 x4 H locs ls hf hP hD hS hl
    rw [f_X7_undoing_20] at hf
    refine lv_iload hx hb dX7_undoing_20 (lv_at hl 4 rfl) ?_
    refine lv_iconst (v := 3) hx hb dX7_undoing_22 (by decide) ?_
    refine lv_icmp_ge (tgt := 49) hx hb dX7_undoing_23 (by decide) (fun hc => ?_) (fun hc => ?_)
    · have hf := ite_t hf hc
      refine lv_iinc (v := x2 + 1) (lv' := [(2, .int (x2 + 1)), (0, .ref h0), (1, .int x1), (3, .int x3), (4, .int x4)]) hx hb dX7_undoing_49 hl (k := 2) rfl rfl (by decide) rfl (fun ls hl => ?_)
      refine lv_goto (tgt := 4) hx hb dX7_undoing_52 (by decide) ?_
      exact hK4 _ _ _ _ _ hf hP hD hS (lv_sub hl [1, 2, 0] rfl)
    · have hf := ite_f hf hc
      refine lv_iload_n hx hb dX7_undoing_26 rfl (lv_at hl 1 rfl) ?_
      refine lv_iload_n hx hb dX7_undoing_27 rfl (lv_at hl 2 rfl) ?_
      refine lv_iload hx hb dX7_undoing_28 (lv_at hl 4 rfl) ?_
      refine lv_ishr hx hb dX7_undoing_30 ?_
      refine lv_iconst (v := 1) hx hb dX7_undoing_31 (by decide) ?_
      refine lv_iand hx hb dX7_undoing_32 ?_
      refine lv_bipush (v := 8) hx hb dX7_undoing_33 (by decide) ?_
      refine lv_iload hx hb dX7_undoing_35 (lv_at hl 4 rfl) ?_
      refine lv_imul hx hb dX7_undoing_37 ?_
      refine lv_iload_n hx hb dX7_undoing_38 rfl (lv_at hl 3 rfl) ?_
      refine lv_iadd hx hb dX7_undoing_39 ?_
      refine lv_ishl hx hb dX7_undoing_40 ?_
      refine lv_ior hx hb dX7_undoing_41 ?_
      refine lv_istore_n (lv' := [(1, .int (x1 ||| (((x2 >>> (x4 &&& 31)) &&& 1) <<< (((8 * x4) + x3) &&& 31)))), (0, .ref h0), (2, .int x2), (3, .int x3), (4, .int x4)]) hx hb dX7_undoing_42 rfl hl (by decide) rfl (fun ls hl => ?_)
      refine lv_iinc (v := x4 + 1) (lv' := [(4, .int (x4 + 1)), (1, .int (x1 ||| (((x2 >>> (x4 &&& 31)) &&& 1) <<< (((8 * x4) + x3) &&& 31)))), (0, .ref h0), (2, .int x2), (3, .int x3)]) hx hb dX7_undoing_43 hl (k := 4) rfl rfl (by decide) rfl (fun ls hl => ?_)
      refine lv_goto (tgt := 20) hx hb dX7_undoing_46 (by decide) ?_
      exact ih _ _ _ _ _ _ _ hf hP hD hS (lv_sub hl [2, 1, 3, 4, 0] rfl)
def f_X7_undoing_4 (i0 : Nat → Int32) (r0 : Nat → Nat → Int32)  : Nat → Int32 → Int32 → Option (Int32)
  | 0, _, _ => none
  | n + 1, x1, x2 => if 8 ≤ x2 then (some (x1)) else (bd (f_X2_outOf i0 r0 x2 0) (fun q2 => f_X7_undoing_20 i0 r0 (f_X7_undoing_4 i0 r0 n) 2000000 x1 x2 q2 0))
set_option maxRecDepth 100000 in
set_option maxHeartbeats 4000000 in
theorem w_X7_undoing_4 {p : Program} {l : Launch} {e : Env} {s : State} {m : MethodId} {args : Array Value} {below : List Frame} {meth : Method} {c : Code} {A : Nat → Prop} {D : va_G} {cs zs : Nat → Nat} {h0 : Nat} {a0 : Nat → Nat} {i0 : Nat → Int32} {r0 : Nat → Nat → Int32} {q : Int32} (C : Cx p s m args meth c A D cs zs cX7_undoing 5 (some .int) RX7)  : ∀ (n : Nat), ∀ (x1 : Int32) (x2 : Int32) (H : Heap) (locs : List Loc) (ls : Array Slot), f_X7_undoing_4 i0 r0 n x1 x2 = some q → va_P D vwCl (W2 cs h0 a0 i0 r0) H → va_D A (W2 cs h0 a0 i0 r0) → va_S A s.heap H locs → lv_has ls 5 [(0, .ref h0), (1, .int x1), (2, .int x2)] → W p l e rmX7_undoing s m args below meth c H locs 0 0 (MQ below (Qi D cs A q (W2 cs h0 a0 i0 r0)) args s 0 0 A) (F0 m 4 ls []) := by
  obtain ⟨hx, hb, hr, hml, hown, hts, hK, hA, hlocks, hZ⟩ := id C
  intro n
  induction n with
  | zero =>
    intro x1 x2 H locs ls hf
    rw [f_X7_undoing_4] at hf
    cases hf
  | succ n ih =>
    intro x1 x2 H locs ls hf hP hD hS hl
    rw [f_X7_undoing_4] at hf
    refine lv_iload_n hx hb dX7_undoing_4 rfl (lv_at hl 2 rfl) ?_
    refine lv_bipush (v := 8) hx hb dX7_undoing_5 (by decide) ?_
    refine lv_icmp_ge (tgt := 55) hx hb dX7_undoing_7 (by decide) (fun hc => ?_) (fun hc => ?_)
    · have hf := ite_t hf hc
      refine lv_iload_n hx hb dX7_undoing_55 rfl (lv_at hl 1 rfl) ?_
      obtain rfl := Option.some.inj hf
      exact k_iret hx hb hr hlocks hK hP hD hS dX7_undoing_56
    · have hf := ite_f hf hc
      refine lv_aload_n hx hb dX7_undoing_10 rfl (lv_at hl 0 rfl) ?_
      refine lv_iload_n hx hb dX7_undoing_11 rfl (lv_at hl 2 rfl) ?_
      refine lv_iconst (v := 0) hx hb dX7_undoing_12 (by decide) ?_
      obtain ⟨q2, hq2, hf⟩ := bd_s hf
      refine k_sVi (ws2 := W2 cs h0 a0 i0 r0) (As := [.int x2, .int 0]) (rest := []) hx hb hml hown hts hK hA hZ hl.1 hP hD hS (c_X2_outOf (h0 := h0) (a0 := a0) hq2) (gVt mlX7_86 imX2_outOf seX2_outOf inX2 coX2_outOf) rfl qnX2_outOf rfl rfl ⟨Nat.le_of_ble_eq_true rfl, Nat.le_of_ble_eq_true rfl⟩ 0 2 rfl rfl rfl rfl rfl (Nat.le_of_ble_eq_true rfl) ⟨Nat.zero_le _, Nat.zero_le _⟩ dX7_undoing_13 (fun H locs hP hD hS => ?_)
      refine lv_istore_n (lv' := [(3, .int q2), (0, .ref h0), (1, .int x1), (2, .int x2)]) hx hb dX7_undoing_16 rfl hl (by decide) rfl (fun ls hl => ?_)
      refine lv_iconst (v := 0) hx hb dX7_undoing_17 (by decide) ?_
      refine lv_istore (lv' := [(4, .int 0), (3, .int q2), (0, .ref h0), (1, .int x1), (2, .int x2)]) hx hb dX7_undoing_18 hl (by decide) rfl (fun ls hl => ?_)
      exact w_X7_undoing_20 C _ (ih) 2000000 _ _ _ _ _ _ _ hf hP hD hS (lv_sub hl [2, 3, 4, 1, 0] rfl)
def f_X7_undoing  (i0 : Nat → Int32) (r0 : Nat → Nat → Int32)  : Option (Int32) := f_X7_undoing_4 i0 r0 2000000 0 0
set_option maxRecDepth 100000 in
set_option maxHeartbeats 4000000 in
theorem c_X7_undoing {l : Launch} {D : va_G} {cs zs : Nat → Nat} {h0 : Nat} {a0 : Nat → Nat} {i0 : Nat → Int32} {r0 : Nat → Nat → Int32}  {q : Int32} (hf : f_X7_undoing i0 r0 = some q) : Mi l yX7_undoing wlX7_undoing rmX7_undoing D cs zs [.ref h0] (W2 cs h0 a0 i0 r0) q (W2 cs h0 a0 i0 r0) := by
  refine Mi.of RX7 (by decide) rfl (Nat.le_of_ble_eq_true rfl) (fun p e s m below meth c A C hP hD hS ls hl => ?_)
  generalize ([.ref h0] : List Value).toArray = args at C ⊢
  obtain ⟨hx, hb, hr, hml, hown, hts, hK, hA, hlocks, hZ⟩ := id C
  have hl : lv_has ls 5 [(0, .ref h0)] := hl
  rw [f_X7_undoing] at hf
  refine lv_iconst (v := 0) hx hb dX7_undoing_0 (by decide) ?_
  refine lv_istore_n (lv' := [(1, .int 0), (0, .ref h0)]) hx hb dX7_undoing_1 rfl hl (by decide) rfl (fun ls hl => ?_)
  refine lv_iconst (v := 0) hx hb dX7_undoing_2 (by decide) ?_
  refine lv_istore_n (lv' := [(2, .int 0), (1, .int 0), (0, .ref h0)]) hx hb dX7_undoing_3 rfl hl (by decide) rfl (fun ls hl => ?_)
  exact w_X7_undoing_4 C  2000000 _ _ _ _ _ hf hP hD hS (lv_sub hl [2, 1, 0] rfl)
/-! MarbleFloor$Shortest.pass(II)I -/
abbrev wlX7_pass : List Cond := Cond.code yX7_pass cX7_pass 6 (some .int) :: tbG
abbrev rmX7_pass : Room := { frames := 0, cells := 0, slots := 0, locals := 0 }
theorem qnX7_pass : yX7_pass.cls ≠ "java/lang/invoke/MethodHandle" ∧ yX7_pass.cls ≠ "java/lang/invoke/VarHandle" ∧ (parseMethodDescriptor yX7_pass.desc).map (fun d => d.parameters.length) = some 2 := by decide +kernel
def f_X7_pass_40   (x0 : Int32) (x1 : Int32) (x2 : Int32) : Option (Int32) := if 64 ≤ x0 then (some ((x1 ^^^ ((((x1 >>> ((((x0 - 64) >>> (5 &&& 31)) <<< (3 &&& 31)) &&& 31)) ^^^ (x1 >>> ((x0 &&& 24) &&& 31))) &&& x2) <<< ((((x0 - 64) >>> (5 &&& 31)) <<< (3 &&& 31)) &&& 31))) ^^^ ((((x1 >>> ((((x0 - 64) >>> (5 &&& 31)) <<< (3 &&& 31)) &&& 31)) ^^^ (x1 >>> ((x0 &&& 24) &&& 31))) &&& x2) <<< ((x0 &&& 24) &&& 31)))) else (some (x1 ^^^ (x2 <<< ((x0 &&& 24) &&& 31))))
set_option maxRecDepth 100000 in
set_option maxHeartbeats 4000000 in
theorem w_X7_pass_40 {p : Program} {l : Launch} {e : Env} {s : State} {m : MethodId} {args : Array Value} {below : List Frame} {meth : Method} {c : Code} {A : Nat → Prop} {D : va_G} {cs zs : Nat → Nat}   {q : Int32} (C : Cx p s m args meth c A D cs zs cX7_pass 6 (some .int) RX7)  : ∀ (x0 : Int32) (x1 : Int32) (x2 : Int32) (H : Heap) (locs : List Loc) (ls : Array Slot), f_X7_pass_40 x0 x1 x2 = some q → va_P D vwCl (([] : va_W)) H → va_D A (([] : va_W)) → va_S A s.heap H locs → lv_has ls 6 [(0, .int x0), (1, .int x1), (2, .int x2)] → W p l e rmX7_pass s m args below meth c H locs 0 0 (MQ below (Qi D cs A q (([] : va_W))) args s 0 0 A) (F0 m 40 ls []) := by
  obtain ⟨hx, hb, hr, hml, hown, hts, hK, hA, hlocks, hZ⟩ := id C
  intro x0 x1 x2 H locs ls hf hP hD hS hl
  rw [f_X7_pass_40] at hf
  refine lv_iload_n hx hb dX7_pass_40 rfl (lv_at hl 0 rfl) ?_
  refine lv_bipush (v := 64) hx hb dX7_pass_41 (by decide) ?_
  refine lv_icmp_ge (tgt := 55) hx hb dX7_pass_43 (by decide) (fun hc => ?_) (fun hc => ?_)
  · have hf := ite_t hf hc
    refine lv_iload_n hx hb dX7_pass_55 rfl (lv_at hl 0 rfl) ?_
    refine lv_bipush (v := 64) hx hb dX7_pass_56 (by decide) ?_
    refine lv_isub hx hb dX7_pass_58 ?_
    refine lv_iconst (v := 5) hx hb dX7_pass_59 (by decide) ?_
    refine lv_ishr hx hb dX7_pass_60 ?_
    refine lv_iconst (v := 3) hx hb dX7_pass_61 (by decide) ?_
    refine lv_ishl hx hb dX7_pass_62 ?_
    refine lv_istore_n (lv' := [(3, .int (((x0 - 64) >>> (5 &&& 31)) <<< (3 &&& 31))), (0, .int x0), (1, .int x1), (2, .int x2)]) hx hb dX7_pass_63 rfl hl (by decide) rfl (fun ls hl => ?_)
    refine lv_iload_n hx hb dX7_pass_64 rfl (lv_at hl 1 rfl) ?_
    refine lv_bipush (v := 24) hx hb dX7_pass_65 (by decide) ?_
    refine lv_iand hx hb dX7_pass_67 ?_
    refine lv_istore (lv' := [(4, .int (x0 &&& 24)), (3, .int (((x0 - 64) >>> (5 &&& 31)) <<< (3 &&& 31))), (0, .int x0), (1, .int x1), (2, .int x2)]) hx hb dX7_pass_68 hl (by decide) rfl (fun ls hl => ?_)
    refine lv_iload_n hx hb dX7_pass_70 rfl (lv_at hl 3 rfl) ?_
    refine lv_iload_n hx hb dX7_pass_71 rfl (lv_at hl 1 rfl) ?_
    refine lv_ishr hx hb dX7_pass_72 ?_
    refine lv_iload_n hx hb dX7_pass_73 rfl (lv_at hl 3 rfl) ?_
    refine lv_iload hx hb dX7_pass_74 (lv_at hl 0 rfl) ?_
    refine lv_ishr hx hb dX7_pass_76 ?_
    refine lv_ixor hx hb dX7_pass_77 ?_
    refine lv_iload_n hx hb dX7_pass_78 rfl (lv_at hl 4 rfl) ?_
    refine lv_iand hx hb dX7_pass_79 ?_
    refine lv_istore (lv' := [(5, .int (((x1 >>> ((((x0 - 64) >>> (5 &&& 31)) <<< (3 &&& 31)) &&& 31)) ^^^ (x1 >>> ((x0 &&& 24) &&& 31))) &&& x2)), (4, .int (x0 &&& 24)), (3, .int (((x0 - 64) >>> (5 &&& 31)) <<< (3 &&& 31))), (0, .int x0), (1, .int x1), (2, .int x2)]) hx hb dX7_pass_80 hl (by decide) rfl (fun ls hl => ?_)
    refine lv_iload_n hx hb dX7_pass_82 rfl (lv_at hl 4 rfl) ?_
    refine lv_iload hx hb dX7_pass_83 (lv_at hl 0 rfl) ?_
    refine lv_iload_n hx hb dX7_pass_85 rfl (lv_at hl 2 rfl) ?_
    refine lv_ishl hx hb dX7_pass_86 ?_
    refine lv_ixor hx hb dX7_pass_87 ?_
    refine lv_iload hx hb dX7_pass_88 (lv_at hl 0 rfl) ?_
    refine lv_iload hx hb dX7_pass_90 (lv_at hl 1 rfl) ?_
    refine lv_ishl hx hb dX7_pass_92 ?_
    refine lv_ixor hx hb dX7_pass_93 ?_
    obtain rfl := Option.some.inj hf
    exact k_iret hx hb hr hlocks hK hP hD hS dX7_pass_94
  · have hf := ite_f hf hc
    refine lv_iload_n hx hb dX7_pass_46 rfl (lv_at hl 1 rfl) ?_
    refine lv_iload_n hx hb dX7_pass_47 rfl (lv_at hl 2 rfl) ?_
    refine lv_iload_n hx hb dX7_pass_48 rfl (lv_at hl 0 rfl) ?_
    refine lv_bipush (v := 24) hx hb dX7_pass_49 (by decide) ?_
    refine lv_iand hx hb dX7_pass_51 ?_
    refine lv_ishl hx hb dX7_pass_52 ?_
    refine lv_ixor hx hb dX7_pass_53 ?_
    obtain rfl := Option.some.inj hf
    exact k_iret hx hb hr hlocks hK hP hD hS dX7_pass_54
def f_X7_pass_27   (x0 : Int32) (x1 : Int32) (x2 : Int32) : Option (Int32) := if (x0 &&& 4) = 0 then (f_X7_pass_40 x0 x1 x2) else (f_X7_pass_40 x0 x1 (x2 &&& (x1 >>> (16 &&& 31))))
set_option maxRecDepth 100000 in
set_option maxHeartbeats 4000000 in
theorem w_X7_pass_27 {p : Program} {l : Launch} {e : Env} {s : State} {m : MethodId} {args : Array Value} {below : List Frame} {meth : Method} {c : Code} {A : Nat → Prop} {D : va_G} {cs zs : Nat → Nat}   {q : Int32} (C : Cx p s m args meth c A D cs zs cX7_pass 6 (some .int) RX7)  : ∀ (x0 : Int32) (x1 : Int32) (x2 : Int32) (H : Heap) (locs : List Loc) (ls : Array Slot), f_X7_pass_27 x0 x1 x2 = some q → va_P D vwCl (([] : va_W)) H → va_D A (([] : va_W)) → va_S A s.heap H locs → lv_has ls 6 [(0, .int x0), (1, .int x1), (2, .int x2)] → W p l e rmX7_pass s m args below meth c H locs 0 0 (MQ below (Qi D cs A q (([] : va_W))) args s 0 0 A) (F0 m 27 ls []) := by
  obtain ⟨hx, hb, hr, hml, hown, hts, hK, hA, hlocks, hZ⟩ := id C
  intro x0 x1 x2 H locs ls hf hP hD hS hl
  rw [f_X7_pass_27] at hf
  refine lv_iload_n hx hb dX7_pass_27 rfl (lv_at hl 0 rfl) ?_
  refine lv_iconst (v := 4) hx hb dX7_pass_28 (by decide) ?_
  refine lv_iand hx hb dX7_pass_29 ?_
  refine lv_if_eq (tgt := 40) hx hb dX7_pass_30 (by decide) (fun hc => ?_) (fun hc => ?_)
  · have hf := ite_t hf hc
    exact w_X7_pass_40 C  _ _ _ _ _ _ hf hP hD hS (lv_sub hl [0, 1, 2] rfl)
  · have hf := ite_f hf hc
    refine lv_iload_n hx hb dX7_pass_33 rfl (lv_at hl 2 rfl) ?_
    refine lv_iload_n hx hb dX7_pass_34 rfl (lv_at hl 1 rfl) ?_
    refine lv_bipush (v := 16) hx hb dX7_pass_35 (by decide) ?_
    refine lv_ishr hx hb dX7_pass_37 ?_
    refine lv_iand hx hb dX7_pass_38 ?_
    refine lv_istore_n (lv' := [(2, .int (x2 &&& (x1 >>> (16 &&& 31)))), (0, .int x0), (1, .int x1)]) hx hb dX7_pass_39 rfl hl (by decide) rfl (fun ls hl => ?_)
    exact w_X7_pass_40 C  _ _ _ _ _ _ hf hP hD hS (lv_sub hl [1, 2, 0] rfl)
def f_X7_pass_14   (x0 : Int32) (x1 : Int32) (x2 : Int32) : Option (Int32) := if (x0 &&& 2) = 0 then (f_X7_pass_27 x0 x1 x2) else (f_X7_pass_27 x0 x1 (x2 &&& (x1 >>> (8 &&& 31))))
set_option maxRecDepth 100000 in
set_option maxHeartbeats 4000000 in
theorem w_X7_pass_14 {p : Program} {l : Launch} {e : Env} {s : State} {m : MethodId} {args : Array Value} {below : List Frame} {meth : Method} {c : Code} {A : Nat → Prop} {D : va_G} {cs zs : Nat → Nat}   {q : Int32} (C : Cx p s m args meth c A D cs zs cX7_pass 6 (some .int) RX7)  : ∀ (x0 : Int32) (x1 : Int32) (x2 : Int32) (H : Heap) (locs : List Loc) (ls : Array Slot), f_X7_pass_14 x0 x1 x2 = some q → va_P D vwCl (([] : va_W)) H → va_D A (([] : va_W)) → va_S A s.heap H locs → lv_has ls 6 [(0, .int x0), (1, .int x1), (2, .int x2)] → W p l e rmX7_pass s m args below meth c H locs 0 0 (MQ below (Qi D cs A q (([] : va_W))) args s 0 0 A) (F0 m 14 ls []) := by
  obtain ⟨hx, hb, hr, hml, hown, hts, hK, hA, hlocks, hZ⟩ := id C
  intro x0 x1 x2 H locs ls hf hP hD hS hl
  rw [f_X7_pass_14] at hf
  refine lv_iload_n hx hb dX7_pass_14 rfl (lv_at hl 0 rfl) ?_
  refine lv_iconst (v := 2) hx hb dX7_pass_15 (by decide) ?_
  refine lv_iand hx hb dX7_pass_16 ?_
  refine lv_if_eq (tgt := 27) hx hb dX7_pass_17 (by decide) (fun hc => ?_) (fun hc => ?_)
  · have hf := ite_t hf hc
    exact w_X7_pass_27 C  _ _ _ _ _ _ hf hP hD hS (lv_sub hl [0, 1, 2] rfl)
  · have hf := ite_f hf hc
    refine lv_iload_n hx hb dX7_pass_20 rfl (lv_at hl 2 rfl) ?_
    refine lv_iload_n hx hb dX7_pass_21 rfl (lv_at hl 1 rfl) ?_
    refine lv_bipush (v := 8) hx hb dX7_pass_22 (by decide) ?_
    refine lv_ishr hx hb dX7_pass_24 ?_
    refine lv_iand hx hb dX7_pass_25 ?_
    refine lv_istore_n (lv' := [(2, .int (x2 &&& (x1 >>> (8 &&& 31)))), (0, .int x0), (1, .int x1)]) hx hb dX7_pass_26 rfl hl (by decide) rfl (fun ls hl => ?_)
    exact w_X7_pass_27 C  _ _ _ _ _ _ hf hP hD hS (lv_sub hl [1, 2, 0] rfl)
def f_X7_pass   (x0 : Int32) (x1 : Int32) : Option (Int32) := if (x0 &&& 1) = 0 then (f_X7_pass_14 x0 x1 255) else (f_X7_pass_14 x0 x1 (255 &&& x1))
set_option maxRecDepth 100000 in
set_option maxHeartbeats 4000000 in
theorem c_X7_pass {l : Launch} {D : va_G} {cs zs : Nat → Nat}   {x0 : Int32} {x1 : Int32} {q : Int32} (hf : f_X7_pass x0 x1 = some q) : Mi l yX7_pass wlX7_pass rmX7_pass D cs zs [.int x0, .int x1] (([] : va_W)) q (([] : va_W)) := by
  refine Mi.of RX7 (by decide) rfl (Nat.le_of_ble_eq_true rfl) (fun p e s m below meth c A C hP hD hS ls hl => ?_)
  generalize ([.int x0, .int x1] : List Value).toArray = args at C ⊢
  obtain ⟨hx, hb, hr, hml, hown, hts, hK, hA, hlocks, hZ⟩ := id C
  have hl : lv_has ls 6 [(0, .int x0), (1, .int x1)] := hl
  rw [f_X7_pass] at hf
  refine lv_sipush (v := 255) hx hb dX7_pass_0 (by decide) ?_
  refine lv_istore_n (lv' := [(2, .int 255), (0, .int x0), (1, .int x1)]) hx hb dX7_pass_3 rfl hl (by decide) rfl (fun ls hl => ?_)
  refine lv_iload_n hx hb dX7_pass_4 rfl (lv_at hl 1 rfl) ?_
  refine lv_iconst (v := 1) hx hb dX7_pass_5 (by decide) ?_
  refine lv_iand hx hb dX7_pass_6 ?_
  refine lv_if_eq (tgt := 14) hx hb dX7_pass_7 (by decide) (fun hc => ?_) (fun hc => ?_)
  · have hf := ite_t hf hc
    exact w_X7_pass_14 C  _ _ _ _ _ _ hf hP hD hS (lv_sub hl [1, 2, 0] rfl)
  · have hf := ite_f hf hc
    refine lv_iload_n hx hb dX7_pass_10 rfl (lv_at hl 0 rfl) ?_
    refine lv_iload_n hx hb dX7_pass_11 rfl (lv_at hl 2 rfl) ?_
    refine lv_iand hx hb dX7_pass_12 ?_
    refine lv_istore_n (lv' := [(2, .int (255 &&& x1)), (0, .int x0), (1, .int x1)]) hx hb dX7_pass_13 rfl hl (by decide) rfl (fun ls hl => ?_)
    exact w_X7_pass_14 C  _ _ _ _ _ _ hf hP hD hS (lv_sub hl [1, 2, 0] rfl)
/-! MarbleFloor$Shortest.kindOf(I)I -/
abbrev wlX7_kindOf : List Cond := Cond.code yX7_kindOf cX7_kindOf 1 (some .int) :: tbG
abbrev rmX7_kindOf : Room := { frames := 1, cells := 0, slots := 0, locals := 20 }
theorem qnX7_kindOf : yX7_kindOf.cls ≠ "java/lang/invoke/MethodHandle" ∧ yX7_kindOf.cls ≠ "java/lang/invoke/VarHandle" ∧ (parseMethodDescriptor yX7_kindOf.desc).map (fun d => d.parameters.length) = some 1 := by decide +kernel
def f_X7_kindOf_11   (x0 : Int32) (y0 : Int32) : Option (Int32) := bd (f_J6_bitCount_0f7a4 (x0 &&& 7)) (fun q2 => some (y0 + q2))
set_option maxRecDepth 100000 in
set_option maxHeartbeats 4000000 in
theorem w_X7_kindOf_11 {p : Program} {l : Launch} {e : Env} {s : State} {m : MethodId} {args : Array Value} {below : List Frame} {meth : Method} {c : Code} {A : Nat → Prop} {D : va_G} {cs zs : Nat → Nat}   {q : Int32} (C : Cx p s m args meth c A D cs zs cX7_kindOf 1 (some .int) RX7)  : ∀ (x0 : Int32) (y0 : Int32) (H : Heap) (locs : List Loc) (ls : Array Slot), f_X7_kindOf_11 x0 y0 = some q → va_P D vwCl (([] : va_W)) H → va_D A (([] : va_W)) → va_S A s.heap H locs → lv_has ls 1 [(0, .int x0)] → W p l e rmX7_kindOf s m args below meth c H locs 0 0 (MQ below (Qi D cs A q (([] : va_W))) args s 0 0 A) (F0 m 11 ls [.int y0]) := by
  obtain ⟨hx, hb, hr, hml, hown, hts, hK, hA, hlocks, hZ⟩ := id C
  intro x0 y0 H locs ls hf hP hD hS hl
  rw [f_X7_kindOf_11] at hf
  refine lv_iload_n hx hb dX7_kindOf_11 rfl (lv_at hl 0 rfl) ?_
  refine lv_bipush (v := 7) hx hb dX7_kindOf_12 (by decide) ?_
  refine lv_iand hx hb dX7_kindOf_14 ?_
  obtain ⟨q2, hq2, hf⟩ := bd_s hf
  refine k_eSi (As := [.int (x0 &&& 7)]) (rest := [.int y0]) hx hb hml hown hts hK hA hZ hl.1 hP hD hS (c_J6_bitCount_0f7a4  hq2) (gSt mlX7_90 stJ6_bitCount_0f7a4 inJ6 coJ6_bitCount_0f7a4) rfl qnJ6_bitCount_0f7a4 rfl rfl ⟨Nat.le_of_ble_eq_true rfl, Nat.le_of_ble_eq_true rfl⟩ rfl rfl (Nat.le_of_ble_eq_true rfl) ⟨Nat.zero_le _, Nat.zero_le _⟩ dX7_kindOf_15 (fun H locs hP hD hS => ?_)
  refine lv_iadd hx hb dX7_kindOf_18 ?_
  obtain rfl := Option.some.inj hf
  exact k_iret hx hb hr hlocks hK hP hD hS dX7_kindOf_19
def f_X7_kindOf   (x0 : Int32) : Option (Int32) := if 64 ≤ x0 then (f_X7_kindOf_11 x0 3) else (f_X7_kindOf_11 x0 0)
set_option maxRecDepth 100000 in
set_option maxHeartbeats 4000000 in
theorem c_X7_kindOf {l : Launch} {D : va_G} {cs zs : Nat → Nat}   {x0 : Int32} {q : Int32} (hf : f_X7_kindOf x0 = some q) : Mi l yX7_kindOf wlX7_kindOf rmX7_kindOf D cs zs [.int x0] (([] : va_W)) q (([] : va_W)) := by
  refine Mi.of RX7 (by decide) rfl (Nat.le_of_ble_eq_true rfl) (fun p e s m below meth c A C hP hD hS ls hl => ?_)
  generalize ([.int x0] : List Value).toArray = args at C ⊢
  obtain ⟨hx, hb, hr, hml, hown, hts, hK, hA, hlocks, hZ⟩ := id C
  have hl : lv_has ls 1 [(0, .int x0)] := hl
  rw [f_X7_kindOf] at hf
  refine lv_iload_n hx hb dX7_kindOf_0 rfl (lv_at hl 0 rfl) ?_
  refine lv_bipush (v := 64) hx hb dX7_kindOf_1 (by decide) ?_
  refine lv_icmp_ge (tgt := 10) hx hb dX7_kindOf_3 (by decide) (fun hc => ?_) (fun hc => ?_)
  · have hf := ite_t hf hc
    refine lv_iconst (v := 3) hx hb dX7_kindOf_10 (by decide) ?_
    exact w_X7_kindOf_11 C  _ _ _ _ _ hf hP hD hS (lv_sub hl [0] rfl)
  · have hf := ite_f hf hc
    refine lv_iconst (v := 0) hx hb dX7_kindOf_6 (by decide) ?_
    refine lv_goto (tgt := 11) hx hb dX7_kindOf_7 (by decide) ?_
    exact w_X7_kindOf_11 C  _ _ _ _ _ hf hP hD hS (lv_sub hl [0] rfl)
/-! MarbleFloor$Shortest.slotOf(I)I -/
abbrev wlX7_slotOf : List Cond := Cond.code yX7_slotOf cX7_slotOf 4 (some .int) :: tbG
abbrev rmX7_slotOf : Room := { frames := 0, cells := 0, slots := 0, locals := 0 }
theorem qnX7_slotOf : yX7_slotOf.cls = RX7 ∧ yX7_slotOf.cls ≠ "java/lang/invoke/MethodHandle" ∧ yX7_slotOf.cls ≠ "java/lang/invoke/VarHandle" ∧ (parseMethodDescriptor yX7_slotOf.desc).map (fun d => d.parameters.length) = some 1 := by decide +kernel
def f_X7_slotOf_10 (i0 : Nat → Int32) (r0 : Nat → Nat → Int32) (u0 : Nat → Nat)  : Nat → Int32 → Int32 → Int32 → Option (Int32)
  | 0, _, _, _ => none
  | n + 1, x1, x2, x3 => if 32768 ≤ x3 then (some (x2)) else (ck (inb x2 (u0 4)) (if (r0 4 x2.toNatClampNeg) = 0 then (some (x2)) else (ck (inb x2 (u0 4)) (if ((r0 4 x2.toNatClampNeg) &&& 16777215) = x1 then (some (x2)) else (f_X7_slotOf_10 i0 r0 u0 n x1 ((x2 + 1) &&& 32767) (x3 + 1))))))
set_option maxRecDepth 100000 in
set_option maxHeartbeats 4000000 in
theorem w_X7_slotOf_10 {p : Program} {l : Launch} {e : Env} {s : State} {m : MethodId} {args : Array Value} {below : List Frame} {meth : Method} {c : Code} {A : Nat → Prop} {D : va_G} {cs zs : Nat → Nat} {h0 : Nat} {a0 : Nat → Nat} {i0 : Nat → Int32} {r0 : Nat → Nat → Int32} {u0 : Nat → Nat} {q : Int32} (C : Cx p s m args meth c A D cs zs cX7_slotOf 4 (some .int) RX7)  : ∀ (n : Nat), ∀ (x1 : Int32) (x2 : Int32) (x3 : Int32) (H : Heap) (locs : List Loc) (ls : Array Slot), f_X7_slotOf_10 i0 r0 u0 n x1 x2 x3 = some q → va_P D vwCl (W7 cs h0 a0 i0 r0 u0) H → va_D A (W7 cs h0 a0 i0 r0 u0) → va_S A s.heap H locs → lv_has ls 4 [(0, .ref h0), (1, .int x1), (2, .int x2), (3, .int x3)] → W p l e rmX7_slotOf s m args below meth c H locs 0 0 (MQ below (Qi D cs A q (W7 cs h0 a0 i0 r0 u0)) args s 0 0 A) (F0 m 10 ls []) := by
  obtain ⟨hx, hb, hr, hml, hown, hts, hK, hA, hlocks, hZ⟩ := id C
  intro n
  induction n with
  | zero =>
    intro x1 x2 x3 H locs ls hf
    rw [f_X7_slotOf_10] at hf
    cases hf
  | succ n ih =>
    intro x1 x2 x3 H locs ls hf hP hD hS hl
    rw [f_X7_slotOf_10] at hf
    refine lv_iload_n hx hb dX7_slotOf_10 rfl (lv_at hl 3 rfl) ?_
    refine lv_ldc (v := 32768) hx hb hown (hts _ kcX7_95) dX7_slotOf_11 ?_
    refine lv_icmp_ge (tgt := 52) hx hb dX7_slotOf_13 (by decide) (fun hc => ?_) (fun hc => ?_)
    · have hf := ite_t hf hc
      refine lv_iload_n hx hb dX7_slotOf_52 rfl (lv_at hl 2 rfl) ?_
      obtain rfl := Option.some.inj hf
      exact k_iret hx hb hr hlocks hK hP hD hS dX7_slotOf_53
    · have hf := ite_f hf hc
      refine lv_aload_n hx hb dX7_slotOf_16 rfl (lv_at hl 0 rfl) ?_
      refine va_get (D := D) (ci := 7) (v := .ref (a0 4)) (C := RX7) (T := TX7) (N := 13) hx hb hts hiX7 hown hK hP 0 rfl rfl 4 (by decide) (hts _ flX7_27) (fun _ h9 => h9) rfl dX7_slotOf_17 ?_
      refine lv_iload_n hx hb dX7_slotOf_20 rfl (lv_at hl 2 rfl) ?_
      refine va_iald (f := r0 4) hx hb hK hP 5 0 rfl rfl (ck_in hf) dX7_slotOf_21 ?_
      have hf := ck_2 hf
      refine lv_if_eq (tgt := 52) hx hb dX7_slotOf_22 (by decide) (fun hc => ?_) (fun hc => ?_)
      · have hf := ite_t hf hc
        refine lv_iload_n hx hb dX7_slotOf_52 rfl (lv_at hl 2 rfl) ?_
        obtain rfl := Option.some.inj hf
        exact k_iret hx hb hr hlocks hK hP hD hS dX7_slotOf_53
      · have hf := ite_f hf hc
        refine lv_aload_n hx hb dX7_slotOf_25 rfl (lv_at hl 0 rfl) ?_
        refine va_get (D := D) (ci := 7) (v := .ref (a0 4)) (C := RX7) (T := TX7) (N := 13) hx hb hts hiX7 hown hK hP 0 rfl rfl 4 (by decide) (hts _ flX7_27) (fun _ h9 => h9) rfl dX7_slotOf_26 ?_
        refine lv_iload_n hx hb dX7_slotOf_29 rfl (lv_at hl 2 rfl) ?_
        refine va_iald (f := r0 4) hx hb hK hP 5 0 rfl rfl (ck_in hf) dX7_slotOf_30 ?_
        have hf := ck_2 hf
        refine lv_ldc (v := 16777215) hx hb hown (hts _ kcX7_126) dX7_slotOf_31 ?_
        refine lv_iand hx hb dX7_slotOf_33 ?_
        refine lv_iload_n hx hb dX7_slotOf_34 rfl (lv_at hl 1 rfl) ?_
        refine lv_icmp_eq (tgt := 52) hx hb dX7_slotOf_35 (by decide) (fun hc => ?_) (fun hc => ?_)
        · have hf := ite_t hf hc
          refine lv_iload_n hx hb dX7_slotOf_52 rfl (lv_at hl 2 rfl) ?_
          obtain rfl := Option.some.inj hf
          exact k_iret hx hb hr hlocks hK hP hD hS dX7_slotOf_53
        · have hf := ite_f hf hc
          refine lv_iload_n hx hb dX7_slotOf_38 rfl (lv_at hl 2 rfl) ?_
          refine lv_iconst (v := 1) hx hb dX7_slotOf_39 (by decide) ?_
          refine lv_iadd hx hb dX7_slotOf_40 ?_
          refine lv_sipush (v := 32767) hx hb dX7_slotOf_41 (by decide) ?_
          refine lv_iand hx hb dX7_slotOf_44 ?_
          refine lv_istore_n (lv' := [(2, .int ((x2 + 1) &&& 32767)), (0, .ref h0), (1, .int x1), (3, .int x3)]) hx hb dX7_slotOf_45 rfl hl (by decide) rfl (fun ls hl => ?_)
          refine lv_iinc (v := x3 + 1) (lv' := [(3, .int (x3 + 1)), (2, .int ((x2 + 1) &&& 32767)), (0, .ref h0), (1, .int x1)]) hx hb dX7_slotOf_46 hl (k := 3) rfl rfl (by decide) rfl (fun ls hl => ?_)
          refine lv_goto (tgt := 10) hx hb dX7_slotOf_49 (by decide) ?_
          exact ih _ _ _ _ _ _ hf hP hD hS (lv_sub hl [2, 3, 1, 0] rfl)
def f_X7_slotOf  (i0 : Nat → Int32) (r0 : Nat → Nat → Int32) (u0 : Nat → Nat) (x1 : Int32) : Option (Int32) := f_X7_slotOf_10 i0 r0 u0 2000000 x1 (((x1 * (-1640531535)).toUInt32 >>> ((17 : Int32).toUInt32 &&& Int32.toUInt32 31)).toInt32) 0
set_option maxRecDepth 100000 in
set_option maxHeartbeats 4000000 in
theorem c_X7_slotOf {l : Launch} {D : va_G} {cs zs : Nat → Nat} {h0 : Nat} {a0 : Nat → Nat} {i0 : Nat → Int32} {r0 : Nat → Nat → Int32} {u0 : Nat → Nat} {x1 : Int32} {q : Int32} (hf : f_X7_slotOf i0 r0 u0 x1 = some q) : Mi l yX7_slotOf wlX7_slotOf rmX7_slotOf D cs zs [.ref h0, .int x1] (W7 cs h0 a0 i0 r0 u0) q (W7 cs h0 a0 i0 r0 u0) := by
  refine Mi.of RX7 (by decide) rfl (Nat.le_of_ble_eq_true rfl) (fun p e s m below meth c A C hP hD hS ls hl => ?_)
  generalize ([.ref h0, .int x1] : List Value).toArray = args at C ⊢
  obtain ⟨hx, hb, hr, hml, hown, hts, hK, hA, hlocks, hZ⟩ := id C
  have hl : lv_has ls 4 [(0, .ref h0), (1, .int x1)] := hl
  rw [f_X7_slotOf] at hf
  refine lv_iload_n hx hb dX7_slotOf_0 rfl (lv_at hl 1 rfl) ?_
  refine lv_ldc (v := (-1640531535)) hx hb hown (hts _ kcX7_125) dX7_slotOf_1 ?_
  refine lv_imul hx hb dX7_slotOf_3 ?_
  refine lv_bipush (v := 17) hx hb dX7_slotOf_4 (by decide) ?_
  refine lv_iushr hx hb dX7_slotOf_6 rfl ?_
  refine lv_istore_n (lv' := [(2, .int (((x1 * (-1640531535)).toUInt32 >>> ((17 : Int32).toUInt32 &&& Int32.toUInt32 31)).toInt32)), (0, .ref h0), (1, .int x1)]) hx hb dX7_slotOf_7 rfl hl (by decide) rfl (fun ls hl => ?_)
  refine lv_iconst (v := 0) hx hb dX7_slotOf_8 (by decide) ?_
  refine lv_istore_n (lv' := [(3, .int 0), (2, .int (((x1 * (-1640531535)).toUInt32 >>> ((17 : Int32).toUInt32 &&& Int32.toUInt32 31)).toInt32)), (0, .ref h0), (1, .int x1)]) hx hb dX7_slotOf_9 rfl hl (by decide) rfl (fun ls hl => ?_)
  exact w_X7_slotOf_10 C  2000000 _ _ _ _ _ _ hf hP hD hS (lv_sub hl [2, 3, 1, 0] rfl)
/-! MarbleFloor$Shortest.keep(I)V -/
abbrev wlX7_keep : List Cond := Cond.code yX7_keep cX7_keep 3 none :: tbG
abbrev rmX7_keep : Room := { frames := 1, cells := 0, slots := 0, locals := 23 }
theorem qnX7_keep : yX7_keep.cls = RX7 ∧ yX7_keep.cls ≠ "java/lang/invoke/MethodHandle" ∧ yX7_keep.cls ≠ "java/lang/invoke/VarHandle" ∧ (parseMethodDescriptor yX7_keep.desc).map (fun d => d.parameters.length) = some 1 := by decide +kernel
def f_X7_keep_52 (u0 : Nat → Nat)  (i0 : Nat → Int32) (r0 : Nat → Nat → Int32) : Option ((Nat → Int32) × (Nat → Nat → Int32)) := some ((upd i0 8 ((i0 8) + 1)), r0)
set_option maxRecDepth 100000 in
set_option maxHeartbeats 4000000 in
theorem w_X7_keep_52 {p : Program} {l : Launch} {e : Env} {s : State} {m : MethodId} {args : Array Value} {below : List Frame} {meth : Method} {c : Code} {A : Nat → Prop} {D : va_G} {cs zs : Nat → Nat} {h0 : Nat} {a0 : Nat → Nat} {u0 : Nat → Nat} {q : (Nat → Int32) × (Nat → Nat → Int32)} (C : Cx p s m args meth c A D cs zs cX7_keep 3 none RX7)  : ∀ (i0 : Nat → Int32) (r0 : Nat → Nat → Int32) (H : Heap) (locs : List Loc) (ls : Array Slot), f_X7_keep_52 u0 i0 r0 = some q → va_P D vwCl (W7 cs h0 a0 i0 r0 u0) H → va_D A (W7 cs h0 a0 i0 r0 u0) → va_S A s.heap H locs → lv_has ls 3 [(0, .ref h0)] → W p l e rmX7_keep s m args below meth c H locs 0 0 (MQ below (Qv D cs A (W7 cs h0 a0 q.1 q.2 u0)) args s 0 0 A) (F0 m 52 ls []) := by
  obtain ⟨hx, hb, hr, hml, hown, hts, hK, hA, hlocks, hZ⟩ := id C
  intro i0 r0 H locs ls hf hP hD hS hl
  rw [f_X7_keep_52] at hf
  refine lv_aload_n hx hb dX7_keep_52 rfl (lv_at hl 0 rfl) ?_
  refine lv_dup hx hb dX7_keep_53 rfl ?_
  refine va_get (D := D) (ci := 7) (v := .int (i0 8)) (C := RX7) (T := TX7) (N := 13) hx hb hts hiX7 hown hK hP 0 rfl rfl 8 (by decide) (hts _ flX7_56) (fun _ h9 => h9) rfl dX7_keep_54 ?_
  refine lv_iconst (v := 1) hx hb dX7_keep_57 (by decide) ?_
  refine lv_iadd hx hb dX7_keep_58 ?_
  refine va_put (D := D) (ci := 7) (v := .int ((i0 8) + 1)) (ty := .int) (C := RX7) (T := TX7) (N := 13) hx hb hts hiX7 tyX7 tyX7_ok nmX7 hown hK hP hD hS 0 rfl rfl 8 (by decide) (hts _ flX7_56) (fun _ h9 => h9) rfl (tyX7_ok 8 (by decide)) rfl rfl (Nat.le_of_ble_eq_true rfl) dX7_keep_59 (fun H locs hP hD hS => ?_)
  obtain ⟨hP, hD⟩ := st7_8 hP hD
  obtain rfl := Option.some.inj hf
  exact k_vret hx hb hr hlocks hK hP hD hS dX7_keep_62
def f_X7_keep  (i0 : Nat → Int32) (r0 : Nat → Nat → Int32) (u0 : Nat → Nat) (x1 : Int32) : Option ((Nat → Int32) × (Nat → Nat → Int32)) := bd (f_X7_slotOf i0 r0 u0 x1) (fun q2 => ck (inb q2 (u0 4)) (if (r0 4 q2.toNatClampNeg) = 0 then (if (Int32.ofNat (u0 5)) ≤ (i0 8) then (some (i0, r0)) else (ck (inb q2 (u0 4)) (ck (inb (i0 8) (u0 5)) (f_X7_keep_52 u0 i0 (va_up (va_up r0 4 (upd (r0 4) q2.toNatClampNeg (((i0 10) <<< (24 &&& 31)) ||| x1))) 5 (upd (r0 5) (i0 8).toNatClampNeg x1)))))) else (some (i0, r0))))
set_option maxRecDepth 100000 in
set_option maxHeartbeats 4000000 in
theorem c_X7_keep {l : Launch} {D : va_G} {cs zs : Nat → Nat} {h0 : Nat} {a0 : Nat → Nat} {i0 : Nat → Int32} {r0 : Nat → Nat → Int32} {u0 : Nat → Nat} {x1 : Int32} {q : (Nat → Int32) × (Nat → Nat → Int32)} (hf : f_X7_keep i0 r0 u0 x1 = some q) : Mv l yX7_keep wlX7_keep rmX7_keep D cs zs [.ref h0, .int x1] (W7 cs h0 a0 i0 r0 u0) (W7 cs h0 a0 q.1 q.2 u0) := by
  refine Mv.of RX7 (by decide) rfl (Nat.le_of_ble_eq_true rfl) (fun p e s m below meth c A C hP hD hS ls hl => ?_)
  generalize ([.ref h0, .int x1] : List Value).toArray = args at C ⊢
  obtain ⟨hx, hb, hr, hml, hown, hts, hK, hA, hlocks, hZ⟩ := id C
  have hl : lv_has ls 3 [(0, .ref h0), (1, .int x1)] := hl
  rw [f_X7_keep] at hf
  refine lv_aload_n hx hb dX7_keep_0 rfl (lv_at hl 0 rfl) ?_
  refine lv_iload_n hx hb dX7_keep_1 rfl (lv_at hl 1 rfl) ?_
  obtain ⟨q2, hq2, hf⟩ := bd_s hf
  refine k_sVi (ws2 := W7 cs h0 a0 i0 r0 u0) (As := [.int x1]) (rest := []) hx hb hml hown hts hK hA hZ hl.1 hP hD hS (c_X7_slotOf (h0 := h0) (a0 := a0) hq2) (gVt mlX7_122 imX7_slotOf seX7_slotOf inX7 coX7_slotOf) rfl qnX7_slotOf rfl rfl ⟨Nat.le_of_ble_eq_true rfl, Nat.le_of_ble_eq_true rfl⟩ 0 7 rfl rfl rfl rfl rfl (Nat.le_of_ble_eq_true rfl) ⟨Nat.zero_le _, Nat.zero_le _⟩ dX7_keep_2 (fun H locs hP hD hS => ?_)
  refine lv_istore_n (lv' := [(2, .int q2), (0, .ref h0), (1, .int x1)]) hx hb dX7_keep_5 rfl hl (by decide) rfl (fun ls hl => ?_)
  refine lv_aload_n hx hb dX7_keep_6 rfl (lv_at hl 1 rfl) ?_
  refine va_get (D := D) (ci := 7) (v := .ref (a0 4)) (C := RX7) (T := TX7) (N := 13) hx hb hts hiX7 hown hK hP 0 rfl rfl 4 (by decide) (hts _ flX7_27) (fun _ h9 => h9) rfl dX7_keep_7 ?_
  refine lv_iload_n hx hb dX7_keep_10 rfl (lv_at hl 0 rfl) ?_
  refine va_iald (f := r0 4) hx hb hK hP 5 0 rfl rfl (ck_in hf) dX7_keep_11 ?_
  have hf := ck_2 hf
  refine lv_if_ne (tgt := 62) hx hb dX7_keep_12 (by decide) (fun hc => ?_) (fun hc => ?_)
  · have hf := ite_f hf hc
    obtain rfl := Option.some.inj hf
    exact k_vret hx hb hr hlocks hK hP hD hS dX7_keep_62
  · have hf := ite_t hf hc
    refine lv_aload_n hx hb dX7_keep_15 rfl (lv_at hl 1 rfl) ?_
    refine va_get (D := D) (ci := 7) (v := .int (i0 8)) (C := RX7) (T := TX7) (N := 13) hx hb hts hiX7 hown hK hP 0 rfl rfl 8 (by decide) (hts _ flX7_56) (fun _ h9 => h9) rfl dX7_keep_16 ?_
    refine lv_aload_n hx hb dX7_keep_19 rfl (lv_at hl 1 rfl) ?_
    refine va_get (D := D) (ci := 7) (v := .ref (a0 5)) (C := RX7) (T := TX7) (N := 13) hx hb hts hiX7 hown hK hP 0 rfl rfl 5 (by decide) (hts _ flX7_30) (fun _ h9 => h9) rfl dX7_keep_20 ?_
    refine va_alen (v := Int32.ofNat (u0 5)) hx hb hK hP 6 0 rfl rfl rfl dX7_keep_23 ?_
    refine lv_icmp_ge (tgt := 62) hx hb dX7_keep_24 (by decide) (fun hc => ?_) (fun hc => ?_)
    · have hf := ite_t hf hc
      obtain rfl := Option.some.inj hf
      exact k_vret hx hb hr hlocks hK hP hD hS dX7_keep_62
    · have hf := ite_f hf hc
      refine lv_aload_n hx hb dX7_keep_27 rfl (lv_at hl 1 rfl) ?_
      refine va_get (D := D) (ci := 7) (v := .ref (a0 4)) (C := RX7) (T := TX7) (N := 13) hx hb hts hiX7 hown hK hP 0 rfl rfl 4 (by decide) (hts _ flX7_27) (fun _ h9 => h9) rfl dX7_keep_28 ?_
      refine lv_iload_n hx hb dX7_keep_31 rfl (lv_at hl 0 rfl) ?_
      refine lv_aload_n hx hb dX7_keep_32 rfl (lv_at hl 1 rfl) ?_
      refine va_get (D := D) (ci := 7) (v := .int (i0 10)) (C := RX7) (T := TX7) (N := 13) hx hb hts hiX7 hown hK hP 0 rfl rfl 10 (by decide) (hts _ flX7_111) (fun _ h9 => h9) rfl dX7_keep_33 ?_
      refine lv_bipush (v := 24) hx hb dX7_keep_36 (by decide) ?_
      refine lv_ishl hx hb dX7_keep_38 ?_
      refine lv_iload_n hx hb dX7_keep_39 rfl (lv_at hl 2 rfl) ?_
      refine lv_ior hx hb dX7_keep_40 ?_
      refine va_iast (f := r0 4) hx hb hK hP hD hS 5 0 rfl rfl (ck_in hf) dX7_keep_41 (fun H locs hP hD hS => ?_)
      have hf := ck_2 hf
      obtain ⟨hP, hD⟩ := st7_4 hP hD
      refine lv_aload_n hx hb dX7_keep_42 rfl (lv_at hl 1 rfl) ?_
      refine va_get (D := D) (ci := 7) (v := .ref (a0 5)) (C := RX7) (T := TX7) (N := 13) hx hb hts hiX7 hown hK hP 0 rfl rfl 5 (by decide) (hts _ flX7_30) (fun _ h9 => h9) rfl dX7_keep_43 ?_
      refine lv_aload_n hx hb dX7_keep_46 rfl (lv_at hl 1 rfl) ?_
      refine va_get (D := D) (ci := 7) (v := .int (i0 8)) (C := RX7) (T := TX7) (N := 13) hx hb hts hiX7 hown hK hP 0 rfl rfl 8 (by decide) (hts _ flX7_56) (fun _ h9 => h9) rfl dX7_keep_47 ?_
      refine lv_iload_n hx hb dX7_keep_50 rfl (lv_at hl 2 rfl) ?_
      refine va_iast (f := r0 5) hx hb hK hP hD hS 6 0 rfl rfl (ck_in hf) dX7_keep_51 (fun H locs hP hD hS => ?_)
      have hf := ck_2 hf
      obtain ⟨hP, hD⟩ := st7_5 hP hD
      exact w_X7_keep_52 C  _ _ _ _ _ hf hP hD hS (lv_sub hl [1] rfl)
/-! MarbleFloor$Shortest.growNear()V -/
abbrev wlX7_growNear : List Cond := Cond.code yX7_growNear cX7_growNear 5 none :: tbG
abbrev rmX7_growNear : Room := { frames := 2, cells := 0, slots := 0, locals := 45 }
theorem qnX7_growNear : yX7_growNear.cls = RX7 ∧ yX7_growNear.cls ≠ "java/lang/invoke/MethodHandle" ∧ yX7_growNear.cls ≠ "java/lang/invoke/VarHandle" ∧ (parseMethodDescriptor yX7_growNear.desc).map (fun d => d.parameters.length) = some 0 := by decide +kernel
def f_X7_growNear_38 (u0 : Nat → Nat) (K30 : (Nat → Int32) → (Nat → Nat → Int32) → Int32 → Int32 → Option ((Nat → Int32) × (Nat → Nat → Int32))) : Nat → (Nat → Int32) → (Nat → Nat → Int32) → Int32 → Int32 → Int32 → Option ((Nat → Int32) × (Nat → Nat → Int32))
  | 0, _, _, _, _, _ => none
  | n + 1, i0, r0, x2, x3, x4 => if (i0 6) ≤ x4 then (K30 i0 r0 x2 (x3 + 1)) else (ck (inb x4 18) (ck (inb x3 (u0 5)) (bd (f_X7_pass (r0 0 x4.toNatClampNeg) (r0 5 x3.toNatClampNeg)) (fun q3 => bd (f_X7_keep i0 r0 u0 q3) (fun q4 => f_X7_growNear_38 u0 K30 n q4.1 q4.2 x2 x3 (x4 + 1))))))
set_option maxRecDepth 100000 in
set_option maxHeartbeats 4000000 in
theorem w_X7_growNear_38 {p : Program} {l : Launch} {e : Env} {s : State} {m : MethodId} {args : Array Value} {below : List Frame} {meth : Method} {c : Code} {A : Nat → Prop} {D : va_G} {cs zs : Nat → Nat} {h0 : Nat} {a0 : Nat → Nat} {u0 : Nat → Nat} {q : (Nat → Int32) × (Nat → Nat → Int32)} (C : Cx p s m args meth c A D cs zs cX7_growNear 5 none RX7) (K30 : (Nat → Int32) → (Nat → Nat → Int32) → Int32 → Int32 → Option ((Nat → Int32) × (Nat → Nat → Int32))) (hK30 : ∀ (i0 : Nat → Int32) (r0 : Nat → Nat → Int32) (x2 : Int32) (x3 : Int32) (H : Heap) (locs : List Loc) (ls : Array Slot), K30 i0 r0 x2 x3 = some q → va_P D vwCl (W7 cs h0 a0 i0 r0 u0) H → va_D A (W7 cs h0 a0 i0 r0 u0) → va_S A s.heap H locs → lv_has ls 5 [(0, .ref h0), (2, .int x2), (3, .int x3)] → W p l e rmX7_growNear s m args below meth c H locs 0 0 (MQ below (Qv D cs A (W7 cs h0 a0 q.1 q.2 u0)) args s 0 0 A) (F0 m 30 ls [])) : ∀ (n : Nat), ∀ (i0 : Nat → Int32) (r0 : Nat → Nat → Int32) (x2 : Int32) (x3 : Int32) (x4 : Int32) (H : Heap) (locs : List Loc) (ls : Array Slot), f_X7_growNear_38 u0 K30 n i0 r0 x2 x3 x4 = some q → va_P D vwCl (W7 cs h0 a0 i0 r0 u0) H → va_D A (W7 cs h0 a0 i0 r0 u0) → va_S A s.heap H locs → lv_has ls 5 [(0, .ref h0), (2, .int x2), (3, .int x3), (4, .int x4)] → W p l e rmX7_growNear s m args below meth c H locs 0 0 (MQ below (Qv D cs A (W7 cs h0 a0 q.1 q.2 u0)) args s 0 0 A) (F0 m 38 ls []) := by
  obtain ⟨hx, hb, hr, hml, hown, hts, hK, hA, hlocks, hZ⟩ := id C
  intro n
  induction n with
  | zero =>
    intro i0 r0 x2 x3 x4 H locs ls hf
    rw [f_X7_growNear_38] at hf
    cases hf
  | succ n ih =>
    intro i0 r0 x2 x3 x4 H locs ls hf hP hD hS hl
    rw [f_X7_growNear_38] at hf
    refine lv_iload hx hb dX7_growNear_38 (lv_at hl 3 rfl) ?_
    refine lv_aload_n hx hb dX7_growNear_40 rfl (lv_at hl 0 rfl) ?_
    refine va_get (D := D) (ci := 7) (v := .int (i0 6)) (C := RX7) (T := TX7) (N := 13) hx hb hts hiX7 hown hK hP 0 rfl rfl 6 (by decide) (hts _ flX7_102) (fun _ h9 => h9) rfl dX7_growNear_41 ?_
    refine lv_icmp_ge (tgt := 73) hx hb dX7_growNear_44 (by decide) (fun hc => ?_) (fun hc => ?_)
    · have hf := ite_t hf hc
      refine lv_iinc (v := x3 + 1) (lv' := [(3, .int (x3 + 1)), (0, .ref h0), (2, .int x2), (4, .int x4)]) hx hb dX7_growNear_73 hl (k := 2) rfl rfl (by decide) rfl (fun ls hl => ?_)
      refine lv_goto (tgt := 30) hx hb dX7_growNear_76 (by decide) ?_
      exact hK30 _ _ _ _ _ _ _ hf hP hD hS (lv_sub hl [1, 2, 0] rfl)
    · have hf := ite_f hf hc
      refine lv_aload_n hx hb dX7_growNear_47 rfl (lv_at hl 0 rfl) ?_
      refine lv_aload_n hx hb dX7_growNear_48 rfl (lv_at hl 0 rfl) ?_
      refine va_get (D := D) (ci := 7) (v := .ref (a0 0)) (C := RX7) (T := TX7) (N := 13) hx hb hts hiX7 hown hK hP 0 rfl rfl 0 (by decide) (hts _ flX7_15) (fun _ h9 => h9) rfl dX7_growNear_49 ?_
      refine lv_iload hx hb dX7_growNear_52 (lv_at hl 3 rfl) ?_
      refine va_iald (f := r0 0) hx hb hK hP 1 0 rfl rfl (ck_in hf) dX7_growNear_54 ?_
      have hf := ck_2 hf
      refine lv_aload_n hx hb dX7_growNear_55 rfl (lv_at hl 0 rfl) ?_
      refine va_get (D := D) (ci := 7) (v := .ref (a0 5)) (C := RX7) (T := TX7) (N := 13) hx hb hts hiX7 hown hK hP 0 rfl rfl 5 (by decide) (hts _ flX7_30) (fun _ h9 => h9) rfl dX7_growNear_56 ?_
      refine lv_iload_n hx hb dX7_growNear_59 rfl (lv_at hl 2 rfl) ?_
      refine va_iald (f := r0 5) hx hb hK hP 6 0 rfl rfl (ck_in hf) dX7_growNear_60 ?_
      have hf := ck_2 hf
      obtain ⟨q3, hq3, hf⟩ := bd_s hf
      refine k_eSi (As := [.int (r0 0 x4.toNatClampNeg), .int (r0 5 x3.toNatClampNeg)]) (rest := [.ref h0]) hx hb hml hown hts hK hA hZ hl.1 hP hD hS (c_X7_pass  hq3) (gSt mlX7_118 stX7_pass inX7 coX7_pass) rfl qnX7_pass rfl rfl ⟨Nat.le_of_ble_eq_true rfl, Nat.le_of_ble_eq_true rfl⟩ rfl rfl (Nat.le_of_ble_eq_true rfl) ⟨Nat.zero_le _, Nat.zero_le _⟩ dX7_growNear_61 (fun H locs hP hD hS => ?_)
      obtain ⟨q4, hq4, hf⟩ := bd_s hf
      refine k_sVv (ws2 := W7 cs h0 a0 q4.1 q4.2 u0) (As := [.int q3]) (rest := []) hx hb hml hown hts hK hA hZ hl.1 hP hD hS (c_X7_keep (h0 := h0) (a0 := a0) hq4) (gVt mlX7_115 imX7_keep seX7_keep inX7 coX7_keep) rfl qnX7_keep rfl rfl ⟨Nat.le_of_ble_eq_true rfl, Nat.le_of_ble_eq_true rfl⟩ 0 7 rfl rfl rfl rfl rfl (Nat.le_of_ble_eq_true rfl) ⟨Nat.zero_le _, Nat.zero_le _⟩ dX7_growNear_64 (fun H locs hP hD hS => ?_)
      refine lv_iinc (v := x4 + 1) (lv' := [(4, .int (x4 + 1)), (0, .ref h0), (2, .int x2), (3, .int x3)]) hx hb dX7_growNear_67 hl (k := 3) rfl rfl (by decide) rfl (fun ls hl => ?_)
      refine lv_goto (tgt := 38) hx hb dX7_growNear_70 (by decide) ?_
      exact ih _ _ _ _ _ _ _ _ hf hP hD hS (lv_sub hl [1, 2, 3, 0] rfl)
def f_X7_growNear_30 (u0 : Nat → Nat)  : Nat → (Nat → Int32) → (Nat → Nat → Int32) → Int32 → Int32 → Option ((Nat → Int32) × (Nat → Nat → Int32))
  | 0, _, _, _, _ => none
  | n + 1, i0, r0, x2, x3 => if x2 ≤ x3 then (if (i0 8) = x2 then (some ((upd i0 11 1), r0)) else (some ((upd i0 11 0), r0))) else (f_X7_growNear_38 u0 (f_X7_growNear_30 u0 n) 2000000 i0 r0 x2 x3 0)
set_option maxRecDepth 100000 in
set_option maxHeartbeats 4000000 in
theorem w_X7_growNear_30 {p : Program} {l : Launch} {e : Env} {s : State} {m : MethodId} {args : Array Value} {below : List Frame} {meth : Method} {c : Code} {A : Nat → Prop} {D : va_G} {cs zs : Nat → Nat} {h0 : Nat} {a0 : Nat → Nat} {u0 : Nat → Nat} {q : (Nat → Int32) × (Nat → Nat → Int32)} (C : Cx p s m args meth c A D cs zs cX7_growNear 5 none RX7)  : ∀ (n : Nat), ∀ (i0 : Nat → Int32) (r0 : Nat → Nat → Int32) (x2 : Int32) (x3 : Int32) (H : Heap) (locs : List Loc) (ls : Array Slot), f_X7_growNear_30 u0 n i0 r0 x2 x3 = some q → va_P D vwCl (W7 cs h0 a0 i0 r0 u0) H → va_D A (W7 cs h0 a0 i0 r0 u0) → va_S A s.heap H locs → lv_has ls 5 [(0, .ref h0), (2, .int x2), (3, .int x3)] → W p l e rmX7_growNear s m args below meth c H locs 0 0 (MQ below (Qv D cs A (W7 cs h0 a0 q.1 q.2 u0)) args s 0 0 A) (F0 m 30 ls []) := by
  obtain ⟨hx, hb, hr, hml, hown, hts, hK, hA, hlocks, hZ⟩ := id C
  intro n
  induction n with
  | zero =>
    intro i0 r0 x2 x3 H locs ls hf
    rw [f_X7_growNear_30] at hf
    cases hf
  | succ n ih =>
    intro i0 r0 x2 x3 H locs ls hf hP hD hS hl
    rw [f_X7_growNear_30] at hf
    refine lv_iload_n hx hb dX7_growNear_30 rfl (lv_at hl 2 rfl) ?_
    refine lv_iload_n hx hb dX7_growNear_31 rfl (lv_at hl 1 rfl) ?_
    refine lv_icmp_ge (tgt := 79) hx hb dX7_growNear_32 (by decide) (fun hc => ?_) (fun hc => ?_)
    · have hf := ite_t hf hc
      refine lv_aload_n hx hb dX7_growNear_79 rfl (lv_at hl 0 rfl) ?_
      refine lv_aload_n hx hb dX7_growNear_80 rfl (lv_at hl 0 rfl) ?_
      refine va_get (D := D) (ci := 7) (v := .int (i0 8)) (C := RX7) (T := TX7) (N := 13) hx hb hts hiX7 hown hK hP 0 rfl rfl 8 (by decide) (hts _ flX7_56) (fun _ h9 => h9) rfl dX7_growNear_81 ?_
      refine lv_iload_n hx hb dX7_growNear_84 rfl (lv_at hl 1 rfl) ?_
      refine lv_icmp_ne (tgt := 92) hx hb dX7_growNear_85 (by decide) (fun hc => ?_) (fun hc => ?_)
      · have hf := ite_f hf hc
        refine lv_iconst (v := 0) hx hb dX7_growNear_92 (by decide) ?_
        refine va_put (D := D) (ci := 7) (v := .int 0) (ty := .boolean) (C := RX7) (T := TX7) (N := 13) hx hb hts hiX7 tyX7 tyX7_ok nmX7 hown hK hP hD hS 0 rfl rfl 11 (by decide) (hts _ flX7_52) (fun _ h9 => h9) rfl (tyX7_ok 11 (by decide)) rfl rfl (Nat.le_of_ble_eq_true rfl) dX7_growNear_93 (fun H locs hP hD hS => ?_)
        obtain ⟨hP, hD⟩ := st7_11 hP hD
        obtain rfl := Option.some.inj hf
        exact k_vret hx hb hr hlocks hK hP hD hS dX7_growNear_96
      · have hf := ite_t hf hc
        refine lv_iconst (v := 1) hx hb dX7_growNear_88 (by decide) ?_
        refine lv_goto (tgt := 93) hx hb dX7_growNear_89 (by decide) ?_
        refine va_put (D := D) (ci := 7) (v := .int 1) (ty := .boolean) (C := RX7) (T := TX7) (N := 13) hx hb hts hiX7 tyX7 tyX7_ok nmX7 hown hK hP hD hS 0 rfl rfl 11 (by decide) (hts _ flX7_52) (fun _ h9 => h9) rfl (tyX7_ok 11 (by decide)) rfl rfl (Nat.le_of_ble_eq_true rfl) dX7_growNear_93 (fun H locs hP hD hS => ?_)
        obtain ⟨hP, hD⟩ := st7_11 hP hD
        obtain rfl := Option.some.inj hf
        exact k_vret hx hb hr hlocks hK hP hD hS dX7_growNear_96
    · have hf := ite_f hf hc
      refine lv_iconst (v := 0) hx hb dX7_growNear_35 (by decide) ?_
      refine lv_istore (lv' := [(4, .int 0), (0, .ref h0), (2, .int x2), (3, .int x3)]) hx hb dX7_growNear_36 hl (by decide) rfl (fun ls hl => ?_)
      exact w_X7_growNear_38 C _ (ih) 2000000 _ _ _ _ _ _ _ _ hf hP hD hS (lv_sub hl [1, 2, 3, 0] rfl)
def f_X7_growNear  (i0 : Nat → Int32) (r0 : Nat → Nat → Int32) (u0 : Nat → Nat)  : Option ((Nat → Int32) × (Nat → Nat → Int32)) := f_X7_growNear_30 u0 2000000 (upd (upd i0 9 (i0 8)) 10 ((i0 10) + 1)) r0 (i0 8) (i0 9)
set_option maxRecDepth 100000 in
set_option maxHeartbeats 4000000 in
theorem c_X7_growNear {l : Launch} {D : va_G} {cs zs : Nat → Nat} {h0 : Nat} {a0 : Nat → Nat} {i0 : Nat → Int32} {r0 : Nat → Nat → Int32} {u0 : Nat → Nat}  {q : (Nat → Int32) × (Nat → Nat → Int32)} (hf : f_X7_growNear i0 r0 u0 = some q) : Mv l yX7_growNear wlX7_growNear rmX7_growNear D cs zs [.ref h0] (W7 cs h0 a0 i0 r0 u0) (W7 cs h0 a0 q.1 q.2 u0) := by
  refine Mv.of RX7 (by decide) rfl (Nat.le_of_ble_eq_true rfl) (fun p e s m below meth c A C hP hD hS ls hl => ?_)
  generalize ([.ref h0] : List Value).toArray = args at C ⊢
  obtain ⟨hx, hb, hr, hml, hown, hts, hK, hA, hlocks, hZ⟩ := id C
  have hl : lv_has ls 5 [(0, .ref h0)] := hl
  rw [f_X7_growNear] at hf
  refine lv_aload_n hx hb dX7_growNear_0 rfl (lv_at hl 0 rfl) ?_
  refine va_get (D := D) (ci := 7) (v := .int (i0 9)) (C := RX7) (T := TX7) (N := 13) hx hb hts hiX7 hown hK hP 0 rfl rfl 9 (by decide) (hts _ flX7_108) (fun _ h9 => h9) rfl dX7_growNear_1 ?_
  refine lv_istore_n (lv' := [(1, .int (i0 9)), (0, .ref h0)]) hx hb dX7_growNear_4 rfl hl (by decide) rfl (fun ls hl => ?_)
  refine lv_aload_n hx hb dX7_growNear_5 rfl (lv_at hl 1 rfl) ?_
  refine va_get (D := D) (ci := 7) (v := .int (i0 8)) (C := RX7) (T := TX7) (N := 13) hx hb hts hiX7 hown hK hP 0 rfl rfl 8 (by decide) (hts _ flX7_56) (fun _ h9 => h9) rfl dX7_growNear_6 ?_
  refine lv_istore_n (lv' := [(2, .int (i0 8)), (1, .int (i0 9)), (0, .ref h0)]) hx hb dX7_growNear_9 rfl hl (by decide) rfl (fun ls hl => ?_)
  refine lv_aload_n hx hb dX7_growNear_10 rfl (lv_at hl 2 rfl) ?_
  refine lv_aload_n hx hb dX7_growNear_11 rfl (lv_at hl 2 rfl) ?_
  refine va_get (D := D) (ci := 7) (v := .int (i0 8)) (C := RX7) (T := TX7) (N := 13) hx hb hts hiX7 hown hK hP 0 rfl rfl 8 (by decide) (hts _ flX7_56) (fun _ h9 => h9) rfl dX7_growNear_12 ?_
  refine va_put (D := D) (ci := 7) (v := .int (i0 8)) (ty := .int) (C := RX7) (T := TX7) (N := 13) hx hb hts hiX7 tyX7 tyX7_ok nmX7 hown hK hP hD hS 0 rfl rfl 9 (by decide) (hts _ flX7_108) (fun _ h9 => h9) rfl (tyX7_ok 9 (by decide)) rfl rfl (Nat.le_of_ble_eq_true rfl) dX7_growNear_15 (fun H locs hP hD hS => ?_)
  obtain ⟨hP, hD⟩ := st7_9 hP hD
  refine lv_aload_n hx hb dX7_growNear_18 rfl (lv_at hl 2 rfl) ?_
  refine lv_dup hx hb dX7_growNear_19 rfl ?_
  refine va_get (D := D) (ci := 7) (v := .int (i0 10)) (C := RX7) (T := TX7) (N := 13) hx hb hts hiX7 hown hK hP 0 rfl rfl 10 (by decide) (hts _ flX7_111) (fun _ h9 => h9) rfl dX7_growNear_20 ?_
  refine lv_iconst (v := 1) hx hb dX7_growNear_23 (by decide) ?_
  refine lv_iadd hx hb dX7_growNear_24 ?_
  refine va_put (D := D) (ci := 7) (v := .int ((i0 10) + 1)) (ty := .int) (C := RX7) (T := TX7) (N := 13) hx hb hts hiX7 tyX7 tyX7_ok nmX7 hown hK hP hD hS 0 rfl rfl 10 (by decide) (hts _ flX7_111) (fun _ h9 => h9) rfl (tyX7_ok 10 (by decide)) rfl rfl (Nat.le_of_ble_eq_true rfl) dX7_growNear_25 (fun H locs hP hD hS => ?_)
  obtain ⟨hP, hD⟩ := st7_10 hP hD
  refine lv_iload_n hx hb dX7_growNear_28 rfl (lv_at hl 1 rfl) ?_
  refine lv_istore_n (lv' := [(3, .int (i0 9)), (2, .int (i0 8)), (1, .int (i0 9)), (0, .ref h0)]) hx hb dX7_growNear_29 rfl hl (by decide) rfl (fun ls hl => ?_)
  exact w_X7_growNear_30 C  2000000 _ _ _ _ _ _ _ hf hP hD hS (lv_sub hl [3, 1, 0] rfl)
/-! MarbleFloor$Shortest.distance(I)I -/
abbrev wlX7_distance : List Cond := Cond.code yX7_distance cX7_distance 3 (some .int) :: tbG
abbrev rmX7_distance : Room := { frames := 1, cells := 0, slots := 0, locals := 23 }
theorem qnX7_distance : yX7_distance.cls = RX7 ∧ yX7_distance.cls ≠ "java/lang/invoke/MethodHandle" ∧ yX7_distance.cls ≠ "java/lang/invoke/VarHandle" ∧ (parseMethodDescriptor yX7_distance.desc).map (fun d => d.parameters.length) = some 1 := by decide +kernel
def f_X7_distance  (i0 : Nat → Int32) (r0 : Nat → Nat → Int32) (u0 : Nat → Nat) (x1 : Int32) : Option (Int32) := bd (f_X7_slotOf i0 r0 u0 x1) (fun q2 => ck (inb q2 (u0 4)) (if (r0 4 q2.toNatClampNeg) = 0 then (some ((-1))) else (some ((r0 4 q2.toNatClampNeg) >>> (24 &&& 31)))))
set_option maxRecDepth 100000 in
set_option maxHeartbeats 4000000 in
theorem c_X7_distance {l : Launch} {D : va_G} {cs zs : Nat → Nat} {h0 : Nat} {a0 : Nat → Nat} {i0 : Nat → Int32} {r0 : Nat → Nat → Int32} {u0 : Nat → Nat} {x1 : Int32} {q : Int32} (hf : f_X7_distance i0 r0 u0 x1 = some q) : Mi l yX7_distance wlX7_distance rmX7_distance D cs zs [.ref h0, .int x1] (W7 cs h0 a0 i0 r0 u0) q (W7 cs h0 a0 i0 r0 u0) := by
  refine Mi.of RX7 (by decide) rfl (Nat.le_of_ble_eq_true rfl) (fun p e s m below meth c A C hP hD hS ls hl => ?_)
  generalize ([.ref h0, .int x1] : List Value).toArray = args at C ⊢
  obtain ⟨hx, hb, hr, hml, hown, hts, hK, hA, hlocks, hZ⟩ := id C
  have hl : lv_has ls 3 [(0, .ref h0), (1, .int x1)] := hl
  rw [f_X7_distance] at hf
  refine lv_aload_n hx hb dX7_distance_0 rfl (lv_at hl 0 rfl) ?_
  refine va_get (D := D) (ci := 7) (v := .ref (a0 4)) (C := RX7) (T := TX7) (N := 13) hx hb hts hiX7 hown hK hP 0 rfl rfl 4 (by decide) (hts _ flX7_27) (fun _ h9 => h9) rfl dX7_distance_1 ?_
  refine lv_aload_n hx hb dX7_distance_4 rfl (lv_at hl 0 rfl) ?_
  refine lv_iload_n hx hb dX7_distance_5 rfl (lv_at hl 1 rfl) ?_
  obtain ⟨q2, hq2, hf⟩ := bd_s hf
  refine k_sVi (ws2 := W7 cs h0 a0 i0 r0 u0) (As := [.int x1]) (rest := [.ref (a0 4)]) hx hb hml hown hts hK hA hZ hl.1 hP hD hS (c_X7_slotOf (h0 := h0) (a0 := a0) hq2) (gVt mlX7_122 imX7_slotOf seX7_slotOf inX7 coX7_slotOf) rfl qnX7_slotOf rfl rfl ⟨Nat.le_of_ble_eq_true rfl, Nat.le_of_ble_eq_true rfl⟩ 0 7 rfl rfl rfl rfl rfl (Nat.le_of_ble_eq_true rfl) ⟨Nat.zero_le _, Nat.zero_le _⟩ dX7_distance_6 (fun H locs hP hD hS => ?_)
  refine va_iald (f := r0 4) hx hb hK hP 5 0 rfl rfl (ck_in hf) dX7_distance_9 ?_
  have hf := ck_2 hf
  refine lv_istore_n (lv' := [(2, .int (r0 4 q2.toNatClampNeg)), (0, .ref h0), (1, .int x1)]) hx hb dX7_distance_10 rfl hl (by decide) rfl (fun ls hl => ?_)
  refine lv_iload_n hx hb dX7_distance_11 rfl (lv_at hl 0 rfl) ?_
  refine lv_if_ne (tgt := 19) hx hb dX7_distance_12 (by decide) (fun hc => ?_) (fun hc => ?_)
  · have hf := ite_f hf hc
    refine lv_iload_n hx hb dX7_distance_19 rfl (lv_at hl 0 rfl) ?_
    refine lv_bipush (v := 24) hx hb dX7_distance_20 (by decide) ?_
    refine lv_ishr hx hb dX7_distance_22 ?_
    obtain rfl := Option.some.inj hf
    exact k_iret hx hb hr hlocks hK hP hD hS dX7_distance_23
  · have hf := ite_t hf hc
    refine lv_iconst (v := (-1)) hx hb dX7_distance_15 (by decide) ?_
    refine lv_goto (tgt := 23) hx hb dX7_distance_16 (by decide) ?_
    obtain rfl := Option.some.inj hf
    exact k_iret hx hb hr hlocks hK hP hD hS dX7_distance_23
/-! MarbleFloor$Shortest.stepNearer(I)I -/
abbrev wlX7_stepNearer : List Cond := Cond.code yX7_stepNearer cX7_stepNearer 3 (some .int) :: tbG
abbrev rmX7_stepNearer : Room := { frames := 2, cells := 0, slots := 0, locals := 45 }
theorem qnX7_stepNearer : yX7_stepNearer.cls = RX7 ∧ yX7_stepNearer.cls ≠ "java/lang/invoke/MethodHandle" ∧ yX7_stepNearer.cls ≠ "java/lang/invoke/VarHandle" ∧ (parseMethodDescriptor yX7_stepNearer.desc).map (fun d => d.parameters.length) = some 1 := by decide +kernel
def f_X7_stepNearer_2 (i0 : Nat → Int32) (r0 : Nat → Nat → Int32) (u0 : Nat → Nat)  : Nat → Int32 → Int32 → Option (Int32)
  | 0, _, _ => none
  | n + 1, x1, x2 => if (i0 6) ≤ x2 then (some (0)) else (ck (inb x2 18) (bd (f_X7_pass (r0 0 x2.toNatClampNeg) (i0 12)) (fun q3 => bd (f_X7_distance i0 r0 u0 q3) (fun q4 => if q4 = x1 then (ck (inb x2 18) (some (r0 0 x2.toNatClampNeg))) else (f_X7_stepNearer_2 i0 r0 u0 n x1 (x2 + 1))))))
set_option maxRecDepth 100000 in
set_option maxHeartbeats 4000000 in
theorem w_X7_stepNearer_2 {p : Program} {l : Launch} {e : Env} {s : State} {m : MethodId} {args : Array Value} {below : List Frame} {meth : Method} {c : Code} {A : Nat → Prop} {D : va_G} {cs zs : Nat → Nat} {h0 : Nat} {a0 : Nat → Nat} {i0 : Nat → Int32} {r0 : Nat → Nat → Int32} {u0 : Nat → Nat} {q : Int32} (C : Cx p s m args meth c A D cs zs cX7_stepNearer 3 (some .int) RX7)  : ∀ (n : Nat), ∀ (x1 : Int32) (x2 : Int32) (H : Heap) (locs : List Loc) (ls : Array Slot), f_X7_stepNearer_2 i0 r0 u0 n x1 x2 = some q → va_P D vwCl (W7 cs h0 a0 i0 r0 u0) H → va_D A (W7 cs h0 a0 i0 r0 u0) → va_S A s.heap H locs → lv_has ls 3 [(0, .ref h0), (1, .int x1), (2, .int x2)] → W p l e rmX7_stepNearer s m args below meth c H locs 0 0 (MQ below (Qi D cs A q (W7 cs h0 a0 i0 r0 u0)) args s 0 0 A) (F0 m 2 ls []) := by
  obtain ⟨hx, hb, hr, hml, hown, hts, hK, hA, hlocks, hZ⟩ := id C
  intro n
  induction n with
  | zero =>
    intro x1 x2 H locs ls hf
    rw [f_X7_stepNearer_2] at hf
    cases hf
  | succ n ih =>
    intro x1 x2 H locs ls hf hP hD hS hl
    rw [f_X7_stepNearer_2] at hf
    refine lv_iload_n hx hb dX7_stepNearer_2 rfl (lv_at hl 2 rfl) ?_
    refine lv_aload_n hx hb dX7_stepNearer_3 rfl (lv_at hl 0 rfl) ?_
    refine va_get (D := D) (ci := 7) (v := .int (i0 6)) (C := RX7) (T := TX7) (N := 13) hx hb hts hiX7 hown hK hP 0 rfl rfl 6 (by decide) (hts _ flX7_102) (fun _ h9 => h9) rfl dX7_stepNearer_4 ?_
    refine lv_icmp_ge (tgt := 44) hx hb dX7_stepNearer_7 (by decide) (fun hc => ?_) (fun hc => ?_)
    · have hf := ite_t hf hc
      refine lv_iconst (v := 0) hx hb dX7_stepNearer_44 (by decide) ?_
      obtain rfl := Option.some.inj hf
      exact k_iret hx hb hr hlocks hK hP hD hS dX7_stepNearer_45
    · have hf := ite_f hf hc
      refine lv_aload_n hx hb dX7_stepNearer_10 rfl (lv_at hl 0 rfl) ?_
      refine lv_aload_n hx hb dX7_stepNearer_11 rfl (lv_at hl 0 rfl) ?_
      refine va_get (D := D) (ci := 7) (v := .ref (a0 0)) (C := RX7) (T := TX7) (N := 13) hx hb hts hiX7 hown hK hP 0 rfl rfl 0 (by decide) (hts _ flX7_15) (fun _ h9 => h9) rfl dX7_stepNearer_12 ?_
      refine lv_iload_n hx hb dX7_stepNearer_15 rfl (lv_at hl 2 rfl) ?_
      refine va_iald (f := r0 0) hx hb hK hP 1 0 rfl rfl (ck_in hf) dX7_stepNearer_16 ?_
      have hf := ck_2 hf
      refine lv_aload_n hx hb dX7_stepNearer_17 rfl (lv_at hl 0 rfl) ?_
      refine va_get (D := D) (ci := 7) (v := .int (i0 12)) (C := RX7) (T := TX7) (N := 13) hx hb hts hiX7 hown hK hP 0 rfl rfl 12 (by decide) (hts _ flX7_45) (fun _ h9 => h9) rfl dX7_stepNearer_18 ?_
      obtain ⟨q3, hq3, hf⟩ := bd_s hf
      refine k_eSi (As := [.int (r0 0 x2.toNatClampNeg), .int (i0 12)]) (rest := [.ref h0]) hx hb hml hown hts hK hA hZ hl.1 hP hD hS (c_X7_pass  hq3) (gSt mlX7_118 stX7_pass inX7 coX7_pass) rfl qnX7_pass rfl rfl ⟨Nat.le_of_ble_eq_true rfl, Nat.le_of_ble_eq_true rfl⟩ rfl rfl (Nat.le_of_ble_eq_true rfl) ⟨Nat.zero_le _, Nat.zero_le _⟩ dX7_stepNearer_21 (fun H locs hP hD hS => ?_)
      obtain ⟨q4, hq4, hf⟩ := bd_s hf
      refine k_sVi (ws2 := W7 cs h0 a0 i0 r0 u0) (As := [.int q3]) (rest := []) hx hb hml hown hts hK hA hZ hl.1 hP hD hS (c_X7_distance (h0 := h0) (a0 := a0) hq4) (gVt mlX7_48 imX7_distance seX7_distance inX7 coX7_distance) rfl qnX7_distance rfl rfl ⟨Nat.le_of_ble_eq_true rfl, Nat.le_of_ble_eq_true rfl⟩ 0 7 rfl rfl rfl rfl rfl (Nat.le_of_ble_eq_true rfl) ⟨Nat.zero_le _, Nat.zero_le _⟩ dX7_stepNearer_24 (fun H locs hP hD hS => ?_)
      refine lv_iload_n hx hb dX7_stepNearer_27 rfl (lv_at hl 1 rfl) ?_
      refine lv_icmp_ne (tgt := 38) hx hb dX7_stepNearer_28 (by decide) (fun hc => ?_) (fun hc => ?_)
      · have hf := ite_f hf hc
        refine lv_iinc (v := x2 + 1) (lv' := [(2, .int (x2 + 1)), (0, .ref h0), (1, .int x1)]) hx hb dX7_stepNearer_38 hl (k := 2) rfl rfl (by decide) rfl (fun ls hl => ?_)
        refine lv_goto (tgt := 2) hx hb dX7_stepNearer_41 (by decide) ?_
        exact ih _ _ _ _ _ hf hP hD hS (lv_sub hl [1, 2, 0] rfl)
      · have hf := ite_t hf hc
        refine lv_aload_n hx hb dX7_stepNearer_31 rfl (lv_at hl 0 rfl) ?_
        refine va_get (D := D) (ci := 7) (v := .ref (a0 0)) (C := RX7) (T := TX7) (N := 13) hx hb hts hiX7 hown hK hP 0 rfl rfl 0 (by decide) (hts _ flX7_15) (fun _ h9 => h9) rfl dX7_stepNearer_32 ?_
        refine lv_iload_n hx hb dX7_stepNearer_35 rfl (lv_at hl 2 rfl) ?_
        refine va_iald (f := r0 0) hx hb hK hP 1 0 rfl rfl (ck_in hf) dX7_stepNearer_36 ?_
        have hf := ck_2 hf
        obtain rfl := Option.some.inj hf
        exact k_iret hx hb hr hlocks hK hP hD hS dX7_stepNearer_37
def f_X7_stepNearer  (i0 : Nat → Int32) (r0 : Nat → Nat → Int32) (u0 : Nat → Nat) (x1 : Int32) : Option (Int32) := f_X7_stepNearer_2 i0 r0 u0 2000000 x1 0
set_option maxRecDepth 100000 in
set_option maxHeartbeats 4000000 in
theorem c_X7_stepNearer {l : Launch} {D : va_G} {cs zs : Nat → Nat} {h0 : Nat} {a0 : Nat → Nat} {i0 : Nat → Int32} {r0 : Nat → Nat → Int32} {u0 : Nat → Nat} {x1 : Int32} {q : Int32} (hf : f_X7_stepNearer i0 r0 u0 x1 = some q) : Mi l yX7_stepNearer wlX7_stepNearer rmX7_stepNearer D cs zs [.ref h0, .int x1] (W7 cs h0 a0 i0 r0 u0) q (W7 cs h0 a0 i0 r0 u0) := by
  refine Mi.of RX7 (by decide) rfl (Nat.le_of_ble_eq_true rfl) (fun p e s m below meth c A C hP hD hS ls hl => ?_)
  generalize ([.ref h0, .int x1] : List Value).toArray = args at C ⊢
  obtain ⟨hx, hb, hr, hml, hown, hts, hK, hA, hlocks, hZ⟩ := id C
  have hl : lv_has ls 3 [(0, .ref h0), (1, .int x1)] := hl
  rw [f_X7_stepNearer] at hf
  refine lv_iconst (v := 0) hx hb dX7_stepNearer_0 (by decide) ?_
  refine lv_istore_n (lv' := [(2, .int 0), (0, .ref h0), (1, .int x1)]) hx hb dX7_stepNearer_1 rfl hl (by decide) rfl (fun ls hl => ?_)
  exact w_X7_stepNearer_2 C  2000000 _ _ _ _ _ hf hP hD hS (lv_sub hl [1, 2, 0] rfl)
/-! MarbleFloor$Shortest.walkHome(I)I -/
abbrev wlX7_walkHome : List Cond := Cond.code yX7_walkHome cX7_walkHome 4 (some .int) :: tbG
abbrev rmX7_walkHome : Room := { frames := 3, cells := 0, slots := 0, locals := 67 }
theorem qnX7_walkHome : yX7_walkHome.cls = RX7 ∧ yX7_walkHome.cls ≠ "java/lang/invoke/MethodHandle" ∧ yX7_walkHome.cls ≠ "java/lang/invoke/VarHandle" ∧ (parseMethodDescriptor yX7_walkHome.desc).map (fun d => d.parameters.length) = some 1 := by decide +kernel
def f_X7_walkHome_37 (u0 : Nat → Nat) (K11 : (Nat → Int32) → (Nat → Nat → Int32) → Int32 → Int32 → Option (Int32 × (Nat → Int32) × (Nat → Nat → Int32))) (i0 : Nat → Int32) (r0 : Nat → Nat → Int32) (x2 : Int32) (x3 : Int32) : Option (Int32 × (Nat → Int32) × (Nat → Nat → Int32)) := ck (inb x2 40) (bd (f_X7_pass (r0 1 x2.toNatClampNeg) (i0 12)) (fun q4 => K11 (upd i0 12 q4) r0 (x2 + 1) (x3 + (-1))))
set_option maxRecDepth 100000 in
set_option maxHeartbeats 4000000 in
theorem w_X7_walkHome_37 {p : Program} {l : Launch} {e : Env} {s : State} {m : MethodId} {args : Array Value} {below : List Frame} {meth : Method} {c : Code} {A : Nat → Prop} {D : va_G} {cs zs : Nat → Nat} {h0 : Nat} {a0 : Nat → Nat} {u0 : Nat → Nat} {q : Int32 × (Nat → Int32) × (Nat → Nat → Int32)} (C : Cx p s m args meth c A D cs zs cX7_walkHome 4 (some .int) RX7) (K11 : (Nat → Int32) → (Nat → Nat → Int32) → Int32 → Int32 → Option (Int32 × (Nat → Int32) × (Nat → Nat → Int32))) (hK11 : ∀ (i0 : Nat → Int32) (r0 : Nat → Nat → Int32) (x2 : Int32) (x3 : Int32) (H : Heap) (locs : List Loc) (ls : Array Slot), K11 i0 r0 x2 x3 = some q → va_P D vwCl (W7 cs h0 a0 i0 r0 u0) H → va_D A (W7 cs h0 a0 i0 r0 u0) → va_S A s.heap H locs → lv_has ls 4 [(0, .ref h0), (2, .int x2), (3, .int x3)] → W p l e rmX7_walkHome s m args below meth c H locs 0 0 (MQ below (Qi D cs A q.1 (W7 cs h0 a0 q.2.1 q.2.2 u0)) args s 0 0 A) (F0 m 11 ls [])) : ∀ (i0 : Nat → Int32) (r0 : Nat → Nat → Int32) (x2 : Int32) (x3 : Int32) (H : Heap) (locs : List Loc) (ls : Array Slot), f_X7_walkHome_37 u0 K11 i0 r0 x2 x3 = some q → va_P D vwCl (W7 cs h0 a0 i0 r0 u0) H → va_D A (W7 cs h0 a0 i0 r0 u0) → va_S A s.heap H locs → lv_has ls 4 [(0, .ref h0), (2, .int x2), (3, .int x3)] → W p l e rmX7_walkHome s m args below meth c H locs 0 0 (MQ below (Qi D cs A q.1 (W7 cs h0 a0 q.2.1 q.2.2 u0)) args s 0 0 A) (F0 m 37 ls []) := by
  obtain ⟨hx, hb, hr, hml, hown, hts, hK, hA, hlocks, hZ⟩ := id C
  intro i0 r0 x2 x3 H locs ls hf hP hD hS hl
  rw [f_X7_walkHome_37] at hf
  refine lv_aload_n hx hb dX7_walkHome_37 rfl (lv_at hl 0 rfl) ?_
  refine lv_aload_n hx hb dX7_walkHome_38 rfl (lv_at hl 0 rfl) ?_
  refine va_get (D := D) (ci := 7) (v := .ref (a0 1)) (C := RX7) (T := TX7) (N := 13) hx hb hts hiX7 hown hK hP 0 rfl rfl 1 (by decide) (hts _ flX7_18) (fun _ h9 => h9) rfl dX7_walkHome_39 ?_
  refine lv_iload_n hx hb dX7_walkHome_42 rfl (lv_at hl 1 rfl) ?_
  refine va_iald (f := r0 1) hx hb hK hP 2 0 rfl rfl (ck_in hf) dX7_walkHome_43 ?_
  have hf := ck_2 hf
  refine lv_aload_n hx hb dX7_walkHome_44 rfl (lv_at hl 0 rfl) ?_
  refine va_get (D := D) (ci := 7) (v := .int (i0 12)) (C := RX7) (T := TX7) (N := 13) hx hb hts hiX7 hown hK hP 0 rfl rfl 12 (by decide) (hts _ flX7_45) (fun _ h9 => h9) rfl dX7_walkHome_45 ?_
  obtain ⟨q4, hq4, hf⟩ := bd_s hf
  refine k_eSi (As := [.int (r0 1 x2.toNatClampNeg), .int (i0 12)]) (rest := [.ref h0]) hx hb hml hown hts hK hA hZ hl.1 hP hD hS (c_X7_pass  hq4) (gSt mlX7_118 stX7_pass inX7 coX7_pass) rfl qnX7_pass rfl rfl ⟨Nat.le_of_ble_eq_true rfl, Nat.le_of_ble_eq_true rfl⟩ rfl rfl (Nat.le_of_ble_eq_true rfl) ⟨Nat.zero_le _, Nat.zero_le _⟩ dX7_walkHome_48 (fun H locs hP hD hS => ?_)
  refine va_put (D := D) (ci := 7) (v := .int q4) (ty := .int) (C := RX7) (T := TX7) (N := 13) hx hb hts hiX7 tyX7 tyX7_ok nmX7 hown hK hP hD hS 0 rfl rfl 12 (by decide) (hts _ flX7_45) (fun _ h9 => h9) rfl (tyX7_ok 12 (by decide)) rfl rfl (Nat.le_of_ble_eq_true rfl) dX7_walkHome_51 (fun H locs hP hD hS => ?_)
  obtain ⟨hP, hD⟩ := st7_12 hP hD
  refine lv_iinc (v := x2 + 1) (lv' := [(2, .int (x2 + 1)), (0, .ref h0), (3, .int x3)]) hx hb dX7_walkHome_54 hl (k := 1) rfl rfl (by decide) rfl (fun ls hl => ?_)
  refine lv_iinc (v := x3 + (-1)) (lv' := [(3, .int (x3 + (-1))), (2, .int (x2 + 1)), (0, .ref h0)]) hx hb dX7_walkHome_57 hl (k := 2) rfl rfl (by decide) rfl (fun ls hl => ?_)
  refine lv_goto (tgt := 11) hx hb dX7_walkHome_60 (by decide) ?_
  exact hK11 _ _ _ _ _ _ _ hf hP hD hS (lv_sub hl [2, 1, 0] rfl)
def f_X7_walkHome_11 (u0 : Nat → Nat)  : Nat → (Nat → Int32) → (Nat → Nat → Int32) → Int32 → Int32 → Option (Int32 × (Nat → Int32) × (Nat → Nat → Int32))
  | 0, _, _, _, _ => none
  | n + 1, i0, r0, x2, x3 => if x3 ≤ 0 then (some (x2, i0, r0)) else (if 40 ≤ x2 then (some (x2, i0, r0)) else (bd (f_X7_stepNearer i0 r0 u0 (x3 - 1)) (fun q5 => ck (inb x2 40) (f_X7_walkHome_37 u0 (f_X7_walkHome_11 u0 n) i0 (va_up r0 1 (upd (r0 1) x2.toNatClampNeg q5)) x2 x3))))
set_option maxRecDepth 100000 in
set_option maxHeartbeats 4000000 in
theorem w_X7_walkHome_11 {p : Program} {l : Launch} {e : Env} {s : State} {m : MethodId} {args : Array Value} {below : List Frame} {meth : Method} {c : Code} {A : Nat → Prop} {D : va_G} {cs zs : Nat → Nat} {h0 : Nat} {a0 : Nat → Nat} {u0 : Nat → Nat} {q : Int32 × (Nat → Int32) × (Nat → Nat → Int32)} (C : Cx p s m args meth c A D cs zs cX7_walkHome 4 (some .int) RX7)  : ∀ (n : Nat), ∀ (i0 : Nat → Int32) (r0 : Nat → Nat → Int32) (x2 : Int32) (x3 : Int32) (H : Heap) (locs : List Loc) (ls : Array Slot), f_X7_walkHome_11 u0 n i0 r0 x2 x3 = some q → va_P D vwCl (W7 cs h0 a0 i0 r0 u0) H → va_D A (W7 cs h0 a0 i0 r0 u0) → va_S A s.heap H locs → lv_has ls 4 [(0, .ref h0), (2, .int x2), (3, .int x3)] → W p l e rmX7_walkHome s m args below meth c H locs 0 0 (MQ below (Qi D cs A q.1 (W7 cs h0 a0 q.2.1 q.2.2 u0)) args s 0 0 A) (F0 m 11 ls []) := by
  obtain ⟨hx, hb, hr, hml, hown, hts, hK, hA, hlocks, hZ⟩ := id C
  intro n
  induction n with
  | zero =>
    intro i0 r0 x2 x3 H locs ls hf
    rw [f_X7_walkHome_11] at hf
    cases hf
  | succ n ih =>
    intro i0 r0 x2 x3 H locs ls hf hP hD hS hl
    rw [f_X7_walkHome_11] at hf
    refine lv_iload_n hx hb dX7_walkHome_11 rfl (lv_at hl 2 rfl) ?_
    refine lv_if_le (tgt := 63) hx hb dX7_walkHome_12 (by decide) (fun hc => ?_) (fun hc => ?_)
    · have hf := ite_t hf hc
      refine lv_iload_n hx hb dX7_walkHome_63 rfl (lv_at hl 1 rfl) ?_
      obtain rfl := Option.some.inj hf
      exact k_iret hx hb hr hlocks hK hP hD hS dX7_walkHome_64
    · have hf := ite_f hf hc
      refine lv_iload_n hx hb dX7_walkHome_15 rfl (lv_at hl 1 rfl) ?_
      refine lv_aload_n hx hb dX7_walkHome_16 rfl (lv_at hl 0 rfl) ?_
      refine va_get (D := D) (ci := 7) (v := .ref (a0 1)) (C := RX7) (T := TX7) (N := 13) hx hb hts hiX7 hown hK hP 0 rfl rfl 1 (by decide) (hts _ flX7_18) (fun _ h9 => h9) rfl dX7_walkHome_17 ?_
      refine va_alen (v := 40) hx hb hK hP 2 0 rfl rfl rfl dX7_walkHome_20 ?_
      refine lv_icmp_ge (tgt := 63) hx hb dX7_walkHome_21 (by decide) (fun hc => ?_) (fun hc => ?_)
      · have hf := ite_t hf hc
        refine lv_iload_n hx hb dX7_walkHome_63 rfl (lv_at hl 1 rfl) ?_
        obtain rfl := Option.some.inj hf
        exact k_iret hx hb hr hlocks hK hP hD hS dX7_walkHome_64
      · have hf := ite_f hf hc
        refine lv_aload_n hx hb dX7_walkHome_24 rfl (lv_at hl 0 rfl) ?_
        refine va_get (D := D) (ci := 7) (v := .ref (a0 1)) (C := RX7) (T := TX7) (N := 13) hx hb hts hiX7 hown hK hP 0 rfl rfl 1 (by decide) (hts _ flX7_18) (fun _ h9 => h9) rfl dX7_walkHome_25 ?_
        refine lv_iload_n hx hb dX7_walkHome_28 rfl (lv_at hl 1 rfl) ?_
        refine lv_aload_n hx hb dX7_walkHome_29 rfl (lv_at hl 0 rfl) ?_
        refine lv_iload_n hx hb dX7_walkHome_30 rfl (lv_at hl 2 rfl) ?_
        refine lv_iconst (v := 1) hx hb dX7_walkHome_31 (by decide) ?_
        refine lv_isub hx hb dX7_walkHome_32 ?_
        obtain ⟨q5, hq5, hf⟩ := bd_s hf
        refine k_sVi (ws2 := W7 cs h0 a0 i0 r0 u0) (As := [.int (x3 - 1)]) (rest := [.int x2, .ref (a0 1)]) hx hb hml hown hts hK hA hZ hl.1 hP hD hS (c_X7_stepNearer (h0 := h0) (a0 := a0) hq5) (gVt mlX7_132 imX7_stepNearer seX7_stepNearer inX7 coX7_stepNearer) rfl qnX7_stepNearer rfl rfl ⟨Nat.le_of_ble_eq_true rfl, Nat.le_of_ble_eq_true rfl⟩ 0 7 rfl rfl rfl rfl rfl (Nat.le_of_ble_eq_true rfl) ⟨Nat.zero_le _, Nat.zero_le _⟩ dX7_walkHome_33 (fun H locs hP hD hS => ?_)
        refine va_iast (f := r0 1) hx hb hK hP hD hS 2 0 rfl rfl (ck_in hf) dX7_walkHome_36 (fun H locs hP hD hS => ?_)
        have hf := ck_2 hf
        obtain ⟨hP, hD⟩ := st7_1 hP hD
        exact w_X7_walkHome_37 C _ (ih) _ _ _ _ _ _ _ hf hP hD hS (lv_sub hl [0, 1, 2] rfl)
def f_X7_walkHome  (i0 : Nat → Int32) (r0 : Nat → Nat → Int32) (u0 : Nat → Nat) (x1 : Int32) : Option (Int32 × (Nat → Int32) × (Nat → Nat → Int32)) := bd (f_X7_distance i0 r0 u0 (i0 12)) (fun q6 => f_X7_walkHome_11 u0 2000000 i0 r0 x1 q6)
set_option maxRecDepth 100000 in
set_option maxHeartbeats 4000000 in
theorem c_X7_walkHome {l : Launch} {D : va_G} {cs zs : Nat → Nat} {h0 : Nat} {a0 : Nat → Nat} {i0 : Nat → Int32} {r0 : Nat → Nat → Int32} {u0 : Nat → Nat} {x1 : Int32} {q : Int32 × (Nat → Int32) × (Nat → Nat → Int32)} (hf : f_X7_walkHome i0 r0 u0 x1 = some q) : Mi l yX7_walkHome wlX7_walkHome rmX7_walkHome D cs zs [.ref h0, .int x1] (W7 cs h0 a0 i0 r0 u0) q.1 (W7 cs h0 a0 q.2.1 q.2.2 u0) := by
  refine Mi.of RX7 (by decide) rfl (Nat.le_of_ble_eq_true rfl) (fun p e s m below meth c A C hP hD hS ls hl => ?_)
  generalize ([.ref h0, .int x1] : List Value).toArray = args at C ⊢
  obtain ⟨hx, hb, hr, hml, hown, hts, hK, hA, hlocks, hZ⟩ := id C
  have hl : lv_has ls 4 [(0, .ref h0), (1, .int x1)] := hl
  rw [f_X7_walkHome] at hf
  refine lv_iload_n hx hb dX7_walkHome_0 rfl (lv_at hl 1 rfl) ?_
  refine lv_istore_n (lv' := [(2, .int x1), (0, .ref h0), (1, .int x1)]) hx hb dX7_walkHome_1 rfl hl (by decide) rfl (fun ls hl => ?_)
  refine lv_aload_n hx hb dX7_walkHome_2 rfl (lv_at hl 1 rfl) ?_
  refine lv_aload_n hx hb dX7_walkHome_3 rfl (lv_at hl 1 rfl) ?_
  refine va_get (D := D) (ci := 7) (v := .int (i0 12)) (C := RX7) (T := TX7) (N := 13) hx hb hts hiX7 hown hK hP 0 rfl rfl 12 (by decide) (hts _ flX7_45) (fun _ h9 => h9) rfl dX7_walkHome_4 ?_
  obtain ⟨q6, hq6, hf⟩ := bd_s hf
  refine k_sVi (ws2 := W7 cs h0 a0 i0 r0 u0) (As := [.int (i0 12)]) (rest := []) hx hb hml hown hts hK hA hZ hl.1 hP hD hS (c_X7_distance (h0 := h0) (a0 := a0) hq6) (gVt mlX7_48 imX7_distance seX7_distance inX7 coX7_distance) rfl qnX7_distance rfl rfl ⟨Nat.le_of_ble_eq_true rfl, Nat.le_of_ble_eq_true rfl⟩ 0 7 rfl rfl rfl rfl rfl (Nat.le_of_ble_eq_true rfl) ⟨Nat.zero_le _, Nat.zero_le _⟩ dX7_walkHome_7 (fun H locs hP hD hS => ?_)
  refine lv_istore_n (lv' := [(3, .int q6), (2, .int x1), (0, .ref h0), (1, .int x1)]) hx hb dX7_walkHome_10 rfl hl (by decide) rfl (fun ls hl => ?_)
  exact w_X7_walkHome_11 C  2000000 _ _ _ _ _ _ _ hf hP hD hS (lv_sub hl [2, 1, 0] rfl)
