def fs1 (a : Nat → Nat) (i : Nat → Int32) : List Value := [.ref (a 0), .ref (a 1), .ref (a 2), .ref (a 3), .ref (a 4), .ref (a 5), .ref (a 6), .ref (a 7), .ref (a 8), .ref (a 9), .int (i 10), .int (i 11), .int (i 12), .int (i 13), .int (i 14), .int (i 15)]
def W1 (cs : Nat → ClassId) (h : Nat) (a : Nat → Nat) (i : Nat → Int32) (r : Nat → Nat → Int32) (u : Nat → Nat) : va_W := [(h, .inr (1, fs1 a i)), (a 0, .inl (cs 0, 20, .inl (r 0))), (a 1, .inl (cs 0, 20, .inl (r 1))), (a 2, .inl (cs 0, 20, .inl (r 2))), (a 3, .inl (cs 0, 20, .inl (r 3))), (a 4, .inl (cs 0, 20, .inl (r 4))), (a 5, .inl (cs 0, 20, .inl (r 5))), (a 6, .inl (cs 0, 256, .inl (r 6))), (a 7, .inl (cs 0, 256, .inl (r 7))), (a 8, .inl (cs 0, 256, .inl (r 8))), (a 9, .inl (cs 0, u 9, .inl (r 9)))]
theorem st1_0 {D : va_G} {A : Nat → Prop} {H : Heap} {cs : Nat → ClassId} {h : Nat} {a : Nat → Nat} {i : Nat → Int32} {r : Nat → Nat → Int32} {u : Nat → Nat} {f : Nat → Int32} (hP : va_P D vwCl ((W1 cs h a i r u).set 1 (a 0, .inl (cs 0, 20, .inl f))) H) (hD : va_D A ((W1 cs h a i r u).set 1 (a 0, .inl (cs 0, 20, .inl f)))) : va_P D vwCl (W1 cs h a i (va_up r 0 f) u) H ∧ va_D A (W1 cs h a i (va_up r 0 f) u) := ⟨hP, hD⟩
theorem st1_0_T {D : va_G} {A : Nat → Prop} {H : Heap} {cs : Nat → ClassId} {h : Nat} {a : Nat → Nat} {i : Nat → Int32} {r : Nat → Nat → Int32} {u : Nat → Nat} {f : Nat → Int32} {T : va_W} (hP : va_P D vwCl ((W1 cs h a i r u ++ T).set 1 (a 0, .inl (cs 0, 20, .inl f))) H) (hD : va_D A ((W1 cs h a i r u ++ T).set 1 (a 0, .inl (cs 0, 20, .inl f)))) : va_P D vwCl (W1 cs h a i (va_up r 0 f) u ++ T) H ∧ va_D A (W1 cs h a i (va_up r 0 f) u ++ T) := ⟨hP, hD⟩
theorem st1_1 {D : va_G} {A : Nat → Prop} {H : Heap} {cs : Nat → ClassId} {h : Nat} {a : Nat → Nat} {i : Nat → Int32} {r : Nat → Nat → Int32} {u : Nat → Nat} {f : Nat → Int32} (hP : va_P D vwCl ((W1 cs h a i r u).set 2 (a 1, .inl (cs 0, 20, .inl f))) H) (hD : va_D A ((W1 cs h a i r u).set 2 (a 1, .inl (cs 0, 20, .inl f)))) : va_P D vwCl (W1 cs h a i (va_up r 1 f) u) H ∧ va_D A (W1 cs h a i (va_up r 1 f) u) := ⟨hP, hD⟩
theorem st1_1_T {D : va_G} {A : Nat → Prop} {H : Heap} {cs : Nat → ClassId} {h : Nat} {a : Nat → Nat} {i : Nat → Int32} {r : Nat → Nat → Int32} {u : Nat → Nat} {f : Nat → Int32} {T : va_W} (hP : va_P D vwCl ((W1 cs h a i r u ++ T).set 2 (a 1, .inl (cs 0, 20, .inl f))) H) (hD : va_D A ((W1 cs h a i r u ++ T).set 2 (a 1, .inl (cs 0, 20, .inl f)))) : va_P D vwCl (W1 cs h a i (va_up r 1 f) u ++ T) H ∧ va_D A (W1 cs h a i (va_up r 1 f) u ++ T) := ⟨hP, hD⟩
theorem st1_2 {D : va_G} {A : Nat → Prop} {H : Heap} {cs : Nat → ClassId} {h : Nat} {a : Nat → Nat} {i : Nat → Int32} {r : Nat → Nat → Int32} {u : Nat → Nat} {f : Nat → Int32} (hP : va_P D vwCl ((W1 cs h a i r u).set 3 (a 2, .inl (cs 0, 20, .inl f))) H) (hD : va_D A ((W1 cs h a i r u).set 3 (a 2, .inl (cs 0, 20, .inl f)))) : va_P D vwCl (W1 cs h a i (va_up r 2 f) u) H ∧ va_D A (W1 cs h a i (va_up r 2 f) u) := ⟨hP, hD⟩
theorem st1_2_T {D : va_G} {A : Nat → Prop} {H : Heap} {cs : Nat → ClassId} {h : Nat} {a : Nat → Nat} {i : Nat → Int32} {r : Nat → Nat → Int32} {u : Nat → Nat} {f : Nat → Int32} {T : va_W} (hP : va_P D vwCl ((W1 cs h a i r u ++ T).set 3 (a 2, .inl (cs 0, 20, .inl f))) H) (hD : va_D A ((W1 cs h a i r u ++ T).set 3 (a 2, .inl (cs 0, 20, .inl f)))) : va_P D vwCl (W1 cs h a i (va_up r 2 f) u ++ T) H ∧ va_D A (W1 cs h a i (va_up r 2 f) u ++ T) := ⟨hP, hD⟩
theorem st1_3 {D : va_G} {A : Nat → Prop} {H : Heap} {cs : Nat → ClassId} {h : Nat} {a : Nat → Nat} {i : Nat → Int32} {r : Nat → Nat → Int32} {u : Nat → Nat} {f : Nat → Int32} (hP : va_P D vwCl ((W1 cs h a i r u).set 4 (a 3, .inl (cs 0, 20, .inl f))) H) (hD : va_D A ((W1 cs h a i r u).set 4 (a 3, .inl (cs 0, 20, .inl f)))) : va_P D vwCl (W1 cs h a i (va_up r 3 f) u) H ∧ va_D A (W1 cs h a i (va_up r 3 f) u) := ⟨hP, hD⟩
theorem st1_3_T {D : va_G} {A : Nat → Prop} {H : Heap} {cs : Nat → ClassId} {h : Nat} {a : Nat → Nat} {i : Nat → Int32} {r : Nat → Nat → Int32} {u : Nat → Nat} {f : Nat → Int32} {T : va_W} (hP : va_P D vwCl ((W1 cs h a i r u ++ T).set 4 (a 3, .inl (cs 0, 20, .inl f))) H) (hD : va_D A ((W1 cs h a i r u ++ T).set 4 (a 3, .inl (cs 0, 20, .inl f)))) : va_P D vwCl (W1 cs h a i (va_up r 3 f) u ++ T) H ∧ va_D A (W1 cs h a i (va_up r 3 f) u ++ T) := ⟨hP, hD⟩
theorem st1_4 {D : va_G} {A : Nat → Prop} {H : Heap} {cs : Nat → ClassId} {h : Nat} {a : Nat → Nat} {i : Nat → Int32} {r : Nat → Nat → Int32} {u : Nat → Nat} {f : Nat → Int32} (hP : va_P D vwCl ((W1 cs h a i r u).set 5 (a 4, .inl (cs 0, 20, .inl f))) H) (hD : va_D A ((W1 cs h a i r u).set 5 (a 4, .inl (cs 0, 20, .inl f)))) : va_P D vwCl (W1 cs h a i (va_up r 4 f) u) H ∧ va_D A (W1 cs h a i (va_up r 4 f) u) := ⟨hP, hD⟩
theorem st1_4_T {D : va_G} {A : Nat → Prop} {H : Heap} {cs : Nat → ClassId} {h : Nat} {a : Nat → Nat} {i : Nat → Int32} {r : Nat → Nat → Int32} {u : Nat → Nat} {f : Nat → Int32} {T : va_W} (hP : va_P D vwCl ((W1 cs h a i r u ++ T).set 5 (a 4, .inl (cs 0, 20, .inl f))) H) (hD : va_D A ((W1 cs h a i r u ++ T).set 5 (a 4, .inl (cs 0, 20, .inl f)))) : va_P D vwCl (W1 cs h a i (va_up r 4 f) u ++ T) H ∧ va_D A (W1 cs h a i (va_up r 4 f) u ++ T) := ⟨hP, hD⟩
theorem st1_5 {D : va_G} {A : Nat → Prop} {H : Heap} {cs : Nat → ClassId} {h : Nat} {a : Nat → Nat} {i : Nat → Int32} {r : Nat → Nat → Int32} {u : Nat → Nat} {f : Nat → Int32} (hP : va_P D vwCl ((W1 cs h a i r u).set 6 (a 5, .inl (cs 0, 20, .inl f))) H) (hD : va_D A ((W1 cs h a i r u).set 6 (a 5, .inl (cs 0, 20, .inl f)))) : va_P D vwCl (W1 cs h a i (va_up r 5 f) u) H ∧ va_D A (W1 cs h a i (va_up r 5 f) u) := ⟨hP, hD⟩
theorem st1_5_T {D : va_G} {A : Nat → Prop} {H : Heap} {cs : Nat → ClassId} {h : Nat} {a : Nat → Nat} {i : Nat → Int32} {r : Nat → Nat → Int32} {u : Nat → Nat} {f : Nat → Int32} {T : va_W} (hP : va_P D vwCl ((W1 cs h a i r u ++ T).set 6 (a 5, .inl (cs 0, 20, .inl f))) H) (hD : va_D A ((W1 cs h a i r u ++ T).set 6 (a 5, .inl (cs 0, 20, .inl f)))) : va_P D vwCl (W1 cs h a i (va_up r 5 f) u ++ T) H ∧ va_D A (W1 cs h a i (va_up r 5 f) u ++ T) := ⟨hP, hD⟩
theorem st1_6 {D : va_G} {A : Nat → Prop} {H : Heap} {cs : Nat → ClassId} {h : Nat} {a : Nat → Nat} {i : Nat → Int32} {r : Nat → Nat → Int32} {u : Nat → Nat} {f : Nat → Int32} (hP : va_P D vwCl ((W1 cs h a i r u).set 7 (a 6, .inl (cs 0, 256, .inl f))) H) (hD : va_D A ((W1 cs h a i r u).set 7 (a 6, .inl (cs 0, 256, .inl f)))) : va_P D vwCl (W1 cs h a i (va_up r 6 f) u) H ∧ va_D A (W1 cs h a i (va_up r 6 f) u) := ⟨hP, hD⟩
theorem st1_6_T {D : va_G} {A : Nat → Prop} {H : Heap} {cs : Nat → ClassId} {h : Nat} {a : Nat → Nat} {i : Nat → Int32} {r : Nat → Nat → Int32} {u : Nat → Nat} {f : Nat → Int32} {T : va_W} (hP : va_P D vwCl ((W1 cs h a i r u ++ T).set 7 (a 6, .inl (cs 0, 256, .inl f))) H) (hD : va_D A ((W1 cs h a i r u ++ T).set 7 (a 6, .inl (cs 0, 256, .inl f)))) : va_P D vwCl (W1 cs h a i (va_up r 6 f) u ++ T) H ∧ va_D A (W1 cs h a i (va_up r 6 f) u ++ T) := ⟨hP, hD⟩
theorem st1_7 {D : va_G} {A : Nat → Prop} {H : Heap} {cs : Nat → ClassId} {h : Nat} {a : Nat → Nat} {i : Nat → Int32} {r : Nat → Nat → Int32} {u : Nat → Nat} {f : Nat → Int32} (hP : va_P D vwCl ((W1 cs h a i r u).set 8 (a 7, .inl (cs 0, 256, .inl f))) H) (hD : va_D A ((W1 cs h a i r u).set 8 (a 7, .inl (cs 0, 256, .inl f)))) : va_P D vwCl (W1 cs h a i (va_up r 7 f) u) H ∧ va_D A (W1 cs h a i (va_up r 7 f) u) := ⟨hP, hD⟩
theorem st1_7_T {D : va_G} {A : Nat → Prop} {H : Heap} {cs : Nat → ClassId} {h : Nat} {a : Nat → Nat} {i : Nat → Int32} {r : Nat → Nat → Int32} {u : Nat → Nat} {f : Nat → Int32} {T : va_W} (hP : va_P D vwCl ((W1 cs h a i r u ++ T).set 8 (a 7, .inl (cs 0, 256, .inl f))) H) (hD : va_D A ((W1 cs h a i r u ++ T).set 8 (a 7, .inl (cs 0, 256, .inl f)))) : va_P D vwCl (W1 cs h a i (va_up r 7 f) u ++ T) H ∧ va_D A (W1 cs h a i (va_up r 7 f) u ++ T) := ⟨hP, hD⟩
theorem st1_8 {D : va_G} {A : Nat → Prop} {H : Heap} {cs : Nat → ClassId} {h : Nat} {a : Nat → Nat} {i : Nat → Int32} {r : Nat → Nat → Int32} {u : Nat → Nat} {f : Nat → Int32} (hP : va_P D vwCl ((W1 cs h a i r u).set 9 (a 8, .inl (cs 0, 256, .inl f))) H) (hD : va_D A ((W1 cs h a i r u).set 9 (a 8, .inl (cs 0, 256, .inl f)))) : va_P D vwCl (W1 cs h a i (va_up r 8 f) u) H ∧ va_D A (W1 cs h a i (va_up r 8 f) u) := ⟨hP, hD⟩
theorem st1_8_T {D : va_G} {A : Nat → Prop} {H : Heap} {cs : Nat → ClassId} {h : Nat} {a : Nat → Nat} {i : Nat → Int32} {r : Nat → Nat → Int32} {u : Nat → Nat} {f : Nat → Int32} {T : va_W} (hP : va_P D vwCl ((W1 cs h a i r u ++ T).set 9 (a 8, .inl (cs 0, 256, .inl f))) H) (hD : va_D A ((W1 cs h a i r u ++ T).set 9 (a 8, .inl (cs 0, 256, .inl f)))) : va_P D vwCl (W1 cs h a i (va_up r 8 f) u ++ T) H ∧ va_D A (W1 cs h a i (va_up r 8 f) u ++ T) := ⟨hP, hD⟩
theorem st1_9 {D : va_G} {A : Nat → Prop} {H : Heap} {cs : Nat → ClassId} {h : Nat} {a : Nat → Nat} {i : Nat → Int32} {r : Nat → Nat → Int32} {u : Nat → Nat} {f : Nat → Int32} (hP : va_P D vwCl ((W1 cs h a i r u).set 10 (a 9, .inl (cs 0, u 9, .inl f))) H) (hD : va_D A ((W1 cs h a i r u).set 10 (a 9, .inl (cs 0, u 9, .inl f)))) : va_P D vwCl (W1 cs h a i (va_up r 9 f) u) H ∧ va_D A (W1 cs h a i (va_up r 9 f) u) := ⟨hP, hD⟩
theorem st1_9_T {D : va_G} {A : Nat → Prop} {H : Heap} {cs : Nat → ClassId} {h : Nat} {a : Nat → Nat} {i : Nat → Int32} {r : Nat → Nat → Int32} {u : Nat → Nat} {f : Nat → Int32} {T : va_W} (hP : va_P D vwCl ((W1 cs h a i r u ++ T).set 10 (a 9, .inl (cs 0, u 9, .inl f))) H) (hD : va_D A ((W1 cs h a i r u ++ T).set 10 (a 9, .inl (cs 0, u 9, .inl f)))) : va_P D vwCl (W1 cs h a i (va_up r 9 f) u ++ T) H ∧ va_D A (W1 cs h a i (va_up r 9 f) u ++ T) := ⟨hP, hD⟩
theorem st1_10 {D : va_G} {A : Nat → Prop} {H : Heap} {cs : Nat → ClassId} {h : Nat} {a : Nat → Nat} {i : Nat → Int32} {r : Nat → Nat → Int32} {u : Nat → Nat} {v : Int32} (hP : va_P D vwCl ((W1 cs h a i r u).set 0 (h, .inr (1, (fs1 a i).set 10 (.int v)))) H) (hD : va_D A ((W1 cs h a i r u).set 0 (h, .inr (1, (fs1 a i).set 10 (.int v))))) : va_P D vwCl (W1 cs h a (upd i 10 v) r u) H ∧ va_D A (W1 cs h a (upd i 10 v) r u) := ⟨hP, hD⟩
theorem st1_10_T {D : va_G} {A : Nat → Prop} {H : Heap} {cs : Nat → ClassId} {h : Nat} {a : Nat → Nat} {i : Nat → Int32} {r : Nat → Nat → Int32} {u : Nat → Nat} {v : Int32} {T : va_W} (hP : va_P D vwCl ((W1 cs h a i r u ++ T).set 0 (h, .inr (1, (fs1 a i).set 10 (.int v)))) H) (hD : va_D A ((W1 cs h a i r u ++ T).set 0 (h, .inr (1, (fs1 a i).set 10 (.int v))))) : va_P D vwCl (W1 cs h a (upd i 10 v) r u ++ T) H ∧ va_D A (W1 cs h a (upd i 10 v) r u ++ T) := ⟨hP, hD⟩
theorem st1_11 {D : va_G} {A : Nat → Prop} {H : Heap} {cs : Nat → ClassId} {h : Nat} {a : Nat → Nat} {i : Nat → Int32} {r : Nat → Nat → Int32} {u : Nat → Nat} {v : Int32} (hP : va_P D vwCl ((W1 cs h a i r u).set 0 (h, .inr (1, (fs1 a i).set 11 (.int v)))) H) (hD : va_D A ((W1 cs h a i r u).set 0 (h, .inr (1, (fs1 a i).set 11 (.int v))))) : va_P D vwCl (W1 cs h a (upd i 11 v) r u) H ∧ va_D A (W1 cs h a (upd i 11 v) r u) := ⟨hP, hD⟩
theorem st1_11_T {D : va_G} {A : Nat → Prop} {H : Heap} {cs : Nat → ClassId} {h : Nat} {a : Nat → Nat} {i : Nat → Int32} {r : Nat → Nat → Int32} {u : Nat → Nat} {v : Int32} {T : va_W} (hP : va_P D vwCl ((W1 cs h a i r u ++ T).set 0 (h, .inr (1, (fs1 a i).set 11 (.int v)))) H) (hD : va_D A ((W1 cs h a i r u ++ T).set 0 (h, .inr (1, (fs1 a i).set 11 (.int v))))) : va_P D vwCl (W1 cs h a (upd i 11 v) r u ++ T) H ∧ va_D A (W1 cs h a (upd i 11 v) r u ++ T) := ⟨hP, hD⟩
theorem st1_12 {D : va_G} {A : Nat → Prop} {H : Heap} {cs : Nat → ClassId} {h : Nat} {a : Nat → Nat} {i : Nat → Int32} {r : Nat → Nat → Int32} {u : Nat → Nat} {v : Int32} (hP : va_P D vwCl ((W1 cs h a i r u).set 0 (h, .inr (1, (fs1 a i).set 12 (.int v)))) H) (hD : va_D A ((W1 cs h a i r u).set 0 (h, .inr (1, (fs1 a i).set 12 (.int v))))) : va_P D vwCl (W1 cs h a (upd i 12 v) r u) H ∧ va_D A (W1 cs h a (upd i 12 v) r u) := ⟨hP, hD⟩
theorem st1_12_T {D : va_G} {A : Nat → Prop} {H : Heap} {cs : Nat → ClassId} {h : Nat} {a : Nat → Nat} {i : Nat → Int32} {r : Nat → Nat → Int32} {u : Nat → Nat} {v : Int32} {T : va_W} (hP : va_P D vwCl ((W1 cs h a i r u ++ T).set 0 (h, .inr (1, (fs1 a i).set 12 (.int v)))) H) (hD : va_D A ((W1 cs h a i r u ++ T).set 0 (h, .inr (1, (fs1 a i).set 12 (.int v))))) : va_P D vwCl (W1 cs h a (upd i 12 v) r u ++ T) H ∧ va_D A (W1 cs h a (upd i 12 v) r u ++ T) := ⟨hP, hD⟩
theorem st1_13 {D : va_G} {A : Nat → Prop} {H : Heap} {cs : Nat → ClassId} {h : Nat} {a : Nat → Nat} {i : Nat → Int32} {r : Nat → Nat → Int32} {u : Nat → Nat} {v : Int32} (hP : va_P D vwCl ((W1 cs h a i r u).set 0 (h, .inr (1, (fs1 a i).set 13 (.int v)))) H) (hD : va_D A ((W1 cs h a i r u).set 0 (h, .inr (1, (fs1 a i).set 13 (.int v))))) : va_P D vwCl (W1 cs h a (upd i 13 v) r u) H ∧ va_D A (W1 cs h a (upd i 13 v) r u) := ⟨hP, hD⟩
theorem st1_13_T {D : va_G} {A : Nat → Prop} {H : Heap} {cs : Nat → ClassId} {h : Nat} {a : Nat → Nat} {i : Nat → Int32} {r : Nat → Nat → Int32} {u : Nat → Nat} {v : Int32} {T : va_W} (hP : va_P D vwCl ((W1 cs h a i r u ++ T).set 0 (h, .inr (1, (fs1 a i).set 13 (.int v)))) H) (hD : va_D A ((W1 cs h a i r u ++ T).set 0 (h, .inr (1, (fs1 a i).set 13 (.int v))))) : va_P D vwCl (W1 cs h a (upd i 13 v) r u ++ T) H ∧ va_D A (W1 cs h a (upd i 13 v) r u ++ T) := ⟨hP, hD⟩
theorem st1_14 {D : va_G} {A : Nat → Prop} {H : Heap} {cs : Nat → ClassId} {h : Nat} {a : Nat → Nat} {i : Nat → Int32} {r : Nat → Nat → Int32} {u : Nat → Nat} {v : Int32} (hP : va_P D vwCl ((W1 cs h a i r u).set 0 (h, .inr (1, (fs1 a i).set 14 (.int v)))) H) (hD : va_D A ((W1 cs h a i r u).set 0 (h, .inr (1, (fs1 a i).set 14 (.int v))))) : va_P D vwCl (W1 cs h a (upd i 14 v) r u) H ∧ va_D A (W1 cs h a (upd i 14 v) r u) := ⟨hP, hD⟩
theorem st1_14_T {D : va_G} {A : Nat → Prop} {H : Heap} {cs : Nat → ClassId} {h : Nat} {a : Nat → Nat} {i : Nat → Int32} {r : Nat → Nat → Int32} {u : Nat → Nat} {v : Int32} {T : va_W} (hP : va_P D vwCl ((W1 cs h a i r u ++ T).set 0 (h, .inr (1, (fs1 a i).set 14 (.int v)))) H) (hD : va_D A ((W1 cs h a i r u ++ T).set 0 (h, .inr (1, (fs1 a i).set 14 (.int v))))) : va_P D vwCl (W1 cs h a (upd i 14 v) r u ++ T) H ∧ va_D A (W1 cs h a (upd i 14 v) r u ++ T) := ⟨hP, hD⟩
theorem st1_15 {D : va_G} {A : Nat → Prop} {H : Heap} {cs : Nat → ClassId} {h : Nat} {a : Nat → Nat} {i : Nat → Int32} {r : Nat → Nat → Int32} {u : Nat → Nat} {v : Int32} (hP : va_P D vwCl ((W1 cs h a i r u).set 0 (h, .inr (1, (fs1 a i).set 15 (.int v)))) H) (hD : va_D A ((W1 cs h a i r u).set 0 (h, .inr (1, (fs1 a i).set 15 (.int v))))) : va_P D vwCl (W1 cs h a (upd i 15 v) r u) H ∧ va_D A (W1 cs h a (upd i 15 v) r u) := ⟨hP, hD⟩
theorem st1_15_T {D : va_G} {A : Nat → Prop} {H : Heap} {cs : Nat → ClassId} {h : Nat} {a : Nat → Nat} {i : Nat → Int32} {r : Nat → Nat → Int32} {u : Nat → Nat} {v : Int32} {T : va_W} (hP : va_P D vwCl ((W1 cs h a i r u ++ T).set 0 (h, .inr (1, (fs1 a i).set 15 (.int v)))) H) (hD : va_D A ((W1 cs h a i r u ++ T).set 0 (h, .inr (1, (fs1 a i).set 15 (.int v))))) : va_P D vwCl (W1 cs h a (upd i 15 v) r u ++ T) H ∧ va_D A (W1 cs h a (upd i 15 v) r u ++ T) := ⟨hP, hD⟩
/-! MarbleFloor$Cracks.watching()Z -/
abbrev wlX1_watching : List Cond := Cond.code yX1_watching cX1_watching 1 (some .boolean) :: tbG
abbrev rmX1_watching : Room := { frames := 0, cells := 0, slots := 0, locals := 0 }
theorem qnX1_watching : yX1_watching.cls = RX1 ∧ yX1_watching.cls ≠ "java/lang/invoke/MethodHandle" ∧ yX1_watching.cls ≠ "java/lang/invoke/VarHandle" ∧ (parseMethodDescriptor yX1_watching.desc).map (fun d => d.parameters.length) = some 0 := by decide +kernel
def f_X1_watching  (i0 : Nat → Int32) (r0 : Nat → Nat → Int32) (u0 : Nat → Nat)  : Option (Int32) := ck (bz (i0 10)) (some (i0 10))
set_option maxRecDepth 100000 in
set_option maxHeartbeats 4000000 in
theorem c_X1_watching {l : Launch} {D : va_G} {cs zs : Nat → Nat} {h0 : Nat} {a0 : Nat → Nat} {i0 : Nat → Int32} {r0 : Nat → Nat → Int32} {u0 : Nat → Nat}  {q : Int32} (hf : f_X1_watching i0 r0 u0 = some q) : Mi l yX1_watching wlX1_watching rmX1_watching D cs zs [.ref h0] (W1 cs h0 a0 i0 r0 u0) q (W1 cs h0 a0 i0 r0 u0) := by
  refine Mi.of RX1 (by decide) rfl (Nat.le_of_ble_eq_true rfl) (fun p e s m below meth c A C hP hD hS ls hl => ?_)
  generalize ([.ref h0] : List Value).toArray = args at C ⊢
  obtain ⟨hx, hb, hr, hml, hown, hts, hK, hA, hlocks, hZ⟩ := id C
  have hl : lv_has ls 1 [(0, .ref h0)] := hl
  rw [f_X1_watching] at hf
  refine lv_aload_n hx hb dX1_watching_0 rfl (lv_at hl 0 rfl) ?_
  refine va_get (D := D) (ci := 1) (v := .int (i0 10)) (C := RX1) (T := TX1) (N := 16) hx hb hts hiX1 hown hK hP 0 rfl rfl 10 (by decide) (hts _ flX1_46) (fun _ h9 => h9) rfl dX1_watching_1 ?_
  have hz := ck_bz hf
  have hf := ck_2 hf
  obtain rfl := Option.some.inj hf
  exact k_zret (r := i0 10) hx hb hr hlocks hz hK hP hD hS dX1_watching_4
/-! MarbleFloor$Cracks.seen()I -/
abbrev wlX1_seen : List Cond := Cond.code yX1_seen cX1_seen 1 (some .int) :: tbG
abbrev rmX1_seen : Room := { frames := 0, cells := 0, slots := 0, locals := 0 }
theorem qnX1_seen : yX1_seen.cls = RX1 ∧ yX1_seen.cls ≠ "java/lang/invoke/MethodHandle" ∧ yX1_seen.cls ≠ "java/lang/invoke/VarHandle" ∧ (parseMethodDescriptor yX1_seen.desc).map (fun d => d.parameters.length) = some 0 := by decide +kernel
def f_X1_seen  (i0 : Nat → Int32) (r0 : Nat → Nat → Int32) (u0 : Nat → Nat)  : Option (Int32) := some (i0 13)
set_option maxRecDepth 100000 in
set_option maxHeartbeats 4000000 in
theorem c_X1_seen {l : Launch} {D : va_G} {cs zs : Nat → Nat} {h0 : Nat} {a0 : Nat → Nat} {i0 : Nat → Int32} {r0 : Nat → Nat → Int32} {u0 : Nat → Nat}  {q : Int32} (hf : f_X1_seen i0 r0 u0 = some q) : Mi l yX1_seen wlX1_seen rmX1_seen D cs zs [.ref h0] (W1 cs h0 a0 i0 r0 u0) q (W1 cs h0 a0 i0 r0 u0) := by
  refine Mi.of RX1 (by decide) rfl (Nat.le_of_ble_eq_true rfl) (fun p e s m below meth c A C hP hD hS ls hl => ?_)
  generalize ([.ref h0] : List Value).toArray = args at C ⊢
  obtain ⟨hx, hb, hr, hml, hown, hts, hK, hA, hlocks, hZ⟩ := id C
  have hl : lv_has ls 1 [(0, .ref h0)] := hl
  rw [f_X1_seen] at hf
  refine lv_aload_n hx hb dX1_seen_0 rfl (lv_at hl 0 rfl) ?_
  refine va_get (D := D) (ci := 1) (v := .int (i0 13)) (C := RX1) (T := TX1) (N := 16) hx hb hts hiX1 hown hK hP 0 rfl rfl 13 (by decide) (hts _ flX1_50) (fun _ h9 => h9) rfl dX1_seen_1 ?_
  obtain rfl := Option.some.inj hf
  exact k_iret hx hb hr hlocks hK hP hD hS dX1_seen_4
/-! MarbleFloor$Cracks.rights()I -/
abbrev wlX1_rights : List Cond := Cond.code yX1_rights cX1_rights 1 (some .int) :: tbG
abbrev rmX1_rights : Room := { frames := 0, cells := 0, slots := 0, locals := 0 }
theorem qnX1_rights : yX1_rights.cls = RX1 ∧ yX1_rights.cls ≠ "java/lang/invoke/MethodHandle" ∧ yX1_rights.cls ≠ "java/lang/invoke/VarHandle" ∧ (parseMethodDescriptor yX1_rights.desc).map (fun d => d.parameters.length) = some 0 := by decide +kernel
def f_X1_rights  (i0 : Nat → Int32) (r0 : Nat → Nat → Int32) (u0 : Nat → Nat)  : Option (Int32) := some (i0 14)
set_option maxRecDepth 100000 in
set_option maxHeartbeats 4000000 in
theorem c_X1_rights {l : Launch} {D : va_G} {cs zs : Nat → Nat} {h0 : Nat} {a0 : Nat → Nat} {i0 : Nat → Int32} {r0 : Nat → Nat → Int32} {u0 : Nat → Nat}  {q : Int32} (hf : f_X1_rights i0 r0 u0 = some q) : Mi l yX1_rights wlX1_rights rmX1_rights D cs zs [.ref h0] (W1 cs h0 a0 i0 r0 u0) q (W1 cs h0 a0 i0 r0 u0) := by
  refine Mi.of RX1 (by decide) rfl (Nat.le_of_ble_eq_true rfl) (fun p e s m below meth c A C hP hD hS ls hl => ?_)
  generalize ([.ref h0] : List Value).toArray = args at C ⊢
  obtain ⟨hx, hb, hr, hml, hown, hts, hK, hA, hlocks, hZ⟩ := id C
  have hl : lv_has ls 1 [(0, .ref h0)] := hl
  rw [f_X1_rights] at hf
  refine lv_aload_n hx hb dX1_rights_0 rfl (lv_at hl 0 rfl) ?_
  refine va_get (D := D) (ci := 1) (v := .int (i0 14)) (C := RX1) (T := TX1) (N := 16) hx hb hts hiX1 hown hK hP 0 rfl rfl 14 (by decide) (hts _ flX1_53) (fun _ h9 => h9) rfl dX1_rights_1 ?_
  obtain rfl := Option.some.inj hf
  exact k_iret hx hb hr hlocks hK hP hD hS dX1_rights_4
/-! MarbleFloor$Cracks.fillOuts(LMarbleFloor$Floor;)V -/
abbrev wlX1_fillOuts : List Cond := Cond.code yX1_fillOuts cX1_fillOuts 6 none :: tbG
abbrev rmX1_fillOuts : Room := { frames := 2, cells := 0, slots := 0, locals := 48 }
theorem qnX1_fillOuts : yX1_fillOuts.cls = RX1 ∧ yX1_fillOuts.cls ≠ "java/lang/invoke/MethodHandle" ∧ yX1_fillOuts.cls ≠ "java/lang/invoke/VarHandle" ∧ (parseMethodDescriptor yX1_fillOuts.desc).map (fun d => d.parameters.length) = some 1 := by decide +kernel
def f_X1_fillOuts_35 (i0 : Nat → Int32) (u0 : Nat → Nat) (i1 : Nat → Int32) (r1 : Nat → Nat → Int32) (K6 : (Nat → Nat → Int32) → Int32 → Int32 → Option ((Nat → Nat → Int32))) (r0 : Nat → Nat → Int32) (x2 : Int32) (x3 : Int32) : Option ((Nat → Nat → Int32)) := K6 r0 x2 (x3 + 1)
set_option maxRecDepth 100000 in
set_option maxHeartbeats 4000000 in
theorem w_X1_fillOuts_35 {p : Program} {l : Launch} {e : Env} {s : State} {m : MethodId} {args : Array Value} {below : List Frame} {meth : Method} {c : Code} {A : Nat → Prop} {D : va_G} {cs zs : Nat → Nat} {h0 : Nat} {a0 : Nat → Nat} {h1 : Nat} {a1 : Nat → Nat} {i0 : Nat → Int32} {u0 : Nat → Nat} {i1 : Nat → Int32} {r1 : Nat → Nat → Int32} {q : (Nat → Nat → Int32)} (C : Cx p s m args meth c A D cs zs cX1_fillOuts 6 none RX1) (K6 : (Nat → Nat → Int32) → Int32 → Int32 → Option ((Nat → Nat → Int32))) (hK6 : ∀ (r0 : Nat → Nat → Int32) (x2 : Int32) (x3 : Int32) (H : Heap) (locs : List Loc) (ls : Array Slot), K6 r0 x2 x3 = some q → va_P D vwCl (W1 cs h0 a0 i0 r0 u0 ++ W2 cs h1 a1 i1 r1) H → va_D A (W1 cs h0 a0 i0 r0 u0 ++ W2 cs h1 a1 i1 r1) → va_S A s.heap H locs → lv_has ls 6 [(0, .ref h0), (1, .ref h1), (2, .int x2), (3, .int x3)] → W p l e rmX1_fillOuts s m args below meth c H locs 0 0 (MQ below (Qv D cs A (W1 cs h0 a0 i0 q u0 ++ W2 cs h1 a1 i1 r1)) args s 0 0 A) (F0 m 6 ls [])) : ∀ (r0 : Nat → Nat → Int32) (x2 : Int32) (x3 : Int32) (H : Heap) (locs : List Loc) (ls : Array Slot), f_X1_fillOuts_35 i0 u0 i1 r1 K6 r0 x2 x3 = some q → va_P D vwCl (W1 cs h0 a0 i0 r0 u0 ++ W2 cs h1 a1 i1 r1) H → va_D A (W1 cs h0 a0 i0 r0 u0 ++ W2 cs h1 a1 i1 r1) → va_S A s.heap H locs → lv_has ls 6 [(0, .ref h0), (1, .ref h1), (2, .int x2), (3, .int x3)] → W p l e rmX1_fillOuts s m args below meth c H locs 0 0 (MQ below (Qv D cs A (W1 cs h0 a0 i0 q u0 ++ W2 cs h1 a1 i1 r1)) args s 0 0 A) (F0 m 35 ls []) := by
  obtain ⟨hx, hb, hr, hml, hown, hts, hK, hA, hlocks, hZ⟩ := id C
  intro r0 x2 x3 H locs ls hf hP hD hS hl
  rw [f_X1_fillOuts_35] at hf
  refine lv_iinc (v := x3 + 1) (lv' := [(3, .int (x3 + 1)), (0, .ref h0), (1, .ref h1), (2, .int x2)]) hx hb dX1_fillOuts_35 hl (k := 3) rfl rfl (by decide) rfl (fun ls hl => ?_)
  refine lv_goto (tgt := 6) hx hb dX1_fillOuts_38 (by decide) ?_
  exact hK6 _ _ _ _ _ _ hf hP hD hS (lv_sub hl [1, 2, 3, 0] rfl)
def f_X1_fillOuts_145 (i0 : Nat → Int32) (u0 : Nat → Nat) (i1 : Nat → Int32) (r1 : Nat → Nat → Int32) (K43 : (Nat → Nat → Int32) → Int32 → Int32 → Option ((Nat → Nat → Int32))) (K86 : (Nat → Nat → Int32) → Int32 → Int32 → Int32 → Option ((Nat → Nat → Int32))) (r0 : Nat → Nat → Int32) (x2 : Int32) (x3 : Int32) (x4 : Int32) : Option ((Nat → Nat → Int32)) := K86 r0 x2 x3 (x4 + 1)
set_option maxRecDepth 100000 in
set_option maxHeartbeats 4000000 in
theorem w_X1_fillOuts_145 {p : Program} {l : Launch} {e : Env} {s : State} {m : MethodId} {args : Array Value} {below : List Frame} {meth : Method} {c : Code} {A : Nat → Prop} {D : va_G} {cs zs : Nat → Nat} {h0 : Nat} {a0 : Nat → Nat} {h1 : Nat} {a1 : Nat → Nat} {i0 : Nat → Int32} {u0 : Nat → Nat} {i1 : Nat → Int32} {r1 : Nat → Nat → Int32} {q : (Nat → Nat → Int32)} (C : Cx p s m args meth c A D cs zs cX1_fillOuts 6 none RX1) (K43 : (Nat → Nat → Int32) → Int32 → Int32 → Option ((Nat → Nat → Int32))) (hK43 : ∀ (r0 : Nat → Nat → Int32) (x2 : Int32) (x3 : Int32) (H : Heap) (locs : List Loc) (ls : Array Slot), K43 r0 x2 x3 = some q → va_P D vwCl (W1 cs h0 a0 i0 r0 u0 ++ W2 cs h1 a1 i1 r1) H → va_D A (W1 cs h0 a0 i0 r0 u0 ++ W2 cs h1 a1 i1 r1) → va_S A s.heap H locs → lv_has ls 6 [(0, .ref h0), (1, .ref h1), (2, .int x2), (3, .int x3)] → W p l e rmX1_fillOuts s m args below meth c H locs 0 0 (MQ below (Qv D cs A (W1 cs h0 a0 i0 q u0 ++ W2 cs h1 a1 i1 r1)) args s 0 0 A) (F0 m 43 ls [])) (K86 : (Nat → Nat → Int32) → Int32 → Int32 → Int32 → Option ((Nat → Nat → Int32))) (hK86 : ∀ (r0 : Nat → Nat → Int32) (x2 : Int32) (x3 : Int32) (x4 : Int32) (H : Heap) (locs : List Loc) (ls : Array Slot), K86 r0 x2 x3 x4 = some q → va_P D vwCl (W1 cs h0 a0 i0 r0 u0 ++ W2 cs h1 a1 i1 r1) H → va_D A (W1 cs h0 a0 i0 r0 u0 ++ W2 cs h1 a1 i1 r1) → va_S A s.heap H locs → lv_has ls 6 [(0, .ref h0), (1, .ref h1), (2, .int x2), (3, .int x3), (4, .int x4)] → W p l e rmX1_fillOuts s m args below meth c H locs 0 0 (MQ below (Qv D cs A (W1 cs h0 a0 i0 q u0 ++ W2 cs h1 a1 i1 r1)) args s 0 0 A) (F0 m 86 ls [])) : ∀ (r0 : Nat → Nat → Int32) (x2 : Int32) (x3 : Int32) (x4 : Int32) (H : Heap) (locs : List Loc) (ls : Array Slot), f_X1_fillOuts_145 i0 u0 i1 r1 K43 K86 r0 x2 x3 x4 = some q → va_P D vwCl (W1 cs h0 a0 i0 r0 u0 ++ W2 cs h1 a1 i1 r1) H → va_D A (W1 cs h0 a0 i0 r0 u0 ++ W2 cs h1 a1 i1 r1) → va_S A s.heap H locs → lv_has ls 6 [(0, .ref h0), (1, .ref h1), (2, .int x2), (3, .int x3), (4, .int x4)] → W p l e rmX1_fillOuts s m args below meth c H locs 0 0 (MQ below (Qv D cs A (W1 cs h0 a0 i0 q u0 ++ W2 cs h1 a1 i1 r1)) args s 0 0 A) (F0 m 145 ls []) := by
  obtain ⟨hx, hb, hr, hml, hown, hts, hK, hA, hlocks, hZ⟩ := id C
  intro r0 x2 x3 x4 H locs ls hf hP hD hS hl
  rw [f_X1_fillOuts_145] at hf
  refine lv_iinc (v := x4 + 1) (lv' := [(4, .int (x4 + 1)), (0, .ref h0), (1, .ref h1), (2, .int x2), (3, .int x3)]) hx hb dX1_fillOuts_145 hl (k := 4) rfl rfl (by decide) rfl (fun ls hl => ?_)
  refine lv_goto (tgt := 86) hx hb dX1_fillOuts_148 (by decide) ?_
  exact hK86 _ _ _ _ _ _ _ hf hP hD hS (lv_sub hl [1, 2, 3, 4, 0] rfl)
def f_X1_fillOuts_86 (i0 : Nat → Int32) (u0 : Nat → Nat) (i1 : Nat → Int32) (r1 : Nat → Nat → Int32) (K43 : (Nat → Nat → Int32) → Int32 → Int32 → Option ((Nat → Nat → Int32))) : Nat → (Nat → Nat → Int32) → Int32 → Int32 → Int32 → Option ((Nat → Nat → Int32))
  | 0, _, _, _, _ => none
  | n + 1, r0, x2, x3, x4 => if (i0 12) ≤ x4 then (K43 r0 x2 (x3 + 1)) else (ck (inb x4 256) (bd (f_X2_pass i1 r1 (r0 6 x4.toNatClampNeg) x3) (fun q3 => ck (inb q3 256) (ck (inb (x2 + (r0 7 q3.toNatClampNeg)) (u0 9)) (ck (inb ((x3 * 256) + x4) (u0 9)) (ck (inb x4 256) (f_X1_fillOuts_145 i0 u0 i1 r1 K43 (f_X1_fillOuts_86 i0 u0 i1 r1 K43 n) (va_up (va_up r0 9 (upd (r0 9) ((x3 * 256) + x4).toNatClampNeg (r0 9 (x2 + (r0 7 q3.toNatClampNeg)).toNatClampNeg))) 6 (upd (r0 6) x4.toNatClampNeg q3)) x2 x3 x4)))))))
set_option maxRecDepth 100000 in
set_option maxHeartbeats 4000000 in
theorem w_X1_fillOuts_86 {p : Program} {l : Launch} {e : Env} {s : State} {m : MethodId} {args : Array Value} {below : List Frame} {meth : Method} {c : Code} {A : Nat → Prop} {D : va_G} {cs zs : Nat → Nat} {h0 : Nat} {a0 : Nat → Nat} {h1 : Nat} {a1 : Nat → Nat} {i0 : Nat → Int32} {u0 : Nat → Nat} {i1 : Nat → Int32} {r1 : Nat → Nat → Int32} {q : (Nat → Nat → Int32)} (C : Cx p s m args meth c A D cs zs cX1_fillOuts 6 none RX1) (K43 : (Nat → Nat → Int32) → Int32 → Int32 → Option ((Nat → Nat → Int32))) (hK43 : ∀ (r0 : Nat → Nat → Int32) (x2 : Int32) (x3 : Int32) (H : Heap) (locs : List Loc) (ls : Array Slot), K43 r0 x2 x3 = some q → va_P D vwCl (W1 cs h0 a0 i0 r0 u0 ++ W2 cs h1 a1 i1 r1) H → va_D A (W1 cs h0 a0 i0 r0 u0 ++ W2 cs h1 a1 i1 r1) → va_S A s.heap H locs → lv_has ls 6 [(0, .ref h0), (1, .ref h1), (2, .int x2), (3, .int x3)] → W p l e rmX1_fillOuts s m args below meth c H locs 0 0 (MQ below (Qv D cs A (W1 cs h0 a0 i0 q u0 ++ W2 cs h1 a1 i1 r1)) args s 0 0 A) (F0 m 43 ls [])) : ∀ (n : Nat), ∀ (r0 : Nat → Nat → Int32) (x2 : Int32) (x3 : Int32) (x4 : Int32) (H : Heap) (locs : List Loc) (ls : Array Slot), f_X1_fillOuts_86 i0 u0 i1 r1 K43 n r0 x2 x3 x4 = some q → va_P D vwCl (W1 cs h0 a0 i0 r0 u0 ++ W2 cs h1 a1 i1 r1) H → va_D A (W1 cs h0 a0 i0 r0 u0 ++ W2 cs h1 a1 i1 r1) → va_S A s.heap H locs → lv_has ls 6 [(0, .ref h0), (1, .ref h1), (2, .int x2), (3, .int x3), (4, .int x4)] → W p l e rmX1_fillOuts s m args below meth c H locs 0 0 (MQ below (Qv D cs A (W1 cs h0 a0 i0 q u0 ++ W2 cs h1 a1 i1 r1)) args s 0 0 A) (F0 m 86 ls []) := by
  obtain ⟨hx, hb, hr, hml, hown, hts, hK, hA, hlocks, hZ⟩ := id C
  intro n
  induction n with
  | zero =>
    intro r0 x2 x3 x4 H locs ls hf
    rw [f_X1_fillOuts_86] at hf
    cases hf
  | succ n ih =>
    intro r0 x2 x3 x4 H locs ls hf hP hD hS hl
    rw [f_X1_fillOuts_86] at hf
    refine lv_iload hx hb dX1_fillOuts_86 (lv_at hl 4 rfl) ?_
    refine lv_aload_n hx hb dX1_fillOuts_88 rfl (lv_at hl 0 rfl) ?_
    refine va_get (D := D) (ci := 1) (v := .int (i0 12)) (C := RX1) (T := TX1) (N := 16) hx hb hts hiX1 hown hK hP 0 rfl rfl 12 (by decide) (hts _ flX1_42) (fun _ h9 => h9) rfl dX1_fillOuts_89 ?_
    refine lv_icmp_ge (tgt := 151) hx hb dX1_fillOuts_92 (by decide) (fun hc => ?_) (fun hc => ?_)
    · have hf := ite_t hf hc
      refine lv_iinc (v := x3 + 1) (lv' := [(3, .int (x3 + 1)), (0, .ref h0), (1, .ref h1), (2, .int x2), (4, .int x4)]) hx hb dX1_fillOuts_151 hl (k := 3) rfl rfl (by decide) rfl (fun ls hl => ?_)
      refine lv_goto (tgt := 43) hx hb dX1_fillOuts_154 (by decide) ?_
      exact hK43 _ _ _ _ _ _ hf hP hD hS (lv_sub hl [1, 2, 3, 0] rfl)
    · have hf := ite_f hf hc
      refine lv_aload_n hx hb dX1_fillOuts_95 rfl (lv_at hl 1 rfl) ?_
      refine lv_aload_n hx hb dX1_fillOuts_96 rfl (lv_at hl 0 rfl) ?_
      refine va_get (D := D) (ci := 1) (v := .ref (a0 6)) (C := RX1) (T := TX1) (N := 16) hx hb hts hiX1 hown hK hP 0 rfl rfl 6 (by decide) (hts _ flX1_30) (fun _ h9 => h9) rfl dX1_fillOuts_97 ?_
      refine lv_iload hx hb dX1_fillOuts_100 (lv_at hl 4 rfl) ?_
      refine va_iald (f := r0 6) hx hb hK hP 7 0 rfl rfl (ck_in hf) dX1_fillOuts_102 ?_
      have hf := ck_2 hf
      refine lv_iload_n hx hb dX1_fillOuts_103 rfl (lv_at hl 3 rfl) ?_
      obtain ⟨q3, hq3, hf⟩ := bd_s hf
      refine k_pVi (wr := W1 cs h0 a0 i0 r0 u0) (ws2 := W1 cs h0 a0 i0 r0 u0 ++ W2 cs h1 a1 i1 r1) (As := [.int (r0 6 x4.toNatClampNeg), .int x3]) (rest := []) hx hb hml hown hts hK hA hZ hl.1 hP hD hS (c_X2_pass (h0 := h1) (a0 := a1) hq3) (gVt mlX1_77 imX2_pass seX2_pass inX2 coX2_pass) rfl qnX2_pass rfl rfl ⟨Nat.le_of_ble_eq_true rfl, Nat.le_of_ble_eq_true rfl⟩ [11, 12, 13, 14, 15] [0, 1, 2, 3, 4, 5, 6, 7, 8, 9, 10] [0, 1, 2, 3, 4, 5, 6, 7, 8, 9, 10, 11, 12, 13, 14, 15] rfl rfl rfl (by decide) 0 2 rfl rfl rfl rfl rfl (Nat.le_of_ble_eq_true rfl) ⟨Nat.zero_le _, Nat.zero_le _⟩ dX1_fillOuts_104 (fun H locs hP hD hS => ?_)
      refine lv_istore (lv' := [(5, .int q3), (0, .ref h0), (1, .ref h1), (2, .int x2), (3, .int x3), (4, .int x4)]) hx hb dX1_fillOuts_107 hl (by decide) rfl (fun ls hl => ?_)
      refine lv_aload_n hx hb dX1_fillOuts_109 rfl (lv_at hl 1 rfl) ?_
      refine va_get (D := D) (ci := 1) (v := .ref (a0 9)) (C := RX1) (T := TX1) (N := 16) hx hb hts hiX1 hown hK hP 0 rfl rfl 9 (by decide) (hts _ flX1_39) (fun _ h9 => h9) rfl dX1_fillOuts_110 ?_
      refine lv_iload_n hx hb dX1_fillOuts_113 rfl (lv_at hl 4 rfl) ?_
      refine lv_sipush (v := 256) hx hb dX1_fillOuts_114 (by decide) ?_
      refine lv_imul hx hb dX1_fillOuts_117 ?_
      refine lv_iload hx hb dX1_fillOuts_118 (lv_at hl 5 rfl) ?_
      refine lv_iadd hx hb dX1_fillOuts_120 ?_
      refine lv_aload_n hx hb dX1_fillOuts_121 rfl (lv_at hl 1 rfl) ?_
      refine va_get (D := D) (ci := 1) (v := .ref (a0 9)) (C := RX1) (T := TX1) (N := 16) hx hb hts hiX1 hown hK hP 0 rfl rfl 9 (by decide) (hts _ flX1_39) (fun _ h9 => h9) rfl dX1_fillOuts_122 ?_
      refine lv_iload_n hx hb dX1_fillOuts_125 rfl (lv_at hl 3 rfl) ?_
      refine lv_aload_n hx hb dX1_fillOuts_126 rfl (lv_at hl 1 rfl) ?_
      refine va_get (D := D) (ci := 1) (v := .ref (a0 7)) (C := RX1) (T := TX1) (N := 16) hx hb hts hiX1 hown hK hP 0 rfl rfl 7 (by decide) (hts _ flX1_33) (fun _ h9 => h9) rfl dX1_fillOuts_127 ?_
      refine lv_iload hx hb dX1_fillOuts_130 (lv_at hl 0 rfl) ?_
      refine va_iald (f := r0 7) hx hb hK hP 8 0 rfl rfl (ck_in hf) dX1_fillOuts_132 ?_
      have hf := ck_2 hf
      refine lv_iadd hx hb dX1_fillOuts_133 ?_
      refine va_iald (f := r0 9) hx hb hK hP 10 0 rfl rfl (ck_in hf) dX1_fillOuts_134 ?_
      have hf := ck_2 hf
      refine va_iast (f := r0 9) hx hb hK hP hD hS 10 0 rfl rfl (ck_in hf) dX1_fillOuts_135 (fun H locs hP hD hS => ?_)
      have hf := ck_2 hf
      obtain ⟨hP, hD⟩ := st1_9_T hP hD
      refine lv_aload_n hx hb dX1_fillOuts_136 rfl (lv_at hl 1 rfl) ?_
      refine va_get (D := D) (ci := 1) (v := .ref (a0 6)) (C := RX1) (T := TX1) (N := 16) hx hb hts hiX1 hown hK hP 0 rfl rfl 6 (by decide) (hts _ flX1_30) (fun _ h9 => h9) rfl dX1_fillOuts_137 ?_
      refine lv_iload hx hb dX1_fillOuts_140 (lv_at hl 5 rfl) ?_
      refine lv_iload hx hb dX1_fillOuts_142 (lv_at hl 0 rfl) ?_
      refine va_iast (f := r0 6) hx hb hK hP hD hS 7 0 rfl rfl (ck_in hf) dX1_fillOuts_144 (fun H locs hP hD hS => ?_)
      have hf := ck_2 hf
      obtain ⟨hP, hD⟩ := st1_6_T hP hD
      exact w_X1_fillOuts_145 C _ (hK43) _ (ih) _ _ _ _ _ _ _ hf hP hD hS (lv_sub hl [1, 2, 3, 4, 5] rfl)
def f_X1_fillOuts_54 (i0 : Nat → Int32) (u0 : Nat → Nat) (i1 : Nat → Int32) (r1 : Nat → Nat → Int32) (K43 : (Nat → Nat → Int32) → Int32 → Int32 → Option ((Nat → Nat → Int32))) : Nat → (Nat → Nat → Int32) → Int32 → Int32 → Int32 → Option ((Nat → Nat → Int32))
  | 0, _, _, _, _ => none
  | n + 1, r0, x2, x3, x4 => if (i0 12) ≤ x4 then (f_X1_fillOuts_86 i0 u0 i1 r1 K43 2000000 r0 x2 x3 0) else (ck (inb x4 256) (ck (inb (r0 6 x4.toNatClampNeg) 256) (f_X1_fillOuts_54 i0 u0 i1 r1 K43 n (va_up r0 7 (upd (r0 7) (r0 6 x4.toNatClampNeg).toNatClampNeg x4)) x2 x3 (x4 + 1))))
set_option maxRecDepth 100000 in
set_option maxHeartbeats 4000000 in
theorem w_X1_fillOuts_54 {p : Program} {l : Launch} {e : Env} {s : State} {m : MethodId} {args : Array Value} {below : List Frame} {meth : Method} {c : Code} {A : Nat → Prop} {D : va_G} {cs zs : Nat → Nat} {h0 : Nat} {a0 : Nat → Nat} {h1 : Nat} {a1 : Nat → Nat} {i0 : Nat → Int32} {u0 : Nat → Nat} {i1 : Nat → Int32} {r1 : Nat → Nat → Int32} {q : (Nat → Nat → Int32)} (C : Cx p s m args meth c A D cs zs cX1_fillOuts 6 none RX1) (K43 : (Nat → Nat → Int32) → Int32 → Int32 → Option ((Nat → Nat → Int32))) (hK43 : ∀ (r0 : Nat → Nat → Int32) (x2 : Int32) (x3 : Int32) (H : Heap) (locs : List Loc) (ls : Array Slot), K43 r0 x2 x3 = some q → va_P D vwCl (W1 cs h0 a0 i0 r0 u0 ++ W2 cs h1 a1 i1 r1) H → va_D A (W1 cs h0 a0 i0 r0 u0 ++ W2 cs h1 a1 i1 r1) → va_S A s.heap H locs → lv_has ls 6 [(0, .ref h0), (1, .ref h1), (2, .int x2), (3, .int x3)] → W p l e rmX1_fillOuts s m args below meth c H locs 0 0 (MQ below (Qv D cs A (W1 cs h0 a0 i0 q u0 ++ W2 cs h1 a1 i1 r1)) args s 0 0 A) (F0 m 43 ls [])) : ∀ (n : Nat), ∀ (r0 : Nat → Nat → Int32) (x2 : Int32) (x3 : Int32) (x4 : Int32) (H : Heap) (locs : List Loc) (ls : Array Slot), f_X1_fillOuts_54 i0 u0 i1 r1 K43 n r0 x2 x3 x4 = some q → va_P D vwCl (W1 cs h0 a0 i0 r0 u0 ++ W2 cs h1 a1 i1 r1) H → va_D A (W1 cs h0 a0 i0 r0 u0 ++ W2 cs h1 a1 i1 r1) → va_S A s.heap H locs → lv_has ls 6 [(0, .ref h0), (1, .ref h1), (2, .int x2), (3, .int x3), (4, .int x4)] → W p l e rmX1_fillOuts s m args below meth c H locs 0 0 (MQ below (Qv D cs A (W1 cs h0 a0 i0 q u0 ++ W2 cs h1 a1 i1 r1)) args s 0 0 A) (F0 m 54 ls []) := by
  obtain ⟨hx, hb, hr, hml, hown, hts, hK, hA, hlocks, hZ⟩ := id C
  intro n
  induction n with
  | zero =>
    intro r0 x2 x3 x4 H locs ls hf
    rw [f_X1_fillOuts_54] at hf
    cases hf
  | succ n ih =>
    intro r0 x2 x3 x4 H locs ls hf hP hD hS hl
    rw [f_X1_fillOuts_54] at hf
    refine lv_iload hx hb dX1_fillOuts_54 (lv_at hl 4 rfl) ?_
    refine lv_aload_n hx hb dX1_fillOuts_56 rfl (lv_at hl 0 rfl) ?_
    refine va_get (D := D) (ci := 1) (v := .int (i0 12)) (C := RX1) (T := TX1) (N := 16) hx hb hts hiX1 hown hK hP 0 rfl rfl 12 (by decide) (hts _ flX1_42) (fun _ h9 => h9) rfl dX1_fillOuts_57 ?_
    refine lv_icmp_ge (tgt := 83) hx hb dX1_fillOuts_60 (by decide) (fun hc => ?_) (fun hc => ?_)
    · have hf := ite_t hf hc
      refine lv_iconst (v := 0) hx hb dX1_fillOuts_83 (by decide) ?_
      refine lv_istore (lv' := [(4, .int 0), (0, .ref h0), (1, .ref h1), (2, .int x2), (3, .int x3)]) hx hb dX1_fillOuts_84 hl (by decide) rfl (fun ls hl => ?_)
      exact w_X1_fillOuts_86 C _ (hK43) 2000000 _ _ _ _ _ _ _ hf hP hD hS (lv_sub hl [1, 2, 3, 4, 0] rfl)
    · have hf := ite_f hf hc
      refine lv_aload_n hx hb dX1_fillOuts_63 rfl (lv_at hl 0 rfl) ?_
      refine va_get (D := D) (ci := 1) (v := .ref (a0 7)) (C := RX1) (T := TX1) (N := 16) hx hb hts hiX1 hown hK hP 0 rfl rfl 7 (by decide) (hts _ flX1_33) (fun _ h9 => h9) rfl dX1_fillOuts_64 ?_
      refine lv_aload_n hx hb dX1_fillOuts_67 rfl (lv_at hl 0 rfl) ?_
      refine va_get (D := D) (ci := 1) (v := .ref (a0 6)) (C := RX1) (T := TX1) (N := 16) hx hb hts hiX1 hown hK hP 0 rfl rfl 6 (by decide) (hts _ flX1_30) (fun _ h9 => h9) rfl dX1_fillOuts_68 ?_
      refine lv_iload hx hb dX1_fillOuts_71 (lv_at hl 4 rfl) ?_
      refine va_iald (f := r0 6) hx hb hK hP 7 0 rfl rfl (ck_in hf) dX1_fillOuts_73 ?_
      have hf := ck_2 hf
      refine lv_iload hx hb dX1_fillOuts_74 (lv_at hl 4 rfl) ?_
      refine va_iast (f := r0 7) hx hb hK hP hD hS 8 0 rfl rfl (ck_in hf) dX1_fillOuts_76 (fun H locs hP hD hS => ?_)
      have hf := ck_2 hf
      obtain ⟨hP, hD⟩ := st1_7_T hP hD
      refine lv_iinc (v := x4 + 1) (lv' := [(4, .int (x4 + 1)), (0, .ref h0), (1, .ref h1), (2, .int x2), (3, .int x3)]) hx hb dX1_fillOuts_77 hl (k := 4) rfl rfl (by decide) rfl (fun ls hl => ?_)
      refine lv_goto (tgt := 54) hx hb dX1_fillOuts_80 (by decide) ?_
      exact ih _ _ _ _ _ _ _ hf hP hD hS (lv_sub hl [1, 2, 3, 4, 0] rfl)
def f_X1_fillOuts_43 (i0 : Nat → Int32) (u0 : Nat → Nat) (i1 : Nat → Int32) (r1 : Nat → Nat → Int32)  : Nat → (Nat → Nat → Int32) → Int32 → Int32 → Option ((Nat → Nat → Int32))
  | 0, _, _, _ => none
  | n + 1, r0, x2, x3 => if (i0 11) ≤ x3 then (some (r0)) else (f_X1_fillOuts_54 i0 u0 i1 r1 (f_X1_fillOuts_43 i0 u0 i1 r1 n) 2000000 r0 x2 x3 0)
set_option maxRecDepth 100000 in
set_option maxHeartbeats 4000000 in
theorem w_X1_fillOuts_43 {p : Program} {l : Launch} {e : Env} {s : State} {m : MethodId} {args : Array Value} {below : List Frame} {meth : Method} {c : Code} {A : Nat → Prop} {D : va_G} {cs zs : Nat → Nat} {h0 : Nat} {a0 : Nat → Nat} {h1 : Nat} {a1 : Nat → Nat} {i0 : Nat → Int32} {u0 : Nat → Nat} {i1 : Nat → Int32} {r1 : Nat → Nat → Int32} {q : (Nat → Nat → Int32)} (C : Cx p s m args meth c A D cs zs cX1_fillOuts 6 none RX1)  : ∀ (n : Nat), ∀ (r0 : Nat → Nat → Int32) (x2 : Int32) (x3 : Int32) (H : Heap) (locs : List Loc) (ls : Array Slot), f_X1_fillOuts_43 i0 u0 i1 r1 n r0 x2 x3 = some q → va_P D vwCl (W1 cs h0 a0 i0 r0 u0 ++ W2 cs h1 a1 i1 r1) H → va_D A (W1 cs h0 a0 i0 r0 u0 ++ W2 cs h1 a1 i1 r1) → va_S A s.heap H locs → lv_has ls 6 [(0, .ref h0), (1, .ref h1), (2, .int x2), (3, .int x3)] → W p l e rmX1_fillOuts s m args below meth c H locs 0 0 (MQ below (Qv D cs A (W1 cs h0 a0 i0 q u0 ++ W2 cs h1 a1 i1 r1)) args s 0 0 A) (F0 m 43 ls []) := by
  obtain ⟨hx, hb, hr, hml, hown, hts, hK, hA, hlocks, hZ⟩ := id C
  intro n
  induction n with
  | zero =>
    intro r0 x2 x3 H locs ls hf
    rw [f_X1_fillOuts_43] at hf
    cases hf
  | succ n ih =>
    intro r0 x2 x3 H locs ls hf hP hD hS hl
    rw [f_X1_fillOuts_43] at hf
    refine lv_iload_n hx hb dX1_fillOuts_43 rfl (lv_at hl 3 rfl) ?_
    refine lv_aload_n hx hb dX1_fillOuts_44 rfl (lv_at hl 0 rfl) ?_
    refine va_get (D := D) (ci := 1) (v := .int (i0 11)) (C := RX1) (T := TX1) (N := 16) hx hb hts hiX1 hown hK hP 0 rfl rfl 11 (by decide) (hts _ flX1_62) (fun _ h9 => h9) rfl dX1_fillOuts_45 ?_
    refine lv_icmp_ge (tgt := 157) hx hb dX1_fillOuts_48 (by decide) (fun hc => ?_) (fun hc => ?_)
    · have hf := ite_t hf hc
      obtain rfl := Option.some.inj hf
      exact k_vret hx hb hr hlocks hK hP hD hS dX1_fillOuts_157
    · have hf := ite_f hf hc
      refine lv_iconst (v := 0) hx hb dX1_fillOuts_51 (by decide) ?_
      refine lv_istore (lv' := [(4, .int 0), (0, .ref h0), (1, .ref h1), (2, .int x2), (3, .int x3)]) hx hb dX1_fillOuts_52 hl (by decide) rfl (fun ls hl => ?_)
      exact w_X1_fillOuts_54 C _ (ih) 2000000 _ _ _ _ _ _ _ hf hP hD hS (lv_sub hl [1, 2, 3, 4, 0] rfl)
def f_X1_fillOuts_6 (i0 : Nat → Int32) (u0 : Nat → Nat) (i1 : Nat → Int32) (r1 : Nat → Nat → Int32)  : Nat → (Nat → Nat → Int32) → Int32 → Int32 → Option ((Nat → Nat → Int32))
  | 0, _, _, _ => none
  | n + 1, r0, x2, x3 => if (i0 12) ≤ x3 then (f_X1_fillOuts_43 i0 u0 i1 r1 2000000 r0 x2 0) else (ck (inb x3 256) (bd (f_X2_outOf i1 r1 x3 0) (fun q4 => ck (inb (x2 + x3) (u0 9)) (f_X1_fillOuts_35 i0 u0 i1 r1 (f_X1_fillOuts_6 i0 u0 i1 r1 n) (va_up (va_up r0 6 (upd (r0 6) x3.toNatClampNeg x3)) 9 (upd (r0 9) (x2 + x3).toNatClampNeg q4)) x2 x3))))
set_option maxRecDepth 100000 in
set_option maxHeartbeats 4000000 in
theorem w_X1_fillOuts_6 {p : Program} {l : Launch} {e : Env} {s : State} {m : MethodId} {args : Array Value} {below : List Frame} {meth : Method} {c : Code} {A : Nat → Prop} {D : va_G} {cs zs : Nat → Nat} {h0 : Nat} {a0 : Nat → Nat} {h1 : Nat} {a1 : Nat → Nat} {i0 : Nat → Int32} {u0 : Nat → Nat} {i1 : Nat → Int32} {r1 : Nat → Nat → Int32} {q : (Nat → Nat → Int32)} (C : Cx p s m args meth c A D cs zs cX1_fillOuts 6 none RX1)  : ∀ (n : Nat), ∀ (r0 : Nat → Nat → Int32) (x2 : Int32) (x3 : Int32) (H : Heap) (locs : List Loc) (ls : Array Slot), f_X1_fillOuts_6 i0 u0 i1 r1 n r0 x2 x3 = some q → va_P D vwCl (W1 cs h0 a0 i0 r0 u0 ++ W2 cs h1 a1 i1 r1) H → va_D A (W1 cs h0 a0 i0 r0 u0 ++ W2 cs h1 a1 i1 r1) → va_S A s.heap H locs → lv_has ls 6 [(0, .ref h0), (1, .ref h1), (2, .int x2), (3, .int x3)] → W p l e rmX1_fillOuts s m args below meth c H locs 0 0 (MQ below (Qv D cs A (W1 cs h0 a0 i0 q u0 ++ W2 cs h1 a1 i1 r1)) args s 0 0 A) (F0 m 6 ls []) := by
  obtain ⟨hx, hb, hr, hml, hown, hts, hK, hA, hlocks, hZ⟩ := id C
  intro n
  induction n with
  | zero =>
    intro r0 x2 x3 H locs ls hf
    rw [f_X1_fillOuts_6] at hf
    cases hf
  | succ n ih =>
    intro r0 x2 x3 H locs ls hf hP hD hS hl
    rw [f_X1_fillOuts_6] at hf
    refine lv_iload_n hx hb dX1_fillOuts_6 rfl (lv_at hl 3 rfl) ?_
    refine lv_aload_n hx hb dX1_fillOuts_7 rfl (lv_at hl 0 rfl) ?_
    refine va_get (D := D) (ci := 1) (v := .int (i0 12)) (C := RX1) (T := TX1) (N := 16) hx hb hts hiX1 hown hK hP 0 rfl rfl 12 (by decide) (hts _ flX1_42) (fun _ h9 => h9) rfl dX1_fillOuts_8 ?_
    refine lv_icmp_ge (tgt := 41) hx hb dX1_fillOuts_11 (by decide) (fun hc => ?_) (fun hc => ?_)
    · have hf := ite_t hf hc
      refine lv_iconst (v := 0) hx hb dX1_fillOuts_41 (by decide) ?_
      refine lv_istore_n (lv' := [(3, .int 0), (0, .ref h0), (1, .ref h1), (2, .int x2)]) hx hb dX1_fillOuts_42 rfl hl (by decide) rfl (fun ls hl => ?_)
      exact w_X1_fillOuts_43 C  2000000 _ _ _ _ _ _ hf hP hD hS (lv_sub hl [1, 2, 3, 0] rfl)
    · have hf := ite_f hf hc
      refine lv_aload_n hx hb dX1_fillOuts_14 rfl (lv_at hl 0 rfl) ?_
      refine va_get (D := D) (ci := 1) (v := .ref (a0 6)) (C := RX1) (T := TX1) (N := 16) hx hb hts hiX1 hown hK hP 0 rfl rfl 6 (by decide) (hts _ flX1_30) (fun _ h9 => h9) rfl dX1_fillOuts_15 ?_
      refine lv_iload_n hx hb dX1_fillOuts_18 rfl (lv_at hl 3 rfl) ?_
      refine lv_iload_n hx hb dX1_fillOuts_19 rfl (lv_at hl 3 rfl) ?_
      refine va_iast (f := r0 6) hx hb hK hP hD hS 7 0 rfl rfl (ck_in hf) dX1_fillOuts_20 (fun H locs hP hD hS => ?_)
      have hf := ck_2 hf
      obtain ⟨hP, hD⟩ := st1_6_T hP hD
      refine lv_aload_n hx hb dX1_fillOuts_21 rfl (lv_at hl 0 rfl) ?_
      refine va_get (D := D) (ci := 1) (v := .ref (a0 9)) (C := RX1) (T := TX1) (N := 16) hx hb hts hiX1 hown hK hP 0 rfl rfl 9 (by decide) (hts _ flX1_39) (fun _ h9 => h9) rfl dX1_fillOuts_22 ?_
      refine lv_iload_n hx hb dX1_fillOuts_25 rfl (lv_at hl 2 rfl) ?_
      refine lv_iload_n hx hb dX1_fillOuts_26 rfl (lv_at hl 3 rfl) ?_
      refine lv_iadd hx hb dX1_fillOuts_27 ?_
      refine lv_aload_n hx hb dX1_fillOuts_28 rfl (lv_at hl 1 rfl) ?_
      refine lv_iload_n hx hb dX1_fillOuts_29 rfl (lv_at hl 3 rfl) ?_
      refine lv_iconst (v := 0) hx hb dX1_fillOuts_30 (by decide) ?_
      obtain ⟨q4, hq4, hf⟩ := bd_s hf
      refine k_pVi (wr := W1 cs h0 a0 i0 (va_up r0 6 (upd (r0 6) x3.toNatClampNeg x3)) u0) (ws2 := W1 cs h0 a0 i0 (va_up r0 6 (upd (r0 6) x3.toNatClampNeg x3)) u0 ++ W2 cs h1 a1 i1 r1) (As := [.int x3, .int 0]) (rest := [.int (x2 + x3), .ref (a0 9)]) hx hb hml hown hts hK hA hZ hl.1 hP hD hS (c_X2_outOf (h0 := h1) (a0 := a1) hq4) (gVt mlX1_73 imX2_outOf seX2_outOf inX2 coX2_outOf) rfl qnX2_outOf rfl rfl ⟨Nat.le_of_ble_eq_true rfl, Nat.le_of_ble_eq_true rfl⟩ [11, 12, 13, 14, 15] [0, 1, 2, 3, 4, 5, 6, 7, 8, 9, 10] [0, 1, 2, 3, 4, 5, 6, 7, 8, 9, 10, 11, 12, 13, 14, 15] rfl rfl rfl (by decide) 0 2 rfl rfl rfl rfl rfl (Nat.le_of_ble_eq_true rfl) ⟨Nat.zero_le _, Nat.zero_le _⟩ dX1_fillOuts_31 (fun H locs hP hD hS => ?_)
      refine va_iast (f := r0 9) hx hb hK hP hD hS 10 0 rfl rfl (ck_in hf) dX1_fillOuts_34 (fun H locs hP hD hS => ?_)
      have hf := ck_2 hf
      obtain ⟨hP, hD⟩ := st1_9_T hP hD
      exact w_X1_fillOuts_35 C _ (ih) _ _ _ _ _ _ hf hP hD hS (lv_sub hl [0, 1, 2, 3] rfl)
def f_X1_fillOuts  (i0 : Nat → Int32) (r0 : Nat → Nat → Int32) (u0 : Nat → Nat) (i1 : Nat → Int32) (r1 : Nat → Nat → Int32)  : Option ((Nat → Nat → Int32)) := f_X1_fillOuts_6 i0 u0 i1 r1 2000000 r0 10240 0
set_option maxRecDepth 100000 in
set_option maxHeartbeats 4000000 in
theorem c_X1_fillOuts {l : Launch} {D : va_G} {cs zs : Nat → Nat} {h0 : Nat} {a0 : Nat → Nat} {h1 : Nat} {a1 : Nat → Nat} {i0 : Nat → Int32} {r0 : Nat → Nat → Int32} {u0 : Nat → Nat} {i1 : Nat → Int32} {r1 : Nat → Nat → Int32}  {q : (Nat → Nat → Int32)} (hf : f_X1_fillOuts i0 r0 u0 i1 r1 = some q) : Mv l yX1_fillOuts wlX1_fillOuts rmX1_fillOuts D cs zs [.ref h0, .ref h1] (W1 cs h0 a0 i0 r0 u0 ++ W2 cs h1 a1 i1 r1) (W1 cs h0 a0 i0 q u0 ++ W2 cs h1 a1 i1 r1) := by
  refine Mv.of RX1 (by decide) rfl (Nat.le_of_ble_eq_true rfl) (fun p e s m below meth c A C hP hD hS ls hl => ?_)
  generalize ([.ref h0, .ref h1] : List Value).toArray = args at C ⊢
  obtain ⟨hx, hb, hr, hml, hown, hts, hK, hA, hlocks, hZ⟩ := id C
  have hl : lv_has ls 6 [(0, .ref h0), (1, .ref h1)] := hl
  rw [f_X1_fillOuts] at hf
  refine lv_sipush (v := 10240) hx hb dX1_fillOuts_0 (by decide) ?_
  refine lv_istore_n (lv' := [(2, .int 10240), (0, .ref h0), (1, .ref h1)]) hx hb dX1_fillOuts_3 rfl hl (by decide) rfl (fun ls hl => ?_)
  refine lv_iconst (v := 0) hx hb dX1_fillOuts_4 (by decide) ?_
  refine lv_istore_n (lv' := [(3, .int 0), (2, .int 10240), (0, .ref h0), (1, .ref h1)]) hx hb dX1_fillOuts_5 rfl hl (by decide) rfl (fun ls hl => ?_)
  exact w_X1_fillOuts_6 C  2000000 _ _ _ _ _ _ hf hP hD hS (lv_sub hl [2, 3, 1, 0] rfl)
/-! MarbleFloor$Cracks.noTelling(I)Z -/
abbrev wlX1_noTelling : List Cond := Cond.code yX1_noTelling cX1_noTelling 2 (some .boolean) :: tbG
abbrev rmX1_noTelling : Room := { frames := 0, cells := 0, slots := 0, locals := 0 }
theorem qnX1_noTelling : yX1_noTelling.cls = RX1 ∧ yX1_noTelling.cls ≠ "java/lang/invoke/MethodHandle" ∧ yX1_noTelling.cls ≠ "java/lang/invoke/VarHandle" ∧ (parseMethodDescriptor yX1_noTelling.desc).map (fun d => d.parameters.length) = some 1 := by decide +kernel
def f_X1_noTelling  (i0 : Nat → Int32) (r0 : Nat → Nat → Int32) (u0 : Nat → Nat) (x1 : Int32) : Option (Int32) := if x1 < (i0 15) then (some (1)) else (if x1 ≤ 999 then (some (0)) else (some (1)))
set_option maxRecDepth 100000 in
set_option maxHeartbeats 4000000 in
theorem c_X1_noTelling {l : Launch} {D : va_G} {cs zs : Nat → Nat} {h0 : Nat} {a0 : Nat → Nat} {i0 : Nat → Int32} {r0 : Nat → Nat → Int32} {u0 : Nat → Nat} {x1 : Int32} {q : Int32} (hf : f_X1_noTelling i0 r0 u0 x1 = some q) : Mi l yX1_noTelling wlX1_noTelling rmX1_noTelling D cs zs [.ref h0, .int x1] (W1 cs h0 a0 i0 r0 u0) q (W1 cs h0 a0 i0 r0 u0) := by
  refine Mi.of RX1 (by decide) rfl (Nat.le_of_ble_eq_true rfl) (fun p e s m below meth c A C hP hD hS ls hl => ?_)
  generalize ([.ref h0, .int x1] : List Value).toArray = args at C ⊢
  obtain ⟨hx, hb, hr, hml, hown, hts, hK, hA, hlocks, hZ⟩ := id C
  have hl : lv_has ls 2 [(0, .ref h0), (1, .int x1)] := hl
  rw [f_X1_noTelling] at hf
  refine lv_iload_n hx hb dX1_noTelling_0 rfl (lv_at hl 1 rfl) ?_
  refine lv_aload_n hx hb dX1_noTelling_1 rfl (lv_at hl 0 rfl) ?_
  refine va_get (D := D) (ci := 1) (v := .int (i0 15)) (C := RX1) (T := TX1) (N := 16) hx hb hts hiX1 hown hK hP 0 rfl rfl 15 (by decide) (hts _ flX1_66) (fun _ h9 => h9) rfl dX1_noTelling_2 ?_
  refine lv_icmp_lt (tgt := 15) hx hb dX1_noTelling_5 (by decide) (fun hc => ?_) (fun hc => ?_)
  · have hf := ite_t hf hc
    refine lv_iconst (v := 1) hx hb dX1_noTelling_15 (by decide) ?_
    refine lv_goto (tgt := 20) hx hb dX1_noTelling_16 (by decide) ?_
    obtain rfl := Option.some.inj hf
    exact k_zret (r := 1) hx hb hr hlocks rfl hK hP hD hS dX1_noTelling_20
  · have hf := ite_f hf hc
    refine lv_iload_n hx hb dX1_noTelling_8 rfl (lv_at hl 1 rfl) ?_
    refine lv_sipush (v := 999) hx hb dX1_noTelling_9 (by decide) ?_
    refine lv_icmp_le (tgt := 19) hx hb dX1_noTelling_12 (by decide) (fun hc => ?_) (fun hc => ?_)
    · have hf := ite_t hf hc
      refine lv_iconst (v := 0) hx hb dX1_noTelling_19 (by decide) ?_
      obtain rfl := Option.some.inj hf
      exact k_zret (r := 0) hx hb hr hlocks rfl hK hP hD hS dX1_noTelling_20
    · have hf := ite_f hf hc
      refine lv_iconst (v := 1) hx hb dX1_noTelling_15 (by decide) ?_
      refine lv_goto (tgt := 20) hx hb dX1_noTelling_16 (by decide) ?_
      obtain rfl := Option.some.inj hf
      exact k_zret (r := 1) hx hb hr hlocks rfl hK hP hD hS dX1_noTelling_20
/-! MarbleFloor$Cracks.noRow(I)Z -/
abbrev wlX1_noRow : List Cond := Cond.code yX1_noRow cX1_noRow 2 (some .boolean) :: tbG
abbrev rmX1_noRow : Room := { frames := 0, cells := 0, slots := 0, locals := 0 }
theorem qnX1_noRow : yX1_noRow.cls = RX1 ∧ yX1_noRow.cls ≠ "java/lang/invoke/MethodHandle" ∧ yX1_noRow.cls ≠ "java/lang/invoke/VarHandle" ∧ (parseMethodDescriptor yX1_noRow.desc).map (fun d => d.parameters.length) = some 1 := by decide +kernel
def f_X1_noRow  (i0 : Nat → Int32) (r0 : Nat → Nat → Int32) (u0 : Nat → Nat) (x1 : Int32) : Option (Int32) := if x1 < 0 then (some (1)) else (if x1 < (i0 12) then (some (0)) else (some (1)))
set_option maxRecDepth 100000 in
set_option maxHeartbeats 4000000 in
theorem c_X1_noRow {l : Launch} {D : va_G} {cs zs : Nat → Nat} {h0 : Nat} {a0 : Nat → Nat} {i0 : Nat → Int32} {r0 : Nat → Nat → Int32} {u0 : Nat → Nat} {x1 : Int32} {q : Int32} (hf : f_X1_noRow i0 r0 u0 x1 = some q) : Mi l yX1_noRow wlX1_noRow rmX1_noRow D cs zs [.ref h0, .int x1] (W1 cs h0 a0 i0 r0 u0) q (W1 cs h0 a0 i0 r0 u0) := by
  refine Mi.of RX1 (by decide) rfl (Nat.le_of_ble_eq_true rfl) (fun p e s m below meth c A C hP hD hS ls hl => ?_)
  generalize ([.ref h0, .int x1] : List Value).toArray = args at C ⊢
  obtain ⟨hx, hb, hr, hml, hown, hts, hK, hA, hlocks, hZ⟩ := id C
  have hl : lv_has ls 2 [(0, .ref h0), (1, .int x1)] := hl
  rw [f_X1_noRow] at hf
  refine lv_iload_n hx hb dX1_noRow_0 rfl (lv_at hl 1 rfl) ?_
  refine lv_if_lt (tgt := 12) hx hb dX1_noRow_1 (by decide) (fun hc => ?_) (fun hc => ?_)
  · have hf := ite_t hf hc
    refine lv_iconst (v := 1) hx hb dX1_noRow_12 (by decide) ?_
    refine lv_goto (tgt := 17) hx hb dX1_noRow_13 (by decide) ?_
    obtain rfl := Option.some.inj hf
    exact k_zret (r := 1) hx hb hr hlocks rfl hK hP hD hS dX1_noRow_17
  · have hf := ite_f hf hc
    refine lv_iload_n hx hb dX1_noRow_4 rfl (lv_at hl 1 rfl) ?_
    refine lv_aload_n hx hb dX1_noRow_5 rfl (lv_at hl 0 rfl) ?_
    refine va_get (D := D) (ci := 1) (v := .int (i0 12)) (C := RX1) (T := TX1) (N := 16) hx hb hts hiX1 hown hK hP 0 rfl rfl 12 (by decide) (hts _ flX1_42) (fun _ h9 => h9) rfl dX1_noRow_6 ?_
    refine lv_icmp_lt (tgt := 16) hx hb dX1_noRow_9 (by decide) (fun hc => ?_) (fun hc => ?_)
    · have hf := ite_t hf hc
      refine lv_iconst (v := 0) hx hb dX1_noRow_16 (by decide) ?_
      obtain rfl := Option.some.inj hf
      exact k_zret (r := 0) hx hb hr hlocks rfl hK hP hD hS dX1_noRow_17
    · have hf := ite_f hf hc
      refine lv_iconst (v := 1) hx hb dX1_noRow_12 (by decide) ?_
      refine lv_goto (tgt := 17) hx hb dX1_noRow_13 (by decide) ?_
      obtain rfl := Option.some.inj hf
      exact k_zret (r := 1) hx hb hr hlocks rfl hK hP hD hS dX1_noRow_17
/-! MarbleFloor$Cracks.addSeen(III)I -/
abbrev wlX1_addSeen : List Cond := Cond.code yX1_addSeen cX1_addSeen 4 (some .int) :: tbG
abbrev rmX1_addSeen : Room := { frames := 1, cells := 0, slots := 0, locals := 21 }
theorem qnX1_addSeen : yX1_addSeen.cls = RX1 ∧ yX1_addSeen.cls ≠ "java/lang/invoke/MethodHandle" ∧ yX1_addSeen.cls ≠ "java/lang/invoke/VarHandle" ∧ (parseMethodDescriptor yX1_addSeen.desc).map (fun d => d.parameters.length) = some 3 := by decide +kernel
def f_X1_addSeen_94 (u0 : Nat → Nat)  (i0 : Nat → Int32) (r0 : Nat → Nat → Int32) : Option (Int32 × (Nat → Int32) × (Nat → Nat → Int32)) := some ((i0 13) - 1, i0, r0)
set_option maxRecDepth 100000 in
set_option maxHeartbeats 4000000 in
theorem w_X1_addSeen_94 {p : Program} {l : Launch} {e : Env} {s : State} {m : MethodId} {args : Array Value} {below : List Frame} {meth : Method} {c : Code} {A : Nat → Prop} {D : va_G} {cs zs : Nat → Nat} {h0 : Nat} {a0 : Nat → Nat} {u0 : Nat → Nat} {q : Int32 × (Nat → Int32) × (Nat → Nat → Int32)} (C : Cx p s m args meth c A D cs zs cX1_addSeen 4 (some .int) RX1)  : ∀ (i0 : Nat → Int32) (r0 : Nat → Nat → Int32) (H : Heap) (locs : List Loc) (ls : Array Slot), f_X1_addSeen_94 u0 i0 r0 = some q → va_P D vwCl (W1 cs h0 a0 i0 r0 u0) H → va_D A (W1 cs h0 a0 i0 r0 u0) → va_S A s.heap H locs → lv_has ls 4 [(0, .ref h0)] → W p l e rmX1_addSeen s m args below meth c H locs 0 0 (MQ below (Qi D cs A q.1 (W1 cs h0 a0 q.2.1 q.2.2 u0)) args s 0 0 A) (F0 m 94 ls []) := by
  obtain ⟨hx, hb, hr, hml, hown, hts, hK, hA, hlocks, hZ⟩ := id C
  intro i0 r0 H locs ls hf hP hD hS hl
  rw [f_X1_addSeen_94] at hf
  refine lv_aload_n hx hb dX1_addSeen_94 rfl (lv_at hl 0 rfl) ?_
  refine va_get (D := D) (ci := 1) (v := .int (i0 13)) (C := RX1) (T := TX1) (N := 16) hx hb hts hiX1 hown hK hP 0 rfl rfl 13 (by decide) (hts _ flX1_50) (fun _ h9 => h9) rfl dX1_addSeen_95 ?_
  refine lv_iconst (v := 1) hx hb dX1_addSeen_98 (by decide) ?_
  refine lv_isub hx hb dX1_addSeen_99 ?_
  obtain rfl := Option.some.inj hf
  exact k_iret hx hb hr hlocks hK hP hD hS dX1_addSeen_100
def f_X1_addSeen_69 (u0 : Nat → Nat)  (i0 : Nat → Int32) (r0 : Nat → Nat → Int32) (x1 : Int32) (x3 : Int32) : Option (Int32 × (Nat → Int32) × (Nat → Nat → Int32)) := ck (inb (i0 13) 20) (f_X1_addSeen_94 u0 (upd (upd i0 15 x1) 13 ((i0 13) + 1)) (va_up r0 2 (upd (r0 2) (i0 13).toNatClampNeg x3)))
set_option maxRecDepth 100000 in
set_option maxHeartbeats 4000000 in
theorem w_X1_addSeen_69 {p : Program} {l : Launch} {e : Env} {s : State} {m : MethodId} {args : Array Value} {below : List Frame} {meth : Method} {c : Code} {A : Nat → Prop} {D : va_G} {cs zs : Nat → Nat} {h0 : Nat} {a0 : Nat → Nat} {u0 : Nat → Nat} {q : Int32 × (Nat → Int32) × (Nat → Nat → Int32)} (C : Cx p s m args meth c A D cs zs cX1_addSeen 4 (some .int) RX1)  : ∀ (i0 : Nat → Int32) (r0 : Nat → Nat → Int32) (x1 : Int32) (x3 : Int32) (H : Heap) (locs : List Loc) (ls : Array Slot), f_X1_addSeen_69 u0 i0 r0 x1 x3 = some q → va_P D vwCl (W1 cs h0 a0 i0 r0 u0) H → va_D A (W1 cs h0 a0 i0 r0 u0) → va_S A s.heap H locs → lv_has ls 4 [(0, .ref h0), (1, .int x1), (3, .int x3)] → W p l e rmX1_addSeen s m args below meth c H locs 0 0 (MQ below (Qi D cs A q.1 (W1 cs h0 a0 q.2.1 q.2.2 u0)) args s 0 0 A) (F0 m 69 ls []) := by
  obtain ⟨hx, hb, hr, hml, hown, hts, hK, hA, hlocks, hZ⟩ := id C
  intro i0 r0 x1 x3 H locs ls hf hP hD hS hl
  rw [f_X1_addSeen_69] at hf
  refine lv_aload_n hx hb dX1_addSeen_69 rfl (lv_at hl 0 rfl) ?_
  refine va_get (D := D) (ci := 1) (v := .ref (a0 2)) (C := RX1) (T := TX1) (N := 16) hx hb hts hiX1 hown hK hP 0 rfl rfl 2 (by decide) (hts _ flX1_18) (fun _ h9 => h9) rfl dX1_addSeen_70 ?_
  refine lv_aload_n hx hb dX1_addSeen_73 rfl (lv_at hl 0 rfl) ?_
  refine va_get (D := D) (ci := 1) (v := .int (i0 13)) (C := RX1) (T := TX1) (N := 16) hx hb hts hiX1 hown hK hP 0 rfl rfl 13 (by decide) (hts _ flX1_50) (fun _ h9 => h9) rfl dX1_addSeen_74 ?_
  refine lv_iload_n hx hb dX1_addSeen_77 rfl (lv_at hl 2 rfl) ?_
  refine va_iast (f := r0 2) hx hb hK hP hD hS 3 0 rfl rfl (ck_in hf) dX1_addSeen_78 (fun H locs hP hD hS => ?_)
  have hf := ck_2 hf
  obtain ⟨hP, hD⟩ := st1_2 hP hD
  refine lv_aload_n hx hb dX1_addSeen_79 rfl (lv_at hl 0 rfl) ?_
  refine lv_iload_n hx hb dX1_addSeen_80 rfl (lv_at hl 1 rfl) ?_
  refine va_put (D := D) (ci := 1) (v := .int x1) (ty := .int) (C := RX1) (T := TX1) (N := 16) hx hb hts hiX1 tyX1 tyX1_ok nmX1 hown hK hP hD hS 0 rfl rfl 15 (by decide) (hts _ flX1_66) (fun _ h9 => h9) rfl (tyX1_ok 15 (by decide)) rfl rfl (Nat.le_of_ble_eq_true rfl) dX1_addSeen_81 (fun H locs hP hD hS => ?_)
  obtain ⟨hP, hD⟩ := st1_15 hP hD
  refine lv_aload_n hx hb dX1_addSeen_84 rfl (lv_at hl 0 rfl) ?_
  refine lv_dup hx hb dX1_addSeen_85 rfl ?_
  refine va_get (D := D) (ci := 1) (v := .int (i0 13)) (C := RX1) (T := TX1) (N := 16) hx hb hts hiX1 hown hK hP 0 rfl rfl 13 (by decide) (hts _ flX1_50) (fun _ h9 => h9) rfl dX1_addSeen_86 ?_
  refine lv_iconst (v := 1) hx hb dX1_addSeen_89 (by decide) ?_
  refine lv_iadd hx hb dX1_addSeen_90 ?_
  refine va_put (D := D) (ci := 1) (v := .int ((i0 13) + 1)) (ty := .int) (C := RX1) (T := TX1) (N := 16) hx hb hts hiX1 tyX1 tyX1_ok nmX1 hown hK hP hD hS 0 rfl rfl 13 (by decide) (hts _ flX1_50) (fun _ h9 => h9) rfl (tyX1_ok 13 (by decide)) rfl rfl (Nat.le_of_ble_eq_true rfl) dX1_addSeen_91 (fun H locs hP hD hS => ?_)
  obtain ⟨hP, hD⟩ := st1_13 hP hD
  exact w_X1_addSeen_94 C  _ _ _ _ _ hf hP hD hS (lv_sub hl [0] rfl)
def f_X1_addSeen  (i0 : Nat → Int32) (r0 : Nat → Nat → Int32) (u0 : Nat → Nat) (x1 : Int32) (x2 : Int32) (x3 : Int32) : Option (Int32 × (Nat → Int32) × (Nat → Nat → Int32)) := bd (f_X1_noTelling i0 r0 u0 x1) (fun q4 => if q4 = 0 then (bd (f_X1_noRow i0 r0 u0 x2) (fun q5 => if q5 = 0 then (bd (f_X1_noRow i0 r0 u0 x3) (fun q6 => if q6 = 0 then (if (i0 10) = 0 then (some ((-4), i0, r0)) else (if (i0 13) < 20 then (ck (inb (i0 13) 20) (ck (inb (i0 13) 20) (f_X1_addSeen_69 u0 i0 (va_up (va_up r0 0 (upd (r0 0) (i0 13).toNatClampNeg x1)) 1 (upd (r0 1) (i0 13).toNatClampNeg x2)) x1 x3))) else (some ((-3), i0, r0)))) else (some ((-2), i0, r0)))) else (some ((-2), i0, r0)))) else (some ((-2), i0, r0)))
set_option maxRecDepth 100000 in
set_option maxHeartbeats 4000000 in
theorem c_X1_addSeen {l : Launch} {D : va_G} {cs zs : Nat → Nat} {h0 : Nat} {a0 : Nat → Nat} {i0 : Nat → Int32} {r0 : Nat → Nat → Int32} {u0 : Nat → Nat} {x1 : Int32} {x2 : Int32} {x3 : Int32} {q : Int32 × (Nat → Int32) × (Nat → Nat → Int32)} (hf : f_X1_addSeen i0 r0 u0 x1 x2 x3 = some q) : Mi l yX1_addSeen wlX1_addSeen rmX1_addSeen D cs zs [.ref h0, .int x1, .int x2, .int x3] (W1 cs h0 a0 i0 r0 u0) q.1 (W1 cs h0 a0 q.2.1 q.2.2 u0) := by
  refine Mi.of RX1 (by decide) rfl (Nat.le_of_ble_eq_true rfl) (fun p e s m below meth c A C hP hD hS ls hl => ?_)
  generalize ([.ref h0, .int x1, .int x2, .int x3] : List Value).toArray = args at C ⊢
  obtain ⟨hx, hb, hr, hml, hown, hts, hK, hA, hlocks, hZ⟩ := id C
  have hl : lv_has ls 4 [(0, .ref h0), (1, .int x1), (2, .int x2), (3, .int x3)] := hl
  rw [f_X1_addSeen] at hf
  refine lv_aload_n hx hb dX1_addSeen_0 rfl (lv_at hl 0 rfl) ?_
  refine lv_iload_n hx hb dX1_addSeen_1 rfl (lv_at hl 1 rfl) ?_
  obtain ⟨q4, hq4, hf⟩ := bd_s hf
  refine k_sVi (ws2 := W1 cs h0 a0 i0 r0 u0) (As := [.int x1]) (rest := []) hx hb hml hown hts hK hA hZ hl.1 hP hD hS (c_X1_noTelling (h0 := h0) (a0 := a0) hq4) (gVt mlX1_81 imX1_noTelling seX1_noTelling inX1 coX1_noTelling) rfl qnX1_noTelling rfl rfl ⟨Nat.le_of_ble_eq_true rfl, Nat.le_of_ble_eq_true rfl⟩ 0 1 rfl rfl rfl rfl rfl (Nat.le_of_ble_eq_true rfl) ⟨Nat.zero_le _, Nat.zero_le _⟩ dX1_addSeen_2 (fun H locs hP hD hS => ?_)
  refine lv_if_ne (tgt := 24) hx hb dX1_addSeen_5 (by decide) (fun hc => ?_) (fun hc => ?_)
  · have hf := ite_f hf hc
    refine lv_bipush (v := (-2)) hx hb dX1_addSeen_24 (by decide) ?_
    obtain rfl := Option.some.inj hf
    exact k_iret hx hb hr hlocks hK hP hD hS dX1_addSeen_26
  · have hf := ite_t hf hc
    refine lv_aload_n hx hb dX1_addSeen_8 rfl (lv_at hl 0 rfl) ?_
    refine lv_iload_n hx hb dX1_addSeen_9 rfl (lv_at hl 2 rfl) ?_
    obtain ⟨q5, hq5, hf⟩ := bd_s hf
    refine k_sVi (ws2 := W1 cs h0 a0 i0 r0 u0) (As := [.int x2]) (rest := []) hx hb hml hown hts hK hA hZ hl.1 hP hD hS (c_X1_noRow (h0 := h0) (a0 := a0) hq5) (gVt mlX1_85 imX1_noRow seX1_noRow inX1 coX1_noRow) rfl qnX1_noRow rfl rfl ⟨Nat.le_of_ble_eq_true rfl, Nat.le_of_ble_eq_true rfl⟩ 0 1 rfl rfl rfl rfl rfl (Nat.le_of_ble_eq_true rfl) ⟨Nat.zero_le _, Nat.zero_le _⟩ dX1_addSeen_10 (fun H locs hP hD hS => ?_)
    refine lv_if_ne (tgt := 24) hx hb dX1_addSeen_13 (by decide) (fun hc => ?_) (fun hc => ?_)
    · have hf := ite_f hf hc
      refine lv_bipush (v := (-2)) hx hb dX1_addSeen_24 (by decide) ?_
      obtain rfl := Option.some.inj hf
      exact k_iret hx hb hr hlocks hK hP hD hS dX1_addSeen_26
    · have hf := ite_t hf hc
      refine lv_aload_n hx hb dX1_addSeen_16 rfl (lv_at hl 0 rfl) ?_
      refine lv_iload_n hx hb dX1_addSeen_17 rfl (lv_at hl 3 rfl) ?_
      obtain ⟨q6, hq6, hf⟩ := bd_s hf
      refine k_sVi (ws2 := W1 cs h0 a0 i0 r0 u0) (As := [.int x3]) (rest := []) hx hb hml hown hts hK hA hZ hl.1 hP hD hS (c_X1_noRow (h0 := h0) (a0 := a0) hq6) (gVt mlX1_85 imX1_noRow seX1_noRow inX1 coX1_noRow) rfl qnX1_noRow rfl rfl ⟨Nat.le_of_ble_eq_true rfl, Nat.le_of_ble_eq_true rfl⟩ 0 1 rfl rfl rfl rfl rfl (Nat.le_of_ble_eq_true rfl) ⟨Nat.zero_le _, Nat.zero_le _⟩ dX1_addSeen_18 (fun H locs hP hD hS => ?_)
      refine lv_if_eq (tgt := 27) hx hb dX1_addSeen_21 (by decide) (fun hc => ?_) (fun hc => ?_)
      · have hf := ite_t hf hc
        refine lv_aload_n hx hb dX1_addSeen_27 rfl (lv_at hl 0 rfl) ?_
        refine va_get (D := D) (ci := 1) (v := .int (i0 10)) (C := RX1) (T := TX1) (N := 16) hx hb hts hiX1 hown hK hP 0 rfl rfl 10 (by decide) (hts _ flX1_46) (fun _ h9 => h9) rfl dX1_addSeen_28 ?_
        refine lv_if_ne (tgt := 37) hx hb dX1_addSeen_31 (by decide) (fun hc => ?_) (fun hc => ?_)
        · have hf := ite_f hf hc
          refine lv_aload_n hx hb dX1_addSeen_37 rfl (lv_at hl 0 rfl) ?_
          refine va_get (D := D) (ci := 1) (v := .int (i0 13)) (C := RX1) (T := TX1) (N := 16) hx hb hts hiX1 hown hK hP 0 rfl rfl 13 (by decide) (hts _ flX1_50) (fun _ h9 => h9) rfl dX1_addSeen_38 ?_
          refine lv_bipush (v := 20) hx hb dX1_addSeen_41 (by decide) ?_
          refine lv_icmp_lt (tgt := 49) hx hb dX1_addSeen_43 (by decide) (fun hc => ?_) (fun hc => ?_)
          · have hf := ite_t hf hc
            refine lv_aload_n hx hb dX1_addSeen_49 rfl (lv_at hl 0 rfl) ?_
            refine va_get (D := D) (ci := 1) (v := .ref (a0 0)) (C := RX1) (T := TX1) (N := 16) hx hb hts hiX1 hown hK hP 0 rfl rfl 0 (by decide) (hts _ flX1_11) (fun _ h9 => h9) rfl dX1_addSeen_50 ?_
            refine lv_aload_n hx hb dX1_addSeen_53 rfl (lv_at hl 0 rfl) ?_
            refine va_get (D := D) (ci := 1) (v := .int (i0 13)) (C := RX1) (T := TX1) (N := 16) hx hb hts hiX1 hown hK hP 0 rfl rfl 13 (by decide) (hts _ flX1_50) (fun _ h9 => h9) rfl dX1_addSeen_54 ?_
            refine lv_iload_n hx hb dX1_addSeen_57 rfl (lv_at hl 1 rfl) ?_
            refine va_iast (f := r0 0) hx hb hK hP hD hS 1 0 rfl rfl (ck_in hf) dX1_addSeen_58 (fun H locs hP hD hS => ?_)
            have hf := ck_2 hf
            obtain ⟨hP, hD⟩ := st1_0 hP hD
            refine lv_aload_n hx hb dX1_addSeen_59 rfl (lv_at hl 0 rfl) ?_
            refine va_get (D := D) (ci := 1) (v := .ref (a0 1)) (C := RX1) (T := TX1) (N := 16) hx hb hts hiX1 hown hK hP 0 rfl rfl 1 (by decide) (hts _ flX1_15) (fun _ h9 => h9) rfl dX1_addSeen_60 ?_
            refine lv_aload_n hx hb dX1_addSeen_63 rfl (lv_at hl 0 rfl) ?_
            refine va_get (D := D) (ci := 1) (v := .int (i0 13)) (C := RX1) (T := TX1) (N := 16) hx hb hts hiX1 hown hK hP 0 rfl rfl 13 (by decide) (hts _ flX1_50) (fun _ h9 => h9) rfl dX1_addSeen_64 ?_
            refine lv_iload_n hx hb dX1_addSeen_67 rfl (lv_at hl 2 rfl) ?_
            refine va_iast (f := r0 1) hx hb hK hP hD hS 2 0 rfl rfl (ck_in hf) dX1_addSeen_68 (fun H locs hP hD hS => ?_)
            have hf := ck_2 hf
            obtain ⟨hP, hD⟩ := st1_1 hP hD
            exact w_X1_addSeen_69 C  _ _ _ _ _ _ _ hf hP hD hS (lv_sub hl [0, 1, 3] rfl)
          · have hf := ite_f hf hc
            refine lv_bipush (v := (-3)) hx hb dX1_addSeen_46 (by decide) ?_
            obtain rfl := Option.some.inj hf
            exact k_iret hx hb hr hlocks hK hP hD hS dX1_addSeen_48
        · have hf := ite_t hf hc
          refine lv_bipush (v := (-4)) hx hb dX1_addSeen_34 (by decide) ?_
          obtain rfl := Option.some.inj hf
          exact k_iret hx hb hr hlocks hK hP hD hS dX1_addSeen_36
      · have hf := ite_f hf hc
        refine lv_bipush (v := (-2)) hx hb dX1_addSeen_24 (by decide) ?_
        obtain rfl := Option.some.inj hf
        exact k_iret hx hb hr hlocks hK hP hD hS dX1_addSeen_26
/-! MarbleFloor$Cracks.putRight(III)I -/
abbrev wlX1_putRight : List Cond := Cond.code yX1_putRight cX1_putRight 6 (some .int) :: tbG
abbrev rmX1_putRight : Room := { frames := 1, cells := 0, slots := 0, locals := 21 }
theorem qnX1_putRight : yX1_putRight.cls = RX1 ∧ yX1_putRight.cls ≠ "java/lang/invoke/MethodHandle" ∧ yX1_putRight.cls ≠ "java/lang/invoke/VarHandle" ∧ (parseMethodDescriptor yX1_putRight.desc).map (fun d => d.parameters.length) = some 3 := by decide +kernel
def f_X1_putRight_117 (u0 : Nat → Nat) (K94 : (Nat → Int32) → (Nat → Nat → Int32) → Int32 → Int32 → Int32 → Option (Int32 × (Nat → Int32) × (Nat → Nat → Int32))) (i0 : Nat → Int32) (r0 : Nat → Nat → Int32) (x2 : Int32) (x4 : Int32) (x5 : Int32) : Option (Int32 × (Nat → Int32) × (Nat → Nat → Int32)) := K94 i0 r0 x2 x4 (x5 + 1)
set_option maxRecDepth 100000 in
set_option maxHeartbeats 4000000 in
theorem w_X1_putRight_117 {p : Program} {l : Launch} {e : Env} {s : State} {m : MethodId} {args : Array Value} {below : List Frame} {meth : Method} {c : Code} {A : Nat → Prop} {D : va_G} {cs zs : Nat → Nat} {h0 : Nat} {a0 : Nat → Nat} {u0 : Nat → Nat} {q : Int32 × (Nat → Int32) × (Nat → Nat → Int32)} (C : Cx p s m args meth c A D cs zs cX1_putRight 6 (some .int) RX1) (K94 : (Nat → Int32) → (Nat → Nat → Int32) → Int32 → Int32 → Int32 → Option (Int32 × (Nat → Int32) × (Nat → Nat → Int32))) (hK94 : ∀ (i0 : Nat → Int32) (r0 : Nat → Nat → Int32) (x2 : Int32) (x4 : Int32) (x5 : Int32) (H : Heap) (locs : List Loc) (ls : Array Slot), K94 i0 r0 x2 x4 x5 = some q → va_P D vwCl (W1 cs h0 a0 i0 r0 u0) H → va_D A (W1 cs h0 a0 i0 r0 u0) → va_S A s.heap H locs → lv_has ls 6 [(0, .ref h0), (2, .int x2), (4, .int x4), (5, .int x5)] → W p l e rmX1_putRight s m args below meth c H locs 0 0 (MQ below (Qi D cs A q.1 (W1 cs h0 a0 q.2.1 q.2.2 u0)) args s 0 0 A) (F0 m 94 ls [])) : ∀ (i0 : Nat → Int32) (r0 : Nat → Nat → Int32) (x2 : Int32) (x4 : Int32) (x5 : Int32) (H : Heap) (locs : List Loc) (ls : Array Slot), f_X1_putRight_117 u0 K94 i0 r0 x2 x4 x5 = some q → va_P D vwCl (W1 cs h0 a0 i0 r0 u0) H → va_D A (W1 cs h0 a0 i0 r0 u0) → va_S A s.heap H locs → lv_has ls 6 [(0, .ref h0), (2, .int x2), (4, .int x4), (5, .int x5)] → W p l e rmX1_putRight s m args below meth c H locs 0 0 (MQ below (Qi D cs A q.1 (W1 cs h0 a0 q.2.1 q.2.2 u0)) args s 0 0 A) (F0 m 117 ls []) := by
  obtain ⟨hx, hb, hr, hml, hown, hts, hK, hA, hlocks, hZ⟩ := id C
  intro i0 r0 x2 x4 x5 H locs ls hf hP hD hS hl
  rw [f_X1_putRight_117] at hf
  refine lv_iinc (v := x5 + 1) (lv' := [(5, .int (x5 + 1)), (0, .ref h0), (2, .int x2), (4, .int x4)]) hx hb dX1_putRight_117 hl (k := 3) rfl rfl (by decide) rfl (fun ls hl => ?_)
  refine lv_goto (tgt := 94) hx hb dX1_putRight_120 (by decide) ?_
  exact hK94 _ _ _ _ _ _ _ _ hf hP hD hS (lv_sub hl [1, 2, 3, 0] rfl)
def f_X1_putRight_94 (u0 : Nat → Nat)  : Nat → (Nat → Int32) → (Nat → Nat → Int32) → Int32 → Int32 → Int32 → Option (Int32 × (Nat → Int32) × (Nat → Nat → Int32))
  | 0, _, _, _, _, _ => none
  | n + 1, i0, r0, x2, x4, x5 => if (i0 14) ≤ x5 then (some (x4, i0, r0)) else (ck (inb x5 20) (if (r0 4 x5.toNatClampNeg) = x2 then (f_X1_putRight_117 u0 (f_X1_putRight_94 u0 n) i0 r0 x2 (x4 + 1) x5) else (f_X1_putRight_117 u0 (f_X1_putRight_94 u0 n) i0 r0 x2 x4 x5)))
set_option maxRecDepth 100000 in
set_option maxHeartbeats 4000000 in
theorem w_X1_putRight_94 {p : Program} {l : Launch} {e : Env} {s : State} {m : MethodId} {args : Array Value} {below : List Frame} {meth : Method} {c : Code} {A : Nat → Prop} {D : va_G} {cs zs : Nat → Nat} {h0 : Nat} {a0 : Nat → Nat} {u0 : Nat → Nat} {q : Int32 × (Nat → Int32) × (Nat → Nat → Int32)} (C : Cx p s m args meth c A D cs zs cX1_putRight 6 (some .int) RX1)  : ∀ (n : Nat), ∀ (i0 : Nat → Int32) (r0 : Nat → Nat → Int32) (x2 : Int32) (x4 : Int32) (x5 : Int32) (H : Heap) (locs : List Loc) (ls : Array Slot), f_X1_putRight_94 u0 n i0 r0 x2 x4 x5 = some q → va_P D vwCl (W1 cs h0 a0 i0 r0 u0) H → va_D A (W1 cs h0 a0 i0 r0 u0) → va_S A s.heap H locs → lv_has ls 6 [(0, .ref h0), (2, .int x2), (4, .int x4), (5, .int x5)] → W p l e rmX1_putRight s m args below meth c H locs 0 0 (MQ below (Qi D cs A q.1 (W1 cs h0 a0 q.2.1 q.2.2 u0)) args s 0 0 A) (F0 m 94 ls []) := by
  obtain ⟨hx, hb, hr, hml, hown, hts, hK, hA, hlocks, hZ⟩ := id C
  intro n
  induction n with
  | zero =>
    intro i0 r0 x2 x4 x5 H locs ls hf
    rw [f_X1_putRight_94] at hf
    cases hf
  | succ n ih =>
    intro i0 r0 x2 x4 x5 H locs ls hf hP hD hS hl
    rw [f_X1_putRight_94] at hf
    refine lv_iload hx hb dX1_putRight_94 (lv_at hl 3 rfl) ?_
    refine lv_aload_n hx hb dX1_putRight_96 rfl (lv_at hl 0 rfl) ?_
    refine va_get (D := D) (ci := 1) (v := .int (i0 14)) (C := RX1) (T := TX1) (N := 16) hx hb hts hiX1 hown hK hP 0 rfl rfl 14 (by decide) (hts _ flX1_53) (fun _ h9 => h9) rfl dX1_putRight_97 ?_
    refine lv_icmp_ge (tgt := 123) hx hb dX1_putRight_100 (by decide) (fun hc => ?_) (fun hc => ?_)
    · have hf := ite_t hf hc
      refine lv_iload hx hb dX1_putRight_123 (lv_at hl 2 rfl) ?_
      obtain rfl := Option.some.inj hf
      exact k_iret hx hb hr hlocks hK hP hD hS dX1_putRight_125
    · have hf := ite_f hf hc
      refine lv_aload_n hx hb dX1_putRight_103 rfl (lv_at hl 0 rfl) ?_
      refine va_get (D := D) (ci := 1) (v := .ref (a0 4)) (C := RX1) (T := TX1) (N := 16) hx hb hts hiX1 hown hK hP 0 rfl rfl 4 (by decide) (hts _ flX1_24) (fun _ h9 => h9) rfl dX1_putRight_104 ?_
      refine lv_iload hx hb dX1_putRight_107 (lv_at hl 3 rfl) ?_
      refine va_iald (f := r0 4) hx hb hK hP 5 0 rfl rfl (ck_in hf) dX1_putRight_109 ?_
      have hf := ck_2 hf
      refine lv_iload_n hx hb dX1_putRight_110 rfl (lv_at hl 1 rfl) ?_
      refine lv_icmp_ne (tgt := 117) hx hb dX1_putRight_111 (by decide) (fun hc => ?_) (fun hc => ?_)
      · have hf := ite_f hf hc
        exact w_X1_putRight_117 C _ (ih) _ _ _ _ _ _ _ _ hf hP hD hS (lv_sub hl [0, 1, 2, 3] rfl)
      · have hf := ite_t hf hc
        refine lv_iinc (v := x4 + 1) (lv' := [(4, .int (x4 + 1)), (0, .ref h0), (2, .int x2), (5, .int x5)]) hx hb dX1_putRight_114 hl (k := 2) rfl rfl (by decide) rfl (fun ls hl => ?_)
        exact w_X1_putRight_117 C _ (ih) _ _ _ _ _ _ _ _ hf hP hD hS (lv_sub hl [1, 2, 0, 3] rfl)
def f_X1_putRight_88 (u0 : Nat → Nat)  (i0 : Nat → Int32) (r0 : Nat → Nat → Int32) (x2 : Int32) : Option (Int32 × (Nat → Int32) × (Nat → Nat → Int32)) := f_X1_putRight_94 u0 2000000 i0 r0 x2 0 0
set_option maxRecDepth 100000 in
set_option maxHeartbeats 4000000 in
theorem w_X1_putRight_88 {p : Program} {l : Launch} {e : Env} {s : State} {m : MethodId} {args : Array Value} {below : List Frame} {meth : Method} {c : Code} {A : Nat → Prop} {D : va_G} {cs zs : Nat → Nat} {h0 : Nat} {a0 : Nat → Nat} {u0 : Nat → Nat} {q : Int32 × (Nat → Int32) × (Nat → Nat → Int32)} (C : Cx p s m args meth c A D cs zs cX1_putRight 6 (some .int) RX1)  : ∀ (i0 : Nat → Int32) (r0 : Nat → Nat → Int32) (x2 : Int32) (H : Heap) (locs : List Loc) (ls : Array Slot), f_X1_putRight_88 u0 i0 r0 x2 = some q → va_P D vwCl (W1 cs h0 a0 i0 r0 u0) H → va_D A (W1 cs h0 a0 i0 r0 u0) → va_S A s.heap H locs → lv_has ls 6 [(0, .ref h0), (2, .int x2)] → W p l e rmX1_putRight s m args below meth c H locs 0 0 (MQ below (Qi D cs A q.1 (W1 cs h0 a0 q.2.1 q.2.2 u0)) args s 0 0 A) (F0 m 88 ls []) := by
  obtain ⟨hx, hb, hr, hml, hown, hts, hK, hA, hlocks, hZ⟩ := id C
  intro i0 r0 x2 H locs ls hf hP hD hS hl
  rw [f_X1_putRight_88] at hf
  refine lv_iconst (v := 0) hx hb dX1_putRight_88 (by decide) ?_
  refine lv_istore (lv' := [(4, .int 0), (0, .ref h0), (2, .int x2)]) hx hb dX1_putRight_89 hl (by decide) rfl (fun ls hl => ?_)
  refine lv_iconst (v := 0) hx hb dX1_putRight_91 (by decide) ?_
  refine lv_istore (lv' := [(5, .int 0), (4, .int 0), (0, .ref h0), (2, .int x2)]) hx hb dX1_putRight_92 hl (by decide) rfl (fun ls hl => ?_)
  exact w_X1_putRight_94 C  2000000 _ _ _ _ _ _ _ _ hf hP hD hS (lv_sub hl [2, 3, 1, 0] rfl)
def f_X1_putRight_63 (u0 : Nat → Nat)  (i0 : Nat → Int32) (r0 : Nat → Nat → Int32) (x1 : Int32) (x2 : Int32) (x3 : Int32) : Option (Int32 × (Nat → Int32) × (Nat → Nat → Int32)) := ck (inb (i0 14) 20) (f_X1_putRight_88 u0 (upd (upd i0 15 x1) 14 ((i0 14) + 1)) (va_up r0 5 (upd (r0 5) (i0 14).toNatClampNeg x3)) x2)
set_option maxRecDepth 100000 in
set_option maxHeartbeats 4000000 in
theorem w_X1_putRight_63 {p : Program} {l : Launch} {e : Env} {s : State} {m : MethodId} {args : Array Value} {below : List Frame} {meth : Method} {c : Code} {A : Nat → Prop} {D : va_G} {cs zs : Nat → Nat} {h0 : Nat} {a0 : Nat → Nat} {u0 : Nat → Nat} {q : Int32 × (Nat → Int32) × (Nat → Nat → Int32)} (C : Cx p s m args meth c A D cs zs cX1_putRight 6 (some .int) RX1)  : ∀ (i0 : Nat → Int32) (r0 : Nat → Nat → Int32) (x1 : Int32) (x2 : Int32) (x3 : Int32) (H : Heap) (locs : List Loc) (ls : Array Slot), f_X1_putRight_63 u0 i0 r0 x1 x2 x3 = some q → va_P D vwCl (W1 cs h0 a0 i0 r0 u0) H → va_D A (W1 cs h0 a0 i0 r0 u0) → va_S A s.heap H locs → lv_has ls 6 [(0, .ref h0), (1, .int x1), (2, .int x2), (3, .int x3)] → W p l e rmX1_putRight s m args below meth c H locs 0 0 (MQ below (Qi D cs A q.1 (W1 cs h0 a0 q.2.1 q.2.2 u0)) args s 0 0 A) (F0 m 63 ls []) := by
  obtain ⟨hx, hb, hr, hml, hown, hts, hK, hA, hlocks, hZ⟩ := id C
  intro i0 r0 x1 x2 x3 H locs ls hf hP hD hS hl
  rw [f_X1_putRight_63] at hf
  refine lv_aload_n hx hb dX1_putRight_63 rfl (lv_at hl 0 rfl) ?_
  refine va_get (D := D) (ci := 1) (v := .ref (a0 5)) (C := RX1) (T := TX1) (N := 16) hx hb hts hiX1 hown hK hP 0 rfl rfl 5 (by decide) (hts _ flX1_27) (fun _ h9 => h9) rfl dX1_putRight_64 ?_
  refine lv_aload_n hx hb dX1_putRight_67 rfl (lv_at hl 0 rfl) ?_
  refine va_get (D := D) (ci := 1) (v := .int (i0 14)) (C := RX1) (T := TX1) (N := 16) hx hb hts hiX1 hown hK hP 0 rfl rfl 14 (by decide) (hts _ flX1_53) (fun _ h9 => h9) rfl dX1_putRight_68 ?_
  refine lv_iload_n hx hb dX1_putRight_71 rfl (lv_at hl 3 rfl) ?_
  refine va_iast (f := r0 5) hx hb hK hP hD hS 6 0 rfl rfl (ck_in hf) dX1_putRight_72 (fun H locs hP hD hS => ?_)
  have hf := ck_2 hf
  obtain ⟨hP, hD⟩ := st1_5 hP hD
  refine lv_aload_n hx hb dX1_putRight_73 rfl (lv_at hl 0 rfl) ?_
  refine lv_iload_n hx hb dX1_putRight_74 rfl (lv_at hl 1 rfl) ?_
  refine va_put (D := D) (ci := 1) (v := .int x1) (ty := .int) (C := RX1) (T := TX1) (N := 16) hx hb hts hiX1 tyX1 tyX1_ok nmX1 hown hK hP hD hS 0 rfl rfl 15 (by decide) (hts _ flX1_66) (fun _ h9 => h9) rfl (tyX1_ok 15 (by decide)) rfl rfl (Nat.le_of_ble_eq_true rfl) dX1_putRight_75 (fun H locs hP hD hS => ?_)
  obtain ⟨hP, hD⟩ := st1_15 hP hD
  refine lv_aload_n hx hb dX1_putRight_78 rfl (lv_at hl 0 rfl) ?_
  refine lv_dup hx hb dX1_putRight_79 rfl ?_
  refine va_get (D := D) (ci := 1) (v := .int (i0 14)) (C := RX1) (T := TX1) (N := 16) hx hb hts hiX1 hown hK hP 0 rfl rfl 14 (by decide) (hts _ flX1_53) (fun _ h9 => h9) rfl dX1_putRight_80 ?_
  refine lv_iconst (v := 1) hx hb dX1_putRight_83 (by decide) ?_
  refine lv_iadd hx hb dX1_putRight_84 ?_
  refine va_put (D := D) (ci := 1) (v := .int ((i0 14) + 1)) (ty := .int) (C := RX1) (T := TX1) (N := 16) hx hb hts hiX1 tyX1 tyX1_ok nmX1 hown hK hP hD hS 0 rfl rfl 14 (by decide) (hts _ flX1_53) (fun _ h9 => h9) rfl (tyX1_ok 14 (by decide)) rfl rfl (Nat.le_of_ble_eq_true rfl) dX1_putRight_85 (fun H locs hP hD hS => ?_)
  obtain ⟨hP, hD⟩ := st1_14 hP hD
  exact w_X1_putRight_88 C  _ _ _ _ _ _ hf hP hD hS (lv_sub hl [0, 2] rfl)
def f_X1_putRight  (i0 : Nat → Int32) (r0 : Nat → Nat → Int32) (u0 : Nat → Nat) (x1 : Int32) (x2 : Int32) (x3 : Int32) : Option (Int32 × (Nat → Int32) × (Nat → Nat → Int32)) := bd (f_X1_noTelling i0 r0 u0 x1) (fun q3 => if q3 = 0 then (if x2 < 0 then (some ((-2), i0, r0)) else (if (i0 13) ≤ x2 then (some ((-2), i0, r0)) else (bd (f_X1_noRow i0 r0 u0 x3) (fun q4 => if q4 = 0 then (if (i0 14) < 20 then (ck (inb (i0 14) 20) (ck (inb (i0 14) 20) (f_X1_putRight_63 u0 i0 (va_up (va_up r0 3 (upd (r0 3) (i0 14).toNatClampNeg x1)) 4 (upd (r0 4) (i0 14).toNatClampNeg x2)) x1 x2 x3))) else (some ((-3), i0, r0))) else (some ((-2), i0, r0)))))) else (some ((-2), i0, r0)))
set_option maxRecDepth 100000 in
set_option maxHeartbeats 4000000 in
theorem c_X1_putRight {l : Launch} {D : va_G} {cs zs : Nat → Nat} {h0 : Nat} {a0 : Nat → Nat} {i0 : Nat → Int32} {r0 : Nat → Nat → Int32} {u0 : Nat → Nat} {x1 : Int32} {x2 : Int32} {x3 : Int32} {q : Int32 × (Nat → Int32) × (Nat → Nat → Int32)} (hf : f_X1_putRight i0 r0 u0 x1 x2 x3 = some q) : Mi l yX1_putRight wlX1_putRight rmX1_putRight D cs zs [.ref h0, .int x1, .int x2, .int x3] (W1 cs h0 a0 i0 r0 u0) q.1 (W1 cs h0 a0 q.2.1 q.2.2 u0) := by
  refine Mi.of RX1 (by decide) rfl (Nat.le_of_ble_eq_true rfl) (fun p e s m below meth c A C hP hD hS ls hl => ?_)
  generalize ([.ref h0, .int x1, .int x2, .int x3] : List Value).toArray = args at C ⊢
  obtain ⟨hx, hb, hr, hml, hown, hts, hK, hA, hlocks, hZ⟩ := id C
  have hl : lv_has ls 6 [(0, .ref h0), (1, .int x1), (2, .int x2), (3, .int x3)] := hl
  rw [f_X1_putRight] at hf
  refine lv_aload_n hx hb dX1_putRight_0 rfl (lv_at hl 0 rfl) ?_
  refine lv_iload_n hx hb dX1_putRight_1 rfl (lv_at hl 1 rfl) ?_
  obtain ⟨q3, hq3, hf⟩ := bd_s hf
  refine k_sVi (ws2 := W1 cs h0 a0 i0 r0 u0) (As := [.int x1]) (rest := []) hx hb hml hown hts hK hA hZ hl.1 hP hD hS (c_X1_noTelling (h0 := h0) (a0 := a0) hq3) (gVt mlX1_81 imX1_noTelling seX1_noTelling inX1 coX1_noTelling) rfl qnX1_noTelling rfl rfl ⟨Nat.le_of_ble_eq_true rfl, Nat.le_of_ble_eq_true rfl⟩ 0 1 rfl rfl rfl rfl rfl (Nat.le_of_ble_eq_true rfl) ⟨Nat.zero_le _, Nat.zero_le _⟩ dX1_putRight_2 (fun H locs hP hD hS => ?_)
  refine lv_if_ne (tgt := 28) hx hb dX1_putRight_5 (by decide) (fun hc => ?_) (fun hc => ?_)
  · have hf := ite_f hf hc
    refine lv_bipush (v := (-2)) hx hb dX1_putRight_28 (by decide) ?_
    obtain rfl := Option.some.inj hf
    exact k_iret hx hb hr hlocks hK hP hD hS dX1_putRight_30
  · have hf := ite_t hf hc
    refine lv_iload_n hx hb dX1_putRight_8 rfl (lv_at hl 2 rfl) ?_
    refine lv_if_lt (tgt := 28) hx hb dX1_putRight_9 (by decide) (fun hc => ?_) (fun hc => ?_)
    · have hf := ite_t hf hc
      refine lv_bipush (v := (-2)) hx hb dX1_putRight_28 (by decide) ?_
      obtain rfl := Option.some.inj hf
      exact k_iret hx hb hr hlocks hK hP hD hS dX1_putRight_30
    · have hf := ite_f hf hc
      refine lv_iload_n hx hb dX1_putRight_12 rfl (lv_at hl 2 rfl) ?_
      refine lv_aload_n hx hb dX1_putRight_13 rfl (lv_at hl 0 rfl) ?_
      refine va_get (D := D) (ci := 1) (v := .int (i0 13)) (C := RX1) (T := TX1) (N := 16) hx hb hts hiX1 hown hK hP 0 rfl rfl 13 (by decide) (hts _ flX1_50) (fun _ h9 => h9) rfl dX1_putRight_14 ?_
      refine lv_icmp_ge (tgt := 28) hx hb dX1_putRight_17 (by decide) (fun hc => ?_) (fun hc => ?_)
      · have hf := ite_t hf hc
        refine lv_bipush (v := (-2)) hx hb dX1_putRight_28 (by decide) ?_
        obtain rfl := Option.some.inj hf
        exact k_iret hx hb hr hlocks hK hP hD hS dX1_putRight_30
      · have hf := ite_f hf hc
        refine lv_aload_n hx hb dX1_putRight_20 rfl (lv_at hl 0 rfl) ?_
        refine lv_iload_n hx hb dX1_putRight_21 rfl (lv_at hl 3 rfl) ?_
        obtain ⟨q4, hq4, hf⟩ := bd_s hf
        refine k_sVi (ws2 := W1 cs h0 a0 i0 r0 u0) (As := [.int x3]) (rest := []) hx hb hml hown hts hK hA hZ hl.1 hP hD hS (c_X1_noRow (h0 := h0) (a0 := a0) hq4) (gVt mlX1_85 imX1_noRow seX1_noRow inX1 coX1_noRow) rfl qnX1_noRow rfl rfl ⟨Nat.le_of_ble_eq_true rfl, Nat.le_of_ble_eq_true rfl⟩ 0 1 rfl rfl rfl rfl rfl (Nat.le_of_ble_eq_true rfl) ⟨Nat.zero_le _, Nat.zero_le _⟩ dX1_putRight_22 (fun H locs hP hD hS => ?_)
        refine lv_if_eq (tgt := 31) hx hb dX1_putRight_25 (by decide) (fun hc => ?_) (fun hc => ?_)
        · have hf := ite_t hf hc
          refine lv_aload_n hx hb dX1_putRight_31 rfl (lv_at hl 0 rfl) ?_
          refine va_get (D := D) (ci := 1) (v := .int (i0 14)) (C := RX1) (T := TX1) (N := 16) hx hb hts hiX1 hown hK hP 0 rfl rfl 14 (by decide) (hts _ flX1_53) (fun _ h9 => h9) rfl dX1_putRight_32 ?_
          refine lv_bipush (v := 20) hx hb dX1_putRight_35 (by decide) ?_
          refine lv_icmp_lt (tgt := 43) hx hb dX1_putRight_37 (by decide) (fun hc => ?_) (fun hc => ?_)
          · have hf := ite_t hf hc
            refine lv_aload_n hx hb dX1_putRight_43 rfl (lv_at hl 0 rfl) ?_
            refine va_get (D := D) (ci := 1) (v := .ref (a0 3)) (C := RX1) (T := TX1) (N := 16) hx hb hts hiX1 hown hK hP 0 rfl rfl 3 (by decide) (hts _ flX1_21) (fun _ h9 => h9) rfl dX1_putRight_44 ?_
            refine lv_aload_n hx hb dX1_putRight_47 rfl (lv_at hl 0 rfl) ?_
            refine va_get (D := D) (ci := 1) (v := .int (i0 14)) (C := RX1) (T := TX1) (N := 16) hx hb hts hiX1 hown hK hP 0 rfl rfl 14 (by decide) (hts _ flX1_53) (fun _ h9 => h9) rfl dX1_putRight_48 ?_
            refine lv_iload_n hx hb dX1_putRight_51 rfl (lv_at hl 1 rfl) ?_
            refine va_iast (f := r0 3) hx hb hK hP hD hS 4 0 rfl rfl (ck_in hf) dX1_putRight_52 (fun H locs hP hD hS => ?_)
            have hf := ck_2 hf
            obtain ⟨hP, hD⟩ := st1_3 hP hD
            refine lv_aload_n hx hb dX1_putRight_53 rfl (lv_at hl 0 rfl) ?_
            refine va_get (D := D) (ci := 1) (v := .ref (a0 4)) (C := RX1) (T := TX1) (N := 16) hx hb hts hiX1 hown hK hP 0 rfl rfl 4 (by decide) (hts _ flX1_24) (fun _ h9 => h9) rfl dX1_putRight_54 ?_
            refine lv_aload_n hx hb dX1_putRight_57 rfl (lv_at hl 0 rfl) ?_
            refine va_get (D := D) (ci := 1) (v := .int (i0 14)) (C := RX1) (T := TX1) (N := 16) hx hb hts hiX1 hown hK hP 0 rfl rfl 14 (by decide) (hts _ flX1_53) (fun _ h9 => h9) rfl dX1_putRight_58 ?_
            refine lv_iload_n hx hb dX1_putRight_61 rfl (lv_at hl 2 rfl) ?_
            refine va_iast (f := r0 4) hx hb hK hP hD hS 5 0 rfl rfl (ck_in hf) dX1_putRight_62 (fun H locs hP hD hS => ?_)
            have hf := ck_2 hf
            obtain ⟨hP, hD⟩ := st1_4 hP hD
            exact w_X1_putRight_63 C  _ _ _ _ _ _ _ _ hf hP hD hS (lv_sub hl [0, 1, 2, 3] rfl)
          · have hf := ite_f hf hc
            refine lv_bipush (v := (-3)) hx hb dX1_putRight_40 (by decide) ?_
            obtain rfl := Option.some.inj hf
            exact k_iret hx hb hr hlocks hK hP hD hS dX1_putRight_42
        · have hf := ite_f hf hc
          refine lv_bipush (v := (-2)) hx hb dX1_putRight_28 (by decide) ?_
          obtain rfl := Option.some.inj hf
          exact k_iret hx hb hr hlocks hK hP hD hS dX1_putRight_30
/-! MarbleFloor$Cracks.knownOut(II)I -/
abbrev wlX1_knownOut : List Cond := Cond.code yX1_knownOut cX1_knownOut 5 (some .int) :: tbG
abbrev rmX1_knownOut : Room := { frames := 0, cells := 0, slots := 0, locals := 0 }
theorem qnX1_knownOut : yX1_knownOut.cls = RX1 ∧ yX1_knownOut.cls ≠ "java/lang/invoke/MethodHandle" ∧ yX1_knownOut.cls ≠ "java/lang/invoke/VarHandle" ∧ (parseMethodDescriptor yX1_knownOut.desc).map (fun d => d.parameters.length) = some 2 := by decide +kernel
def f_X1_knownOut_49 (i0 : Nat → Int32) (r0 : Nat → Nat → Int32) (u0 : Nat → Nat) (K10 : Int32 → Int32 → Int32 → Int32 → Option (Int32)) (x1 : Int32) (x2 : Int32) (x3 : Int32) (x4 : Int32) : Option (Int32) := K10 x1 x2 x3 (x4 + 1)
set_option maxRecDepth 100000 in
set_option maxHeartbeats 4000000 in
theorem w_X1_knownOut_49 {p : Program} {l : Launch} {e : Env} {s : State} {m : MethodId} {args : Array Value} {below : List Frame} {meth : Method} {c : Code} {A : Nat → Prop} {D : va_G} {cs zs : Nat → Nat} {h0 : Nat} {a0 : Nat → Nat} {i0 : Nat → Int32} {r0 : Nat → Nat → Int32} {u0 : Nat → Nat} {q : Int32} (C : Cx p s m args meth c A D cs zs cX1_knownOut 5 (some .int) RX1) (K10 : Int32 → Int32 → Int32 → Int32 → Option (Int32)) (hK10 : ∀ (x1 : Int32) (x2 : Int32) (x3 : Int32) (x4 : Int32) (H : Heap) (locs : List Loc) (ls : Array Slot), K10 x1 x2 x3 x4 = some q → va_P D vwCl (W1 cs h0 a0 i0 r0 u0) H → va_D A (W1 cs h0 a0 i0 r0 u0) → va_S A s.heap H locs → lv_has ls 5 [(0, .ref h0), (1, .int x1), (2, .int x2), (3, .int x3), (4, .int x4)] → W p l e rmX1_knownOut s m args below meth c H locs 0 0 (MQ below (Qi D cs A q (W1 cs h0 a0 i0 r0 u0)) args s 0 0 A) (F0 m 10 ls [])) : ∀ (x1 : Int32) (x2 : Int32) (x3 : Int32) (x4 : Int32) (H : Heap) (locs : List Loc) (ls : Array Slot), f_X1_knownOut_49 i0 r0 u0 K10 x1 x2 x3 x4 = some q → va_P D vwCl (W1 cs h0 a0 i0 r0 u0) H → va_D A (W1 cs h0 a0 i0 r0 u0) → va_S A s.heap H locs → lv_has ls 5 [(0, .ref h0), (1, .int x1), (2, .int x2), (3, .int x3), (4, .int x4)] → W p l e rmX1_knownOut s m args below meth c H locs 0 0 (MQ below (Qi D cs A q (W1 cs h0 a0 i0 r0 u0)) args s 0 0 A) (F0 m 49 ls []) := by
  obtain ⟨hx, hb, hr, hml, hown, hts, hK, hA, hlocks, hZ⟩ := id C
  intro x1 x2 x3 x4 H locs ls hf hP hD hS hl
  rw [f_X1_knownOut_49] at hf
  refine lv_iinc (v := x4 + 1) (lv' := [(4, .int (x4 + 1)), (0, .ref h0), (1, .int x1), (2, .int x2), (3, .int x3)]) hx hb dX1_knownOut_49 hl (k := 4) rfl rfl (by decide) rfl (fun ls hl => ?_)
  refine lv_goto (tgt := 10) hx hb dX1_knownOut_52 (by decide) ?_
  exact hK10 _ _ _ _ _ _ _ hf hP hD hS (lv_sub hl [1, 2, 3, 4, 0] rfl)
def f_X1_knownOut_10 (i0 : Nat → Int32) (r0 : Nat → Nat → Int32) (u0 : Nat → Nat)  : Nat → Int32 → Int32 → Int32 → Int32 → Option (Int32)
  | 0, _, _, _, _ => none
  | n + 1, x1, x2, x3, x4 => if (i0 14) ≤ x4 then (some (x3)) else (ck (inb x4 20) (if (r0 4 x4.toNatClampNeg) = x1 then (ck (inb x4 20) (if x2 < (r0 3 x4.toNatClampNeg) then (f_X1_knownOut_49 i0 r0 u0 (f_X1_knownOut_10 i0 r0 u0 n) x1 x2 x3 x4) else (ck (inb x4 20) (f_X1_knownOut_49 i0 r0 u0 (f_X1_knownOut_10 i0 r0 u0 n) x1 x2 (r0 5 x4.toNatClampNeg) x4)))) else (f_X1_knownOut_49 i0 r0 u0 (f_X1_knownOut_10 i0 r0 u0 n) x1 x2 x3 x4)))
set_option maxRecDepth 100000 in
set_option maxHeartbeats 4000000 in
theorem w_X1_knownOut_10 {p : Program} {l : Launch} {e : Env} {s : State} {m : MethodId} {args : Array Value} {below : List Frame} {meth : Method} {c : Code} {A : Nat → Prop} {D : va_G} {cs zs : Nat → Nat} {h0 : Nat} {a0 : Nat → Nat} {i0 : Nat → Int32} {r0 : Nat → Nat → Int32} {u0 : Nat → Nat} {q : Int32} (C : Cx p s m args meth c A D cs zs cX1_knownOut 5 (some .int) RX1)  : ∀ (n : Nat), ∀ (x1 : Int32) (x2 : Int32) (x3 : Int32) (x4 : Int32) (H : Heap) (locs : List Loc) (ls : Array Slot), f_X1_knownOut_10 i0 r0 u0 n x1 x2 x3 x4 = some q → va_P D vwCl (W1 cs h0 a0 i0 r0 u0) H → va_D A (W1 cs h0 a0 i0 r0 u0) → va_S A s.heap H locs → lv_has ls 5 [(0, .ref h0), (1, .int x1), (2, .int x2), (3, .int x3), (4, .int x4)] → W p l e rmX1_knownOut s m args below meth c H locs 0 0 (MQ below (Qi D cs A q (W1 cs h0 a0 i0 r0 u0)) args s 0 0 A) (F0 m 10 ls []) := by
  obtain ⟨hx, hb, hr, hml, hown, hts, hK, hA, hlocks, hZ⟩ := id C
  intro n
  induction n with
  | zero =>
    intro x1 x2 x3 x4 H locs ls hf
    rw [f_X1_knownOut_10] at hf
    cases hf
  | succ n ih =>
    intro x1 x2 x3 x4 H locs ls hf hP hD hS hl
    rw [f_X1_knownOut_10] at hf
    refine lv_iload hx hb dX1_knownOut_10 (lv_at hl 4 rfl) ?_
    refine lv_aload_n hx hb dX1_knownOut_12 rfl (lv_at hl 0 rfl) ?_
    refine va_get (D := D) (ci := 1) (v := .int (i0 14)) (C := RX1) (T := TX1) (N := 16) hx hb hts hiX1 hown hK hP 0 rfl rfl 14 (by decide) (hts _ flX1_53) (fun _ h9 => h9) rfl dX1_knownOut_13 ?_
    refine lv_icmp_ge (tgt := 55) hx hb dX1_knownOut_16 (by decide) (fun hc => ?_) (fun hc => ?_)
    · have hf := ite_t hf hc
      refine lv_iload_n hx hb dX1_knownOut_55 rfl (lv_at hl 3 rfl) ?_
      obtain rfl := Option.some.inj hf
      exact k_iret hx hb hr hlocks hK hP hD hS dX1_knownOut_56
    · have hf := ite_f hf hc
      refine lv_aload_n hx hb dX1_knownOut_19 rfl (lv_at hl 0 rfl) ?_
      refine va_get (D := D) (ci := 1) (v := .ref (a0 4)) (C := RX1) (T := TX1) (N := 16) hx hb hts hiX1 hown hK hP 0 rfl rfl 4 (by decide) (hts _ flX1_24) (fun _ h9 => h9) rfl dX1_knownOut_20 ?_
      refine lv_iload hx hb dX1_knownOut_23 (lv_at hl 4 rfl) ?_
      refine va_iald (f := r0 4) hx hb hK hP 5 0 rfl rfl (ck_in hf) dX1_knownOut_25 ?_
      have hf := ck_2 hf
      refine lv_iload_n hx hb dX1_knownOut_26 rfl (lv_at hl 1 rfl) ?_
      refine lv_icmp_ne (tgt := 49) hx hb dX1_knownOut_27 (by decide) (fun hc => ?_) (fun hc => ?_)
      · have hf := ite_f hf hc
        exact w_X1_knownOut_49 C _ (ih) _ _ _ _ _ _ _ hf hP hD hS (lv_sub hl [0, 1, 2, 3, 4] rfl)
      · have hf := ite_t hf hc
        refine lv_aload_n hx hb dX1_knownOut_30 rfl (lv_at hl 0 rfl) ?_
        refine va_get (D := D) (ci := 1) (v := .ref (a0 3)) (C := RX1) (T := TX1) (N := 16) hx hb hts hiX1 hown hK hP 0 rfl rfl 3 (by decide) (hts _ flX1_21) (fun _ h9 => h9) rfl dX1_knownOut_31 ?_
        refine lv_iload hx hb dX1_knownOut_34 (lv_at hl 4 rfl) ?_
        refine va_iald (f := r0 3) hx hb hK hP 4 0 rfl rfl (ck_in hf) dX1_knownOut_36 ?_
        have hf := ck_2 hf
        refine lv_iload_n hx hb dX1_knownOut_37 rfl (lv_at hl 2 rfl) ?_
        refine lv_icmp_gt (tgt := 49) hx hb dX1_knownOut_38 (by decide) (fun hc => ?_) (fun hc => ?_)
        · have hf := ite_t hf hc
          exact w_X1_knownOut_49 C _ (ih) _ _ _ _ _ _ _ hf hP hD hS (lv_sub hl [0, 1, 2, 3, 4] rfl)
        · have hf := ite_f hf hc
          refine lv_aload_n hx hb dX1_knownOut_41 rfl (lv_at hl 0 rfl) ?_
          refine va_get (D := D) (ci := 1) (v := .ref (a0 5)) (C := RX1) (T := TX1) (N := 16) hx hb hts hiX1 hown hK hP 0 rfl rfl 5 (by decide) (hts _ flX1_27) (fun _ h9 => h9) rfl dX1_knownOut_42 ?_
          refine lv_iload hx hb dX1_knownOut_45 (lv_at hl 4 rfl) ?_
          refine va_iald (f := r0 5) hx hb hK hP 6 0 rfl rfl (ck_in hf) dX1_knownOut_47 ?_
          have hf := ck_2 hf
          refine lv_istore_n (lv' := [(3, .int (r0 5 x4.toNatClampNeg)), (0, .ref h0), (1, .int x1), (2, .int x2), (4, .int x4)]) hx hb dX1_knownOut_48 rfl hl (by decide) rfl (fun ls hl => ?_)
          exact w_X1_knownOut_49 C _ (ih) _ _ _ _ _ _ _ hf hP hD hS (lv_sub hl [1, 2, 3, 0, 4] rfl)
def f_X1_knownOut  (i0 : Nat → Int32) (r0 : Nat → Nat → Int32) (u0 : Nat → Nat) (x1 : Int32) (x2 : Int32) : Option (Int32) := ck (inb x1 20) (f_X1_knownOut_10 i0 r0 u0 2000000 x1 x2 (r0 2 x1.toNatClampNeg) 0)
set_option maxRecDepth 100000 in
set_option maxHeartbeats 4000000 in
theorem c_X1_knownOut {l : Launch} {D : va_G} {cs zs : Nat → Nat} {h0 : Nat} {a0 : Nat → Nat} {i0 : Nat → Int32} {r0 : Nat → Nat → Int32} {u0 : Nat → Nat} {x1 : Int32} {x2 : Int32} {q : Int32} (hf : f_X1_knownOut i0 r0 u0 x1 x2 = some q) : Mi l yX1_knownOut wlX1_knownOut rmX1_knownOut D cs zs [.ref h0, .int x1, .int x2] (W1 cs h0 a0 i0 r0 u0) q (W1 cs h0 a0 i0 r0 u0) := by
  refine Mi.of RX1 (by decide) rfl (Nat.le_of_ble_eq_true rfl) (fun p e s m below meth c A C hP hD hS ls hl => ?_)
  generalize ([.ref h0, .int x1, .int x2] : List Value).toArray = args at C ⊢
  obtain ⟨hx, hb, hr, hml, hown, hts, hK, hA, hlocks, hZ⟩ := id C
  have hl : lv_has ls 5 [(0, .ref h0), (1, .int x1), (2, .int x2)] := hl
  rw [f_X1_knownOut] at hf
  refine lv_aload_n hx hb dX1_knownOut_0 rfl (lv_at hl 0 rfl) ?_
  refine va_get (D := D) (ci := 1) (v := .ref (a0 2)) (C := RX1) (T := TX1) (N := 16) hx hb hts hiX1 hown hK hP 0 rfl rfl 2 (by decide) (hts _ flX1_18) (fun _ h9 => h9) rfl dX1_knownOut_1 ?_
  refine lv_iload_n hx hb dX1_knownOut_4 rfl (lv_at hl 1 rfl) ?_
  refine va_iald (f := r0 2) hx hb hK hP 3 0 rfl rfl (ck_in hf) dX1_knownOut_5 ?_
  have hf := ck_2 hf
  refine lv_istore_n (lv' := [(3, .int (r0 2 x1.toNatClampNeg)), (0, .ref h0), (1, .int x1), (2, .int x2)]) hx hb dX1_knownOut_6 rfl hl (by decide) rfl (fun ls hl => ?_)
  refine lv_iconst (v := 0) hx hb dX1_knownOut_7 (by decide) ?_
  refine lv_istore (lv' := [(4, .int 0), (3, .int (r0 2 x1.toNatClampNeg)), (0, .ref h0), (1, .int x1), (2, .int x2)]) hx hb dX1_knownOut_8 hl (by decide) rfl (fun ls hl => ?_)
  exact w_X1_knownOut_10 C  2000000 _ _ _ _ _ _ _ hf hP hD hS (lv_sub hl [2, 3, 4, 1, 0] rfl)
/-! MarbleFloor$Cracks.leaveFitting(JII)J -/
abbrev wlX1_leaveFitting : List Cond := Cond.code yX1_leaveFitting cX1_leaveFitting 8 (some .long) :: tbG
abbrev rmX1_leaveFitting : Room := { frames := 0, cells := 0, slots := 0, locals := 0 }
theorem qnX1_leaveFitting : yX1_leaveFitting.cls = RX1 ∧ yX1_leaveFitting.cls ≠ "java/lang/invoke/MethodHandle" ∧ yX1_leaveFitting.cls ≠ "java/lang/invoke/VarHandle" ∧ (parseMethodDescriptor yX1_leaveFitting.desc).map (fun d => d.parameters.length) = some 3 := by decide +kernel
def f_X1_leaveFitting_56 (i0 : Nat → Int32) (r0 : Nat → Nat → Int32) (u0 : Nat → Nat) (K6 : Int32 → Int32 → Int64 → Int32 → Option (Int64)) (x3 : Int32) (x4 : Int32) (x5 : Int64) (x7 : Int32) : Option (Int64) := K6 x3 x4 x5 (x7 + 1)
set_option maxRecDepth 100000 in
set_option maxHeartbeats 4000000 in
theorem w_X1_leaveFitting_56 {p : Program} {l : Launch} {e : Env} {s : State} {m : MethodId} {args : Array Value} {below : List Frame} {meth : Method} {c : Code} {A : Nat → Prop} {D : va_G} {cs zs : Nat → Nat} {h0 : Nat} {a0 : Nat → Nat} {i0 : Nat → Int32} {r0 : Nat → Nat → Int32} {u0 : Nat → Nat} {q : Int64} (C : Cx p s m args meth c A D cs zs cX1_leaveFitting 8 (some .long) RX1) (K6 : Int32 → Int32 → Int64 → Int32 → Option (Int64)) (hK6 : ∀ (x3 : Int32) (x4 : Int32) (x5 : Int64) (x7 : Int32) (H : Heap) (locs : List Loc) (ls : Array Slot), K6 x3 x4 x5 x7 = some q → va_P D vwCl (W1 cs h0 a0 i0 r0 u0) H → va_D A (W1 cs h0 a0 i0 r0 u0) → va_S A s.heap H locs → lv_has ls 8 [(0, .ref h0), (3, .int x3), (4, .int x4), (5, .long x5), (7, .int x7)] → W p l e rmX1_leaveFitting s m args below meth c H locs 0 0 (MQ below (Ql D cs A q (W1 cs h0 a0 i0 r0 u0)) args s 0 0 A) (F0 m 6 ls [])) : ∀ (x3 : Int32) (x4 : Int32) (x5 : Int64) (x7 : Int32) (H : Heap) (locs : List Loc) (ls : Array Slot), f_X1_leaveFitting_56 i0 r0 u0 K6 x3 x4 x5 x7 = some q → va_P D vwCl (W1 cs h0 a0 i0 r0 u0) H → va_D A (W1 cs h0 a0 i0 r0 u0) → va_S A s.heap H locs → lv_has ls 8 [(0, .ref h0), (3, .int x3), (4, .int x4), (5, .long x5), (7, .int x7)] → W p l e rmX1_leaveFitting s m args below meth c H locs 0 0 (MQ below (Ql D cs A q (W1 cs h0 a0 i0 r0 u0)) args s 0 0 A) (F0 m 56 ls []) := by
  obtain ⟨hx, hb, hr, hml, hown, hts, hK, hA, hlocks, hZ⟩ := id C
  intro x3 x4 x5 x7 H locs ls hf hP hD hS hl
  rw [f_X1_leaveFitting_56] at hf
  refine lv_iinc (v := x7 + 1) (lv' := [(7, .int (x7 + 1)), (0, .ref h0), (3, .int x3), (4, .int x4), (5, .long x5)]) hx hb dX1_leaveFitting_56 hl (k := 4) rfl rfl (by decide) rfl (fun ls hl => ?_)
  refine lv_goto (tgt := 6) hx hb dX1_leaveFitting_59 (by decide) ?_
  exact hK6 _ _ _ _ _ _ _ hf hP hD hS (lv_sub hl [1, 2, 3, 4, 0] rfl)
def f_X1_leaveFitting_6 (i0 : Nat → Int32) (r0 : Nat → Nat → Int32) (u0 : Nat → Nat)  : Nat → Int32 → Int32 → Int64 → Int32 → Option (Int64)
  | 0, _, _, _, _ => none
  | n + 1, x3, x4, x5, x7 => if 41 ≤ x7 then (some (x5)) else (if (lg_cmp ((x5 >>> (x7.toInt64 &&& 63)) &&& 1) 0) = 0 then (f_X1_leaveFitting_56 i0 r0 u0 (f_X1_leaveFitting_6 i0 r0 u0 n) x3 x4 x5 x7) else (ck (inb ((x7 * 256) + x3) (u0 9)) (if (r0 9 ((x7 * 256) + x3).toNatClampNeg) = x4 then (f_X1_leaveFitting_56 i0 r0 u0 (f_X1_leaveFitting_6 i0 r0 u0 n) x3 x4 x5 x7) else (f_X1_leaveFitting_56 i0 r0 u0 (f_X1_leaveFitting_6 i0 r0 u0 n) x3 x4 (x5 &&& (((1 : Int64) <<< (x7.toInt64 &&& 63)) ^^^ (-1))) x7))))
set_option maxRecDepth 100000 in
set_option maxHeartbeats 4000000 in
theorem w_X1_leaveFitting_6 {p : Program} {l : Launch} {e : Env} {s : State} {m : MethodId} {args : Array Value} {below : List Frame} {meth : Method} {c : Code} {A : Nat → Prop} {D : va_G} {cs zs : Nat → Nat} {h0 : Nat} {a0 : Nat → Nat} {i0 : Nat → Int32} {r0 : Nat → Nat → Int32} {u0 : Nat → Nat} {q : Int64} (C : Cx p s m args meth c A D cs zs cX1_leaveFitting 8 (some .long) RX1)  : ∀ (n : Nat), ∀ (x3 : Int32) (x4 : Int32) (x5 : Int64) (x7 : Int32) (H : Heap) (locs : List Loc) (ls : Array Slot), f_X1_leaveFitting_6 i0 r0 u0 n x3 x4 x5 x7 = some q → va_P D vwCl (W1 cs h0 a0 i0 r0 u0) H → va_D A (W1 cs h0 a0 i0 r0 u0) → va_S A s.heap H locs → lv_has ls 8 [(0, .ref h0), (3, .int x3), (4, .int x4), (5, .long x5), (7, .int x7)] → W p l e rmX1_leaveFitting s m args below meth c H locs 0 0 (MQ below (Ql D cs A q (W1 cs h0 a0 i0 r0 u0)) args s 0 0 A) (F0 m 6 ls []) := by
  obtain ⟨hx, hb, hr, hml, hown, hts, hK, hA, hlocks, hZ⟩ := id C
  intro n
  induction n with
  | zero =>
    intro x3 x4 x5 x7 H locs ls hf
    rw [f_X1_leaveFitting_6] at hf
    cases hf
  | succ n ih =>
    intro x3 x4 x5 x7 H locs ls hf hP hD hS hl
    rw [f_X1_leaveFitting_6] at hf
    refine lv_iload hx hb dX1_leaveFitting_6 (lv_at hl 4 rfl) ?_
    refine lv_bipush (v := 41) hx hb dX1_leaveFitting_8 (by decide) ?_
    refine lv_icmp_ge (tgt := 62) hx hb dX1_leaveFitting_10 (by decide) (fun hc => ?_) (fun hc => ?_)
    · have hf := ite_t hf hc
      refine lv_lload hx hb dX1_leaveFitting_62 (lv_at hl 3 rfl) ?_
      obtain rfl := Option.some.inj hf
      exact k_lret hx hb hr hlocks hK hP hD hS dX1_leaveFitting_64
    · have hf := ite_f hf hc
      refine lv_lload hx hb dX1_leaveFitting_13 (lv_at hl 3 rfl) ?_
      refine lv_iload hx hb dX1_leaveFitting_15 (lv_at hl 4 rfl) ?_
      refine lv_lshr hx hb dX1_leaveFitting_17 rfl ?_
      refine lv_lconst (v := 1) hx hb dX1_leaveFitting_18 (by decide) ?_
      refine lv_land hx hb dX1_leaveFitting_19 ?_
      refine lv_lconst (v := 0) hx hb dX1_leaveFitting_20 (by decide) ?_
      refine W.lcmp hx hb dX1_leaveFitting_21 ?_
      refine lv_if_eq (tgt := 56) hx hb dX1_leaveFitting_22 (by decide) (fun hc => ?_) (fun hc => ?_)
      · have hf := ite_t hf hc
        exact w_X1_leaveFitting_56 C _ (ih) _ _ _ _ _ _ _ hf hP hD hS (lv_sub hl [0, 1, 2, 3, 4] rfl)
      · have hf := ite_f hf hc
        refine lv_aload_n hx hb dX1_leaveFitting_25 rfl (lv_at hl 0 rfl) ?_
        refine va_get (D := D) (ci := 1) (v := .ref (a0 9)) (C := RX1) (T := TX1) (N := 16) hx hb hts hiX1 hown hK hP 0 rfl rfl 9 (by decide) (hts _ flX1_39) (fun _ h9 => h9) rfl dX1_leaveFitting_26 ?_
        refine lv_iload hx hb dX1_leaveFitting_29 (lv_at hl 4 rfl) ?_
        refine lv_sipush (v := 256) hx hb dX1_leaveFitting_31 (by decide) ?_
        refine lv_imul hx hb dX1_leaveFitting_34 ?_
        refine lv_iload_n hx hb dX1_leaveFitting_35 rfl (lv_at hl 1 rfl) ?_
        refine lv_iadd hx hb dX1_leaveFitting_36 ?_
        refine va_iald (f := r0 9) hx hb hK hP 10 0 rfl rfl (ck_in hf) dX1_leaveFitting_37 ?_
        have hf := ck_2 hf
        refine lv_iload hx hb dX1_leaveFitting_38 (lv_at hl 2 rfl) ?_
        refine lv_icmp_eq (tgt := 56) hx hb dX1_leaveFitting_40 (by decide) (fun hc => ?_) (fun hc => ?_)
        · have hf := ite_t hf hc
          exact w_X1_leaveFitting_56 C _ (ih) _ _ _ _ _ _ _ hf hP hD hS (lv_sub hl [0, 1, 2, 3, 4] rfl)
        · have hf := ite_f hf hc
          refine lv_lload hx hb dX1_leaveFitting_43 (lv_at hl 3 rfl) ?_
          refine lv_lconst (v := 1) hx hb dX1_leaveFitting_45 (by decide) ?_
          refine lv_iload hx hb dX1_leaveFitting_46 (lv_at hl 4 rfl) ?_
          refine lv_lshl hx hb dX1_leaveFitting_48 rfl ?_
          refine lv_ldc2 (v := (-1)) hx hb hown (hts _ kcX1_97) dX1_leaveFitting_49 ?_
          refine lv_lxor hx hb dX1_leaveFitting_52 ?_
          refine lv_land hx hb dX1_leaveFitting_53 ?_
          refine lv_lstore (lv' := [(5, .long (x5 &&& (((1 : Int64) <<< (x7.toInt64 &&& 63)) ^^^ (-1)))), (0, .ref h0), (3, .int x3), (4, .int x4), (7, .int x7)]) hx hb dX1_leaveFitting_54 hl (by decide) rfl (fun ls hl => ?_)
          exact w_X1_leaveFitting_56 C _ (ih) _ _ _ _ _ _ _ hf hP hD hS (lv_sub hl [1, 2, 3, 0, 4] rfl)
def f_X1_leaveFitting  (i0 : Nat → Int32) (r0 : Nat → Nat → Int32) (u0 : Nat → Nat) (x1 : Int64) (x3 : Int32) (x4 : Int32) : Option (Int64) := f_X1_leaveFitting_6 i0 r0 u0 2000000 x3 x4 x1 0
set_option maxRecDepth 100000 in
set_option maxHeartbeats 4000000 in
theorem c_X1_leaveFitting {l : Launch} {D : va_G} {cs zs : Nat → Nat} {h0 : Nat} {a0 : Nat → Nat} {i0 : Nat → Int32} {r0 : Nat → Nat → Int32} {u0 : Nat → Nat} {x1 : Int64} {x3 : Int32} {x4 : Int32} {q : Int64} (hf : f_X1_leaveFitting i0 r0 u0 x1 x3 x4 = some q) : Ml l yX1_leaveFitting wlX1_leaveFitting rmX1_leaveFitting D cs zs [.ref h0, .long x1, .int x3, .int x4] (W1 cs h0 a0 i0 r0 u0) q (W1 cs h0 a0 i0 r0 u0) := by
  refine Ml.of RX1 (by decide) rfl (Nat.le_of_ble_eq_true rfl) (fun p e s m below meth c A C hP hD hS ls hl => ?_)
  generalize ([.ref h0, .long x1, .int x3, .int x4] : List Value).toArray = args at C ⊢
  obtain ⟨hx, hb, hr, hml, hown, hts, hK, hA, hlocks, hZ⟩ := id C
  have hl : lv_has ls 8 [(0, .ref h0), (1, .long x1), (3, .int x3), (4, .int x4)] := hl
  rw [f_X1_leaveFitting] at hf
  refine lv_lload_n hx hb dX1_leaveFitting_0 rfl (lv_at hl 1 rfl) ?_
  refine lv_lstore (lv' := [(5, .long x1), (0, .ref h0), (1, .long x1), (3, .int x3), (4, .int x4)]) hx hb dX1_leaveFitting_1 hl (by decide) rfl (fun ls hl => ?_)
  refine lv_iconst (v := 0) hx hb dX1_leaveFitting_3 (by decide) ?_
  refine lv_istore (lv' := [(7, .int 0), (5, .long x1), (0, .ref h0), (1, .long x1), (3, .int x3), (4, .int x4)]) hx hb dX1_leaveFitting_4 hl (by decide) rfl (fun ls hl => ?_)
  exact w_X1_leaveFitting_6 C  2000000 _ _ _ _ _ _ _ hf hP hD hS (lv_sub hl [2, 4, 5, 1, 0] rfl)
/-! MarbleFloor$Cracks.fitting(I)J -/
abbrev wlX1_fitting : List Cond := Cond.code yX1_fitting cX1_fitting 5 (some .long) :: tbG
abbrev rmX1_fitting : Room := { frames := 1, cells := 0, slots := 0, locals := 27 }
theorem qnX1_fitting : yX1_fitting.cls = RX1 ∧ yX1_fitting.cls ≠ "java/lang/invoke/MethodHandle" ∧ yX1_fitting.cls ≠ "java/lang/invoke/VarHandle" ∧ (parseMethodDescriptor yX1_fitting.desc).map (fun d => d.parameters.length) = some 1 := by decide +kernel
def f_X1_fitting_72 (i0 : Nat → Int32) (r0 : Nat → Nat → Int32) (u0 : Nat → Nat) (K32 : Int32 → Int64 → Int32 → Option (Int64)) (x1 : Int32) (x2 : Int64) (x4 : Int32) : Option (Int64) := K32 x1 x2 (x4 + 1)
set_option maxRecDepth 100000 in
set_option maxHeartbeats 4000000 in
theorem w_X1_fitting_72 {p : Program} {l : Launch} {e : Env} {s : State} {m : MethodId} {args : Array Value} {below : List Frame} {meth : Method} {c : Code} {A : Nat → Prop} {D : va_G} {cs zs : Nat → Nat} {h0 : Nat} {a0 : Nat → Nat} {i0 : Nat → Int32} {r0 : Nat → Nat → Int32} {u0 : Nat → Nat} {q : Int64} (C : Cx p s m args meth c A D cs zs cX1_fitting 5 (some .long) RX1) (K32 : Int32 → Int64 → Int32 → Option (Int64)) (hK32 : ∀ (x1 : Int32) (x2 : Int64) (x4 : Int32) (H : Heap) (locs : List Loc) (ls : Array Slot), K32 x1 x2 x4 = some q → va_P D vwCl (W1 cs h0 a0 i0 r0 u0) H → va_D A (W1 cs h0 a0 i0 r0 u0) → va_S A s.heap H locs → lv_has ls 5 [(0, .ref h0), (1, .int x1), (2, .long x2), (4, .int x4)] → W p l e rmX1_fitting s m args below meth c H locs 0 0 (MQ below (Ql D cs A q (W1 cs h0 a0 i0 r0 u0)) args s 0 0 A) (F0 m 32 ls [])) : ∀ (x1 : Int32) (x2 : Int64) (x4 : Int32) (H : Heap) (locs : List Loc) (ls : Array Slot), f_X1_fitting_72 i0 r0 u0 K32 x1 x2 x4 = some q → va_P D vwCl (W1 cs h0 a0 i0 r0 u0) H → va_D A (W1 cs h0 a0 i0 r0 u0) → va_S A s.heap H locs → lv_has ls 5 [(0, .ref h0), (1, .int x1), (2, .long x2), (4, .int x4)] → W p l e rmX1_fitting s m args below meth c H locs 0 0 (MQ below (Ql D cs A q (W1 cs h0 a0 i0 r0 u0)) args s 0 0 A) (F0 m 72 ls []) := by
  obtain ⟨hx, hb, hr, hml, hown, hts, hK, hA, hlocks, hZ⟩ := id C
  intro x1 x2 x4 H locs ls hf hP hD hS hl
  rw [f_X1_fitting_72] at hf
  refine lv_iinc (v := x4 + 1) (lv' := [(4, .int (x4 + 1)), (0, .ref h0), (1, .int x1), (2, .long x2)]) hx hb dX1_fitting_72 hl (k := 3) rfl rfl (by decide) rfl (fun ls hl => ?_)
  refine lv_goto (tgt := 32) hx hb dX1_fitting_75 (by decide) ?_
  exact hK32 _ _ _ _ _ _ hf hP hD hS (lv_sub hl [1, 2, 3, 0] rfl)
def f_X1_fitting_32 (i0 : Nat → Int32) (r0 : Nat → Nat → Int32) (u0 : Nat → Nat)  : Nat → Int32 → Int64 → Int32 → Option (Int64)
  | 0, _, _, _ => none
  | n + 1, x1, x2, x4 => if (i0 13) ≤ x4 then (some (x2)) else (ck (inb x4 20) (if x1 < (r0 0 x4.toNatClampNeg) then (f_X1_fitting_72 i0 r0 u0 (f_X1_fitting_32 i0 r0 u0 n) x1 x2 x4) else (ck (inb x4 20) (bd (f_X1_knownOut i0 r0 u0 x4 x1) (fun q3 => bd (f_X1_leaveFitting i0 r0 u0 x2 (r0 1 x4.toNatClampNeg) q3) (fun q4 => f_X1_fitting_72 i0 r0 u0 (f_X1_fitting_32 i0 r0 u0 n) x1 q4 x4))))))
set_option maxRecDepth 100000 in
set_option maxHeartbeats 4000000 in
theorem w_X1_fitting_32 {p : Program} {l : Launch} {e : Env} {s : State} {m : MethodId} {args : Array Value} {below : List Frame} {meth : Method} {c : Code} {A : Nat → Prop} {D : va_G} {cs zs : Nat → Nat} {h0 : Nat} {a0 : Nat → Nat} {i0 : Nat → Int32} {r0 : Nat → Nat → Int32} {u0 : Nat → Nat} {q : Int64} (C : Cx p s m args meth c A D cs zs cX1_fitting 5 (some .long) RX1)  : ∀ (n : Nat), ∀ (x1 : Int32) (x2 : Int64) (x4 : Int32) (H : Heap) (locs : List Loc) (ls : Array Slot), f_X1_fitting_32 i0 r0 u0 n x1 x2 x4 = some q → va_P D vwCl (W1 cs h0 a0 i0 r0 u0) H → va_D A (W1 cs h0 a0 i0 r0 u0) → va_S A s.heap H locs → lv_has ls 5 [(0, .ref h0), (1, .int x1), (2, .long x2), (4, .int x4)] → W p l e rmX1_fitting s m args below meth c H locs 0 0 (MQ below (Ql D cs A q (W1 cs h0 a0 i0 r0 u0)) args s 0 0 A) (F0 m 32 ls []) := by
  obtain ⟨hx, hb, hr, hml, hown, hts, hK, hA, hlocks, hZ⟩ := id C
  intro n
  induction n with
  | zero =>
    intro x1 x2 x4 H locs ls hf
    rw [f_X1_fitting_32] at hf
    cases hf
  | succ n ih =>
    intro x1 x2 x4 H locs ls hf hP hD hS hl
    rw [f_X1_fitting_32] at hf
    refine lv_iload hx hb dX1_fitting_32 (lv_at hl 3 rfl) ?_
    refine lv_aload_n hx hb dX1_fitting_34 rfl (lv_at hl 0 rfl) ?_
    refine va_get (D := D) (ci := 1) (v := .int (i0 13)) (C := RX1) (T := TX1) (N := 16) hx hb hts hiX1 hown hK hP 0 rfl rfl 13 (by decide) (hts _ flX1_50) (fun _ h9 => h9) rfl dX1_fitting_35 ?_
    refine lv_icmp_ge (tgt := 78) hx hb dX1_fitting_38 (by decide) (fun hc => ?_) (fun hc => ?_)
    · have hf := ite_t hf hc
      refine lv_lload_n hx hb dX1_fitting_78 rfl (lv_at hl 2 rfl) ?_
      obtain rfl := Option.some.inj hf
      exact k_lret hx hb hr hlocks hK hP hD hS dX1_fitting_79
    · have hf := ite_f hf hc
      refine lv_aload_n hx hb dX1_fitting_41 rfl (lv_at hl 0 rfl) ?_
      refine va_get (D := D) (ci := 1) (v := .ref (a0 0)) (C := RX1) (T := TX1) (N := 16) hx hb hts hiX1 hown hK hP 0 rfl rfl 0 (by decide) (hts _ flX1_11) (fun _ h9 => h9) rfl dX1_fitting_42 ?_
      refine lv_iload hx hb dX1_fitting_45 (lv_at hl 3 rfl) ?_
      refine va_iald (f := r0 0) hx hb hK hP 1 0 rfl rfl (ck_in hf) dX1_fitting_47 ?_
      have hf := ck_2 hf
      refine lv_iload_n hx hb dX1_fitting_48 rfl (lv_at hl 1 rfl) ?_
      refine lv_icmp_gt (tgt := 72) hx hb dX1_fitting_49 (by decide) (fun hc => ?_) (fun hc => ?_)
      · have hf := ite_t hf hc
        exact w_X1_fitting_72 C _ (ih) _ _ _ _ _ _ hf hP hD hS (lv_sub hl [0, 1, 2, 3] rfl)
      · have hf := ite_f hf hc
        refine lv_aload_n hx hb dX1_fitting_52 rfl (lv_at hl 0 rfl) ?_
        refine lv_lload_n hx hb dX1_fitting_53 rfl (lv_at hl 2 rfl) ?_
        refine lv_aload_n hx hb dX1_fitting_54 rfl (lv_at hl 0 rfl) ?_
        refine va_get (D := D) (ci := 1) (v := .ref (a0 1)) (C := RX1) (T := TX1) (N := 16) hx hb hts hiX1 hown hK hP 0 rfl rfl 1 (by decide) (hts _ flX1_15) (fun _ h9 => h9) rfl dX1_fitting_55 ?_
        refine lv_iload hx hb dX1_fitting_58 (lv_at hl 3 rfl) ?_
        refine va_iald (f := r0 1) hx hb hK hP 2 0 rfl rfl (ck_in hf) dX1_fitting_60 ?_
        have hf := ck_2 hf
        refine lv_aload_n hx hb dX1_fitting_61 rfl (lv_at hl 0 rfl) ?_
        refine lv_iload hx hb dX1_fitting_62 (lv_at hl 3 rfl) ?_
        refine lv_iload_n hx hb dX1_fitting_64 rfl (lv_at hl 1 rfl) ?_
        obtain ⟨q3, hq3, hf⟩ := bd_s hf
        refine k_sVi (ws2 := W1 cs h0 a0 i0 r0 u0) (As := [.int x4, .int x1]) (rest := [.int (r0 1 x4.toNatClampNeg), .long x2, .ref h0]) hx hb hml hown hts hK hA hZ hl.1 hP hD hS (c_X1_knownOut (h0 := h0) (a0 := a0) hq3) (gVt mlX1_90 imX1_knownOut seX1_knownOut inX1 coX1_knownOut) rfl qnX1_knownOut rfl rfl ⟨Nat.le_of_ble_eq_true rfl, Nat.le_of_ble_eq_true rfl⟩ 0 1 rfl rfl rfl rfl rfl (Nat.le_of_ble_eq_true rfl) ⟨Nat.zero_le _, Nat.zero_le _⟩ dX1_fitting_65 (fun H locs hP hD hS => ?_)
        obtain ⟨q4, hq4, hf⟩ := bd_s hf
        refine k_sVl (ws2 := W1 cs h0 a0 i0 r0 u0) (As := [.long x2, .int (r0 1 x4.toNatClampNeg), .int q3]) (rest := []) hx hb hml hown hts hK hA hZ hl.1 hP hD hS (c_X1_leaveFitting (h0 := h0) (a0 := a0) hq4) (gVt mlX1_93 imX1_leaveFitting seX1_leaveFitting inX1 coX1_leaveFitting) rfl qnX1_leaveFitting rfl rfl ⟨Nat.le_of_ble_eq_true rfl, Nat.le_of_ble_eq_true rfl⟩ 0 1 rfl rfl rfl rfl rfl (Nat.le_of_ble_eq_true rfl) ⟨Nat.zero_le _, Nat.zero_le _⟩ dX1_fitting_68 (fun H locs hP hD hS => ?_)
        refine lv_lstore_n (lv' := [(2, .long q4), (0, .ref h0), (1, .int x1), (4, .int x4)]) hx hb dX1_fitting_71 rfl hl (by decide) rfl (fun ls hl => ?_)
        exact w_X1_fitting_72 C _ (ih) _ _ _ _ _ _ hf hP hD hS (lv_sub hl [1, 2, 0, 3] rfl)
def f_X1_fitting_7 (i0 : Nat → Int32) (r0 : Nat → Nat → Int32) (u0 : Nat → Nat)  : Nat → Int32 → Int64 → Int32 → Option (Int64)
  | 0, _, _, _ => none
  | n + 1, x1, x2, x4 => if (i0 11) ≤ x4 then (f_X1_fitting_32 i0 r0 u0 2000000 x1 x2 0) else (f_X1_fitting_7 i0 r0 u0 n x1 (x2 ||| ((1 : Int64) <<< (x4.toInt64 &&& 63))) (x4 + 1))
set_option maxRecDepth 100000 in
set_option maxHeartbeats 4000000 in
theorem w_X1_fitting_7 {p : Program} {l : Launch} {e : Env} {s : State} {m : MethodId} {args : Array Value} {below : List Frame} {meth : Method} {c : Code} {A : Nat → Prop} {D : va_G} {cs zs : Nat → Nat} {h0 : Nat} {a0 : Nat → Nat} {i0 : Nat → Int32} {r0 : Nat → Nat → Int32} {u0 : Nat → Nat} {q : Int64} (C : Cx p s m args meth c A D cs zs cX1_fitting 5 (some .long) RX1)  : ∀ (n : Nat), ∀ (x1 : Int32) (x2 : Int64) (x4 : Int32) (H : Heap) (locs : List Loc) (ls : Array Slot), f_X1_fitting_7 i0 r0 u0 n x1 x2 x4 = some q → va_P D vwCl (W1 cs h0 a0 i0 r0 u0) H → va_D A (W1 cs h0 a0 i0 r0 u0) → va_S A s.heap H locs → lv_has ls 5 [(0, .ref h0), (1, .int x1), (2, .long x2), (4, .int x4)] → W p l e rmX1_fitting s m args below meth c H locs 0 0 (MQ below (Ql D cs A q (W1 cs h0 a0 i0 r0 u0)) args s 0 0 A) (F0 m 7 ls []) := by
  obtain ⟨hx, hb, hr, hml, hown, hts, hK, hA, hlocks, hZ⟩ := id C
  intro n
  induction n with
  | zero =>
    intro x1 x2 x4 H locs ls hf
    rw [f_X1_fitting_7] at hf
    cases hf
  | succ n ih =>
    intro x1 x2 x4 H locs ls hf hP hD hS hl
    rw [f_X1_fitting_7] at hf
    refine lv_iload hx hb dX1_fitting_7 (lv_at hl 3 rfl) ?_
    refine lv_aload_n hx hb dX1_fitting_9 rfl (lv_at hl 0 rfl) ?_
    refine va_get (D := D) (ci := 1) (v := .int (i0 11)) (C := RX1) (T := TX1) (N := 16) hx hb hts hiX1 hown hK hP 0 rfl rfl 11 (by decide) (hts _ flX1_62) (fun _ h9 => h9) rfl dX1_fitting_10 ?_
    refine lv_icmp_ge (tgt := 29) hx hb dX1_fitting_13 (by decide) (fun hc => ?_) (fun hc => ?_)
    · have hf := ite_t hf hc
      refine lv_iconst (v := 0) hx hb dX1_fitting_29 (by decide) ?_
      refine lv_istore (lv' := [(4, .int 0), (0, .ref h0), (1, .int x1), (2, .long x2)]) hx hb dX1_fitting_30 hl (by decide) rfl (fun ls hl => ?_)
      exact w_X1_fitting_32 C  2000000 _ _ _ _ _ _ hf hP hD hS (lv_sub hl [1, 2, 3, 0] rfl)
    · have hf := ite_f hf hc
      refine lv_lload_n hx hb dX1_fitting_16 rfl (lv_at hl 2 rfl) ?_
      refine lv_lconst (v := 1) hx hb dX1_fitting_17 (by decide) ?_
      refine lv_iload hx hb dX1_fitting_18 (lv_at hl 3 rfl) ?_
      refine lv_lshl hx hb dX1_fitting_20 rfl ?_
      refine lv_lor hx hb dX1_fitting_21 ?_
      refine lv_lstore_n (lv' := [(2, .long (x2 ||| ((1 : Int64) <<< (x4.toInt64 &&& 63)))), (0, .ref h0), (1, .int x1), (4, .int x4)]) hx hb dX1_fitting_22 rfl hl (by decide) rfl (fun ls hl => ?_)
      refine lv_iinc (v := x4 + 1) (lv' := [(4, .int (x4 + 1)), (2, .long (x2 ||| ((1 : Int64) <<< (x4.toInt64 &&& 63)))), (0, .ref h0), (1, .int x1)]) hx hb dX1_fitting_23 hl (k := 3) rfl rfl (by decide) rfl (fun ls hl => ?_)
      refine lv_goto (tgt := 7) hx hb dX1_fitting_26 (by decide) ?_
      exact ih _ _ _ _ _ _ hf hP hD hS (lv_sub hl [2, 3, 1, 0] rfl)
def f_X1_fitting  (i0 : Nat → Int32) (r0 : Nat → Nat → Int32) (u0 : Nat → Nat) (x1 : Int32) : Option (Int64) := f_X1_fitting_7 i0 r0 u0 2000000 x1 1099511627776 0
set_option maxRecDepth 100000 in
set_option maxHeartbeats 4000000 in
theorem c_X1_fitting {l : Launch} {D : va_G} {cs zs : Nat → Nat} {h0 : Nat} {a0 : Nat → Nat} {i0 : Nat → Int32} {r0 : Nat → Nat → Int32} {u0 : Nat → Nat} {x1 : Int32} {q : Int64} (hf : f_X1_fitting i0 r0 u0 x1 = some q) : Ml l yX1_fitting wlX1_fitting rmX1_fitting D cs zs [.ref h0, .int x1] (W1 cs h0 a0 i0 r0 u0) q (W1 cs h0 a0 i0 r0 u0) := by
  refine Ml.of RX1 (by decide) rfl (Nat.le_of_ble_eq_true rfl) (fun p e s m below meth c A C hP hD hS ls hl => ?_)
  generalize ([.ref h0, .int x1] : List Value).toArray = args at C ⊢
  obtain ⟨hx, hb, hr, hml, hown, hts, hK, hA, hlocks, hZ⟩ := id C
  have hl : lv_has ls 5 [(0, .ref h0), (1, .int x1)] := hl
  rw [f_X1_fitting] at hf
  refine lv_ldc2 (v := 1099511627776) hx hb hown (hts _ kcX1_88) dX1_fitting_0 ?_
  refine lv_lstore_n (lv' := [(2, .long 1099511627776), (0, .ref h0), (1, .int x1)]) hx hb dX1_fitting_3 rfl hl (by decide) rfl (fun ls hl => ?_)
  refine lv_iconst (v := 0) hx hb dX1_fitting_4 (by decide) ?_
  refine lv_istore (lv' := [(4, .int 0), (2, .long 1099511627776), (0, .ref h0), (1, .int x1)]) hx hb dX1_fitting_5 hl (by decide) rfl (fun ls hl => ?_)
  exact w_X1_fitting_7 C  2000000 _ _ _ _ _ _ hf hP hD hS (lv_sub hl [2, 3, 1, 0] rfl)
/-! MarbleFloor$Cracks.greatestHeap(JI)I -/
abbrev wlX1_greatestHeap : List Cond := Cond.code yX1_greatestHeap cX1_greatestHeap 7 (some .int) :: tbG
abbrev rmX1_greatestHeap : Room := { frames := 1, cells := 0, slots := 0, locals := 25 }
theorem qnX1_greatestHeap : yX1_greatestHeap.cls = RX1 ∧ yX1_greatestHeap.cls ≠ "java/lang/invoke/MethodHandle" ∧ yX1_greatestHeap.cls ≠ "java/lang/invoke/VarHandle" ∧ (parseMethodDescriptor yX1_greatestHeap.desc).map (fun d => d.parameters.length) = some 2 := by decide +kernel
def f_X1_greatestHeap_64 (i0 : Nat → Int32) (u0 : Nat → Nat) (K6 : (Nat → Nat → Int32) → Int64 → Int32 → Int32 → Int32 → Option (Int32 × (Nat → Nat → Int32))) (r0 : Nat → Nat → Int32) (x1 : Int64) (x3 : Int32) (x4 : Int32) (x5 : Int32) : Option (Int32 × (Nat → Nat → Int32)) := K6 r0 x1 x3 x4 (x5 + 1)
set_option maxRecDepth 100000 in
set_option maxHeartbeats 4000000 in
theorem w_X1_greatestHeap_64 {p : Program} {l : Launch} {e : Env} {s : State} {m : MethodId} {args : Array Value} {below : List Frame} {meth : Method} {c : Code} {A : Nat → Prop} {D : va_G} {cs zs : Nat → Nat} {h0 : Nat} {a0 : Nat → Nat} {i0 : Nat → Int32} {u0 : Nat → Nat} {q : Int32 × (Nat → Nat → Int32)} (C : Cx p s m args meth c A D cs zs cX1_greatestHeap 7 (some .int) RX1) (K6 : (Nat → Nat → Int32) → Int64 → Int32 → Int32 → Int32 → Option (Int32 × (Nat → Nat → Int32))) (hK6 : ∀ (r0 : Nat → Nat → Int32) (x1 : Int64) (x3 : Int32) (x4 : Int32) (x5 : Int32) (H : Heap) (locs : List Loc) (ls : Array Slot), K6 r0 x1 x3 x4 x5 = some q → va_P D vwCl (W1 cs h0 a0 i0 r0 u0) H → va_D A (W1 cs h0 a0 i0 r0 u0) → va_S A s.heap H locs → lv_has ls 7 [(0, .ref h0), (1, .long x1), (3, .int x3), (4, .int x4), (5, .int x5)] → W p l e rmX1_greatestHeap s m args below meth c H locs 0 0 (MQ below (Qi D cs A q.1 (W1 cs h0 a0 i0 q.2 u0)) args s 0 0 A) (F0 m 6 ls [])) : ∀ (r0 : Nat → Nat → Int32) (x1 : Int64) (x3 : Int32) (x4 : Int32) (x5 : Int32) (H : Heap) (locs : List Loc) (ls : Array Slot), f_X1_greatestHeap_64 i0 u0 K6 r0 x1 x3 x4 x5 = some q → va_P D vwCl (W1 cs h0 a0 i0 r0 u0) H → va_D A (W1 cs h0 a0 i0 r0 u0) → va_S A s.heap H locs → lv_has ls 7 [(0, .ref h0), (1, .long x1), (3, .int x3), (4, .int x4), (5, .int x5)] → W p l e rmX1_greatestHeap s m args below meth c H locs 0 0 (MQ below (Qi D cs A q.1 (W1 cs h0 a0 i0 q.2 u0)) args s 0 0 A) (F0 m 64 ls []) := by
  obtain ⟨hx, hb, hr, hml, hown, hts, hK, hA, hlocks, hZ⟩ := id C
  intro r0 x1 x3 x4 x5 H locs ls hf hP hD hS hl
  rw [f_X1_greatestHeap_64] at hf
  refine lv_iinc (v := x5 + 1) (lv' := [(5, .int (x5 + 1)), (0, .ref h0), (1, .long x1), (3, .int x3), (4, .int x4)]) hx hb dX1_greatestHeap_64 hl (k := 4) rfl rfl (by decide) rfl (fun ls hl => ?_)
  refine lv_goto (tgt := 6) hx hb dX1_greatestHeap_67 (by decide) ?_
  exact hK6 _ _ _ _ _ _ _ _ hf hP hD hS (lv_sub hl [1, 2, 3, 4, 0] rfl)
def f_X1_greatestHeap_50 (i0 : Nat → Int32) (u0 : Nat → Nat) (K6 : (Nat → Nat → Int32) → Int64 → Int32 → Int32 → Int32 → Option (Int32 × (Nat → Nat → Int32))) (r0 : Nat → Nat → Int32) (x1 : Int64) (x3 : Int32) (x4 : Int32) (x5 : Int32) (x6 : Int32) : Option (Int32 × (Nat → Nat → Int32)) := ck (inb x6 256) (f_X1_greatestHeap_64 i0 u0 K6 r0 x1 x3 (if x4 < (r0 8 x6.toNatClampNeg) then (r0 8 x6.toNatClampNeg) else x4) x5)
set_option maxRecDepth 100000 in
set_option maxHeartbeats 4000000 in
theorem w_X1_greatestHeap_50 {p : Program} {l : Launch} {e : Env} {s : State} {m : MethodId} {args : Array Value} {below : List Frame} {meth : Method} {c : Code} {A : Nat → Prop} {D : va_G} {cs zs : Nat → Nat} {h0 : Nat} {a0 : Nat → Nat} {i0 : Nat → Int32} {u0 : Nat → Nat} {q : Int32 × (Nat → Nat → Int32)} (C : Cx p s m args meth c A D cs zs cX1_greatestHeap 7 (some .int) RX1) (K6 : (Nat → Nat → Int32) → Int64 → Int32 → Int32 → Int32 → Option (Int32 × (Nat → Nat → Int32))) (hK6 : ∀ (r0 : Nat → Nat → Int32) (x1 : Int64) (x3 : Int32) (x4 : Int32) (x5 : Int32) (H : Heap) (locs : List Loc) (ls : Array Slot), K6 r0 x1 x3 x4 x5 = some q → va_P D vwCl (W1 cs h0 a0 i0 r0 u0) H → va_D A (W1 cs h0 a0 i0 r0 u0) → va_S A s.heap H locs → lv_has ls 7 [(0, .ref h0), (1, .long x1), (3, .int x3), (4, .int x4), (5, .int x5)] → W p l e rmX1_greatestHeap s m args below meth c H locs 0 0 (MQ below (Qi D cs A q.1 (W1 cs h0 a0 i0 q.2 u0)) args s 0 0 A) (F0 m 6 ls [])) : ∀ (r0 : Nat → Nat → Int32) (x1 : Int64) (x3 : Int32) (x4 : Int32) (x5 : Int32) (x6 : Int32) (H : Heap) (locs : List Loc) (ls : Array Slot), f_X1_greatestHeap_50 i0 u0 K6 r0 x1 x3 x4 x5 x6 = some q → va_P D vwCl (W1 cs h0 a0 i0 r0 u0) H → va_D A (W1 cs h0 a0 i0 r0 u0) → va_S A s.heap H locs → lv_has ls 7 [(0, .ref h0), (1, .long x1), (3, .int x3), (4, .int x4), (5, .int x5), (6, .int x6)] → W p l e rmX1_greatestHeap s m args below meth c H locs 0 0 (MQ below (Qi D cs A q.1 (W1 cs h0 a0 i0 q.2 u0)) args s 0 0 A) (F0 m 50 ls []) := by
  obtain ⟨hx, hb, hr, hml, hown, hts, hK, hA, hlocks, hZ⟩ := id C
  intro r0 x1 x3 x4 x5 x6 H locs ls hf hP hD hS hl
  rw [f_X1_greatestHeap_50] at hf
  refine lv_iload hx hb dX1_greatestHeap_50 (lv_at hl 3 rfl) ?_
  refine lv_aload_n hx hb dX1_greatestHeap_52 rfl (lv_at hl 0 rfl) ?_
  refine va_get (D := D) (ci := 1) (v := .ref (a0 8)) (C := RX1) (T := TX1) (N := 16) hx hb hts hiX1 hown hK hP 0 rfl rfl 8 (by decide) (hts _ flX1_36) (fun _ h9 => h9) rfl dX1_greatestHeap_53 ?_
  refine lv_iload hx hb dX1_greatestHeap_56 (lv_at hl 5 rfl) ?_
  refine va_iald (f := r0 8) hx hb hK hP 9 0 rfl rfl (ck_in hf) dX1_greatestHeap_58 ?_
  have hf := ck_2 hf
  refine va_mmax hx hb (hml.trans hl.1.symm) hown (hts _ mlX1_113) (hts _ stJ9_max_7cf53) (hts _ ini_Math) (hts _ coJ9_max_7cf53) (Nat.le_of_ble_eq_true rfl) (Nat.le_of_ble_eq_true rfl) (Nat.zero_le _) (Nat.zero_le _) dX1_greatestHeap_59 ?_
  refine lv_istore (lv' := [(4, .int (if x4 < (r0 8 x6.toNatClampNeg) then (r0 8 x6.toNatClampNeg) else x4)), (0, .ref h0), (1, .long x1), (3, .int x3), (5, .int x5), (6, .int x6)]) hx hb dX1_greatestHeap_62 hl (by decide) rfl (fun ls hl => ?_)
  exact w_X1_greatestHeap_64 C _ (hK6) _ _ _ _ _ _ _ _ hf hP hD hS (lv_sub hl [1, 2, 3, 0, 4] rfl)
def f_X1_greatestHeap_73 (i0 : Nat → Int32) (u0 : Nat → Nat)  : Nat → (Nat → Nat → Int32) → Int32 → Int32 → Int32 → Option (Int32 × (Nat → Nat → Int32))
  | 0, _, _, _, _ => none
  | n + 1, r0, x3, x4, x5 => if 41 ≤ x5 then (some (x4, r0)) else (ck (inb ((x5 * 256) + x3) (u0 9)) (ck (inb (r0 9 ((x5 * 256) + x3).toNatClampNeg) 256) (f_X1_greatestHeap_73 i0 u0 n (va_up r0 8 (upd (r0 8) (r0 9 ((x5 * 256) + x3).toNatClampNeg).toNatClampNeg 0)) x3 x4 (x5 + 1))))
set_option maxRecDepth 100000 in
set_option maxHeartbeats 4000000 in
theorem w_X1_greatestHeap_73 {p : Program} {l : Launch} {e : Env} {s : State} {m : MethodId} {args : Array Value} {below : List Frame} {meth : Method} {c : Code} {A : Nat → Prop} {D : va_G} {cs zs : Nat → Nat} {h0 : Nat} {a0 : Nat → Nat} {i0 : Nat → Int32} {u0 : Nat → Nat} {q : Int32 × (Nat → Nat → Int32)} (C : Cx p s m args meth c A D cs zs cX1_greatestHeap 7 (some .int) RX1)  : ∀ (n : Nat), ∀ (r0 : Nat → Nat → Int32) (x3 : Int32) (x4 : Int32) (x5 : Int32) (H : Heap) (locs : List Loc) (ls : Array Slot), f_X1_greatestHeap_73 i0 u0 n r0 x3 x4 x5 = some q → va_P D vwCl (W1 cs h0 a0 i0 r0 u0) H → va_D A (W1 cs h0 a0 i0 r0 u0) → va_S A s.heap H locs → lv_has ls 7 [(0, .ref h0), (3, .int x3), (4, .int x4), (5, .int x5)] → W p l e rmX1_greatestHeap s m args below meth c H locs 0 0 (MQ below (Qi D cs A q.1 (W1 cs h0 a0 i0 q.2 u0)) args s 0 0 A) (F0 m 73 ls []) := by
  obtain ⟨hx, hb, hr, hml, hown, hts, hK, hA, hlocks, hZ⟩ := id C
  intro n
  induction n with
  | zero =>
    intro r0 x3 x4 x5 H locs ls hf
    rw [f_X1_greatestHeap_73] at hf
    cases hf
  | succ n ih =>
    intro r0 x3 x4 x5 H locs ls hf hP hD hS hl
    rw [f_X1_greatestHeap_73] at hf
    refine lv_iload hx hb dX1_greatestHeap_73 (lv_at hl 3 rfl) ?_
    refine lv_bipush (v := 41) hx hb dX1_greatestHeap_75 (by decide) ?_
    refine lv_icmp_ge (tgt := 105) hx hb dX1_greatestHeap_77 (by decide) (fun hc => ?_) (fun hc => ?_)
    · have hf := ite_t hf hc
      refine lv_iload hx hb dX1_greatestHeap_105 (lv_at hl 2 rfl) ?_
      obtain rfl := Option.some.inj hf
      exact k_iret hx hb hr hlocks hK hP hD hS dX1_greatestHeap_107
    · have hf := ite_f hf hc
      refine lv_aload_n hx hb dX1_greatestHeap_80 rfl (lv_at hl 0 rfl) ?_
      refine va_get (D := D) (ci := 1) (v := .ref (a0 8)) (C := RX1) (T := TX1) (N := 16) hx hb hts hiX1 hown hK hP 0 rfl rfl 8 (by decide) (hts _ flX1_36) (fun _ h9 => h9) rfl dX1_greatestHeap_81 ?_
      refine lv_aload_n hx hb dX1_greatestHeap_84 rfl (lv_at hl 0 rfl) ?_
      refine va_get (D := D) (ci := 1) (v := .ref (a0 9)) (C := RX1) (T := TX1) (N := 16) hx hb hts hiX1 hown hK hP 0 rfl rfl 9 (by decide) (hts _ flX1_39) (fun _ h9 => h9) rfl dX1_greatestHeap_85 ?_
      refine lv_iload hx hb dX1_greatestHeap_88 (lv_at hl 3 rfl) ?_
      refine lv_sipush (v := 256) hx hb dX1_greatestHeap_90 (by decide) ?_
      refine lv_imul hx hb dX1_greatestHeap_93 ?_
      refine lv_iload_n hx hb dX1_greatestHeap_94 rfl (lv_at hl 1 rfl) ?_
      refine lv_iadd hx hb dX1_greatestHeap_95 ?_
      refine va_iald (f := r0 9) hx hb hK hP 10 0 rfl rfl (ck_in hf) dX1_greatestHeap_96 ?_
      have hf := ck_2 hf
      refine lv_iconst (v := 0) hx hb dX1_greatestHeap_97 (by decide) ?_
      refine va_iast (f := r0 8) hx hb hK hP hD hS 9 0 rfl rfl (ck_in hf) dX1_greatestHeap_98 (fun H locs hP hD hS => ?_)
      have hf := ck_2 hf
      obtain ⟨hP, hD⟩ := st1_8 hP hD
      refine lv_iinc (v := x5 + 1) (lv' := [(5, .int (x5 + 1)), (0, .ref h0), (3, .int x3), (4, .int x4)]) hx hb dX1_greatestHeap_99 hl (k := 3) rfl rfl (by decide) rfl (fun ls hl => ?_)
      refine lv_goto (tgt := 73) hx hb dX1_greatestHeap_102 (by decide) ?_
      exact ih _ _ _ _ _ _ _ hf hP hD hS (lv_sub hl [1, 2, 3, 0] rfl)
def f_X1_greatestHeap_6 (i0 : Nat → Int32) (u0 : Nat → Nat)  : Nat → (Nat → Nat → Int32) → Int64 → Int32 → Int32 → Int32 → Option (Int32 × (Nat → Nat → Int32))
  | 0, _, _, _, _, _ => none
  | n + 1, r0, x1, x3, x4, x5 => if 41 ≤ x5 then (f_X1_greatestHeap_73 i0 u0 2000000 r0 x3 x4 0) else (if (lg_cmp ((x1 >>> (x5.toInt64 &&& 63)) &&& 1) 0) = 0 then (f_X1_greatestHeap_64 i0 u0 (f_X1_greatestHeap_6 i0 u0 n) r0 x1 x3 x4 x5) else (ck (inb ((x5 * 256) + x3) (u0 9)) (ck (inb (r0 9 ((x5 * 256) + x3).toNatClampNeg) 256) (ck (inb (r0 9 ((x5 * 256) + x3).toNatClampNeg) 256) (f_X1_greatestHeap_50 i0 u0 (f_X1_greatestHeap_6 i0 u0 n) (va_up r0 8 (upd (r0 8) (r0 9 ((x5 * 256) + x3).toNatClampNeg).toNatClampNeg ((r0 8 (r0 9 ((x5 * 256) + x3).toNatClampNeg).toNatClampNeg) + 1))) x1 x3 x4 x5 (r0 9 ((x5 * 256) + x3).toNatClampNeg))))))
set_option maxRecDepth 100000 in
set_option maxHeartbeats 4000000 in
theorem w_X1_greatestHeap_6 {p : Program} {l : Launch} {e : Env} {s : State} {m : MethodId} {args : Array Value} {below : List Frame} {meth : Method} {c : Code} {A : Nat → Prop} {D : va_G} {cs zs : Nat → Nat} {h0 : Nat} {a0 : Nat → Nat} {i0 : Nat → Int32} {u0 : Nat → Nat} {q : Int32 × (Nat → Nat → Int32)} (C : Cx p s m args meth c A D cs zs cX1_greatestHeap 7 (some .int) RX1)  : ∀ (n : Nat), ∀ (r0 : Nat → Nat → Int32) (x1 : Int64) (x3 : Int32) (x4 : Int32) (x5 : Int32) (H : Heap) (locs : List Loc) (ls : Array Slot), f_X1_greatestHeap_6 i0 u0 n r0 x1 x3 x4 x5 = some q → va_P D vwCl (W1 cs h0 a0 i0 r0 u0) H → va_D A (W1 cs h0 a0 i0 r0 u0) → va_S A s.heap H locs → lv_has ls 7 [(0, .ref h0), (1, .long x1), (3, .int x3), (4, .int x4), (5, .int x5)] → W p l e rmX1_greatestHeap s m args below meth c H locs 0 0 (MQ below (Qi D cs A q.1 (W1 cs h0 a0 i0 q.2 u0)) args s 0 0 A) (F0 m 6 ls []) := by
  obtain ⟨hx, hb, hr, hml, hown, hts, hK, hA, hlocks, hZ⟩ := id C
  intro n
  induction n with
  | zero =>
    intro r0 x1 x3 x4 x5 H locs ls hf
    rw [f_X1_greatestHeap_6] at hf
    cases hf
  | succ n ih =>
    intro r0 x1 x3 x4 x5 H locs ls hf hP hD hS hl
    rw [f_X1_greatestHeap_6] at hf
    refine lv_iload hx hb dX1_greatestHeap_6 (lv_at hl 4 rfl) ?_
    refine lv_bipush (v := 41) hx hb dX1_greatestHeap_8 (by decide) ?_
    refine lv_icmp_ge (tgt := 70) hx hb dX1_greatestHeap_10 (by decide) (fun hc => ?_) (fun hc => ?_)
    · have hf := ite_t hf hc
      refine lv_iconst (v := 0) hx hb dX1_greatestHeap_70 (by decide) ?_
      refine lv_istore (lv' := [(5, .int 0), (0, .ref h0), (1, .long x1), (3, .int x3), (4, .int x4)]) hx hb dX1_greatestHeap_71 hl (by decide) rfl (fun ls hl => ?_)
      exact w_X1_greatestHeap_73 C  2000000 _ _ _ _ _ _ _ hf hP hD hS (lv_sub hl [1, 3, 4, 0] rfl)
    · have hf := ite_f hf hc
      refine lv_lload_n hx hb dX1_greatestHeap_13 rfl (lv_at hl 1 rfl) ?_
      refine lv_iload hx hb dX1_greatestHeap_14 (lv_at hl 4 rfl) ?_
      refine lv_lshr hx hb dX1_greatestHeap_16 rfl ?_
      refine lv_lconst (v := 1) hx hb dX1_greatestHeap_17 (by decide) ?_
      refine lv_land hx hb dX1_greatestHeap_18 ?_
      refine lv_lconst (v := 0) hx hb dX1_greatestHeap_19 (by decide) ?_
      refine W.lcmp hx hb dX1_greatestHeap_20 ?_
      refine lv_if_eq (tgt := 64) hx hb dX1_greatestHeap_21 (by decide) (fun hc => ?_) (fun hc => ?_)
      · have hf := ite_t hf hc
        exact w_X1_greatestHeap_64 C _ (ih) _ _ _ _ _ _ _ _ hf hP hD hS (lv_sub hl [0, 1, 2, 3, 4] rfl)
      · have hf := ite_f hf hc
        refine lv_aload_n hx hb dX1_greatestHeap_24 rfl (lv_at hl 0 rfl) ?_
        refine va_get (D := D) (ci := 1) (v := .ref (a0 9)) (C := RX1) (T := TX1) (N := 16) hx hb hts hiX1 hown hK hP 0 rfl rfl 9 (by decide) (hts _ flX1_39) (fun _ h9 => h9) rfl dX1_greatestHeap_25 ?_
        refine lv_iload hx hb dX1_greatestHeap_28 (lv_at hl 4 rfl) ?_
        refine lv_sipush (v := 256) hx hb dX1_greatestHeap_30 (by decide) ?_
        refine lv_imul hx hb dX1_greatestHeap_33 ?_
        refine lv_iload_n hx hb dX1_greatestHeap_34 rfl (lv_at hl 2 rfl) ?_
        refine lv_iadd hx hb dX1_greatestHeap_35 ?_
        refine va_iald (f := r0 9) hx hb hK hP 10 0 rfl rfl (ck_in hf) dX1_greatestHeap_36 ?_
        have hf := ck_2 hf
        refine lv_istore (lv' := [(6, .int (r0 9 ((x5 * 256) + x3).toNatClampNeg)), (0, .ref h0), (1, .long x1), (3, .int x3), (4, .int x4), (5, .int x5)]) hx hb dX1_greatestHeap_37 hl (by decide) rfl (fun ls hl => ?_)
        refine lv_aload_n hx hb dX1_greatestHeap_39 rfl (lv_at hl 1 rfl) ?_
        refine va_get (D := D) (ci := 1) (v := .ref (a0 8)) (C := RX1) (T := TX1) (N := 16) hx hb hts hiX1 hown hK hP 0 rfl rfl 8 (by decide) (hts _ flX1_36) (fun _ h9 => h9) rfl dX1_greatestHeap_40 ?_
        refine lv_iload hx hb dX1_greatestHeap_43 (lv_at hl 0 rfl) ?_
        refine lv_dup2_11 hx hb dX1_greatestHeap_45 rfl rfl ?_
        refine va_iald (f := r0 8) hx hb hK hP 9 0 rfl rfl (ck_in hf) dX1_greatestHeap_46 ?_
        have hf := ck_2 hf
        refine lv_iconst (v := 1) hx hb dX1_greatestHeap_47 (by decide) ?_
        refine lv_iadd hx hb dX1_greatestHeap_48 ?_
        refine va_iast (f := r0 8) hx hb hK hP hD hS 9 0 rfl rfl (ck_in hf) dX1_greatestHeap_49 (fun H locs hP hD hS => ?_)
        have hf := ck_2 hf
        obtain ⟨hP, hD⟩ := st1_8 hP hD
        exact w_X1_greatestHeap_50 C _ (ih) _ _ _ _ _ _ _ _ _ hf hP hD hS (lv_sub hl [1, 2, 3, 4, 5, 0] rfl)
def f_X1_greatestHeap  (i0 : Nat → Int32) (r0 : Nat → Nat → Int32) (u0 : Nat → Nat) (x1 : Int64) (x3 : Int32) : Option (Int32 × (Nat → Nat → Int32)) := f_X1_greatestHeap_6 i0 u0 2000000 r0 x1 x3 0 0
set_option maxRecDepth 100000 in
set_option maxHeartbeats 4000000 in
theorem c_X1_greatestHeap {l : Launch} {D : va_G} {cs zs : Nat → Nat} {h0 : Nat} {a0 : Nat → Nat} {i0 : Nat → Int32} {r0 : Nat → Nat → Int32} {u0 : Nat → Nat} {x1 : Int64} {x3 : Int32} {q : Int32 × (Nat → Nat → Int32)} (hf : f_X1_greatestHeap i0 r0 u0 x1 x3 = some q) : Mi l yX1_greatestHeap wlX1_greatestHeap rmX1_greatestHeap D cs zs [.ref h0, .long x1, .int x3] (W1 cs h0 a0 i0 r0 u0) q.1 (W1 cs h0 a0 i0 q.2 u0) := by
  refine Mi.of RX1 (by decide) rfl (Nat.le_of_ble_eq_true rfl) (fun p e s m below meth c A C hP hD hS ls hl => ?_)
  generalize ([.ref h0, .long x1, .int x3] : List Value).toArray = args at C ⊢
  obtain ⟨hx, hb, hr, hml, hown, hts, hK, hA, hlocks, hZ⟩ := id C
  have hl : lv_has ls 7 [(0, .ref h0), (1, .long x1), (3, .int x3)] := hl
  rw [f_X1_greatestHeap] at hf
  refine lv_iconst (v := 0) hx hb dX1_greatestHeap_0 (by decide) ?_
  refine lv_istore (lv' := [(4, .int 0), (0, .ref h0), (1, .long x1), (3, .int x3)]) hx hb dX1_greatestHeap_1 hl (by decide) rfl (fun ls hl => ?_)
  refine lv_iconst (v := 0) hx hb dX1_greatestHeap_3 (by decide) ?_
  refine lv_istore (lv' := [(5, .int 0), (4, .int 0), (0, .ref h0), (1, .long x1), (3, .int x3)]) hx hb dX1_greatestHeap_4 hl (by decide) rfl (fun ls hl => ?_)
  exact w_X1_greatestHeap_6 C  2000000 _ _ _ _ _ _ _ _ hf hP hD hS (lv_sub hl [2, 3, 4, 1, 0] rfl)
/-! MarbleFloor$Cracks.bestRow()I -/
abbrev wlX1_bestRow : List Cond := Cond.code yX1_bestRow cX1_bestRow 7 (some .int) :: tbG
abbrev rmX1_bestRow : Room := { frames := 2, cells := 0, slots := 0, locals := 51 }
theorem qnX1_bestRow : yX1_bestRow.cls = RX1 ∧ yX1_bestRow.cls ≠ "java/lang/invoke/MethodHandle" ∧ yX1_bestRow.cls ≠ "java/lang/invoke/VarHandle" ∧ (parseMethodDescriptor yX1_bestRow.desc).map (fun d => d.parameters.length) = some 0 := by decide +kernel
def f_X1_bestRow_51 (i0 : Nat → Int32) (u0 : Nat → Nat) (K19 : (Nat → Nat → Int32) → Int64 → Int32 → Int32 → Int32 → Option (Int32 × (Nat → Nat → Int32))) (r0 : Nat → Nat → Int32) (x1 : Int64) (x3 : Int32) (x4 : Int32) (x5 : Int32) : Option (Int32 × (Nat → Nat → Int32)) := K19 r0 x1 x3 x4 (x5 + 1)
set_option maxRecDepth 100000 in
set_option maxHeartbeats 4000000 in
theorem w_X1_bestRow_51 {p : Program} {l : Launch} {e : Env} {s : State} {m : MethodId} {args : Array Value} {below : List Frame} {meth : Method} {c : Code} {A : Nat → Prop} {D : va_G} {cs zs : Nat → Nat} {h0 : Nat} {a0 : Nat → Nat} {i0 : Nat → Int32} {u0 : Nat → Nat} {q : Int32 × (Nat → Nat → Int32)} (C : Cx p s m args meth c A D cs zs cX1_bestRow 7 (some .int) RX1) (K19 : (Nat → Nat → Int32) → Int64 → Int32 → Int32 → Int32 → Option (Int32 × (Nat → Nat → Int32))) (hK19 : ∀ (r0 : Nat → Nat → Int32) (x1 : Int64) (x3 : Int32) (x4 : Int32) (x5 : Int32) (H : Heap) (locs : List Loc) (ls : Array Slot), K19 r0 x1 x3 x4 x5 = some q → va_P D vwCl (W1 cs h0 a0 i0 r0 u0) H → va_D A (W1 cs h0 a0 i0 r0 u0) → va_S A s.heap H locs → lv_has ls 7 [(0, .ref h0), (1, .long x1), (3, .int x3), (4, .int x4), (5, .int x5)] → W p l e rmX1_bestRow s m args below meth c H locs 0 0 (MQ below (Qi D cs A q.1 (W1 cs h0 a0 i0 q.2 u0)) args s 0 0 A) (F0 m 19 ls [])) : ∀ (r0 : Nat → Nat → Int32) (x1 : Int64) (x3 : Int32) (x4 : Int32) (x5 : Int32) (H : Heap) (locs : List Loc) (ls : Array Slot), f_X1_bestRow_51 i0 u0 K19 r0 x1 x3 x4 x5 = some q → va_P D vwCl (W1 cs h0 a0 i0 r0 u0) H → va_D A (W1 cs h0 a0 i0 r0 u0) → va_S A s.heap H locs → lv_has ls 7 [(0, .ref h0), (1, .long x1), (3, .int x3), (4, .int x4), (5, .int x5)] → W p l e rmX1_bestRow s m args below meth c H locs 0 0 (MQ below (Qi D cs A q.1 (W1 cs h0 a0 i0 q.2 u0)) args s 0 0 A) (F0 m 51 ls []) := by
  obtain ⟨hx, hb, hr, hml, hown, hts, hK, hA, hlocks, hZ⟩ := id C
  intro r0 x1 x3 x4 x5 H locs ls hf hP hD hS hl
  rw [f_X1_bestRow_51] at hf
  refine lv_iinc (v := x5 + 1) (lv' := [(5, .int (x5 + 1)), (0, .ref h0), (1, .long x1), (3, .int x3), (4, .int x4)]) hx hb dX1_bestRow_51 hl (k := 4) rfl rfl (by decide) rfl (fun ls hl => ?_)
  refine lv_goto (tgt := 19) hx hb dX1_bestRow_54 (by decide) ?_
  exact hK19 _ _ _ _ _ _ _ _ hf hP hD hS (lv_sub hl [1, 2, 3, 4, 0] rfl)
def f_X1_bestRow_19 (i0 : Nat → Int32) (u0 : Nat → Nat)  : Nat → (Nat → Nat → Int32) → Int64 → Int32 → Int32 → Int32 → Option (Int32 × (Nat → Nat → Int32))
  | 0, _, _, _, _, _ => none
  | n + 1, r0, x1, x3, x4, x5 => if (i0 12) ≤ x5 then (some (x3, r0)) else (bd (f_X1_greatestHeap i0 r0 u0 x1 x5) (fun q4 => if x4 ≤ q4.1 then (f_X1_bestRow_51 i0 u0 (f_X1_bestRow_19 i0 u0 n) q4.2 x1 x3 x4 x5) else (f_X1_bestRow_51 i0 u0 (f_X1_bestRow_19 i0 u0 n) q4.2 x1 x5 q4.1 x5)))
set_option maxRecDepth 100000 in
set_option maxHeartbeats 4000000 in
theorem w_X1_bestRow_19 {p : Program} {l : Launch} {e : Env} {s : State} {m : MethodId} {args : Array Value} {below : List Frame} {meth : Method} {c : Code} {A : Nat → Prop} {D : va_G} {cs zs : Nat → Nat} {h0 : Nat} {a0 : Nat → Nat} {i0 : Nat → Int32} {u0 : Nat → Nat} {q : Int32 × (Nat → Nat → Int32)} (C : Cx p s m args meth c A D cs zs cX1_bestRow 7 (some .int) RX1)  : ∀ (n : Nat), ∀ (r0 : Nat → Nat → Int32) (x1 : Int64) (x3 : Int32) (x4 : Int32) (x5 : Int32) (H : Heap) (locs : List Loc) (ls : Array Slot), f_X1_bestRow_19 i0 u0 n r0 x1 x3 x4 x5 = some q → va_P D vwCl (W1 cs h0 a0 i0 r0 u0) H → va_D A (W1 cs h0 a0 i0 r0 u0) → va_S A s.heap H locs → lv_has ls 7 [(0, .ref h0), (1, .long x1), (3, .int x3), (4, .int x4), (5, .int x5)] → W p l e rmX1_bestRow s m args below meth c H locs 0 0 (MQ below (Qi D cs A q.1 (W1 cs h0 a0 i0 q.2 u0)) args s 0 0 A) (F0 m 19 ls []) := by
  obtain ⟨hx, hb, hr, hml, hown, hts, hK, hA, hlocks, hZ⟩ := id C
  intro n
  induction n with
  | zero =>
    intro r0 x1 x3 x4 x5 H locs ls hf
    rw [f_X1_bestRow_19] at hf
    cases hf
  | succ n ih =>
    intro r0 x1 x3 x4 x5 H locs ls hf hP hD hS hl
    rw [f_X1_bestRow_19] at hf
    refine lv_iload hx hb dX1_bestRow_19 (lv_at hl 4 rfl) ?_
    refine lv_aload_n hx hb dX1_bestRow_21 rfl (lv_at hl 0 rfl) ?_
    refine va_get (D := D) (ci := 1) (v := .int (i0 12)) (C := RX1) (T := TX1) (N := 16) hx hb hts hiX1 hown hK hP 0 rfl rfl 12 (by decide) (hts _ flX1_42) (fun _ h9 => h9) rfl dX1_bestRow_22 ?_
    refine lv_icmp_ge (tgt := 57) hx hb dX1_bestRow_25 (by decide) (fun hc => ?_) (fun hc => ?_)
    · have hf := ite_t hf hc
      refine lv_iload_n hx hb dX1_bestRow_57 rfl (lv_at hl 2 rfl) ?_
      obtain rfl := Option.some.inj hf
      exact k_iret hx hb hr hlocks hK hP hD hS dX1_bestRow_58
    · have hf := ite_f hf hc
      refine lv_aload_n hx hb dX1_bestRow_28 rfl (lv_at hl 0 rfl) ?_
      refine lv_lload_n hx hb dX1_bestRow_29 rfl (lv_at hl 1 rfl) ?_
      refine lv_iload hx hb dX1_bestRow_30 (lv_at hl 4 rfl) ?_
      obtain ⟨q4, hq4, hf⟩ := bd_s hf
      refine k_sVi (ws2 := W1 cs h0 a0 i0 q4.2 u0) (As := [.long x1, .int x5]) (rest := []) hx hb hml hown hts hK hA hZ hl.1 hP hD hS (c_X1_greatestHeap (h0 := h0) (a0 := a0) hq4) (gVt mlX1_109 imX1_greatestHeap seX1_greatestHeap inX1 coX1_greatestHeap) rfl qnX1_greatestHeap rfl rfl ⟨Nat.le_of_ble_eq_true rfl, Nat.le_of_ble_eq_true rfl⟩ 0 1 rfl rfl rfl rfl rfl (Nat.le_of_ble_eq_true rfl) ⟨Nat.zero_le _, Nat.zero_le _⟩ dX1_bestRow_32 (fun H locs hP hD hS => ?_)
      refine lv_istore (lv' := [(6, .int q4.1), (0, .ref h0), (1, .long x1), (3, .int x3), (4, .int x4), (5, .int x5)]) hx hb dX1_bestRow_35 hl (by decide) rfl (fun ls hl => ?_)
      refine lv_iload hx hb dX1_bestRow_37 (lv_at hl 0 rfl) ?_
      refine lv_iload hx hb dX1_bestRow_39 (lv_at hl 4 rfl) ?_
      refine lv_icmp_ge (tgt := 51) hx hb dX1_bestRow_41 (by decide) (fun hc => ?_) (fun hc => ?_)
      · have hf := ite_t hf hc
        exact w_X1_bestRow_51 C _ (ih) _ _ _ _ _ _ _ _ hf hP hD hS (lv_sub hl [1, 2, 3, 4, 5] rfl)
      · have hf := ite_f hf hc
        refine lv_iload hx hb dX1_bestRow_44 (lv_at hl 0 rfl) ?_
        refine lv_istore (lv' := [(4, .int q4.1), (6, .int q4.1), (0, .ref h0), (1, .long x1), (3, .int x3), (5, .int x5)]) hx hb dX1_bestRow_46 hl (by decide) rfl (fun ls hl => ?_)
        refine lv_iload hx hb dX1_bestRow_48 (lv_at hl 5 rfl) ?_
        refine lv_istore_n (lv' := [(3, .int x5), (4, .int q4.1), (6, .int q4.1), (0, .ref h0), (1, .long x1), (5, .int x5)]) hx hb dX1_bestRow_50 rfl hl (by decide) rfl (fun ls hl => ?_)
        exact w_X1_bestRow_51 C _ (ih) _ _ _ _ _ _ _ _ hf hP hD hS (lv_sub hl [3, 4, 0, 1, 5] rfl)
def f_X1_bestRow  (i0 : Nat → Int32) (r0 : Nat → Nat → Int32) (u0 : Nat → Nat)  : Option (Int32 × (Nat → Nat → Int32)) := bd (f_X1_fitting i0 r0 u0 999) (fun q5 => bd (f_J13_bitCount_95d88 q5) (fun q6 => f_X1_bestRow_19 i0 u0 2000000 r0 q5 (-1) q6 0))
set_option maxRecDepth 100000 in
set_option maxHeartbeats 4000000 in
theorem c_X1_bestRow {l : Launch} {D : va_G} {cs zs : Nat → Nat} {h0 : Nat} {a0 : Nat → Nat} {i0 : Nat → Int32} {r0 : Nat → Nat → Int32} {u0 : Nat → Nat}  {q : Int32 × (Nat → Nat → Int32)} (hf : f_X1_bestRow i0 r0 u0 = some q) : Mi l yX1_bestRow wlX1_bestRow rmX1_bestRow D cs zs [.ref h0] (W1 cs h0 a0 i0 r0 u0) q.1 (W1 cs h0 a0 i0 q.2 u0) := by
  refine Mi.of RX1 (by decide) rfl (Nat.le_of_ble_eq_true rfl) (fun p e s m below meth c A C hP hD hS ls hl => ?_)
  generalize ([.ref h0] : List Value).toArray = args at C ⊢
  obtain ⟨hx, hb, hr, hml, hown, hts, hK, hA, hlocks, hZ⟩ := id C
  have hl : lv_has ls 7 [(0, .ref h0)] := hl
  rw [f_X1_bestRow] at hf
  refine lv_aload_n hx hb dX1_bestRow_0 rfl (lv_at hl 0 rfl) ?_
  refine lv_sipush (v := 999) hx hb dX1_bestRow_1 (by decide) ?_
  obtain ⟨q5, hq5, hf⟩ := bd_s hf
  refine k_sVl (ws2 := W1 cs h0 a0 i0 r0 u0) (As := [.int 999]) (rest := []) hx hb hml hown hts hK hA hZ hl.1 hP hD hS (c_X1_fitting (h0 := h0) (a0 := a0) hq5) (gVt mlX1_99 imX1_fitting seX1_fitting inX1 coX1_fitting) rfl qnX1_fitting rfl rfl ⟨Nat.le_of_ble_eq_true rfl, Nat.le_of_ble_eq_true rfl⟩ 0 1 rfl rfl rfl rfl rfl (Nat.le_of_ble_eq_true rfl) ⟨Nat.zero_le _, Nat.zero_le _⟩ dX1_bestRow_4 (fun H locs hP hD hS => ?_)
  refine lv_lstore_n (lv' := [(1, .long q5), (0, .ref h0)]) hx hb dX1_bestRow_7 rfl hl (by decide) rfl (fun ls hl => ?_)
  refine lv_iconst (v := (-1)) hx hb dX1_bestRow_8 (by decide) ?_
  refine lv_istore_n (lv' := [(3, .int (-1)), (1, .long q5), (0, .ref h0)]) hx hb dX1_bestRow_9 rfl hl (by decide) rfl (fun ls hl => ?_)
  refine lv_lload_n hx hb dX1_bestRow_10 rfl (lv_at hl 1 rfl) ?_
  obtain ⟨q6, hq6, hf⟩ := bd_s hf
  refine k_eSi (As := [.long q5]) (rest := []) hx hb hml hown hts hK hA hZ hl.1 hP hD hS (c_J13_bitCount_95d88  hq6) (gSt mlX1_103 stJ13_bitCount_95d88 inJ13 coJ13_bitCount_95d88) rfl qnJ13_bitCount_95d88 rfl rfl ⟨Nat.le_of_ble_eq_true rfl, Nat.le_of_ble_eq_true rfl⟩ rfl rfl (Nat.le_of_ble_eq_true rfl) ⟨Nat.zero_le _, Nat.zero_le _⟩ dX1_bestRow_11 (fun H locs hP hD hS => ?_)
  refine lv_istore (lv' := [(4, .int q6), (3, .int (-1)), (1, .long q5), (0, .ref h0)]) hx hb dX1_bestRow_14 hl (by decide) rfl (fun ls hl => ?_)
  refine lv_iconst (v := 0) hx hb dX1_bestRow_16 (by decide) ?_
  refine lv_istore (lv' := [(5, .int 0), (4, .int q6), (3, .int (-1)), (1, .long q5), (0, .ref h0)]) hx hb dX1_bestRow_17 hl (by decide) rfl (fun ls hl => ?_)
  exact w_X1_bestRow_19 C  2000000 _ _ _ _ _ _ _ _ hf hP hD hS (lv_sub hl [4, 3, 2, 1, 0] rfl)
