def fs13 (a : Nat → Nat) (i : Nat → Int32) : List Value := [.ref (a 0), .ref (a 1), .int (i 2), .int (i 3), .int (i 4), .int (i 5), .int (i 6), .int (i 7), .int (i 8), .int (i 9), .ref (a 10), .ref (a 11), .ref (a 12), .ref (a 13), .ref (a 14), .ref (a 15), .ref (a 16), .ref (a 17), .ref (a 18), .ref (a 19), .ref (a 20), .ref (a 21), .ref (a 22), .ref (a 23), .int (i 24), .int (i 25), .ref (a 26), .int (i 27), .ref (a 28), .ref (a 29), .ref (a 30), .ref (a 31), .ref (a 32), .ref (a 33), .ref (a 34), .ref (a 35), .ref (a 36), .ref (a 37), .ref (a 38), .ref (a 39), .ref (a 40), .ref (a 41), .ref (a 42), .ref (a 43), .ref (a 44), .ref (a 45), .int (i 46), .int (i 47), .int (i 48), .int (i 49), .int (i 50), .int (i 51), .int (i 52), .int (i 53), .int (i 54), .int (i 55), .int (i 56), .int (i 57), .ref (a 58), .ref (a 59), .ref (a 60), .int (i 61), .int (i 62), .int (i 63), .int (i 64), .int (i 65), .int (i 66), .int (i 67), .ref (a 68), .ref (a 69), .ref (a 70), .ref (a 71), .ref (a 72), .ref (a 73), .ref (a 74), .int (i 75), .int (i 76), .int (i 77), .int (i 78), .int (i 79), .ref (a 80), .ref (a 81), .ref (a 82), .ref (a 83), .ref (a 84), .ref (a 85), .ref (a 86)]
def W13 (cs : Nat → ClassId) (h : Nat) (a : Nat → Nat) (i : Nat → Int32) (r : Nat → Nat → Int32) (l : Nat → Nat → Int64) : va_W := [(h, .inr (13, fs13 a i)), (a 1, .inl (cs 3, 900, .inl (r 1))), (a 10, .inl (cs 0, 8, .inl (r 10))), (a 11, .inl (cs 0, 8, .inl (r 11))), (a 12, .inl (cs 0, 320, .inl (r 12))), (a 13, .inl (cs 0, 320, .inl (r 13))), (a 14, .inl (cs 0, 320, .inl (r 14))), (a 15, .inl (cs 0, 256, .inl (r 15))), (a 16, .inl (cs 2, 256, .inl (r 16))), (a 17, .inl (cs 3, 40320, .inl (r 17))), (a 18, .inl (cs 0, 40320, .inl (r 18))), (a 19, .inl (cs 0, 8, .inl (r 19))), (a 20, .inl (cs 0, 8, .inl (r 20))), (a 21, .inl (cs 0, 18, .inl (r 21))), (a 22, .inl (cs 0, 18, .inl (r 22))), (a 23, .inl (cs 0, 18, .inl (r 23))), (a 26, .inl (cs 0, 8, .inl (r 26))), (a 28, .inl (cs 0, 120, .inl (r 28))), (a 29, .inl (cs 0, 120, .inl (r 29))), (a 30, .inl (cs 0, 120, .inl (r 30))), (a 31, .inl (cs 0, 120, .inl (r 31))), (a 32, .inl (cs 0, 240, .inl (r 32))), (a 33, .inl (cs 0, 240, .inl (r 33))), (a 34, .inl (cs 0, 480, .inl (r 34))), (a 35, .inl (cs 0, 480, .inl (r 35))), (a 36, .inl (cs 0, 240, .inl (r 36))), (a 37, .inl (cs 0, 240, .inl (r 37))), (a 38, .inl (cs 0, 240, .inl (r 38))), (a 39, .inl (cs 0, 2000, .inl (r 39))), (a 40, .inl (cs 0, 2000, .inl (r 40))), (a 41, .inl (cs 0, 2000, .inl (r 41))), (a 42, .inl (cs 0, 12, .inl (r 42))), (a 43, .inl (cs 0, 12, .inl (r 43))), (a 44, .inl (cs 1, 6, .inr (.inl (l 44)))), (a 45, .inl (cs 1, 60, .inr (.inl (l 45)))), (a 58, .inl (cs 0, 18, .inl (r 58))), (a 59, .inl (cs 0, 18, .inl (r 59))), (a 60, .inl (cs 0, 64, .inl (r 60))), (a 68, .inl (cs 0, 100, .inl (r 68))), (a 69, .inl (cs 0, 100, .inl (r 69))), (a 70, .inl (cs 0, 100, .inl (r 70))), (a 71, .inl (cs 0, 100, .inl (r 71))), (a 72, .inl (cs 0, 4096, .inl (r 72))), (a 73, .inl (cs 0, 4096, .inl (r 73))), (a 74, .inl (cs 0, 4096, .inl (r 74))), (a 80, .inl (cs 0, 20, .inl (r 80))), (a 81, .inl (cs 0, 20, .inl (r 81))), (a 82, .inl (cs 0, 20, .inl (r 82))), (a 83, .inl (cs 0, 20, .inl (r 83))), (a 84, .inl (cs 0, 20, .inl (r 84))), (a 85, .inl (cs 0, 20, .inl (r 85))), (a 86, .inl (cs 0, 256, .inl (r 86)))]
theorem st13_1 {D : va_G} {A : Nat → Prop} {H : Heap} {cs : Nat → ClassId} {h : Nat} {a : Nat → Nat} {i : Nat → Int32} {r : Nat → Nat → Int32} {l : Nat → Nat → Int64} {f : Nat → Int32} (hP : va_P D vwCl ((W13 cs h a i r l).set 1 (a 1, .inl (cs 3, 900, .inl f))) H) (hD : va_D A ((W13 cs h a i r l).set 1 (a 1, .inl (cs 3, 900, .inl f)))) : va_P D vwCl (W13 cs h a i (va_up r 1 f) l) H ∧ va_D A (W13 cs h a i (va_up r 1 f) l) := ⟨hP, hD⟩
theorem st13_2 {D : va_G} {A : Nat → Prop} {H : Heap} {cs : Nat → ClassId} {h : Nat} {a : Nat → Nat} {i : Nat → Int32} {r : Nat → Nat → Int32} {l : Nat → Nat → Int64} {v : Int32} (hP : va_P D vwCl ((W13 cs h a i r l).set 0 (h, .inr (13, (fs13 a i).set 2 (.int v)))) H) (hD : va_D A ((W13 cs h a i r l).set 0 (h, .inr (13, (fs13 a i).set 2 (.int v))))) : va_P D vwCl (W13 cs h a (upd i 2 v) r l) H ∧ va_D A (W13 cs h a (upd i 2 v) r l) := ⟨hP, hD⟩
theorem st13_3 {D : va_G} {A : Nat → Prop} {H : Heap} {cs : Nat → ClassId} {h : Nat} {a : Nat → Nat} {i : Nat → Int32} {r : Nat → Nat → Int32} {l : Nat → Nat → Int64} {v : Int32} (hP : va_P D vwCl ((W13 cs h a i r l).set 0 (h, .inr (13, (fs13 a i).set 3 (.int v)))) H) (hD : va_D A ((W13 cs h a i r l).set 0 (h, .inr (13, (fs13 a i).set 3 (.int v))))) : va_P D vwCl (W13 cs h a (upd i 3 v) r l) H ∧ va_D A (W13 cs h a (upd i 3 v) r l) := ⟨hP, hD⟩
theorem st13_4 {D : va_G} {A : Nat → Prop} {H : Heap} {cs : Nat → ClassId} {h : Nat} {a : Nat → Nat} {i : Nat → Int32} {r : Nat → Nat → Int32} {l : Nat → Nat → Int64} {v : Int32} (hP : va_P D vwCl ((W13 cs h a i r l).set 0 (h, .inr (13, (fs13 a i).set 4 (.int v)))) H) (hD : va_D A ((W13 cs h a i r l).set 0 (h, .inr (13, (fs13 a i).set 4 (.int v))))) : va_P D vwCl (W13 cs h a (upd i 4 v) r l) H ∧ va_D A (W13 cs h a (upd i 4 v) r l) := ⟨hP, hD⟩
theorem st13_5 {D : va_G} {A : Nat → Prop} {H : Heap} {cs : Nat → ClassId} {h : Nat} {a : Nat → Nat} {i : Nat → Int32} {r : Nat → Nat → Int32} {l : Nat → Nat → Int64} {v : Int32} (hP : va_P D vwCl ((W13 cs h a i r l).set 0 (h, .inr (13, (fs13 a i).set 5 (.int v)))) H) (hD : va_D A ((W13 cs h a i r l).set 0 (h, .inr (13, (fs13 a i).set 5 (.int v))))) : va_P D vwCl (W13 cs h a (upd i 5 v) r l) H ∧ va_D A (W13 cs h a (upd i 5 v) r l) := ⟨hP, hD⟩
theorem st13_6 {D : va_G} {A : Nat → Prop} {H : Heap} {cs : Nat → ClassId} {h : Nat} {a : Nat → Nat} {i : Nat → Int32} {r : Nat → Nat → Int32} {l : Nat → Nat → Int64} {v : Int32} (hP : va_P D vwCl ((W13 cs h a i r l).set 0 (h, .inr (13, (fs13 a i).set 6 (.int v)))) H) (hD : va_D A ((W13 cs h a i r l).set 0 (h, .inr (13, (fs13 a i).set 6 (.int v))))) : va_P D vwCl (W13 cs h a (upd i 6 v) r l) H ∧ va_D A (W13 cs h a (upd i 6 v) r l) := ⟨hP, hD⟩
theorem st13_7 {D : va_G} {A : Nat → Prop} {H : Heap} {cs : Nat → ClassId} {h : Nat} {a : Nat → Nat} {i : Nat → Int32} {r : Nat → Nat → Int32} {l : Nat → Nat → Int64} {v : Int32} (hP : va_P D vwCl ((W13 cs h a i r l).set 0 (h, .inr (13, (fs13 a i).set 7 (.int v)))) H) (hD : va_D A ((W13 cs h a i r l).set 0 (h, .inr (13, (fs13 a i).set 7 (.int v))))) : va_P D vwCl (W13 cs h a (upd i 7 v) r l) H ∧ va_D A (W13 cs h a (upd i 7 v) r l) := ⟨hP, hD⟩
theorem st13_8 {D : va_G} {A : Nat → Prop} {H : Heap} {cs : Nat → ClassId} {h : Nat} {a : Nat → Nat} {i : Nat → Int32} {r : Nat → Nat → Int32} {l : Nat → Nat → Int64} {v : Int32} (hP : va_P D vwCl ((W13 cs h a i r l).set 0 (h, .inr (13, (fs13 a i).set 8 (.int v)))) H) (hD : va_D A ((W13 cs h a i r l).set 0 (h, .inr (13, (fs13 a i).set 8 (.int v))))) : va_P D vwCl (W13 cs h a (upd i 8 v) r l) H ∧ va_D A (W13 cs h a (upd i 8 v) r l) := ⟨hP, hD⟩
theorem st13_9 {D : va_G} {A : Nat → Prop} {H : Heap} {cs : Nat → ClassId} {h : Nat} {a : Nat → Nat} {i : Nat → Int32} {r : Nat → Nat → Int32} {l : Nat → Nat → Int64} {v : Int32} (hP : va_P D vwCl ((W13 cs h a i r l).set 0 (h, .inr (13, (fs13 a i).set 9 (.int v)))) H) (hD : va_D A ((W13 cs h a i r l).set 0 (h, .inr (13, (fs13 a i).set 9 (.int v))))) : va_P D vwCl (W13 cs h a (upd i 9 v) r l) H ∧ va_D A (W13 cs h a (upd i 9 v) r l) := ⟨hP, hD⟩
theorem st13_10 {D : va_G} {A : Nat → Prop} {H : Heap} {cs : Nat → ClassId} {h : Nat} {a : Nat → Nat} {i : Nat → Int32} {r : Nat → Nat → Int32} {l : Nat → Nat → Int64} {f : Nat → Int32} (hP : va_P D vwCl ((W13 cs h a i r l).set 2 (a 10, .inl (cs 0, 8, .inl f))) H) (hD : va_D A ((W13 cs h a i r l).set 2 (a 10, .inl (cs 0, 8, .inl f)))) : va_P D vwCl (W13 cs h a i (va_up r 10 f) l) H ∧ va_D A (W13 cs h a i (va_up r 10 f) l) := ⟨hP, hD⟩
theorem st13_11 {D : va_G} {A : Nat → Prop} {H : Heap} {cs : Nat → ClassId} {h : Nat} {a : Nat → Nat} {i : Nat → Int32} {r : Nat → Nat → Int32} {l : Nat → Nat → Int64} {f : Nat → Int32} (hP : va_P D vwCl ((W13 cs h a i r l).set 3 (a 11, .inl (cs 0, 8, .inl f))) H) (hD : va_D A ((W13 cs h a i r l).set 3 (a 11, .inl (cs 0, 8, .inl f)))) : va_P D vwCl (W13 cs h a i (va_up r 11 f) l) H ∧ va_D A (W13 cs h a i (va_up r 11 f) l) := ⟨hP, hD⟩
theorem st13_12 {D : va_G} {A : Nat → Prop} {H : Heap} {cs : Nat → ClassId} {h : Nat} {a : Nat → Nat} {i : Nat → Int32} {r : Nat → Nat → Int32} {l : Nat → Nat → Int64} {f : Nat → Int32} (hP : va_P D vwCl ((W13 cs h a i r l).set 4 (a 12, .inl (cs 0, 320, .inl f))) H) (hD : va_D A ((W13 cs h a i r l).set 4 (a 12, .inl (cs 0, 320, .inl f)))) : va_P D vwCl (W13 cs h a i (va_up r 12 f) l) H ∧ va_D A (W13 cs h a i (va_up r 12 f) l) := ⟨hP, hD⟩
theorem st13_13 {D : va_G} {A : Nat → Prop} {H : Heap} {cs : Nat → ClassId} {h : Nat} {a : Nat → Nat} {i : Nat → Int32} {r : Nat → Nat → Int32} {l : Nat → Nat → Int64} {f : Nat → Int32} (hP : va_P D vwCl ((W13 cs h a i r l).set 5 (a 13, .inl (cs 0, 320, .inl f))) H) (hD : va_D A ((W13 cs h a i r l).set 5 (a 13, .inl (cs 0, 320, .inl f)))) : va_P D vwCl (W13 cs h a i (va_up r 13 f) l) H ∧ va_D A (W13 cs h a i (va_up r 13 f) l) := ⟨hP, hD⟩
theorem st13_14 {D : va_G} {A : Nat → Prop} {H : Heap} {cs : Nat → ClassId} {h : Nat} {a : Nat → Nat} {i : Nat → Int32} {r : Nat → Nat → Int32} {l : Nat → Nat → Int64} {f : Nat → Int32} (hP : va_P D vwCl ((W13 cs h a i r l).set 6 (a 14, .inl (cs 0, 320, .inl f))) H) (hD : va_D A ((W13 cs h a i r l).set 6 (a 14, .inl (cs 0, 320, .inl f)))) : va_P D vwCl (W13 cs h a i (va_up r 14 f) l) H ∧ va_D A (W13 cs h a i (va_up r 14 f) l) := ⟨hP, hD⟩
theorem st13_15 {D : va_G} {A : Nat → Prop} {H : Heap} {cs : Nat → ClassId} {h : Nat} {a : Nat → Nat} {i : Nat → Int32} {r : Nat → Nat → Int32} {l : Nat → Nat → Int64} {f : Nat → Int32} (hP : va_P D vwCl ((W13 cs h a i r l).set 7 (a 15, .inl (cs 0, 256, .inl f))) H) (hD : va_D A ((W13 cs h a i r l).set 7 (a 15, .inl (cs 0, 256, .inl f)))) : va_P D vwCl (W13 cs h a i (va_up r 15 f) l) H ∧ va_D A (W13 cs h a i (va_up r 15 f) l) := ⟨hP, hD⟩
theorem st13_16 {D : va_G} {A : Nat → Prop} {H : Heap} {cs : Nat → ClassId} {h : Nat} {a : Nat → Nat} {i : Nat → Int32} {r : Nat → Nat → Int32} {l : Nat → Nat → Int64} {f : Nat → Int32} (hP : va_P D vwCl ((W13 cs h a i r l).set 8 (a 16, .inl (cs 2, 256, .inl f))) H) (hD : va_D A ((W13 cs h a i r l).set 8 (a 16, .inl (cs 2, 256, .inl f)))) : va_P D vwCl (W13 cs h a i (va_up r 16 f) l) H ∧ va_D A (W13 cs h a i (va_up r 16 f) l) := ⟨hP, hD⟩
theorem st13_17 {D : va_G} {A : Nat → Prop} {H : Heap} {cs : Nat → ClassId} {h : Nat} {a : Nat → Nat} {i : Nat → Int32} {r : Nat → Nat → Int32} {l : Nat → Nat → Int64} {f : Nat → Int32} (hP : va_P D vwCl ((W13 cs h a i r l).set 9 (a 17, .inl (cs 3, 40320, .inl f))) H) (hD : va_D A ((W13 cs h a i r l).set 9 (a 17, .inl (cs 3, 40320, .inl f)))) : va_P D vwCl (W13 cs h a i (va_up r 17 f) l) H ∧ va_D A (W13 cs h a i (va_up r 17 f) l) := ⟨hP, hD⟩
theorem st13_18 {D : va_G} {A : Nat → Prop} {H : Heap} {cs : Nat → ClassId} {h : Nat} {a : Nat → Nat} {i : Nat → Int32} {r : Nat → Nat → Int32} {l : Nat → Nat → Int64} {f : Nat → Int32} (hP : va_P D vwCl ((W13 cs h a i r l).set 10 (a 18, .inl (cs 0, 40320, .inl f))) H) (hD : va_D A ((W13 cs h a i r l).set 10 (a 18, .inl (cs 0, 40320, .inl f)))) : va_P D vwCl (W13 cs h a i (va_up r 18 f) l) H ∧ va_D A (W13 cs h a i (va_up r 18 f) l) := ⟨hP, hD⟩
theorem st13_19 {D : va_G} {A : Nat → Prop} {H : Heap} {cs : Nat → ClassId} {h : Nat} {a : Nat → Nat} {i : Nat → Int32} {r : Nat → Nat → Int32} {l : Nat → Nat → Int64} {f : Nat → Int32} (hP : va_P D vwCl ((W13 cs h a i r l).set 11 (a 19, .inl (cs 0, 8, .inl f))) H) (hD : va_D A ((W13 cs h a i r l).set 11 (a 19, .inl (cs 0, 8, .inl f)))) : va_P D vwCl (W13 cs h a i (va_up r 19 f) l) H ∧ va_D A (W13 cs h a i (va_up r 19 f) l) := ⟨hP, hD⟩
theorem st13_20 {D : va_G} {A : Nat → Prop} {H : Heap} {cs : Nat → ClassId} {h : Nat} {a : Nat → Nat} {i : Nat → Int32} {r : Nat → Nat → Int32} {l : Nat → Nat → Int64} {f : Nat → Int32} (hP : va_P D vwCl ((W13 cs h a i r l).set 12 (a 20, .inl (cs 0, 8, .inl f))) H) (hD : va_D A ((W13 cs h a i r l).set 12 (a 20, .inl (cs 0, 8, .inl f)))) : va_P D vwCl (W13 cs h a i (va_up r 20 f) l) H ∧ va_D A (W13 cs h a i (va_up r 20 f) l) := ⟨hP, hD⟩
theorem st13_21 {D : va_G} {A : Nat → Prop} {H : Heap} {cs : Nat → ClassId} {h : Nat} {a : Nat → Nat} {i : Nat → Int32} {r : Nat → Nat → Int32} {l : Nat → Nat → Int64} {f : Nat → Int32} (hP : va_P D vwCl ((W13 cs h a i r l).set 13 (a 21, .inl (cs 0, 18, .inl f))) H) (hD : va_D A ((W13 cs h a i r l).set 13 (a 21, .inl (cs 0, 18, .inl f)))) : va_P D vwCl (W13 cs h a i (va_up r 21 f) l) H ∧ va_D A (W13 cs h a i (va_up r 21 f) l) := ⟨hP, hD⟩
theorem st13_22 {D : va_G} {A : Nat → Prop} {H : Heap} {cs : Nat → ClassId} {h : Nat} {a : Nat → Nat} {i : Nat → Int32} {r : Nat → Nat → Int32} {l : Nat → Nat → Int64} {f : Nat → Int32} (hP : va_P D vwCl ((W13 cs h a i r l).set 14 (a 22, .inl (cs 0, 18, .inl f))) H) (hD : va_D A ((W13 cs h a i r l).set 14 (a 22, .inl (cs 0, 18, .inl f)))) : va_P D vwCl (W13 cs h a i (va_up r 22 f) l) H ∧ va_D A (W13 cs h a i (va_up r 22 f) l) := ⟨hP, hD⟩
theorem st13_23 {D : va_G} {A : Nat → Prop} {H : Heap} {cs : Nat → ClassId} {h : Nat} {a : Nat → Nat} {i : Nat → Int32} {r : Nat → Nat → Int32} {l : Nat → Nat → Int64} {f : Nat → Int32} (hP : va_P D vwCl ((W13 cs h a i r l).set 15 (a 23, .inl (cs 0, 18, .inl f))) H) (hD : va_D A ((W13 cs h a i r l).set 15 (a 23, .inl (cs 0, 18, .inl f)))) : va_P D vwCl (W13 cs h a i (va_up r 23 f) l) H ∧ va_D A (W13 cs h a i (va_up r 23 f) l) := ⟨hP, hD⟩
theorem st13_24 {D : va_G} {A : Nat → Prop} {H : Heap} {cs : Nat → ClassId} {h : Nat} {a : Nat → Nat} {i : Nat → Int32} {r : Nat → Nat → Int32} {l : Nat → Nat → Int64} {v : Int32} (hP : va_P D vwCl ((W13 cs h a i r l).set 0 (h, .inr (13, (fs13 a i).set 24 (.int v)))) H) (hD : va_D A ((W13 cs h a i r l).set 0 (h, .inr (13, (fs13 a i).set 24 (.int v))))) : va_P D vwCl (W13 cs h a (upd i 24 v) r l) H ∧ va_D A (W13 cs h a (upd i 24 v) r l) := ⟨hP, hD⟩
theorem st13_25 {D : va_G} {A : Nat → Prop} {H : Heap} {cs : Nat → ClassId} {h : Nat} {a : Nat → Nat} {i : Nat → Int32} {r : Nat → Nat → Int32} {l : Nat → Nat → Int64} {v : Int32} (hP : va_P D vwCl ((W13 cs h a i r l).set 0 (h, .inr (13, (fs13 a i).set 25 (.int v)))) H) (hD : va_D A ((W13 cs h a i r l).set 0 (h, .inr (13, (fs13 a i).set 25 (.int v))))) : va_P D vwCl (W13 cs h a (upd i 25 v) r l) H ∧ va_D A (W13 cs h a (upd i 25 v) r l) := ⟨hP, hD⟩
theorem st13_26 {D : va_G} {A : Nat → Prop} {H : Heap} {cs : Nat → ClassId} {h : Nat} {a : Nat → Nat} {i : Nat → Int32} {r : Nat → Nat → Int32} {l : Nat → Nat → Int64} {f : Nat → Int32} (hP : va_P D vwCl ((W13 cs h a i r l).set 16 (a 26, .inl (cs 0, 8, .inl f))) H) (hD : va_D A ((W13 cs h a i r l).set 16 (a 26, .inl (cs 0, 8, .inl f)))) : va_P D vwCl (W13 cs h a i (va_up r 26 f) l) H ∧ va_D A (W13 cs h a i (va_up r 26 f) l) := ⟨hP, hD⟩
theorem st13_27 {D : va_G} {A : Nat → Prop} {H : Heap} {cs : Nat → ClassId} {h : Nat} {a : Nat → Nat} {i : Nat → Int32} {r : Nat → Nat → Int32} {l : Nat → Nat → Int64} {v : Int32} (hP : va_P D vwCl ((W13 cs h a i r l).set 0 (h, .inr (13, (fs13 a i).set 27 (.int v)))) H) (hD : va_D A ((W13 cs h a i r l).set 0 (h, .inr (13, (fs13 a i).set 27 (.int v))))) : va_P D vwCl (W13 cs h a (upd i 27 v) r l) H ∧ va_D A (W13 cs h a (upd i 27 v) r l) := ⟨hP, hD⟩
theorem st13_28 {D : va_G} {A : Nat → Prop} {H : Heap} {cs : Nat → ClassId} {h : Nat} {a : Nat → Nat} {i : Nat → Int32} {r : Nat → Nat → Int32} {l : Nat → Nat → Int64} {f : Nat → Int32} (hP : va_P D vwCl ((W13 cs h a i r l).set 17 (a 28, .inl (cs 0, 120, .inl f))) H) (hD : va_D A ((W13 cs h a i r l).set 17 (a 28, .inl (cs 0, 120, .inl f)))) : va_P D vwCl (W13 cs h a i (va_up r 28 f) l) H ∧ va_D A (W13 cs h a i (va_up r 28 f) l) := ⟨hP, hD⟩
theorem st13_29 {D : va_G} {A : Nat → Prop} {H : Heap} {cs : Nat → ClassId} {h : Nat} {a : Nat → Nat} {i : Nat → Int32} {r : Nat → Nat → Int32} {l : Nat → Nat → Int64} {f : Nat → Int32} (hP : va_P D vwCl ((W13 cs h a i r l).set 18 (a 29, .inl (cs 0, 120, .inl f))) H) (hD : va_D A ((W13 cs h a i r l).set 18 (a 29, .inl (cs 0, 120, .inl f)))) : va_P D vwCl (W13 cs h a i (va_up r 29 f) l) H ∧ va_D A (W13 cs h a i (va_up r 29 f) l) := ⟨hP, hD⟩
theorem st13_30 {D : va_G} {A : Nat → Prop} {H : Heap} {cs : Nat → ClassId} {h : Nat} {a : Nat → Nat} {i : Nat → Int32} {r : Nat → Nat → Int32} {l : Nat → Nat → Int64} {f : Nat → Int32} (hP : va_P D vwCl ((W13 cs h a i r l).set 19 (a 30, .inl (cs 0, 120, .inl f))) H) (hD : va_D A ((W13 cs h a i r l).set 19 (a 30, .inl (cs 0, 120, .inl f)))) : va_P D vwCl (W13 cs h a i (va_up r 30 f) l) H ∧ va_D A (W13 cs h a i (va_up r 30 f) l) := ⟨hP, hD⟩
theorem st13_31 {D : va_G} {A : Nat → Prop} {H : Heap} {cs : Nat → ClassId} {h : Nat} {a : Nat → Nat} {i : Nat → Int32} {r : Nat → Nat → Int32} {l : Nat → Nat → Int64} {f : Nat → Int32} (hP : va_P D vwCl ((W13 cs h a i r l).set 20 (a 31, .inl (cs 0, 120, .inl f))) H) (hD : va_D A ((W13 cs h a i r l).set 20 (a 31, .inl (cs 0, 120, .inl f)))) : va_P D vwCl (W13 cs h a i (va_up r 31 f) l) H ∧ va_D A (W13 cs h a i (va_up r 31 f) l) := ⟨hP, hD⟩
theorem st13_32 {D : va_G} {A : Nat → Prop} {H : Heap} {cs : Nat → ClassId} {h : Nat} {a : Nat → Nat} {i : Nat → Int32} {r : Nat → Nat → Int32} {l : Nat → Nat → Int64} {f : Nat → Int32} (hP : va_P D vwCl ((W13 cs h a i r l).set 21 (a 32, .inl (cs 0, 240, .inl f))) H) (hD : va_D A ((W13 cs h a i r l).set 21 (a 32, .inl (cs 0, 240, .inl f)))) : va_P D vwCl (W13 cs h a i (va_up r 32 f) l) H ∧ va_D A (W13 cs h a i (va_up r 32 f) l) := ⟨hP, hD⟩
theorem st13_33 {D : va_G} {A : Nat → Prop} {H : Heap} {cs : Nat → ClassId} {h : Nat} {a : Nat → Nat} {i : Nat → Int32} {r : Nat → Nat → Int32} {l : Nat → Nat → Int64} {f : Nat → Int32} (hP : va_P D vwCl ((W13 cs h a i r l).set 22 (a 33, .inl (cs 0, 240, .inl f))) H) (hD : va_D A ((W13 cs h a i r l).set 22 (a 33, .inl (cs 0, 240, .inl f)))) : va_P D vwCl (W13 cs h a i (va_up r 33 f) l) H ∧ va_D A (W13 cs h a i (va_up r 33 f) l) := ⟨hP, hD⟩
theorem st13_34 {D : va_G} {A : Nat → Prop} {H : Heap} {cs : Nat → ClassId} {h : Nat} {a : Nat → Nat} {i : Nat → Int32} {r : Nat → Nat → Int32} {l : Nat → Nat → Int64} {f : Nat → Int32} (hP : va_P D vwCl ((W13 cs h a i r l).set 23 (a 34, .inl (cs 0, 480, .inl f))) H) (hD : va_D A ((W13 cs h a i r l).set 23 (a 34, .inl (cs 0, 480, .inl f)))) : va_P D vwCl (W13 cs h a i (va_up r 34 f) l) H ∧ va_D A (W13 cs h a i (va_up r 34 f) l) := ⟨hP, hD⟩
theorem st13_35 {D : va_G} {A : Nat → Prop} {H : Heap} {cs : Nat → ClassId} {h : Nat} {a : Nat → Nat} {i : Nat → Int32} {r : Nat → Nat → Int32} {l : Nat → Nat → Int64} {f : Nat → Int32} (hP : va_P D vwCl ((W13 cs h a i r l).set 24 (a 35, .inl (cs 0, 480, .inl f))) H) (hD : va_D A ((W13 cs h a i r l).set 24 (a 35, .inl (cs 0, 480, .inl f)))) : va_P D vwCl (W13 cs h a i (va_up r 35 f) l) H ∧ va_D A (W13 cs h a i (va_up r 35 f) l) := ⟨hP, hD⟩
theorem st13_36 {D : va_G} {A : Nat → Prop} {H : Heap} {cs : Nat → ClassId} {h : Nat} {a : Nat → Nat} {i : Nat → Int32} {r : Nat → Nat → Int32} {l : Nat → Nat → Int64} {f : Nat → Int32} (hP : va_P D vwCl ((W13 cs h a i r l).set 25 (a 36, .inl (cs 0, 240, .inl f))) H) (hD : va_D A ((W13 cs h a i r l).set 25 (a 36, .inl (cs 0, 240, .inl f)))) : va_P D vwCl (W13 cs h a i (va_up r 36 f) l) H ∧ va_D A (W13 cs h a i (va_up r 36 f) l) := ⟨hP, hD⟩
theorem st13_37 {D : va_G} {A : Nat → Prop} {H : Heap} {cs : Nat → ClassId} {h : Nat} {a : Nat → Nat} {i : Nat → Int32} {r : Nat → Nat → Int32} {l : Nat → Nat → Int64} {f : Nat → Int32} (hP : va_P D vwCl ((W13 cs h a i r l).set 26 (a 37, .inl (cs 0, 240, .inl f))) H) (hD : va_D A ((W13 cs h a i r l).set 26 (a 37, .inl (cs 0, 240, .inl f)))) : va_P D vwCl (W13 cs h a i (va_up r 37 f) l) H ∧ va_D A (W13 cs h a i (va_up r 37 f) l) := ⟨hP, hD⟩
theorem st13_38 {D : va_G} {A : Nat → Prop} {H : Heap} {cs : Nat → ClassId} {h : Nat} {a : Nat → Nat} {i : Nat → Int32} {r : Nat → Nat → Int32} {l : Nat → Nat → Int64} {f : Nat → Int32} (hP : va_P D vwCl ((W13 cs h a i r l).set 27 (a 38, .inl (cs 0, 240, .inl f))) H) (hD : va_D A ((W13 cs h a i r l).set 27 (a 38, .inl (cs 0, 240, .inl f)))) : va_P D vwCl (W13 cs h a i (va_up r 38 f) l) H ∧ va_D A (W13 cs h a i (va_up r 38 f) l) := ⟨hP, hD⟩
theorem st13_39 {D : va_G} {A : Nat → Prop} {H : Heap} {cs : Nat → ClassId} {h : Nat} {a : Nat → Nat} {i : Nat → Int32} {r : Nat → Nat → Int32} {l : Nat → Nat → Int64} {f : Nat → Int32} (hP : va_P D vwCl ((W13 cs h a i r l).set 28 (a 39, .inl (cs 0, 2000, .inl f))) H) (hD : va_D A ((W13 cs h a i r l).set 28 (a 39, .inl (cs 0, 2000, .inl f)))) : va_P D vwCl (W13 cs h a i (va_up r 39 f) l) H ∧ va_D A (W13 cs h a i (va_up r 39 f) l) := ⟨hP, hD⟩
theorem st13_40 {D : va_G} {A : Nat → Prop} {H : Heap} {cs : Nat → ClassId} {h : Nat} {a : Nat → Nat} {i : Nat → Int32} {r : Nat → Nat → Int32} {l : Nat → Nat → Int64} {f : Nat → Int32} (hP : va_P D vwCl ((W13 cs h a i r l).set 29 (a 40, .inl (cs 0, 2000, .inl f))) H) (hD : va_D A ((W13 cs h a i r l).set 29 (a 40, .inl (cs 0, 2000, .inl f)))) : va_P D vwCl (W13 cs h a i (va_up r 40 f) l) H ∧ va_D A (W13 cs h a i (va_up r 40 f) l) := ⟨hP, hD⟩
theorem st13_41 {D : va_G} {A : Nat → Prop} {H : Heap} {cs : Nat → ClassId} {h : Nat} {a : Nat → Nat} {i : Nat → Int32} {r : Nat → Nat → Int32} {l : Nat → Nat → Int64} {f : Nat → Int32} (hP : va_P D vwCl ((W13 cs h a i r l).set 30 (a 41, .inl (cs 0, 2000, .inl f))) H) (hD : va_D A ((W13 cs h a i r l).set 30 (a 41, .inl (cs 0, 2000, .inl f)))) : va_P D vwCl (W13 cs h a i (va_up r 41 f) l) H ∧ va_D A (W13 cs h a i (va_up r 41 f) l) := ⟨hP, hD⟩
theorem st13_42 {D : va_G} {A : Nat → Prop} {H : Heap} {cs : Nat → ClassId} {h : Nat} {a : Nat → Nat} {i : Nat → Int32} {r : Nat → Nat → Int32} {l : Nat → Nat → Int64} {f : Nat → Int32} (hP : va_P D vwCl ((W13 cs h a i r l).set 31 (a 42, .inl (cs 0, 12, .inl f))) H) (hD : va_D A ((W13 cs h a i r l).set 31 (a 42, .inl (cs 0, 12, .inl f)))) : va_P D vwCl (W13 cs h a i (va_up r 42 f) l) H ∧ va_D A (W13 cs h a i (va_up r 42 f) l) := ⟨hP, hD⟩
theorem st13_43 {D : va_G} {A : Nat → Prop} {H : Heap} {cs : Nat → ClassId} {h : Nat} {a : Nat → Nat} {i : Nat → Int32} {r : Nat → Nat → Int32} {l : Nat → Nat → Int64} {f : Nat → Int32} (hP : va_P D vwCl ((W13 cs h a i r l).set 32 (a 43, .inl (cs 0, 12, .inl f))) H) (hD : va_D A ((W13 cs h a i r l).set 32 (a 43, .inl (cs 0, 12, .inl f)))) : va_P D vwCl (W13 cs h a i (va_up r 43 f) l) H ∧ va_D A (W13 cs h a i (va_up r 43 f) l) := ⟨hP, hD⟩
theorem st13_44 {D : va_G} {A : Nat → Prop} {H : Heap} {cs : Nat → ClassId} {h : Nat} {a : Nat → Nat} {i : Nat → Int32} {r : Nat → Nat → Int32} {l : Nat → Nat → Int64} {f : Nat → Int64} (hP : va_P D vwCl ((W13 cs h a i r l).set 33 (a 44, .inl (cs 1, 6, .inr (.inl f)))) H) (hD : va_D A ((W13 cs h a i r l).set 33 (a 44, .inl (cs 1, 6, .inr (.inl f))))) : va_P D vwCl (W13 cs h a i r (va_up l 44 f)) H ∧ va_D A (W13 cs h a i r (va_up l 44 f)) := ⟨hP, hD⟩
theorem st13_45 {D : va_G} {A : Nat → Prop} {H : Heap} {cs : Nat → ClassId} {h : Nat} {a : Nat → Nat} {i : Nat → Int32} {r : Nat → Nat → Int32} {l : Nat → Nat → Int64} {f : Nat → Int64} (hP : va_P D vwCl ((W13 cs h a i r l).set 34 (a 45, .inl (cs 1, 60, .inr (.inl f)))) H) (hD : va_D A ((W13 cs h a i r l).set 34 (a 45, .inl (cs 1, 60, .inr (.inl f))))) : va_P D vwCl (W13 cs h a i r (va_up l 45 f)) H ∧ va_D A (W13 cs h a i r (va_up l 45 f)) := ⟨hP, hD⟩
theorem st13_46 {D : va_G} {A : Nat → Prop} {H : Heap} {cs : Nat → ClassId} {h : Nat} {a : Nat → Nat} {i : Nat → Int32} {r : Nat → Nat → Int32} {l : Nat → Nat → Int64} {v : Int32} (hP : va_P D vwCl ((W13 cs h a i r l).set 0 (h, .inr (13, (fs13 a i).set 46 (.int v)))) H) (hD : va_D A ((W13 cs h a i r l).set 0 (h, .inr (13, (fs13 a i).set 46 (.int v))))) : va_P D vwCl (W13 cs h a (upd i 46 v) r l) H ∧ va_D A (W13 cs h a (upd i 46 v) r l) := ⟨hP, hD⟩
theorem st13_47 {D : va_G} {A : Nat → Prop} {H : Heap} {cs : Nat → ClassId} {h : Nat} {a : Nat → Nat} {i : Nat → Int32} {r : Nat → Nat → Int32} {l : Nat → Nat → Int64} {v : Int32} (hP : va_P D vwCl ((W13 cs h a i r l).set 0 (h, .inr (13, (fs13 a i).set 47 (.int v)))) H) (hD : va_D A ((W13 cs h a i r l).set 0 (h, .inr (13, (fs13 a i).set 47 (.int v))))) : va_P D vwCl (W13 cs h a (upd i 47 v) r l) H ∧ va_D A (W13 cs h a (upd i 47 v) r l) := ⟨hP, hD⟩
theorem st13_48 {D : va_G} {A : Nat → Prop} {H : Heap} {cs : Nat → ClassId} {h : Nat} {a : Nat → Nat} {i : Nat → Int32} {r : Nat → Nat → Int32} {l : Nat → Nat → Int64} {v : Int32} (hP : va_P D vwCl ((W13 cs h a i r l).set 0 (h, .inr (13, (fs13 a i).set 48 (.int v)))) H) (hD : va_D A ((W13 cs h a i r l).set 0 (h, .inr (13, (fs13 a i).set 48 (.int v))))) : va_P D vwCl (W13 cs h a (upd i 48 v) r l) H ∧ va_D A (W13 cs h a (upd i 48 v) r l) := ⟨hP, hD⟩
theorem st13_49 {D : va_G} {A : Nat → Prop} {H : Heap} {cs : Nat → ClassId} {h : Nat} {a : Nat → Nat} {i : Nat → Int32} {r : Nat → Nat → Int32} {l : Nat → Nat → Int64} {v : Int32} (hP : va_P D vwCl ((W13 cs h a i r l).set 0 (h, .inr (13, (fs13 a i).set 49 (.int v)))) H) (hD : va_D A ((W13 cs h a i r l).set 0 (h, .inr (13, (fs13 a i).set 49 (.int v))))) : va_P D vwCl (W13 cs h a (upd i 49 v) r l) H ∧ va_D A (W13 cs h a (upd i 49 v) r l) := ⟨hP, hD⟩
theorem st13_50 {D : va_G} {A : Nat → Prop} {H : Heap} {cs : Nat → ClassId} {h : Nat} {a : Nat → Nat} {i : Nat → Int32} {r : Nat → Nat → Int32} {l : Nat → Nat → Int64} {v : Int32} (hP : va_P D vwCl ((W13 cs h a i r l).set 0 (h, .inr (13, (fs13 a i).set 50 (.int v)))) H) (hD : va_D A ((W13 cs h a i r l).set 0 (h, .inr (13, (fs13 a i).set 50 (.int v))))) : va_P D vwCl (W13 cs h a (upd i 50 v) r l) H ∧ va_D A (W13 cs h a (upd i 50 v) r l) := ⟨hP, hD⟩
theorem st13_51 {D : va_G} {A : Nat → Prop} {H : Heap} {cs : Nat → ClassId} {h : Nat} {a : Nat → Nat} {i : Nat → Int32} {r : Nat → Nat → Int32} {l : Nat → Nat → Int64} {v : Int32} (hP : va_P D vwCl ((W13 cs h a i r l).set 0 (h, .inr (13, (fs13 a i).set 51 (.int v)))) H) (hD : va_D A ((W13 cs h a i r l).set 0 (h, .inr (13, (fs13 a i).set 51 (.int v))))) : va_P D vwCl (W13 cs h a (upd i 51 v) r l) H ∧ va_D A (W13 cs h a (upd i 51 v) r l) := ⟨hP, hD⟩
theorem st13_52 {D : va_G} {A : Nat → Prop} {H : Heap} {cs : Nat → ClassId} {h : Nat} {a : Nat → Nat} {i : Nat → Int32} {r : Nat → Nat → Int32} {l : Nat → Nat → Int64} {v : Int32} (hP : va_P D vwCl ((W13 cs h a i r l).set 0 (h, .inr (13, (fs13 a i).set 52 (.int v)))) H) (hD : va_D A ((W13 cs h a i r l).set 0 (h, .inr (13, (fs13 a i).set 52 (.int v))))) : va_P D vwCl (W13 cs h a (upd i 52 v) r l) H ∧ va_D A (W13 cs h a (upd i 52 v) r l) := ⟨hP, hD⟩
theorem st13_53 {D : va_G} {A : Nat → Prop} {H : Heap} {cs : Nat → ClassId} {h : Nat} {a : Nat → Nat} {i : Nat → Int32} {r : Nat → Nat → Int32} {l : Nat → Nat → Int64} {v : Int32} (hP : va_P D vwCl ((W13 cs h a i r l).set 0 (h, .inr (13, (fs13 a i).set 53 (.int v)))) H) (hD : va_D A ((W13 cs h a i r l).set 0 (h, .inr (13, (fs13 a i).set 53 (.int v))))) : va_P D vwCl (W13 cs h a (upd i 53 v) r l) H ∧ va_D A (W13 cs h a (upd i 53 v) r l) := ⟨hP, hD⟩
theorem st13_54 {D : va_G} {A : Nat → Prop} {H : Heap} {cs : Nat → ClassId} {h : Nat} {a : Nat → Nat} {i : Nat → Int32} {r : Nat → Nat → Int32} {l : Nat → Nat → Int64} {v : Int32} (hP : va_P D vwCl ((W13 cs h a i r l).set 0 (h, .inr (13, (fs13 a i).set 54 (.int v)))) H) (hD : va_D A ((W13 cs h a i r l).set 0 (h, .inr (13, (fs13 a i).set 54 (.int v))))) : va_P D vwCl (W13 cs h a (upd i 54 v) r l) H ∧ va_D A (W13 cs h a (upd i 54 v) r l) := ⟨hP, hD⟩
theorem st13_55 {D : va_G} {A : Nat → Prop} {H : Heap} {cs : Nat → ClassId} {h : Nat} {a : Nat → Nat} {i : Nat → Int32} {r : Nat → Nat → Int32} {l : Nat → Nat → Int64} {v : Int32} (hP : va_P D vwCl ((W13 cs h a i r l).set 0 (h, .inr (13, (fs13 a i).set 55 (.int v)))) H) (hD : va_D A ((W13 cs h a i r l).set 0 (h, .inr (13, (fs13 a i).set 55 (.int v))))) : va_P D vwCl (W13 cs h a (upd i 55 v) r l) H ∧ va_D A (W13 cs h a (upd i 55 v) r l) := ⟨hP, hD⟩
theorem st13_56 {D : va_G} {A : Nat → Prop} {H : Heap} {cs : Nat → ClassId} {h : Nat} {a : Nat → Nat} {i : Nat → Int32} {r : Nat → Nat → Int32} {l : Nat → Nat → Int64} {v : Int32} (hP : va_P D vwCl ((W13 cs h a i r l).set 0 (h, .inr (13, (fs13 a i).set 56 (.int v)))) H) (hD : va_D A ((W13 cs h a i r l).set 0 (h, .inr (13, (fs13 a i).set 56 (.int v))))) : va_P D vwCl (W13 cs h a (upd i 56 v) r l) H ∧ va_D A (W13 cs h a (upd i 56 v) r l) := ⟨hP, hD⟩
theorem st13_57 {D : va_G} {A : Nat → Prop} {H : Heap} {cs : Nat → ClassId} {h : Nat} {a : Nat → Nat} {i : Nat → Int32} {r : Nat → Nat → Int32} {l : Nat → Nat → Int64} {v : Int32} (hP : va_P D vwCl ((W13 cs h a i r l).set 0 (h, .inr (13, (fs13 a i).set 57 (.int v)))) H) (hD : va_D A ((W13 cs h a i r l).set 0 (h, .inr (13, (fs13 a i).set 57 (.int v))))) : va_P D vwCl (W13 cs h a (upd i 57 v) r l) H ∧ va_D A (W13 cs h a (upd i 57 v) r l) := ⟨hP, hD⟩
theorem st13_58 {D : va_G} {A : Nat → Prop} {H : Heap} {cs : Nat → ClassId} {h : Nat} {a : Nat → Nat} {i : Nat → Int32} {r : Nat → Nat → Int32} {l : Nat → Nat → Int64} {f : Nat → Int32} (hP : va_P D vwCl ((W13 cs h a i r l).set 35 (a 58, .inl (cs 0, 18, .inl f))) H) (hD : va_D A ((W13 cs h a i r l).set 35 (a 58, .inl (cs 0, 18, .inl f)))) : va_P D vwCl (W13 cs h a i (va_up r 58 f) l) H ∧ va_D A (W13 cs h a i (va_up r 58 f) l) := ⟨hP, hD⟩
theorem st13_59 {D : va_G} {A : Nat → Prop} {H : Heap} {cs : Nat → ClassId} {h : Nat} {a : Nat → Nat} {i : Nat → Int32} {r : Nat → Nat → Int32} {l : Nat → Nat → Int64} {f : Nat → Int32} (hP : va_P D vwCl ((W13 cs h a i r l).set 36 (a 59, .inl (cs 0, 18, .inl f))) H) (hD : va_D A ((W13 cs h a i r l).set 36 (a 59, .inl (cs 0, 18, .inl f)))) : va_P D vwCl (W13 cs h a i (va_up r 59 f) l) H ∧ va_D A (W13 cs h a i (va_up r 59 f) l) := ⟨hP, hD⟩
theorem st13_60 {D : va_G} {A : Nat → Prop} {H : Heap} {cs : Nat → ClassId} {h : Nat} {a : Nat → Nat} {i : Nat → Int32} {r : Nat → Nat → Int32} {l : Nat → Nat → Int64} {f : Nat → Int32} (hP : va_P D vwCl ((W13 cs h a i r l).set 37 (a 60, .inl (cs 0, 64, .inl f))) H) (hD : va_D A ((W13 cs h a i r l).set 37 (a 60, .inl (cs 0, 64, .inl f)))) : va_P D vwCl (W13 cs h a i (va_up r 60 f) l) H ∧ va_D A (W13 cs h a i (va_up r 60 f) l) := ⟨hP, hD⟩
theorem st13_61 {D : va_G} {A : Nat → Prop} {H : Heap} {cs : Nat → ClassId} {h : Nat} {a : Nat → Nat} {i : Nat → Int32} {r : Nat → Nat → Int32} {l : Nat → Nat → Int64} {v : Int32} (hP : va_P D vwCl ((W13 cs h a i r l).set 0 (h, .inr (13, (fs13 a i).set 61 (.int v)))) H) (hD : va_D A ((W13 cs h a i r l).set 0 (h, .inr (13, (fs13 a i).set 61 (.int v))))) : va_P D vwCl (W13 cs h a (upd i 61 v) r l) H ∧ va_D A (W13 cs h a (upd i 61 v) r l) := ⟨hP, hD⟩
theorem st13_62 {D : va_G} {A : Nat → Prop} {H : Heap} {cs : Nat → ClassId} {h : Nat} {a : Nat → Nat} {i : Nat → Int32} {r : Nat → Nat → Int32} {l : Nat → Nat → Int64} {v : Int32} (hP : va_P D vwCl ((W13 cs h a i r l).set 0 (h, .inr (13, (fs13 a i).set 62 (.int v)))) H) (hD : va_D A ((W13 cs h a i r l).set 0 (h, .inr (13, (fs13 a i).set 62 (.int v))))) : va_P D vwCl (W13 cs h a (upd i 62 v) r l) H ∧ va_D A (W13 cs h a (upd i 62 v) r l) := ⟨hP, hD⟩
theorem st13_63 {D : va_G} {A : Nat → Prop} {H : Heap} {cs : Nat → ClassId} {h : Nat} {a : Nat → Nat} {i : Nat → Int32} {r : Nat → Nat → Int32} {l : Nat → Nat → Int64} {v : Int32} (hP : va_P D vwCl ((W13 cs h a i r l).set 0 (h, .inr (13, (fs13 a i).set 63 (.int v)))) H) (hD : va_D A ((W13 cs h a i r l).set 0 (h, .inr (13, (fs13 a i).set 63 (.int v))))) : va_P D vwCl (W13 cs h a (upd i 63 v) r l) H ∧ va_D A (W13 cs h a (upd i 63 v) r l) := ⟨hP, hD⟩
theorem st13_64 {D : va_G} {A : Nat → Prop} {H : Heap} {cs : Nat → ClassId} {h : Nat} {a : Nat → Nat} {i : Nat → Int32} {r : Nat → Nat → Int32} {l : Nat → Nat → Int64} {v : Int32} (hP : va_P D vwCl ((W13 cs h a i r l).set 0 (h, .inr (13, (fs13 a i).set 64 (.int v)))) H) (hD : va_D A ((W13 cs h a i r l).set 0 (h, .inr (13, (fs13 a i).set 64 (.int v))))) : va_P D vwCl (W13 cs h a (upd i 64 v) r l) H ∧ va_D A (W13 cs h a (upd i 64 v) r l) := ⟨hP, hD⟩
theorem st13_65 {D : va_G} {A : Nat → Prop} {H : Heap} {cs : Nat → ClassId} {h : Nat} {a : Nat → Nat} {i : Nat → Int32} {r : Nat → Nat → Int32} {l : Nat → Nat → Int64} {v : Int32} (hP : va_P D vwCl ((W13 cs h a i r l).set 0 (h, .inr (13, (fs13 a i).set 65 (.int v)))) H) (hD : va_D A ((W13 cs h a i r l).set 0 (h, .inr (13, (fs13 a i).set 65 (.int v))))) : va_P D vwCl (W13 cs h a (upd i 65 v) r l) H ∧ va_D A (W13 cs h a (upd i 65 v) r l) := ⟨hP, hD⟩
theorem st13_66 {D : va_G} {A : Nat → Prop} {H : Heap} {cs : Nat → ClassId} {h : Nat} {a : Nat → Nat} {i : Nat → Int32} {r : Nat → Nat → Int32} {l : Nat → Nat → Int64} {v : Int32} (hP : va_P D vwCl ((W13 cs h a i r l).set 0 (h, .inr (13, (fs13 a i).set 66 (.int v)))) H) (hD : va_D A ((W13 cs h a i r l).set 0 (h, .inr (13, (fs13 a i).set 66 (.int v))))) : va_P D vwCl (W13 cs h a (upd i 66 v) r l) H ∧ va_D A (W13 cs h a (upd i 66 v) r l) := ⟨hP, hD⟩
theorem st13_67 {D : va_G} {A : Nat → Prop} {H : Heap} {cs : Nat → ClassId} {h : Nat} {a : Nat → Nat} {i : Nat → Int32} {r : Nat → Nat → Int32} {l : Nat → Nat → Int64} {v : Int32} (hP : va_P D vwCl ((W13 cs h a i r l).set 0 (h, .inr (13, (fs13 a i).set 67 (.int v)))) H) (hD : va_D A ((W13 cs h a i r l).set 0 (h, .inr (13, (fs13 a i).set 67 (.int v))))) : va_P D vwCl (W13 cs h a (upd i 67 v) r l) H ∧ va_D A (W13 cs h a (upd i 67 v) r l) := ⟨hP, hD⟩
theorem st13_68 {D : va_G} {A : Nat → Prop} {H : Heap} {cs : Nat → ClassId} {h : Nat} {a : Nat → Nat} {i : Nat → Int32} {r : Nat → Nat → Int32} {l : Nat → Nat → Int64} {f : Nat → Int32} (hP : va_P D vwCl ((W13 cs h a i r l).set 38 (a 68, .inl (cs 0, 100, .inl f))) H) (hD : va_D A ((W13 cs h a i r l).set 38 (a 68, .inl (cs 0, 100, .inl f)))) : va_P D vwCl (W13 cs h a i (va_up r 68 f) l) H ∧ va_D A (W13 cs h a i (va_up r 68 f) l) := ⟨hP, hD⟩
theorem st13_69 {D : va_G} {A : Nat → Prop} {H : Heap} {cs : Nat → ClassId} {h : Nat} {a : Nat → Nat} {i : Nat → Int32} {r : Nat → Nat → Int32} {l : Nat → Nat → Int64} {f : Nat → Int32} (hP : va_P D vwCl ((W13 cs h a i r l).set 39 (a 69, .inl (cs 0, 100, .inl f))) H) (hD : va_D A ((W13 cs h a i r l).set 39 (a 69, .inl (cs 0, 100, .inl f)))) : va_P D vwCl (W13 cs h a i (va_up r 69 f) l) H ∧ va_D A (W13 cs h a i (va_up r 69 f) l) := ⟨hP, hD⟩
theorem st13_70 {D : va_G} {A : Nat → Prop} {H : Heap} {cs : Nat → ClassId} {h : Nat} {a : Nat → Nat} {i : Nat → Int32} {r : Nat → Nat → Int32} {l : Nat → Nat → Int64} {f : Nat → Int32} (hP : va_P D vwCl ((W13 cs h a i r l).set 40 (a 70, .inl (cs 0, 100, .inl f))) H) (hD : va_D A ((W13 cs h a i r l).set 40 (a 70, .inl (cs 0, 100, .inl f)))) : va_P D vwCl (W13 cs h a i (va_up r 70 f) l) H ∧ va_D A (W13 cs h a i (va_up r 70 f) l) := ⟨hP, hD⟩
theorem st13_71 {D : va_G} {A : Nat → Prop} {H : Heap} {cs : Nat → ClassId} {h : Nat} {a : Nat → Nat} {i : Nat → Int32} {r : Nat → Nat → Int32} {l : Nat → Nat → Int64} {f : Nat → Int32} (hP : va_P D vwCl ((W13 cs h a i r l).set 41 (a 71, .inl (cs 0, 100, .inl f))) H) (hD : va_D A ((W13 cs h a i r l).set 41 (a 71, .inl (cs 0, 100, .inl f)))) : va_P D vwCl (W13 cs h a i (va_up r 71 f) l) H ∧ va_D A (W13 cs h a i (va_up r 71 f) l) := ⟨hP, hD⟩
theorem st13_72 {D : va_G} {A : Nat → Prop} {H : Heap} {cs : Nat → ClassId} {h : Nat} {a : Nat → Nat} {i : Nat → Int32} {r : Nat → Nat → Int32} {l : Nat → Nat → Int64} {f : Nat → Int32} (hP : va_P D vwCl ((W13 cs h a i r l).set 42 (a 72, .inl (cs 0, 4096, .inl f))) H) (hD : va_D A ((W13 cs h a i r l).set 42 (a 72, .inl (cs 0, 4096, .inl f)))) : va_P D vwCl (W13 cs h a i (va_up r 72 f) l) H ∧ va_D A (W13 cs h a i (va_up r 72 f) l) := ⟨hP, hD⟩
theorem st13_73 {D : va_G} {A : Nat → Prop} {H : Heap} {cs : Nat → ClassId} {h : Nat} {a : Nat → Nat} {i : Nat → Int32} {r : Nat → Nat → Int32} {l : Nat → Nat → Int64} {f : Nat → Int32} (hP : va_P D vwCl ((W13 cs h a i r l).set 43 (a 73, .inl (cs 0, 4096, .inl f))) H) (hD : va_D A ((W13 cs h a i r l).set 43 (a 73, .inl (cs 0, 4096, .inl f)))) : va_P D vwCl (W13 cs h a i (va_up r 73 f) l) H ∧ va_D A (W13 cs h a i (va_up r 73 f) l) := ⟨hP, hD⟩
theorem st13_74 {D : va_G} {A : Nat → Prop} {H : Heap} {cs : Nat → ClassId} {h : Nat} {a : Nat → Nat} {i : Nat → Int32} {r : Nat → Nat → Int32} {l : Nat → Nat → Int64} {f : Nat → Int32} (hP : va_P D vwCl ((W13 cs h a i r l).set 44 (a 74, .inl (cs 0, 4096, .inl f))) H) (hD : va_D A ((W13 cs h a i r l).set 44 (a 74, .inl (cs 0, 4096, .inl f)))) : va_P D vwCl (W13 cs h a i (va_up r 74 f) l) H ∧ va_D A (W13 cs h a i (va_up r 74 f) l) := ⟨hP, hD⟩
theorem st13_75 {D : va_G} {A : Nat → Prop} {H : Heap} {cs : Nat → ClassId} {h : Nat} {a : Nat → Nat} {i : Nat → Int32} {r : Nat → Nat → Int32} {l : Nat → Nat → Int64} {v : Int32} (hP : va_P D vwCl ((W13 cs h a i r l).set 0 (h, .inr (13, (fs13 a i).set 75 (.int v)))) H) (hD : va_D A ((W13 cs h a i r l).set 0 (h, .inr (13, (fs13 a i).set 75 (.int v))))) : va_P D vwCl (W13 cs h a (upd i 75 v) r l) H ∧ va_D A (W13 cs h a (upd i 75 v) r l) := ⟨hP, hD⟩
theorem st13_76 {D : va_G} {A : Nat → Prop} {H : Heap} {cs : Nat → ClassId} {h : Nat} {a : Nat → Nat} {i : Nat → Int32} {r : Nat → Nat → Int32} {l : Nat → Nat → Int64} {v : Int32} (hP : va_P D vwCl ((W13 cs h a i r l).set 0 (h, .inr (13, (fs13 a i).set 76 (.int v)))) H) (hD : va_D A ((W13 cs h a i r l).set 0 (h, .inr (13, (fs13 a i).set 76 (.int v))))) : va_P D vwCl (W13 cs h a (upd i 76 v) r l) H ∧ va_D A (W13 cs h a (upd i 76 v) r l) := ⟨hP, hD⟩
theorem st13_77 {D : va_G} {A : Nat → Prop} {H : Heap} {cs : Nat → ClassId} {h : Nat} {a : Nat → Nat} {i : Nat → Int32} {r : Nat → Nat → Int32} {l : Nat → Nat → Int64} {v : Int32} (hP : va_P D vwCl ((W13 cs h a i r l).set 0 (h, .inr (13, (fs13 a i).set 77 (.int v)))) H) (hD : va_D A ((W13 cs h a i r l).set 0 (h, .inr (13, (fs13 a i).set 77 (.int v))))) : va_P D vwCl (W13 cs h a (upd i 77 v) r l) H ∧ va_D A (W13 cs h a (upd i 77 v) r l) := ⟨hP, hD⟩
theorem st13_78 {D : va_G} {A : Nat → Prop} {H : Heap} {cs : Nat → ClassId} {h : Nat} {a : Nat → Nat} {i : Nat → Int32} {r : Nat → Nat → Int32} {l : Nat → Nat → Int64} {v : Int32} (hP : va_P D vwCl ((W13 cs h a i r l).set 0 (h, .inr (13, (fs13 a i).set 78 (.int v)))) H) (hD : va_D A ((W13 cs h a i r l).set 0 (h, .inr (13, (fs13 a i).set 78 (.int v))))) : va_P D vwCl (W13 cs h a (upd i 78 v) r l) H ∧ va_D A (W13 cs h a (upd i 78 v) r l) := ⟨hP, hD⟩
theorem st13_79 {D : va_G} {A : Nat → Prop} {H : Heap} {cs : Nat → ClassId} {h : Nat} {a : Nat → Nat} {i : Nat → Int32} {r : Nat → Nat → Int32} {l : Nat → Nat → Int64} {v : Int32} (hP : va_P D vwCl ((W13 cs h a i r l).set 0 (h, .inr (13, (fs13 a i).set 79 (.int v)))) H) (hD : va_D A ((W13 cs h a i r l).set 0 (h, .inr (13, (fs13 a i).set 79 (.int v))))) : va_P D vwCl (W13 cs h a (upd i 79 v) r l) H ∧ va_D A (W13 cs h a (upd i 79 v) r l) := ⟨hP, hD⟩
theorem st13_80 {D : va_G} {A : Nat → Prop} {H : Heap} {cs : Nat → ClassId} {h : Nat} {a : Nat → Nat} {i : Nat → Int32} {r : Nat → Nat → Int32} {l : Nat → Nat → Int64} {f : Nat → Int32} (hP : va_P D vwCl ((W13 cs h a i r l).set 45 (a 80, .inl (cs 0, 20, .inl f))) H) (hD : va_D A ((W13 cs h a i r l).set 45 (a 80, .inl (cs 0, 20, .inl f)))) : va_P D vwCl (W13 cs h a i (va_up r 80 f) l) H ∧ va_D A (W13 cs h a i (va_up r 80 f) l) := ⟨hP, hD⟩
theorem st13_81 {D : va_G} {A : Nat → Prop} {H : Heap} {cs : Nat → ClassId} {h : Nat} {a : Nat → Nat} {i : Nat → Int32} {r : Nat → Nat → Int32} {l : Nat → Nat → Int64} {f : Nat → Int32} (hP : va_P D vwCl ((W13 cs h a i r l).set 46 (a 81, .inl (cs 0, 20, .inl f))) H) (hD : va_D A ((W13 cs h a i r l).set 46 (a 81, .inl (cs 0, 20, .inl f)))) : va_P D vwCl (W13 cs h a i (va_up r 81 f) l) H ∧ va_D A (W13 cs h a i (va_up r 81 f) l) := ⟨hP, hD⟩
theorem st13_82 {D : va_G} {A : Nat → Prop} {H : Heap} {cs : Nat → ClassId} {h : Nat} {a : Nat → Nat} {i : Nat → Int32} {r : Nat → Nat → Int32} {l : Nat → Nat → Int64} {f : Nat → Int32} (hP : va_P D vwCl ((W13 cs h a i r l).set 47 (a 82, .inl (cs 0, 20, .inl f))) H) (hD : va_D A ((W13 cs h a i r l).set 47 (a 82, .inl (cs 0, 20, .inl f)))) : va_P D vwCl (W13 cs h a i (va_up r 82 f) l) H ∧ va_D A (W13 cs h a i (va_up r 82 f) l) := ⟨hP, hD⟩
theorem st13_83 {D : va_G} {A : Nat → Prop} {H : Heap} {cs : Nat → ClassId} {h : Nat} {a : Nat → Nat} {i : Nat → Int32} {r : Nat → Nat → Int32} {l : Nat → Nat → Int64} {f : Nat → Int32} (hP : va_P D vwCl ((W13 cs h a i r l).set 48 (a 83, .inl (cs 0, 20, .inl f))) H) (hD : va_D A ((W13 cs h a i r l).set 48 (a 83, .inl (cs 0, 20, .inl f)))) : va_P D vwCl (W13 cs h a i (va_up r 83 f) l) H ∧ va_D A (W13 cs h a i (va_up r 83 f) l) := ⟨hP, hD⟩
theorem st13_84 {D : va_G} {A : Nat → Prop} {H : Heap} {cs : Nat → ClassId} {h : Nat} {a : Nat → Nat} {i : Nat → Int32} {r : Nat → Nat → Int32} {l : Nat → Nat → Int64} {f : Nat → Int32} (hP : va_P D vwCl ((W13 cs h a i r l).set 49 (a 84, .inl (cs 0, 20, .inl f))) H) (hD : va_D A ((W13 cs h a i r l).set 49 (a 84, .inl (cs 0, 20, .inl f)))) : va_P D vwCl (W13 cs h a i (va_up r 84 f) l) H ∧ va_D A (W13 cs h a i (va_up r 84 f) l) := ⟨hP, hD⟩
theorem st13_85 {D : va_G} {A : Nat → Prop} {H : Heap} {cs : Nat → ClassId} {h : Nat} {a : Nat → Nat} {i : Nat → Int32} {r : Nat → Nat → Int32} {l : Nat → Nat → Int64} {f : Nat → Int32} (hP : va_P D vwCl ((W13 cs h a i r l).set 50 (a 85, .inl (cs 0, 20, .inl f))) H) (hD : va_D A ((W13 cs h a i r l).set 50 (a 85, .inl (cs 0, 20, .inl f)))) : va_P D vwCl (W13 cs h a i (va_up r 85 f) l) H ∧ va_D A (W13 cs h a i (va_up r 85 f) l) := ⟨hP, hD⟩
theorem st13_86 {D : va_G} {A : Nat → Prop} {H : Heap} {cs : Nat → ClassId} {h : Nat} {a : Nat → Nat} {i : Nat → Int32} {r : Nat → Nat → Int32} {l : Nat → Nat → Int64} {f : Nat → Int32} (hP : va_P D vwCl ((W13 cs h a i r l).set 51 (a 86, .inl (cs 0, 256, .inl f))) H) (hD : va_D A ((W13 cs h a i r l).set 51 (a 86, .inl (cs 0, 256, .inl f)))) : va_P D vwCl (W13 cs h a i (va_up r 86 f) l) H ∧ va_D A (W13 cs h a i (va_up r 86 f) l) := ⟨hP, hD⟩
/-! MarbleFloorModel.in(JJJ)Z -/
abbrev wlX13_in : List Cond := Cond.code yX13_in cX13_in 6 (some .boolean) :: tbG
abbrev rmX13_in : Room := { frames := 0, cells := 0, slots := 0, locals := 0 }
theorem qnX13_in : yX13_in.cls ≠ "java/lang/invoke/MethodHandle" ∧ yX13_in.cls ≠ "java/lang/invoke/VarHandle" ∧ (parseMethodDescriptor yX13_in.desc).map (fun d => d.parameters.length) = some 3 := by decide +kernel
def f_X13_in   (x0 : Int64) (x2 : Int64) (x4 : Int64) : Option (Int32) := if (lg_cmp x0 x2) < 0 then (some (0)) else (if 0 < (lg_cmp x0 x4) then (some (0)) else (some (1)))
set_option maxRecDepth 100000 in
set_option maxHeartbeats 4000000 in
theorem c_X13_in {l : Launch} {D : va_G} {cs zs : Nat → Nat}   {x0 : Int64} {x2 : Int64} {x4 : Int64} {q : Int32} (hf : f_X13_in x0 x2 x4 = some q) : Mi l yX13_in wlX13_in rmX13_in D cs zs [.long x0, .long x2, .long x4] (([] : va_W)) q (([] : va_W)) := by
  refine Mi.of RX13 (by decide) rfl (Nat.le_of_ble_eq_true rfl) (fun p e s m below meth c A C hP hD hS ls hl => ?_)
  generalize ([.long x0, .long x2, .long x4] : List Value).toArray = args at C ⊢
  obtain ⟨hx, hb, hr, hml, hown, hts, hK, hA, hlocks, hZ⟩ := id C
  have hl : lv_has ls 6 [(0, .long x0), (2, .long x2), (4, .long x4)] := hl
  rw [f_X13_in] at hf
  refine lv_lload_n hx hb dX13_in_0 rfl (lv_at hl 0 rfl) ?_
  refine lv_lload_n hx hb dX13_in_1 rfl (lv_at hl 1 rfl) ?_
  refine W.lcmp hx hb dX13_in_2 ?_
  refine lv_if_lt (tgt := 17) hx hb dX13_in_3 (by decide) (fun hc => ?_) (fun hc => ?_)
  · have hf := ite_t hf hc
    refine lv_iconst (v := 0) hx hb dX13_in_17 (by decide) ?_
    obtain rfl := Option.some.inj hf
    exact k_zret (r := 0) hx hb hr hlocks rfl hK hP hD hS dX13_in_18
  · have hf := ite_f hf hc
    refine lv_lload_n hx hb dX13_in_6 rfl (lv_at hl 0 rfl) ?_
    refine lv_lload hx hb dX13_in_7 (lv_at hl 2 rfl) ?_
    refine W.lcmp hx hb dX13_in_9 ?_
    refine lv_if_gt (tgt := 17) hx hb dX13_in_10 (by decide) (fun hc => ?_) (fun hc => ?_)
    · have hf := ite_t hf hc
      refine lv_iconst (v := 0) hx hb dX13_in_17 (by decide) ?_
      obtain rfl := Option.some.inj hf
      exact k_zret (r := 0) hx hb hr hlocks rfl hK hP hD hS dX13_in_18
    · have hf := ite_f hf hc
      refine lv_iconst (v := 1) hx hb dX13_in_13 (by decide) ?_
      refine lv_goto (tgt := 18) hx hb dX13_in_14 (by decide) ?_
      obtain rfl := Option.some.inj hf
      exact k_zret (r := 1) hx hb hr hlocks rfl hK hP hD hS dX13_in_18
/-! MarbleFloorModel.byteAt(I)I -/
abbrev wlX13_byteAt : List Cond := Cond.code yX13_byteAt cX13_byteAt 2 (some .int) :: tbG
abbrev rmX13_byteAt : Room := { frames := 0, cells := 0, slots := 0, locals := 0 }
theorem qnX13_byteAt : yX13_byteAt.cls = RX13 ∧ yX13_byteAt.cls ≠ "java/lang/invoke/MethodHandle" ∧ yX13_byteAt.cls ≠ "java/lang/invoke/VarHandle" ∧ (parseMethodDescriptor yX13_byteAt.desc).map (fun d => d.parameters.length) = some 1 := by decide +kernel
def f_X13_byteAt  (i0 : Nat → Int32) (r0 : Nat → Nat → Int32) (l0 : Nat → Nat → Int64) (x1 : Int32) : Option (Int32) := if (i0 3) ≤ x1 then (some (0)) else (ck (inb x1 900) (some ((r0 1 x1.toNatClampNeg) &&& 255)))
set_option maxRecDepth 100000 in
set_option maxHeartbeats 4000000 in
theorem c_X13_byteAt {l : Launch} {D : va_G} {cs zs : Nat → Nat} {h0 : Nat} {a0 : Nat → Nat} {i0 : Nat → Int32} {r0 : Nat → Nat → Int32} {l0 : Nat → Nat → Int64} {x1 : Int32} {q : Int32} (hf : f_X13_byteAt i0 r0 l0 x1 = some q) : Mi l yX13_byteAt wlX13_byteAt rmX13_byteAt D cs zs [.ref h0, .int x1] (W13 cs h0 a0 i0 r0 l0) q (W13 cs h0 a0 i0 r0 l0) := by
  refine Mi.of RX13 (by decide) rfl (Nat.le_of_ble_eq_true rfl) (fun p e s m below meth c A C hP hD hS ls hl => ?_)
  generalize ([.ref h0, .int x1] : List Value).toArray = args at C ⊢
  obtain ⟨hx, hb, hr, hml, hown, hts, hK, hA, hlocks, hZ⟩ := id C
  have hl : lv_has ls 2 [(0, .ref h0), (1, .int x1)] := hl
  rw [f_X13_byteAt] at hf
  refine lv_iload_n hx hb dX13_byteAt_0 rfl (lv_at hl 1 rfl) ?_
  refine lv_aload_n hx hb dX13_byteAt_1 rfl (lv_at hl 0 rfl) ?_
  refine va_get (D := D) (ci := 13) (v := .int (i0 3)) (C := RX13) (T := TX13) (N := 87) hx hb hts hiX13 hown hK hP 0 rfl rfl 3 (by decide) (hts _ flX13_17) (fun _ h9 => h9) rfl dX13_byteAt_2 ?_
  refine lv_icmp_ge (tgt := 21) hx hb dX13_byteAt_5 (by decide) (fun hc => ?_) (fun hc => ?_)
  · have hf := ite_t hf hc
    refine lv_iconst (v := 0) hx hb dX13_byteAt_21 (by decide) ?_
    obtain rfl := Option.some.inj hf
    exact k_iret hx hb hr hlocks hK hP hD hS dX13_byteAt_22
  · have hf := ite_f hf hc
    refine lv_aload_n hx hb dX13_byteAt_8 rfl (lv_at hl 0 rfl) ?_
    refine va_get (D := D) (ci := 13) (v := .ref (a0 1)) (C := RX13) (T := TX13) (N := 87) hx hb hts hiX13 hown hK hP 0 rfl rfl 1 (by decide) (hts _ flX13_20) (fun _ h9 => h9) rfl dX13_byteAt_9 ?_
    refine lv_iload_n hx hb dX13_byteAt_12 rfl (lv_at hl 1 rfl) ?_
    refine va_bald (f := r0 1) hx hb hK hP 1 3 rfl rfl (ck_in hf) dX13_byteAt_13 ?_
    have hf := ck_2 hf
    refine lv_sipush (v := 255) hx hb dX13_byteAt_14 (by decide) ?_
    refine lv_iand hx hb dX13_byteAt_17 ?_
    refine lv_goto (tgt := 22) hx hb dX13_byteAt_18 (by decide) ?_
    obtain rfl := Option.some.inj hf
    exact k_iret hx hb hr hlocks hK hP hD hS dX13_byteAt_22
/-! MarbleFloorModel.isSmall(I)Z -/
abbrev wlX13_isSmall : List Cond := Cond.code yX13_isSmall cX13_isSmall 1 (some .boolean) :: tbG
abbrev rmX13_isSmall : Room := { frames := 0, cells := 0, slots := 0, locals := 0 }
theorem qnX13_isSmall : yX13_isSmall.cls ≠ "java/lang/invoke/MethodHandle" ∧ yX13_isSmall.cls ≠ "java/lang/invoke/VarHandle" ∧ (parseMethodDescriptor yX13_isSmall.desc).map (fun d => d.parameters.length) = some 1 := by decide +kernel
def f_X13_isSmall   (x0 : Int32) : Option (Int32) := if x0 < 97 then (some (0)) else (if 122 < x0 then (some (0)) else (some (1)))
set_option maxRecDepth 100000 in
set_option maxHeartbeats 4000000 in
theorem c_X13_isSmall {l : Launch} {D : va_G} {cs zs : Nat → Nat}   {x0 : Int32} {q : Int32} (hf : f_X13_isSmall x0 = some q) : Mi l yX13_isSmall wlX13_isSmall rmX13_isSmall D cs zs [.int x0] (([] : va_W)) q (([] : va_W)) := by
  refine Mi.of RX13 (by decide) rfl (Nat.le_of_ble_eq_true rfl) (fun p e s m below meth c A C hP hD hS ls hl => ?_)
  generalize ([.int x0] : List Value).toArray = args at C ⊢
  obtain ⟨hx, hb, hr, hml, hown, hts, hK, hA, hlocks, hZ⟩ := id C
  have hl : lv_has ls 1 [(0, .int x0)] := hl
  rw [f_X13_isSmall] at hf
  refine lv_iload_n hx hb dX13_isSmall_0 rfl (lv_at hl 0 rfl) ?_
  refine lv_bipush (v := 97) hx hb dX13_isSmall_1 (by decide) ?_
  refine lv_icmp_lt (tgt := 16) hx hb dX13_isSmall_3 (by decide) (fun hc => ?_) (fun hc => ?_)
  · have hf := ite_t hf hc
    refine lv_iconst (v := 0) hx hb dX13_isSmall_16 (by decide) ?_
    obtain rfl := Option.some.inj hf
    exact k_zret (r := 0) hx hb hr hlocks rfl hK hP hD hS dX13_isSmall_17
  · have hf := ite_f hf hc
    refine lv_iload_n hx hb dX13_isSmall_6 rfl (lv_at hl 0 rfl) ?_
    refine lv_bipush (v := 122) hx hb dX13_isSmall_7 (by decide) ?_
    refine lv_icmp_gt (tgt := 16) hx hb dX13_isSmall_9 (by decide) (fun hc => ?_) (fun hc => ?_)
    · have hf := ite_t hf hc
      refine lv_iconst (v := 0) hx hb dX13_isSmall_16 (by decide) ?_
      obtain rfl := Option.some.inj hf
      exact k_zret (r := 0) hx hb hr hlocks rfl hK hP hD hS dX13_isSmall_17
    · have hf := ite_f hf hc
      refine lv_iconst (v := 1) hx hb dX13_isSmall_12 (by decide) ?_
      refine lv_goto (tgt := 17) hx hb dX13_isSmall_13 (by decide) ?_
      obtain rfl := Option.some.inj hf
      exact k_zret (r := 1) hx hb hr hlocks rfl hK hP hD hS dX13_isSmall_17
/-! MarbleFloorModel.isDigit(I)Z -/
abbrev wlX13_isDigit : List Cond := Cond.code yX13_isDigit cX13_isDigit 1 (some .boolean) :: tbG
abbrev rmX13_isDigit : Room := { frames := 0, cells := 0, slots := 0, locals := 0 }
theorem qnX13_isDigit : yX13_isDigit.cls ≠ "java/lang/invoke/MethodHandle" ∧ yX13_isDigit.cls ≠ "java/lang/invoke/VarHandle" ∧ (parseMethodDescriptor yX13_isDigit.desc).map (fun d => d.parameters.length) = some 1 := by decide +kernel
def f_X13_isDigit   (x0 : Int32) : Option (Int32) := if x0 < 48 then (some (0)) else (if 57 < x0 then (some (0)) else (some (1)))
set_option maxRecDepth 100000 in
set_option maxHeartbeats 4000000 in
theorem c_X13_isDigit {l : Launch} {D : va_G} {cs zs : Nat → Nat}   {x0 : Int32} {q : Int32} (hf : f_X13_isDigit x0 = some q) : Mi l yX13_isDigit wlX13_isDigit rmX13_isDigit D cs zs [.int x0] (([] : va_W)) q (([] : va_W)) := by
  refine Mi.of RX13 (by decide) rfl (Nat.le_of_ble_eq_true rfl) (fun p e s m below meth c A C hP hD hS ls hl => ?_)
  generalize ([.int x0] : List Value).toArray = args at C ⊢
  obtain ⟨hx, hb, hr, hml, hown, hts, hK, hA, hlocks, hZ⟩ := id C
  have hl : lv_has ls 1 [(0, .int x0)] := hl
  rw [f_X13_isDigit] at hf
  refine lv_iload_n hx hb dX13_isDigit_0 rfl (lv_at hl 0 rfl) ?_
  refine lv_bipush (v := 48) hx hb dX13_isDigit_1 (by decide) ?_
  refine lv_icmp_lt (tgt := 16) hx hb dX13_isDigit_3 (by decide) (fun hc => ?_) (fun hc => ?_)
  · have hf := ite_t hf hc
    refine lv_iconst (v := 0) hx hb dX13_isDigit_16 (by decide) ?_
    obtain rfl := Option.some.inj hf
    exact k_zret (r := 0) hx hb hr hlocks rfl hK hP hD hS dX13_isDigit_17
  · have hf := ite_f hf hc
    refine lv_iload_n hx hb dX13_isDigit_6 rfl (lv_at hl 0 rfl) ?_
    refine lv_bipush (v := 57) hx hb dX13_isDigit_7 (by decide) ?_
    refine lv_icmp_gt (tgt := 16) hx hb dX13_isDigit_9 (by decide) (fun hc => ?_) (fun hc => ?_)
    · have hf := ite_t hf hc
      refine lv_iconst (v := 0) hx hb dX13_isDigit_16 (by decide) ?_
      obtain rfl := Option.some.inj hf
      exact k_zret (r := 0) hx hb hr hlocks rfl hK hP hD hS dX13_isDigit_17
    · have hf := ite_f hf hc
      refine lv_iconst (v := 1) hx hb dX13_isDigit_12 (by decide) ?_
      refine lv_goto (tgt := 17) hx hb dX13_isDigit_13 (by decide) ?_
      obtain rfl := Option.some.inj hf
      exact k_zret (r := 1) hx hb hr hlocks rfl hK hP hD hS dX13_isDigit_17
/-! MarbleFloorModel.isSignByte(I)Z -/
abbrev wlX13_isSignByte : List Cond := Cond.code yX13_isSignByte cX13_isSignByte 1 (some .boolean) :: tbG
abbrev rmX13_isSignByte : Room := { frames := 0, cells := 0, slots := 0, locals := 0 }
theorem qnX13_isSignByte : yX13_isSignByte.cls ≠ "java/lang/invoke/MethodHandle" ∧ yX13_isSignByte.cls ≠ "java/lang/invoke/VarHandle" ∧ (parseMethodDescriptor yX13_isSignByte.desc).map (fun d => d.parameters.length) = some 1 := by decide +kernel
def f_X13_isSignByte   (x0 : Int32) : Option (Int32) := if x0 = 59 then (some (1)) else (if x0 = 61 then (some (1)) else (if x0 = 60 then (some (1)) else (if x0 = 62 then (some (1)) else (if x0 = 33 then (some (1)) else (if x0 = 43 then (some (1)) else (if x0 = 45 then (some (1)) else (if x0 = 42 then (some (1)) else (if x0 = 47 then (some (1)) else (if x0 = 37 then (some (1)) else (if x0 = 38 then (some (1)) else (if x0 = 40 then (some (1)) else (if x0 = 41 then (some (1)) else (if x0 = 91 then (some (1)) else (if x0 = 93 then (some (1)) else (some (0))))))))))))))))
set_option maxRecDepth 100000 in
set_option maxHeartbeats 4000000 in
theorem c_X13_isSignByte {l : Launch} {D : va_G} {cs zs : Nat → Nat}   {x0 : Int32} {q : Int32} (hf : f_X13_isSignByte x0 = some q) : Mi l yX13_isSignByte wlX13_isSignByte rmX13_isSignByte D cs zs [.int x0] (([] : va_W)) q (([] : va_W)) := by
  refine Mi.of RX13 (by decide) rfl (Nat.le_of_ble_eq_true rfl) (fun p e s m below meth c A C hP hD hS ls hl => ?_)
  generalize ([.int x0] : List Value).toArray = args at C ⊢
  obtain ⟨hx, hb, hr, hml, hown, hts, hK, hA, hlocks, hZ⟩ := id C
  have hl : lv_has ls 1 [(0, .int x0)] := hl
  rw [f_X13_isSignByte] at hf
  refine lv_iload_n hx hb dX13_isSignByte_0 rfl (lv_at hl 0 rfl) ?_
  refine lv_bipush (v := 59) hx hb dX13_isSignByte_1 (by decide) ?_
  refine lv_icmp_eq (tgt := 90) hx hb dX13_isSignByte_3 (by decide) (fun hc => ?_) (fun hc => ?_)
  · have hf := ite_t hf hc
    refine lv_iconst (v := 1) hx hb dX13_isSignByte_90 (by decide) ?_
    refine lv_goto (tgt := 95) hx hb dX13_isSignByte_91 (by decide) ?_
    obtain rfl := Option.some.inj hf
    exact k_zret (r := 1) hx hb hr hlocks rfl hK hP hD hS dX13_isSignByte_95
  · have hf := ite_f hf hc
    refine lv_iload_n hx hb dX13_isSignByte_6 rfl (lv_at hl 0 rfl) ?_
    refine lv_bipush (v := 61) hx hb dX13_isSignByte_7 (by decide) ?_
    refine lv_icmp_eq (tgt := 90) hx hb dX13_isSignByte_9 (by decide) (fun hc => ?_) (fun hc => ?_)
    · have hf := ite_t hf hc
      refine lv_iconst (v := 1) hx hb dX13_isSignByte_90 (by decide) ?_
      refine lv_goto (tgt := 95) hx hb dX13_isSignByte_91 (by decide) ?_
      obtain rfl := Option.some.inj hf
      exact k_zret (r := 1) hx hb hr hlocks rfl hK hP hD hS dX13_isSignByte_95
    · have hf := ite_f hf hc
      refine lv_iload_n hx hb dX13_isSignByte_12 rfl (lv_at hl 0 rfl) ?_
      refine lv_bipush (v := 60) hx hb dX13_isSignByte_13 (by decide) ?_
      refine lv_icmp_eq (tgt := 90) hx hb dX13_isSignByte_15 (by decide) (fun hc => ?_) (fun hc => ?_)
      · have hf := ite_t hf hc
        refine lv_iconst (v := 1) hx hb dX13_isSignByte_90 (by decide) ?_
        refine lv_goto (tgt := 95) hx hb dX13_isSignByte_91 (by decide) ?_
        obtain rfl := Option.some.inj hf
        exact k_zret (r := 1) hx hb hr hlocks rfl hK hP hD hS dX13_isSignByte_95
      · have hf := ite_f hf hc
        refine lv_iload_n hx hb dX13_isSignByte_18 rfl (lv_at hl 0 rfl) ?_
        refine lv_bipush (v := 62) hx hb dX13_isSignByte_19 (by decide) ?_
        refine lv_icmp_eq (tgt := 90) hx hb dX13_isSignByte_21 (by decide) (fun hc => ?_) (fun hc => ?_)
        · have hf := ite_t hf hc
          refine lv_iconst (v := 1) hx hb dX13_isSignByte_90 (by decide) ?_
          refine lv_goto (tgt := 95) hx hb dX13_isSignByte_91 (by decide) ?_
          obtain rfl := Option.some.inj hf
          exact k_zret (r := 1) hx hb hr hlocks rfl hK hP hD hS dX13_isSignByte_95
        · have hf := ite_f hf hc
          refine lv_iload_n hx hb dX13_isSignByte_24 rfl (lv_at hl 0 rfl) ?_
          refine lv_bipush (v := 33) hx hb dX13_isSignByte_25 (by decide) ?_
          refine lv_icmp_eq (tgt := 90) hx hb dX13_isSignByte_27 (by decide) (fun hc => ?_) (fun hc => ?_)
          · have hf := ite_t hf hc
            refine lv_iconst (v := 1) hx hb dX13_isSignByte_90 (by decide) ?_
            refine lv_goto (tgt := 95) hx hb dX13_isSignByte_91 (by decide) ?_
            obtain rfl := Option.some.inj hf
            exact k_zret (r := 1) hx hb hr hlocks rfl hK hP hD hS dX13_isSignByte_95
          · have hf := ite_f hf hc
            refine lv_iload_n hx hb dX13_isSignByte_30 rfl (lv_at hl 0 rfl) ?_
            refine lv_bipush (v := 43) hx hb dX13_isSignByte_31 (by decide) ?_
            refine lv_icmp_eq (tgt := 90) hx hb dX13_isSignByte_33 (by decide) (fun hc => ?_) (fun hc => ?_)
            · have hf := ite_t hf hc
              refine lv_iconst (v := 1) hx hb dX13_isSignByte_90 (by decide) ?_
              refine lv_goto (tgt := 95) hx hb dX13_isSignByte_91 (by decide) ?_
              obtain rfl := Option.some.inj hf
              exact k_zret (r := 1) hx hb hr hlocks rfl hK hP hD hS dX13_isSignByte_95
            · have hf := ite_f hf hc
              refine lv_iload_n hx hb dX13_isSignByte_36 rfl (lv_at hl 0 rfl) ?_
              refine lv_bipush (v := 45) hx hb dX13_isSignByte_37 (by decide) ?_
              refine lv_icmp_eq (tgt := 90) hx hb dX13_isSignByte_39 (by decide) (fun hc => ?_) (fun hc => ?_)
              · have hf := ite_t hf hc
                refine lv_iconst (v := 1) hx hb dX13_isSignByte_90 (by decide) ?_
                refine lv_goto (tgt := 95) hx hb dX13_isSignByte_91 (by decide) ?_
                obtain rfl := Option.some.inj hf
                exact k_zret (r := 1) hx hb hr hlocks rfl hK hP hD hS dX13_isSignByte_95
              · have hf := ite_f hf hc
                refine lv_iload_n hx hb dX13_isSignByte_42 rfl (lv_at hl 0 rfl) ?_
                refine lv_bipush (v := 42) hx hb dX13_isSignByte_43 (by decide) ?_
                refine lv_icmp_eq (tgt := 90) hx hb dX13_isSignByte_45 (by decide) (fun hc => ?_) (fun hc => ?_)
                · have hf := ite_t hf hc
                  refine lv_iconst (v := 1) hx hb dX13_isSignByte_90 (by decide) ?_
                  refine lv_goto (tgt := 95) hx hb dX13_isSignByte_91 (by decide) ?_
                  obtain rfl := Option.some.inj hf
                  exact k_zret (r := 1) hx hb hr hlocks rfl hK hP hD hS dX13_isSignByte_95
                · have hf := ite_f hf hc
                  refine lv_iload_n hx hb dX13_isSignByte_48 rfl (lv_at hl 0 rfl) ?_
                  refine lv_bipush (v := 47) hx hb dX13_isSignByte_49 (by decide) ?_
                  refine lv_icmp_eq (tgt := 90) hx hb dX13_isSignByte_51 (by decide) (fun hc => ?_) (fun hc => ?_)
                  · have hf := ite_t hf hc
                    refine lv_iconst (v := 1) hx hb dX13_isSignByte_90 (by decide) ?_
                    refine lv_goto (tgt := 95) hx hb dX13_isSignByte_91 (by decide) ?_
                    obtain rfl := Option.some.inj hf
                    exact k_zret (r := 1) hx hb hr hlocks rfl hK hP hD hS dX13_isSignByte_95
                  · have hf := ite_f hf hc
                    refine lv_iload_n hx hb dX13_isSignByte_54 rfl (lv_at hl 0 rfl) ?_
                    refine lv_bipush (v := 37) hx hb dX13_isSignByte_55 (by decide) ?_
                    refine lv_icmp_eq (tgt := 90) hx hb dX13_isSignByte_57 (by decide) (fun hc => ?_) (fun hc => ?_)
                    · have hf := ite_t hf hc
                      refine lv_iconst (v := 1) hx hb dX13_isSignByte_90 (by decide) ?_
                      refine lv_goto (tgt := 95) hx hb dX13_isSignByte_91 (by decide) ?_
                      obtain rfl := Option.some.inj hf
                      exact k_zret (r := 1) hx hb hr hlocks rfl hK hP hD hS dX13_isSignByte_95
                    · have hf := ite_f hf hc
                      refine lv_iload_n hx hb dX13_isSignByte_60 rfl (lv_at hl 0 rfl) ?_
                      refine lv_bipush (v := 38) hx hb dX13_isSignByte_61 (by decide) ?_
                      refine lv_icmp_eq (tgt := 90) hx hb dX13_isSignByte_63 (by decide) (fun hc => ?_) (fun hc => ?_)
                      · have hf := ite_t hf hc
                        refine lv_iconst (v := 1) hx hb dX13_isSignByte_90 (by decide) ?_
                        refine lv_goto (tgt := 95) hx hb dX13_isSignByte_91 (by decide) ?_
                        obtain rfl := Option.some.inj hf
                        exact k_zret (r := 1) hx hb hr hlocks rfl hK hP hD hS dX13_isSignByte_95
                      · have hf := ite_f hf hc
                        refine lv_iload_n hx hb dX13_isSignByte_66 rfl (lv_at hl 0 rfl) ?_
                        refine lv_bipush (v := 40) hx hb dX13_isSignByte_67 (by decide) ?_
                        refine lv_icmp_eq (tgt := 90) hx hb dX13_isSignByte_69 (by decide) (fun hc => ?_) (fun hc => ?_)
                        · have hf := ite_t hf hc
                          refine lv_iconst (v := 1) hx hb dX13_isSignByte_90 (by decide) ?_
                          refine lv_goto (tgt := 95) hx hb dX13_isSignByte_91 (by decide) ?_
                          obtain rfl := Option.some.inj hf
                          exact k_zret (r := 1) hx hb hr hlocks rfl hK hP hD hS dX13_isSignByte_95
                        · have hf := ite_f hf hc
                          refine lv_iload_n hx hb dX13_isSignByte_72 rfl (lv_at hl 0 rfl) ?_
                          refine lv_bipush (v := 41) hx hb dX13_isSignByte_73 (by decide) ?_
                          refine lv_icmp_eq (tgt := 90) hx hb dX13_isSignByte_75 (by decide) (fun hc => ?_) (fun hc => ?_)
                          · have hf := ite_t hf hc
                            refine lv_iconst (v := 1) hx hb dX13_isSignByte_90 (by decide) ?_
                            refine lv_goto (tgt := 95) hx hb dX13_isSignByte_91 (by decide) ?_
                            obtain rfl := Option.some.inj hf
                            exact k_zret (r := 1) hx hb hr hlocks rfl hK hP hD hS dX13_isSignByte_95
                          · have hf := ite_f hf hc
                            refine lv_iload_n hx hb dX13_isSignByte_78 rfl (lv_at hl 0 rfl) ?_
                            refine lv_bipush (v := 91) hx hb dX13_isSignByte_79 (by decide) ?_
                            refine lv_icmp_eq (tgt := 90) hx hb dX13_isSignByte_81 (by decide) (fun hc => ?_) (fun hc => ?_)
                            · have hf := ite_t hf hc
                              refine lv_iconst (v := 1) hx hb dX13_isSignByte_90 (by decide) ?_
                              refine lv_goto (tgt := 95) hx hb dX13_isSignByte_91 (by decide) ?_
                              obtain rfl := Option.some.inj hf
                              exact k_zret (r := 1) hx hb hr hlocks rfl hK hP hD hS dX13_isSignByte_95
                            · have hf := ite_f hf hc
                              refine lv_iload_n hx hb dX13_isSignByte_84 rfl (lv_at hl 0 rfl) ?_
                              refine lv_bipush (v := 93) hx hb dX13_isSignByte_85 (by decide) ?_
                              refine lv_icmp_ne (tgt := 94) hx hb dX13_isSignByte_87 (by decide) (fun hc => ?_) (fun hc => ?_)
                              · have hf := ite_f hf hc
                                refine lv_iconst (v := 0) hx hb dX13_isSignByte_94 (by decide) ?_
                                obtain rfl := Option.some.inj hf
                                exact k_zret (r := 0) hx hb hr hlocks rfl hK hP hD hS dX13_isSignByte_95
                              · have hf := ite_t hf hc
                                refine lv_iconst (v := 1) hx hb dX13_isSignByte_90 (by decide) ?_
                                refine lv_goto (tgt := 95) hx hb dX13_isSignByte_91 (by decide) ?_
                                obtain rfl := Option.some.inj hf
                                exact k_zret (r := 1) hx hb hr hlocks rfl hK hP hD hS dX13_isSignByte_95
/-! MarbleFloorModel.scan()V -/
abbrev wlX13_scan : List Cond := Cond.code yX13_scan cX13_scan 2 none :: tbG
abbrev rmX13_scan : Room := { frames := 1, cells := 0, slots := 0, locals := 21 }
theorem qnX13_scan : yX13_scan.cls = RX13 ∧ yX13_scan.cls ≠ "java/lang/invoke/MethodHandle" ∧ yX13_scan.cls ≠ "java/lang/invoke/VarHandle" ∧ (parseMethodDescriptor yX13_scan.desc).map (fun d => d.parameters.length) = some 0 := by decide +kernel
def f_X13_scan_39 (r0 : Nat → Nat → Int32) (l0 : Nat → Nat → Int64) (K0 : (Nat → Int32) → Option ((Nat → Int32))) (i0 : Nat → Int32) : Option ((Nat → Int32)) := K0 (upd i0 5 ((i0 5) + 1))
set_option maxRecDepth 100000 in
set_option maxHeartbeats 4000000 in
theorem w_X13_scan_39 {p : Program} {l : Launch} {e : Env} {s : State} {m : MethodId} {args : Array Value} {below : List Frame} {meth : Method} {c : Code} {A : Nat → Prop} {D : va_G} {cs zs : Nat → Nat} {h0 : Nat} {a0 : Nat → Nat} {r0 : Nat → Nat → Int32} {l0 : Nat → Nat → Int64} {q : (Nat → Int32)} (C : Cx p s m args meth c A D cs zs cX13_scan 2 none RX13) (K0 : (Nat → Int32) → Option ((Nat → Int32))) (hK0 : ∀ (i0 : Nat → Int32) (H : Heap) (locs : List Loc) (ls : Array Slot), K0 i0 = some q → va_P D vwCl (W13 cs h0 a0 i0 r0 l0) H → va_D A (W13 cs h0 a0 i0 r0 l0) → va_S A s.heap H locs → lv_has ls 2 [(0, .ref h0)] → W p l e rmX13_scan s m args below meth c H locs 0 0 (MQ below (Qv D cs A (W13 cs h0 a0 q r0 l0)) args s 0 0 A) (F0 m 0 ls [])) : ∀ (i0 : Nat → Int32) (H : Heap) (locs : List Loc) (ls : Array Slot), f_X13_scan_39 r0 l0 K0 i0 = some q → va_P D vwCl (W13 cs h0 a0 i0 r0 l0) H → va_D A (W13 cs h0 a0 i0 r0 l0) → va_S A s.heap H locs → lv_has ls 2 [(0, .ref h0)] → W p l e rmX13_scan s m args below meth c H locs 0 0 (MQ below (Qv D cs A (W13 cs h0 a0 q r0 l0)) args s 0 0 A) (F0 m 39 ls []) := by
  obtain ⟨hx, hb, hr, hml, hown, hts, hK, hA, hlocks, hZ⟩ := id C
  intro i0 H locs ls hf hP hD hS hl
  rw [f_X13_scan_39] at hf
  refine lv_aload_n hx hb dX13_scan_39 rfl (lv_at hl 0 rfl) ?_
  refine lv_dup hx hb dX13_scan_40 rfl ?_
  refine va_get (D := D) (ci := 13) (v := .int (i0 5)) (C := RX13) (T := TX13) (N := 87) hx hb hts hiX13 hown hK hP 0 rfl rfl 5 (by decide) (hts _ flX13_24) (fun _ h9 => h9) rfl dX13_scan_41 ?_
  refine lv_iconst (v := 1) hx hb dX13_scan_44 (by decide) ?_
  refine lv_iadd hx hb dX13_scan_45 ?_
  refine va_put (D := D) (ci := 13) (v := .int ((i0 5) + 1)) (ty := .int) (C := RX13) (T := TX13) (N := 87) hx hb hts hiX13 tyX13 tyX13_ok nmX13 hown hK hP hD hS 0 rfl rfl 5 (by decide) (hts _ flX13_24) (fun _ h9 => h9) rfl (tyX13_ok 5 (by decide)) rfl rfl (Nat.le_of_ble_eq_true rfl) dX13_scan_46 (fun H locs hP hD hS => ?_)
  obtain ⟨hP, hD⟩ := st13_5 hP hD
  refine lv_goto (tgt := 0) hx hb dX13_scan_49 (by decide) ?_
  exact hK0 _ _ _ _ hf hP hD hS (lv_sub hl [0] rfl)
def f_X13_scan_95 (r0 : Nat → Nat → Int32) (l0 : Nat → Nat → Int64)  : Nat → (Nat → Int32) → Option ((Nat → Int32))
  | 0, _ => none
  | n + 1, i0 => bd (f_X13_byteAt i0 r0 l0 (i0 5)) (fun q10 => bd (f_X13_isSmall q10) (fun q11 => if q11 = 0 then (if ((i0 5) - (i0 4)) ≤ 8 then (some ((upd i0 6 1))) else (some ((upd i0 6 4)))) else (f_X13_scan_95 r0 l0 n (upd i0 5 ((i0 5) + 1)))))
set_option maxRecDepth 100000 in
set_option maxHeartbeats 4000000 in
theorem w_X13_scan_95 {p : Program} {l : Launch} {e : Env} {s : State} {m : MethodId} {args : Array Value} {below : List Frame} {meth : Method} {c : Code} {A : Nat → Prop} {D : va_G} {cs zs : Nat → Nat} {h0 : Nat} {a0 : Nat → Nat} {r0 : Nat → Nat → Int32} {l0 : Nat → Nat → Int64} {q : (Nat → Int32)} (C : Cx p s m args meth c A D cs zs cX13_scan 2 none RX13)  : ∀ (n : Nat), ∀ (i0 : Nat → Int32) (H : Heap) (locs : List Loc) (ls : Array Slot), f_X13_scan_95 r0 l0 n i0 = some q → va_P D vwCl (W13 cs h0 a0 i0 r0 l0) H → va_D A (W13 cs h0 a0 i0 r0 l0) → va_S A s.heap H locs → lv_has ls 2 [(0, .ref h0)] → W p l e rmX13_scan s m args below meth c H locs 0 0 (MQ below (Qv D cs A (W13 cs h0 a0 q r0 l0)) args s 0 0 A) (F0 m 95 ls []) := by
  obtain ⟨hx, hb, hr, hml, hown, hts, hK, hA, hlocks, hZ⟩ := id C
  intro n
  induction n with
  | zero =>
    intro i0 H locs ls hf
    rw [f_X13_scan_95] at hf
    cases hf
  | succ n ih =>
    intro i0 H locs ls hf hP hD hS hl
    rw [f_X13_scan_95] at hf
    refine lv_aload_n hx hb dX13_scan_95 rfl (lv_at hl 0 rfl) ?_
    refine lv_aload_n hx hb dX13_scan_96 rfl (lv_at hl 0 rfl) ?_
    refine va_get (D := D) (ci := 13) (v := .int (i0 5)) (C := RX13) (T := TX13) (N := 87) hx hb hts hiX13 hown hK hP 0 rfl rfl 5 (by decide) (hts _ flX13_24) (fun _ h9 => h9) rfl dX13_scan_97 ?_
    obtain ⟨q10, hq10, hf⟩ := bd_s hf
    refine k_sVi (ws2 := W13 cs h0 a0 i0 r0 l0) (As := [.int (i0 5)]) (rest := []) hx hb hml hown hts hK hA hZ hl.1 hP hD hS (c_X13_byteAt (h0 := h0) (a0 := a0) hq10) (gVt mlX13_27 imX13_byteAt seX13_byteAt inX13 coX13_byteAt) rfl qnX13_byteAt rfl rfl ⟨Nat.le_of_ble_eq_true rfl, Nat.le_of_ble_eq_true rfl⟩ 0 13 rfl rfl rfl rfl rfl (Nat.le_of_ble_eq_true rfl) ⟨Nat.zero_le _, Nat.zero_le _⟩ dX13_scan_100 (fun H locs hP hD hS => ?_)
    obtain ⟨q11, hq11, hf⟩ := bd_s hf
    refine k_eSi (As := [.int q10]) (rest := []) hx hb hml hown hts hK hA hZ hl.1 hP hD hS (c_X13_isSmall  hq11) (gSt mlX13_34 stX13_isSmall inX13 coX13_isSmall) rfl qnX13_isSmall rfl rfl ⟨Nat.le_of_ble_eq_true rfl, Nat.le_of_ble_eq_true rfl⟩ rfl rfl (Nat.le_of_ble_eq_true rfl) ⟨Nat.zero_le _, Nat.zero_le _⟩ dX13_scan_103 (fun H locs hP hD hS => ?_)
    refine lv_if_eq (tgt := 122) hx hb dX13_scan_106 (by decide) (fun hc => ?_) (fun hc => ?_)
    · have hf := ite_t hf hc
      refine lv_aload_n hx hb dX13_scan_122 rfl (lv_at hl 0 rfl) ?_
      refine lv_aload_n hx hb dX13_scan_123 rfl (lv_at hl 0 rfl) ?_
      refine va_get (D := D) (ci := 13) (v := .int (i0 5)) (C := RX13) (T := TX13) (N := 87) hx hb hts hiX13 hown hK hP 0 rfl rfl 5 (by decide) (hts _ flX13_24) (fun _ h9 => h9) rfl dX13_scan_124 ?_
      refine lv_aload_n hx hb dX13_scan_127 rfl (lv_at hl 0 rfl) ?_
      refine va_get (D := D) (ci := 13) (v := .int (i0 4)) (C := RX13) (T := TX13) (N := 87) hx hb hts hiX13 hown hK hP 0 rfl rfl 4 (by decide) (hts _ flX13_7) (fun _ h9 => h9) rfl dX13_scan_128 ?_
      refine lv_isub hx hb dX13_scan_131 ?_
      refine lv_bipush (v := 8) hx hb dX13_scan_132 (by decide) ?_
      refine lv_icmp_le (tgt := 141) hx hb dX13_scan_134 (by decide) (fun hc => ?_) (fun hc => ?_)
      · have hf := ite_t hf hc
        refine lv_iconst (v := 1) hx hb dX13_scan_141 (by decide) ?_
        refine va_put (D := D) (ci := 13) (v := .int 1) (ty := .int) (C := RX13) (T := TX13) (N := 87) hx hb hts hiX13 tyX13 tyX13_ok nmX13 hown hK hP hD hS 0 rfl rfl 6 (by decide) (hts _ flX13_31) (fun _ h9 => h9) rfl (tyX13_ok 6 (by decide)) rfl rfl (Nat.le_of_ble_eq_true rfl) dX13_scan_142 (fun H locs hP hD hS => ?_)
        obtain ⟨hP, hD⟩ := st13_6 hP hD
        refine lv_goto (tgt := 279) hx hb dX13_scan_145 (by decide) ?_
        obtain rfl := Option.some.inj hf
        exact k_vret hx hb hr hlocks hK hP hD hS dX13_scan_279
      · have hf := ite_f hf hc
        refine lv_iconst (v := 4) hx hb dX13_scan_137 (by decide) ?_
        refine lv_goto (tgt := 142) hx hb dX13_scan_138 (by decide) ?_
        refine va_put (D := D) (ci := 13) (v := .int 4) (ty := .int) (C := RX13) (T := TX13) (N := 87) hx hb hts hiX13 tyX13 tyX13_ok nmX13 hown hK hP hD hS 0 rfl rfl 6 (by decide) (hts _ flX13_31) (fun _ h9 => h9) rfl (tyX13_ok 6 (by decide)) rfl rfl (Nat.le_of_ble_eq_true rfl) dX13_scan_142 (fun H locs hP hD hS => ?_)
        obtain ⟨hP, hD⟩ := st13_6 hP hD
        refine lv_goto (tgt := 279) hx hb dX13_scan_145 (by decide) ?_
        obtain rfl := Option.some.inj hf
        exact k_vret hx hb hr hlocks hK hP hD hS dX13_scan_279
    · have hf := ite_f hf hc
      refine lv_aload_n hx hb dX13_scan_109 rfl (lv_at hl 0 rfl) ?_
      refine lv_dup hx hb dX13_scan_110 rfl ?_
      refine va_get (D := D) (ci := 13) (v := .int (i0 5)) (C := RX13) (T := TX13) (N := 87) hx hb hts hiX13 hown hK hP 0 rfl rfl 5 (by decide) (hts _ flX13_24) (fun _ h9 => h9) rfl dX13_scan_111 ?_
      refine lv_iconst (v := 1) hx hb dX13_scan_114 (by decide) ?_
      refine lv_iadd hx hb dX13_scan_115 ?_
      refine va_put (D := D) (ci := 13) (v := .int ((i0 5) + 1)) (ty := .int) (C := RX13) (T := TX13) (N := 87) hx hb hts hiX13 tyX13 tyX13_ok nmX13 hown hK hP hD hS 0 rfl rfl 5 (by decide) (hts _ flX13_24) (fun _ h9 => h9) rfl (tyX13_ok 5 (by decide)) rfl rfl (Nat.le_of_ble_eq_true rfl) dX13_scan_116 (fun H locs hP hD hS => ?_)
      obtain ⟨hP, hD⟩ := st13_5 hP hD
      refine lv_goto (tgt := 95) hx hb dX13_scan_119 (by decide) ?_
      exact ih _ _ _ _ hf hP hD hS (lv_sub hl [0] rfl)
def f_X13_scan_210 (r0 : Nat → Nat → Int32) (l0 : Nat → Nat → Int64) (K160 : (Nat → Int32) → Option ((Nat → Int32))) (i0 : Nat → Int32) : Option ((Nat → Int32)) := K160 (upd i0 5 ((i0 5) + 1))
set_option maxRecDepth 100000 in
set_option maxHeartbeats 4000000 in
theorem w_X13_scan_210 {p : Program} {l : Launch} {e : Env} {s : State} {m : MethodId} {args : Array Value} {below : List Frame} {meth : Method} {c : Code} {A : Nat → Prop} {D : va_G} {cs zs : Nat → Nat} {h0 : Nat} {a0 : Nat → Nat} {r0 : Nat → Nat → Int32} {l0 : Nat → Nat → Int64} {q : (Nat → Int32)} (C : Cx p s m args meth c A D cs zs cX13_scan 2 none RX13) (K160 : (Nat → Int32) → Option ((Nat → Int32))) (hK160 : ∀ (i0 : Nat → Int32) (H : Heap) (locs : List Loc) (ls : Array Slot), K160 i0 = some q → va_P D vwCl (W13 cs h0 a0 i0 r0 l0) H → va_D A (W13 cs h0 a0 i0 r0 l0) → va_S A s.heap H locs → lv_has ls 2 [(0, .ref h0)] → W p l e rmX13_scan s m args below meth c H locs 0 0 (MQ below (Qv D cs A (W13 cs h0 a0 q r0 l0)) args s 0 0 A) (F0 m 160 ls [])) : ∀ (i0 : Nat → Int32) (H : Heap) (locs : List Loc) (ls : Array Slot), f_X13_scan_210 r0 l0 K160 i0 = some q → va_P D vwCl (W13 cs h0 a0 i0 r0 l0) H → va_D A (W13 cs h0 a0 i0 r0 l0) → va_S A s.heap H locs → lv_has ls 2 [(0, .ref h0)] → W p l e rmX13_scan s m args below meth c H locs 0 0 (MQ below (Qv D cs A (W13 cs h0 a0 q r0 l0)) args s 0 0 A) (F0 m 210 ls []) := by
  obtain ⟨hx, hb, hr, hml, hown, hts, hK, hA, hlocks, hZ⟩ := id C
  intro i0 H locs ls hf hP hD hS hl
  rw [f_X13_scan_210] at hf
  refine lv_aload_n hx hb dX13_scan_210 rfl (lv_at hl 0 rfl) ?_
  refine lv_dup hx hb dX13_scan_211 rfl ?_
  refine va_get (D := D) (ci := 13) (v := .int (i0 5)) (C := RX13) (T := TX13) (N := 87) hx hb hts hiX13 hown hK hP 0 rfl rfl 5 (by decide) (hts _ flX13_24) (fun _ h9 => h9) rfl dX13_scan_212 ?_
  refine lv_iconst (v := 1) hx hb dX13_scan_215 (by decide) ?_
  refine lv_iadd hx hb dX13_scan_216 ?_
  refine va_put (D := D) (ci := 13) (v := .int ((i0 5) + 1)) (ty := .int) (C := RX13) (T := TX13) (N := 87) hx hb hts hiX13 tyX13 tyX13_ok nmX13 hown hK hP hD hS 0 rfl rfl 5 (by decide) (hts _ flX13_24) (fun _ h9 => h9) rfl (tyX13_ok 5 (by decide)) rfl rfl (Nat.le_of_ble_eq_true rfl) dX13_scan_217 (fun H locs hP hD hS => ?_)
  obtain ⟨hP, hD⟩ := st13_5 hP hD
  refine lv_goto (tgt := 160) hx hb dX13_scan_220 (by decide) ?_
  exact hK160 _ _ _ _ hf hP hD hS (lv_sub hl [0] rfl)
def f_X13_scan_160 (r0 : Nat → Nat → Int32) (l0 : Nat → Nat → Int64)  : Nat → (Nat → Int32) → Option ((Nat → Int32))
  | 0, _ => none
  | n + 1, i0 => bd (f_X13_byteAt i0 r0 l0 (i0 5)) (fun q12 => bd (f_X13_isDigit q12) (fun q13 => if q13 = 0 then (if ((i0 5) - (i0 4)) ≤ 4 then (some ((upd i0 6 2))) else (some ((upd i0 6 4)))) else (if 4 ≤ ((i0 5) - (i0 4)) then (f_X13_scan_210 r0 l0 (f_X13_scan_160 r0 l0 n) i0) else (bd (f_X13_byteAt i0 r0 l0 (i0 5)) (fun q14 => f_X13_scan_210 r0 l0 (f_X13_scan_160 r0 l0 n) (upd i0 7 (((10 * (i0 7)) + q14) - 48)))))))
set_option maxRecDepth 100000 in
set_option maxHeartbeats 4000000 in
theorem w_X13_scan_160 {p : Program} {l : Launch} {e : Env} {s : State} {m : MethodId} {args : Array Value} {below : List Frame} {meth : Method} {c : Code} {A : Nat → Prop} {D : va_G} {cs zs : Nat → Nat} {h0 : Nat} {a0 : Nat → Nat} {r0 : Nat → Nat → Int32} {l0 : Nat → Nat → Int64} {q : (Nat → Int32)} (C : Cx p s m args meth c A D cs zs cX13_scan 2 none RX13)  : ∀ (n : Nat), ∀ (i0 : Nat → Int32) (H : Heap) (locs : List Loc) (ls : Array Slot), f_X13_scan_160 r0 l0 n i0 = some q → va_P D vwCl (W13 cs h0 a0 i0 r0 l0) H → va_D A (W13 cs h0 a0 i0 r0 l0) → va_S A s.heap H locs → lv_has ls 2 [(0, .ref h0)] → W p l e rmX13_scan s m args below meth c H locs 0 0 (MQ below (Qv D cs A (W13 cs h0 a0 q r0 l0)) args s 0 0 A) (F0 m 160 ls []) := by
  obtain ⟨hx, hb, hr, hml, hown, hts, hK, hA, hlocks, hZ⟩ := id C
  intro n
  induction n with
  | zero =>
    intro i0 H locs ls hf
    rw [f_X13_scan_160] at hf
    cases hf
  | succ n ih =>
    intro i0 H locs ls hf hP hD hS hl
    rw [f_X13_scan_160] at hf
    refine lv_aload_n hx hb dX13_scan_160 rfl (lv_at hl 0 rfl) ?_
    refine lv_aload_n hx hb dX13_scan_161 rfl (lv_at hl 0 rfl) ?_
    refine va_get (D := D) (ci := 13) (v := .int (i0 5)) (C := RX13) (T := TX13) (N := 87) hx hb hts hiX13 hown hK hP 0 rfl rfl 5 (by decide) (hts _ flX13_24) (fun _ h9 => h9) rfl dX13_scan_162 ?_
    obtain ⟨q12, hq12, hf⟩ := bd_s hf
    refine k_sVi (ws2 := W13 cs h0 a0 i0 r0 l0) (As := [.int (i0 5)]) (rest := []) hx hb hml hown hts hK hA hZ hl.1 hP hD hS (c_X13_byteAt (h0 := h0) (a0 := a0) hq12) (gVt mlX13_27 imX13_byteAt seX13_byteAt inX13 coX13_byteAt) rfl qnX13_byteAt rfl rfl ⟨Nat.le_of_ble_eq_true rfl, Nat.le_of_ble_eq_true rfl⟩ 0 13 rfl rfl rfl rfl rfl (Nat.le_of_ble_eq_true rfl) ⟨Nat.zero_le _, Nat.zero_le _⟩ dX13_scan_165 (fun H locs hP hD hS => ?_)
    obtain ⟨q13, hq13, hf⟩ := bd_s hf
    refine k_eSi (As := [.int q12]) (rest := []) hx hb hml hown hts hK hA hZ hl.1 hP hD hS (c_X13_isDigit  hq13) (gSt mlX13_38 stX13_isDigit inX13 coX13_isDigit) rfl qnX13_isDigit rfl rfl ⟨Nat.le_of_ble_eq_true rfl, Nat.le_of_ble_eq_true rfl⟩ rfl rfl (Nat.le_of_ble_eq_true rfl) ⟨Nat.zero_le _, Nat.zero_le _⟩ dX13_scan_168 (fun H locs hP hD hS => ?_)
    refine lv_if_eq (tgt := 223) hx hb dX13_scan_171 (by decide) (fun hc => ?_) (fun hc => ?_)
    · have hf := ite_t hf hc
      refine lv_aload_n hx hb dX13_scan_223 rfl (lv_at hl 0 rfl) ?_
      refine lv_aload_n hx hb dX13_scan_224 rfl (lv_at hl 0 rfl) ?_
      refine va_get (D := D) (ci := 13) (v := .int (i0 5)) (C := RX13) (T := TX13) (N := 87) hx hb hts hiX13 hown hK hP 0 rfl rfl 5 (by decide) (hts _ flX13_24) (fun _ h9 => h9) rfl dX13_scan_225 ?_
      refine lv_aload_n hx hb dX13_scan_228 rfl (lv_at hl 0 rfl) ?_
      refine va_get (D := D) (ci := 13) (v := .int (i0 4)) (C := RX13) (T := TX13) (N := 87) hx hb hts hiX13 hown hK hP 0 rfl rfl 4 (by decide) (hts _ flX13_7) (fun _ h9 => h9) rfl dX13_scan_229 ?_
      refine lv_isub hx hb dX13_scan_232 ?_
      refine lv_iconst (v := 4) hx hb dX13_scan_233 (by decide) ?_
      refine lv_icmp_le (tgt := 241) hx hb dX13_scan_234 (by decide) (fun hc => ?_) (fun hc => ?_)
      · have hf := ite_t hf hc
        refine lv_iconst (v := 2) hx hb dX13_scan_241 (by decide) ?_
        refine va_put (D := D) (ci := 13) (v := .int 2) (ty := .int) (C := RX13) (T := TX13) (N := 87) hx hb hts hiX13 tyX13 tyX13_ok nmX13 hown hK hP hD hS 0 rfl rfl 6 (by decide) (hts _ flX13_31) (fun _ h9 => h9) rfl (tyX13_ok 6 (by decide)) rfl rfl (Nat.le_of_ble_eq_true rfl) dX13_scan_242 (fun H locs hP hD hS => ?_)
        obtain ⟨hP, hD⟩ := st13_6 hP hD
        refine lv_goto (tgt := 279) hx hb dX13_scan_245 (by decide) ?_
        obtain rfl := Option.some.inj hf
        exact k_vret hx hb hr hlocks hK hP hD hS dX13_scan_279
      · have hf := ite_f hf hc
        refine lv_iconst (v := 4) hx hb dX13_scan_237 (by decide) ?_
        refine lv_goto (tgt := 242) hx hb dX13_scan_238 (by decide) ?_
        refine va_put (D := D) (ci := 13) (v := .int 4) (ty := .int) (C := RX13) (T := TX13) (N := 87) hx hb hts hiX13 tyX13 tyX13_ok nmX13 hown hK hP hD hS 0 rfl rfl 6 (by decide) (hts _ flX13_31) (fun _ h9 => h9) rfl (tyX13_ok 6 (by decide)) rfl rfl (Nat.le_of_ble_eq_true rfl) dX13_scan_242 (fun H locs hP hD hS => ?_)
        obtain ⟨hP, hD⟩ := st13_6 hP hD
        refine lv_goto (tgt := 279) hx hb dX13_scan_245 (by decide) ?_
        obtain rfl := Option.some.inj hf
        exact k_vret hx hb hr hlocks hK hP hD hS dX13_scan_279
    · have hf := ite_f hf hc
      refine lv_aload_n hx hb dX13_scan_174 rfl (lv_at hl 0 rfl) ?_
      refine va_get (D := D) (ci := 13) (v := .int (i0 5)) (C := RX13) (T := TX13) (N := 87) hx hb hts hiX13 hown hK hP 0 rfl rfl 5 (by decide) (hts _ flX13_24) (fun _ h9 => h9) rfl dX13_scan_175 ?_
      refine lv_aload_n hx hb dX13_scan_178 rfl (lv_at hl 0 rfl) ?_
      refine va_get (D := D) (ci := 13) (v := .int (i0 4)) (C := RX13) (T := TX13) (N := 87) hx hb hts hiX13 hown hK hP 0 rfl rfl 4 (by decide) (hts _ flX13_7) (fun _ h9 => h9) rfl dX13_scan_179 ?_
      refine lv_isub hx hb dX13_scan_182 ?_
      refine lv_iconst (v := 4) hx hb dX13_scan_183 (by decide) ?_
      refine lv_icmp_ge (tgt := 210) hx hb dX13_scan_184 (by decide) (fun hc => ?_) (fun hc => ?_)
      · have hf := ite_t hf hc
        exact w_X13_scan_210 C _ (ih) _ _ _ _ hf hP hD hS (lv_sub hl [0] rfl)
      · have hf := ite_f hf hc
        refine lv_aload_n hx hb dX13_scan_187 rfl (lv_at hl 0 rfl) ?_
        refine lv_bipush (v := 10) hx hb dX13_scan_188 (by decide) ?_
        refine lv_aload_n hx hb dX13_scan_190 rfl (lv_at hl 0 rfl) ?_
        refine va_get (D := D) (ci := 13) (v := .int (i0 7)) (C := RX13) (T := TX13) (N := 87) hx hb hts hiX13 hown hK hP 0 rfl rfl 7 (by decide) (hts _ flX13_41) (fun _ h9 => h9) rfl dX13_scan_191 ?_
        refine lv_imul hx hb dX13_scan_194 ?_
        refine lv_aload_n hx hb dX13_scan_195 rfl (lv_at hl 0 rfl) ?_
        refine lv_aload_n hx hb dX13_scan_196 rfl (lv_at hl 0 rfl) ?_
        refine va_get (D := D) (ci := 13) (v := .int (i0 5)) (C := RX13) (T := TX13) (N := 87) hx hb hts hiX13 hown hK hP 0 rfl rfl 5 (by decide) (hts _ flX13_24) (fun _ h9 => h9) rfl dX13_scan_197 ?_
        obtain ⟨q14, hq14, hf⟩ := bd_s hf
        refine k_sVi (ws2 := W13 cs h0 a0 i0 r0 l0) (As := [.int (i0 5)]) (rest := [.int (10 * (i0 7)), .ref h0]) hx hb hml hown hts hK hA hZ hl.1 hP hD hS (c_X13_byteAt (h0 := h0) (a0 := a0) hq14) (gVt mlX13_27 imX13_byteAt seX13_byteAt inX13 coX13_byteAt) rfl qnX13_byteAt rfl rfl ⟨Nat.le_of_ble_eq_true rfl, Nat.le_of_ble_eq_true rfl⟩ 0 13 rfl rfl rfl rfl rfl (Nat.le_of_ble_eq_true rfl) ⟨Nat.zero_le _, Nat.zero_le _⟩ dX13_scan_200 (fun H locs hP hD hS => ?_)
        refine lv_iadd hx hb dX13_scan_203 ?_
        refine lv_bipush (v := 48) hx hb dX13_scan_204 (by decide) ?_
        refine lv_isub hx hb dX13_scan_206 ?_
        refine va_put (D := D) (ci := 13) (v := .int (((10 * (i0 7)) + q14) - 48)) (ty := .int) (C := RX13) (T := TX13) (N := 87) hx hb hts hiX13 tyX13 tyX13_ok nmX13 hown hK hP hD hS 0 rfl rfl 7 (by decide) (hts _ flX13_41) (fun _ h9 => h9) rfl (tyX13_ok 7 (by decide)) rfl rfl (Nat.le_of_ble_eq_true rfl) dX13_scan_207 (fun H locs hP hD hS => ?_)
        obtain ⟨hP, hD⟩ := st13_7 hP hD
        exact w_X13_scan_210 C _ (ih) _ _ _ _ hf hP hD hS (lv_sub hl [0] rfl)
def f_X13_scan_261 (r0 : Nat → Nat → Int32) (l0 : Nat → Nat → Int64)  (i0 : Nat → Int32) (x1 : Int32) (y0 : Int32) : Option ((Nat → Int32)) := some ((upd (upd (upd i0 6 y0) 7 x1) 5 ((i0 5) + 1)))
set_option maxRecDepth 100000 in
set_option maxHeartbeats 4000000 in
theorem w_X13_scan_261 {p : Program} {l : Launch} {e : Env} {s : State} {m : MethodId} {args : Array Value} {below : List Frame} {meth : Method} {c : Code} {A : Nat → Prop} {D : va_G} {cs zs : Nat → Nat} {h0 : Nat} {a0 : Nat → Nat} {r0 : Nat → Nat → Int32} {l0 : Nat → Nat → Int64} {q : (Nat → Int32)} (C : Cx p s m args meth c A D cs zs cX13_scan 2 none RX13)  : ∀ (i0 : Nat → Int32) (x1 : Int32) (y0 : Int32) (H : Heap) (locs : List Loc) (ls : Array Slot), f_X13_scan_261 r0 l0 i0 x1 y0 = some q → va_P D vwCl (W13 cs h0 a0 i0 r0 l0) H → va_D A (W13 cs h0 a0 i0 r0 l0) → va_S A s.heap H locs → lv_has ls 2 [(0, .ref h0), (1, .int x1)] → W p l e rmX13_scan s m args below meth c H locs 0 0 (MQ below (Qv D cs A (W13 cs h0 a0 q r0 l0)) args s 0 0 A) (F0 m 261 ls [.int y0, .ref h0]) := by
  obtain ⟨hx, hb, hr, hml, hown, hts, hK, hA, hlocks, hZ⟩ := id C
  intro i0 x1 y0 H locs ls hf hP hD hS hl
  rw [f_X13_scan_261] at hf
  refine va_put (D := D) (ci := 13) (v := .int y0) (ty := .int) (C := RX13) (T := TX13) (N := 87) hx hb hts hiX13 tyX13 tyX13_ok nmX13 hown hK hP hD hS 0 rfl rfl 6 (by decide) (hts _ flX13_31) (fun _ h9 => h9) rfl (tyX13_ok 6 (by decide)) rfl rfl (Nat.le_of_ble_eq_true rfl) dX13_scan_261 (fun H locs hP hD hS => ?_)
  obtain ⟨hP, hD⟩ := st13_6 hP hD
  refine lv_aload_n hx hb dX13_scan_264 rfl (lv_at hl 0 rfl) ?_
  refine lv_iload_n hx hb dX13_scan_265 rfl (lv_at hl 1 rfl) ?_
  refine va_put (D := D) (ci := 13) (v := .int x1) (ty := .int) (C := RX13) (T := TX13) (N := 87) hx hb hts hiX13 tyX13 tyX13_ok nmX13 hown hK hP hD hS 0 rfl rfl 7 (by decide) (hts _ flX13_41) (fun _ h9 => h9) rfl (tyX13_ok 7 (by decide)) rfl rfl (Nat.le_of_ble_eq_true rfl) dX13_scan_266 (fun H locs hP hD hS => ?_)
  obtain ⟨hP, hD⟩ := st13_7 hP hD
  refine lv_aload_n hx hb dX13_scan_269 rfl (lv_at hl 0 rfl) ?_
  refine lv_dup hx hb dX13_scan_270 rfl ?_
  refine va_get (D := D) (ci := 13) (v := .int (i0 5)) (C := RX13) (T := TX13) (N := 87) hx hb hts hiX13 hown hK hP 0 rfl rfl 5 (by decide) (hts _ flX13_24) (fun _ h9 => h9) rfl dX13_scan_271 ?_
  refine lv_iconst (v := 1) hx hb dX13_scan_274 (by decide) ?_
  refine lv_iadd hx hb dX13_scan_275 ?_
  refine va_put (D := D) (ci := 13) (v := .int ((i0 5) + 1)) (ty := .int) (C := RX13) (T := TX13) (N := 87) hx hb hts hiX13 tyX13 tyX13_ok nmX13 hown hK hP hD hS 0 rfl rfl 5 (by decide) (hts _ flX13_24) (fun _ h9 => h9) rfl (tyX13_ok 5 (by decide)) rfl rfl (Nat.le_of_ble_eq_true rfl) dX13_scan_276 (fun H locs hP hD hS => ?_)
  obtain ⟨hP, hD⟩ := st13_5 hP hD
  obtain rfl := Option.some.inj hf
  exact k_vret hx hb hr hlocks hK hP hD hS dX13_scan_279
def f_X13_scan_52 (r0 : Nat → Nat → Int32) (l0 : Nat → Nat → Int64)  (i0 : Nat → Int32) : Option ((Nat → Int32)) := bd (f_X13_byteAt (upd i0 4 (i0 5)) r0 l0 (i0 5)) (fun q15 => if (i0 5) = (i0 3) then (some ((upd (upd i0 4 (i0 5)) 6 0))) else (bd (f_X13_isSmall q15) (fun q16 => if q16 = 0 then (bd (f_X13_isDigit q15) (fun q17 => if q17 = 0 then (bd (f_X13_isSignByte q15) (fun q18 => if q18 = 0 then (f_X13_scan_261 r0 l0 (upd i0 4 (i0 5)) q15 4) else (f_X13_scan_261 r0 l0 (upd i0 4 (i0 5)) q15 3))) else (f_X13_scan_160 r0 l0 2000000 (upd (upd i0 4 (i0 5)) 7 0)))) else (f_X13_scan_95 r0 l0 2000000 (upd i0 4 (i0 5))))))
set_option maxRecDepth 100000 in
set_option maxHeartbeats 4000000 in
theorem w_X13_scan_52 {p : Program} {l : Launch} {e : Env} {s : State} {m : MethodId} {args : Array Value} {below : List Frame} {meth : Method} {c : Code} {A : Nat → Prop} {D : va_G} {cs zs : Nat → Nat} {h0 : Nat} {a0 : Nat → Nat} {r0 : Nat → Nat → Int32} {l0 : Nat → Nat → Int64} {q : (Nat → Int32)} (C : Cx p s m args meth c A D cs zs cX13_scan 2 none RX13)  : ∀ (i0 : Nat → Int32) (H : Heap) (locs : List Loc) (ls : Array Slot), f_X13_scan_52 r0 l0 i0 = some q → va_P D vwCl (W13 cs h0 a0 i0 r0 l0) H → va_D A (W13 cs h0 a0 i0 r0 l0) → va_S A s.heap H locs → lv_has ls 2 [(0, .ref h0)] → W p l e rmX13_scan s m args below meth c H locs 0 0 (MQ below (Qv D cs A (W13 cs h0 a0 q r0 l0)) args s 0 0 A) (F0 m 52 ls []) := by
  obtain ⟨hx, hb, hr, hml, hown, hts, hK, hA, hlocks, hZ⟩ := id C
  intro i0 H locs ls hf hP hD hS hl
  rw [f_X13_scan_52] at hf
  refine lv_aload_n hx hb dX13_scan_52 rfl (lv_at hl 0 rfl) ?_
  refine lv_aload_n hx hb dX13_scan_53 rfl (lv_at hl 0 rfl) ?_
  refine va_get (D := D) (ci := 13) (v := .int (i0 5)) (C := RX13) (T := TX13) (N := 87) hx hb hts hiX13 hown hK hP 0 rfl rfl 5 (by decide) (hts _ flX13_24) (fun _ h9 => h9) rfl dX13_scan_54 ?_
  refine va_put (D := D) (ci := 13) (v := .int (i0 5)) (ty := .int) (C := RX13) (T := TX13) (N := 87) hx hb hts hiX13 tyX13 tyX13_ok nmX13 hown hK hP hD hS 0 rfl rfl 4 (by decide) (hts _ flX13_7) (fun _ h9 => h9) rfl (tyX13_ok 4 (by decide)) rfl rfl (Nat.le_of_ble_eq_true rfl) dX13_scan_57 (fun H locs hP hD hS => ?_)
  obtain ⟨hP, hD⟩ := st13_4 hP hD
  refine lv_aload_n hx hb dX13_scan_60 rfl (lv_at hl 0 rfl) ?_
  refine lv_aload_n hx hb dX13_scan_61 rfl (lv_at hl 0 rfl) ?_
  refine va_get (D := D) (ci := 13) (v := .int (i0 5)) (C := RX13) (T := TX13) (N := 87) hx hb hts hiX13 hown hK hP 0 rfl rfl 4 (by decide) (hts _ flX13_7) (fun _ h9 => h9) rfl dX13_scan_62 ?_
  obtain ⟨q15, hq15, hf⟩ := bd_s hf
  refine k_sVi (ws2 := W13 cs h0 a0 (upd i0 4 (i0 5)) r0 l0) (As := [.int (i0 5)]) (rest := []) hx hb hml hown hts hK hA hZ hl.1 hP hD hS (c_X13_byteAt (h0 := h0) (a0 := a0) hq15) (gVt mlX13_27 imX13_byteAt seX13_byteAt inX13 coX13_byteAt) rfl qnX13_byteAt rfl rfl ⟨Nat.le_of_ble_eq_true rfl, Nat.le_of_ble_eq_true rfl⟩ 0 13 rfl rfl rfl rfl rfl (Nat.le_of_ble_eq_true rfl) ⟨Nat.zero_le _, Nat.zero_le _⟩ dX13_scan_65 (fun H locs hP hD hS => ?_)
  refine lv_istore_n (lv' := [(1, .int q15), (0, .ref h0)]) hx hb dX13_scan_68 rfl hl (by decide) rfl (fun ls hl => ?_)
  refine lv_aload_n hx hb dX13_scan_69 rfl (lv_at hl 1 rfl) ?_
  refine va_get (D := D) (ci := 13) (v := .int (i0 5)) (C := RX13) (T := TX13) (N := 87) hx hb hts hiX13 hown hK hP 0 rfl rfl 4 (by decide) (hts _ flX13_7) (fun _ h9 => h9) rfl dX13_scan_70 ?_
  refine lv_aload_n hx hb dX13_scan_73 rfl (lv_at hl 1 rfl) ?_
  refine va_get (D := D) (ci := 13) (v := .int (i0 3)) (C := RX13) (T := TX13) (N := 87) hx hb hts hiX13 hown hK hP 0 rfl rfl 3 (by decide) (hts _ flX13_17) (fun _ h9 => h9) rfl dX13_scan_74 ?_
  refine lv_icmp_ne (tgt := 88) hx hb dX13_scan_77 (by decide) (fun hc => ?_) (fun hc => ?_)
  · have hf := ite_f hf hc
    refine lv_iload_n hx hb dX13_scan_88 rfl (lv_at hl 0 rfl) ?_
    obtain ⟨q16, hq16, hf⟩ := bd_s hf
    refine k_eSi (As := [.int q15]) (rest := []) hx hb hml hown hts hK hA hZ hl.1 hP hD hS (c_X13_isSmall  hq16) (gSt mlX13_34 stX13_isSmall inX13 coX13_isSmall) rfl qnX13_isSmall rfl rfl ⟨Nat.le_of_ble_eq_true rfl, Nat.le_of_ble_eq_true rfl⟩ rfl rfl (Nat.le_of_ble_eq_true rfl) ⟨Nat.zero_le _, Nat.zero_le _⟩ dX13_scan_89 (fun H locs hP hD hS => ?_)
    refine lv_if_eq (tgt := 148) hx hb dX13_scan_92 (by decide) (fun hc => ?_) (fun hc => ?_)
    · have hf := ite_t hf hc
      refine lv_iload_n hx hb dX13_scan_148 rfl (lv_at hl 0 rfl) ?_
      obtain ⟨q17, hq17, hf⟩ := bd_s hf
      refine k_eSi (As := [.int q15]) (rest := []) hx hb hml hown hts hK hA hZ hl.1 hP hD hS (c_X13_isDigit  hq17) (gSt mlX13_38 stX13_isDigit inX13 coX13_isDigit) rfl qnX13_isDigit rfl rfl ⟨Nat.le_of_ble_eq_true rfl, Nat.le_of_ble_eq_true rfl⟩ rfl rfl (Nat.le_of_ble_eq_true rfl) ⟨Nat.zero_le _, Nat.zero_le _⟩ dX13_scan_149 (fun H locs hP hD hS => ?_)
      refine lv_if_eq (tgt := 248) hx hb dX13_scan_152 (by decide) (fun hc => ?_) (fun hc => ?_)
      · have hf := ite_t hf hc
        refine lv_aload_n hx hb dX13_scan_248 rfl (lv_at hl 1 rfl) ?_
        refine lv_iload_n hx hb dX13_scan_249 rfl (lv_at hl 0 rfl) ?_
        obtain ⟨q18, hq18, hf⟩ := bd_s hf
        refine k_eSi (As := [.int q15]) (rest := [.ref h0]) hx hb hml hown hts hK hA hZ hl.1 hP hD hS (c_X13_isSignByte  hq18) (gSt mlX13_44 stX13_isSignByte inX13 coX13_isSignByte) rfl qnX13_isSignByte rfl rfl ⟨Nat.le_of_ble_eq_true rfl, Nat.le_of_ble_eq_true rfl⟩ rfl rfl (Nat.le_of_ble_eq_true rfl) ⟨Nat.zero_le _, Nat.zero_le _⟩ dX13_scan_250 (fun H locs hP hD hS => ?_)
        refine lv_if_eq (tgt := 260) hx hb dX13_scan_253 (by decide) (fun hc => ?_) (fun hc => ?_)
        · have hf := ite_t hf hc
          refine lv_iconst (v := 4) hx hb dX13_scan_260 (by decide) ?_
          exact w_X13_scan_261 C  _ _ _ _ _ _ hf hP hD hS (lv_sub hl [1, 0] rfl)
        · have hf := ite_f hf hc
          refine lv_iconst (v := 3) hx hb dX13_scan_256 (by decide) ?_
          refine lv_goto (tgt := 261) hx hb dX13_scan_257 (by decide) ?_
          exact w_X13_scan_261 C  _ _ _ _ _ _ hf hP hD hS (lv_sub hl [1, 0] rfl)
      · have hf := ite_f hf hc
        refine lv_aload_n hx hb dX13_scan_155 rfl (lv_at hl 1 rfl) ?_
        refine lv_iconst (v := 0) hx hb dX13_scan_156 (by decide) ?_
        refine va_put (D := D) (ci := 13) (v := .int 0) (ty := .int) (C := RX13) (T := TX13) (N := 87) hx hb hts hiX13 tyX13 tyX13_ok nmX13 hown hK hP hD hS 0 rfl rfl 7 (by decide) (hts _ flX13_41) (fun _ h9 => h9) rfl (tyX13_ok 7 (by decide)) rfl rfl (Nat.le_of_ble_eq_true rfl) dX13_scan_157 (fun H locs hP hD hS => ?_)
        obtain ⟨hP, hD⟩ := st13_7 hP hD
        exact w_X13_scan_160 C  2000000 _ _ _ _ hf hP hD hS (lv_sub hl [1] rfl)
    · have hf := ite_f hf hc
      exact w_X13_scan_95 C  2000000 _ _ _ _ hf hP hD hS (lv_sub hl [1] rfl)
  · have hf := ite_t hf hc
    refine lv_aload_n hx hb dX13_scan_80 rfl (lv_at hl 1 rfl) ?_
    refine lv_iconst (v := 0) hx hb dX13_scan_81 (by decide) ?_
    refine va_put (D := D) (ci := 13) (v := .int 0) (ty := .int) (C := RX13) (T := TX13) (N := 87) hx hb hts hiX13 tyX13 tyX13_ok nmX13 hown hK hP hD hS 0 rfl rfl 6 (by decide) (hts _ flX13_31) (fun _ h9 => h9) rfl (tyX13_ok 6 (by decide)) rfl rfl (Nat.le_of_ble_eq_true rfl) dX13_scan_82 (fun H locs hP hD hS => ?_)
    obtain ⟨hP, hD⟩ := st13_6 hP hD
    refine lv_goto (tgt := 279) hx hb dX13_scan_85 (by decide) ?_
    obtain rfl := Option.some.inj hf
    exact k_vret hx hb hr hlocks hK hP hD hS dX13_scan_279
def f_X13_scan_0 (r0 : Nat → Nat → Int32) (l0 : Nat → Nat → Int64)  : Nat → (Nat → Int32) → Option ((Nat → Int32))
  | 0, _ => none
  | n + 1, i0 => if (i0 3) ≤ (i0 5) then (f_X13_scan_52 r0 l0 i0) else (ck (inb (i0 5) 900) (if (r0 1 (i0 5).toNatClampNeg) = 32 then (f_X13_scan_39 r0 l0 (f_X13_scan_0 r0 l0 n) i0) else (ck (inb (i0 5) 900) (if (r0 1 (i0 5).toNatClampNeg) = 10 then (f_X13_scan_39 r0 l0 (f_X13_scan_0 r0 l0 n) i0) else (f_X13_scan_52 r0 l0 i0)))))
set_option maxRecDepth 100000 in
set_option maxHeartbeats 4000000 in
theorem w_X13_scan_0 {p : Program} {l : Launch} {e : Env} {s : State} {m : MethodId} {args : Array Value} {below : List Frame} {meth : Method} {c : Code} {A : Nat → Prop} {D : va_G} {cs zs : Nat → Nat} {h0 : Nat} {a0 : Nat → Nat} {r0 : Nat → Nat → Int32} {l0 : Nat → Nat → Int64} {q : (Nat → Int32)} (C : Cx p s m args meth c A D cs zs cX13_scan 2 none RX13)  : ∀ (n : Nat), ∀ (i0 : Nat → Int32) (H : Heap) (locs : List Loc) (ls : Array Slot), f_X13_scan_0 r0 l0 n i0 = some q → va_P D vwCl (W13 cs h0 a0 i0 r0 l0) H → va_D A (W13 cs h0 a0 i0 r0 l0) → va_S A s.heap H locs → lv_has ls 2 [(0, .ref h0)] → W p l e rmX13_scan s m args below meth c H locs 0 0 (MQ below (Qv D cs A (W13 cs h0 a0 q r0 l0)) args s 0 0 A) (F0 m 0 ls []) := by
  obtain ⟨hx, hb, hr, hml, hown, hts, hK, hA, hlocks, hZ⟩ := id C
  intro n
  induction n with
  | zero =>
    intro i0 H locs ls hf
    rw [f_X13_scan_0] at hf
    cases hf
  | succ n ih =>
    intro i0 H locs ls hf hP hD hS hl
    rw [f_X13_scan_0] at hf
    refine lv_aload_n hx hb dX13_scan_0 rfl (lv_at hl 0 rfl) ?_
    refine va_get (D := D) (ci := 13) (v := .int (i0 5)) (C := RX13) (T := TX13) (N := 87) hx hb hts hiX13 hown hK hP 0 rfl rfl 5 (by decide) (hts _ flX13_24) (fun _ h9 => h9) rfl dX13_scan_1 ?_
    refine lv_aload_n hx hb dX13_scan_4 rfl (lv_at hl 0 rfl) ?_
    refine va_get (D := D) (ci := 13) (v := .int (i0 3)) (C := RX13) (T := TX13) (N := 87) hx hb hts hiX13 hown hK hP 0 rfl rfl 3 (by decide) (hts _ flX13_17) (fun _ h9 => h9) rfl dX13_scan_5 ?_
    refine lv_icmp_ge (tgt := 52) hx hb dX13_scan_8 (by decide) (fun hc => ?_) (fun hc => ?_)
    · have hf := ite_t hf hc
      exact w_X13_scan_52 C  _ _ _ _ hf hP hD hS (lv_sub hl [0] rfl)
    · have hf := ite_f hf hc
      refine lv_aload_n hx hb dX13_scan_11 rfl (lv_at hl 0 rfl) ?_
      refine va_get (D := D) (ci := 13) (v := .ref (a0 1)) (C := RX13) (T := TX13) (N := 87) hx hb hts hiX13 hown hK hP 0 rfl rfl 1 (by decide) (hts _ flX13_20) (fun _ h9 => h9) rfl dX13_scan_12 ?_
      refine lv_aload_n hx hb dX13_scan_15 rfl (lv_at hl 0 rfl) ?_
      refine va_get (D := D) (ci := 13) (v := .int (i0 5)) (C := RX13) (T := TX13) (N := 87) hx hb hts hiX13 hown hK hP 0 rfl rfl 5 (by decide) (hts _ flX13_24) (fun _ h9 => h9) rfl dX13_scan_16 ?_
      refine va_bald (f := r0 1) hx hb hK hP 1 3 rfl rfl (ck_in hf) dX13_scan_19 ?_
      have hf := ck_2 hf
      refine lv_bipush (v := 32) hx hb dX13_scan_20 (by decide) ?_
      refine lv_icmp_eq (tgt := 39) hx hb dX13_scan_22 (by decide) (fun hc => ?_) (fun hc => ?_)
      · have hf := ite_t hf hc
        exact w_X13_scan_39 C _ (ih) _ _ _ _ hf hP hD hS (lv_sub hl [0] rfl)
      · have hf := ite_f hf hc
        refine lv_aload_n hx hb dX13_scan_25 rfl (lv_at hl 0 rfl) ?_
        refine va_get (D := D) (ci := 13) (v := .ref (a0 1)) (C := RX13) (T := TX13) (N := 87) hx hb hts hiX13 hown hK hP 0 rfl rfl 1 (by decide) (hts _ flX13_20) (fun _ h9 => h9) rfl dX13_scan_26 ?_
        refine lv_aload_n hx hb dX13_scan_29 rfl (lv_at hl 0 rfl) ?_
        refine va_get (D := D) (ci := 13) (v := .int (i0 5)) (C := RX13) (T := TX13) (N := 87) hx hb hts hiX13 hown hK hP 0 rfl rfl 5 (by decide) (hts _ flX13_24) (fun _ h9 => h9) rfl dX13_scan_30 ?_
        refine va_bald (f := r0 1) hx hb hK hP 1 3 rfl rfl (ck_in hf) dX13_scan_33 ?_
        have hf := ck_2 hf
        refine lv_bipush (v := 10) hx hb dX13_scan_34 (by decide) ?_
        refine lv_icmp_ne (tgt := 52) hx hb dX13_scan_36 (by decide) (fun hc => ?_) (fun hc => ?_)
        · have hf := ite_f hf hc
          exact w_X13_scan_52 C  _ _ _ _ hf hP hD hS (lv_sub hl [0] rfl)
        · have hf := ite_t hf hc
          exact w_X13_scan_39 C _ (ih) _ _ _ _ hf hP hD hS (lv_sub hl [0] rfl)
def f_X13_scan  (i0 : Nat → Int32) (r0 : Nat → Nat → Int32) (l0 : Nat → Nat → Int64)  : Option ((Nat → Int32)) := f_X13_scan_0 r0 l0 2000000 i0
set_option maxRecDepth 100000 in
set_option maxHeartbeats 4000000 in
theorem c_X13_scan {l : Launch} {D : va_G} {cs zs : Nat → Nat} {h0 : Nat} {a0 : Nat → Nat} {i0 : Nat → Int32} {r0 : Nat → Nat → Int32} {l0 : Nat → Nat → Int64}  {q : (Nat → Int32)} (hf : f_X13_scan i0 r0 l0 = some q) : Mv l yX13_scan wlX13_scan rmX13_scan D cs zs [.ref h0] (W13 cs h0 a0 i0 r0 l0) (W13 cs h0 a0 q r0 l0) := by
  refine Mv.of RX13 (by decide) rfl (Nat.le_of_ble_eq_true rfl) (fun p e s m below meth c A C hP hD hS ls hl => ?_)
  generalize ([.ref h0] : List Value).toArray = args at C ⊢
  obtain ⟨hx, hb, hr, hml, hown, hts, hK, hA, hlocks, hZ⟩ := id C
  have hl : lv_has ls 2 [(0, .ref h0)] := hl
  rw [f_X13_scan] at hf
  exact w_X13_scan_0 C  2000000 _ _ _ _ hf hP hD hS (lv_sub hl [0] rfl)
/-! MarbleFloorModel.isSign(I)Z -/
abbrev wlX13_isSign : List Cond := Cond.code yX13_isSign cX13_isSign 2 (some .boolean) :: tbG
abbrev rmX13_isSign : Room := { frames := 0, cells := 0, slots := 0, locals := 0 }
theorem qnX13_isSign : yX13_isSign.cls = RX13 ∧ yX13_isSign.cls ≠ "java/lang/invoke/MethodHandle" ∧ yX13_isSign.cls ≠ "java/lang/invoke/VarHandle" ∧ (parseMethodDescriptor yX13_isSign.desc).map (fun d => d.parameters.length) = some 1 := by decide +kernel
def f_X13_isSign  (i0 : Nat → Int32) (r0 : Nat → Nat → Int32) (l0 : Nat → Nat → Int64) (x1 : Int32) : Option (Int32) := if (i0 6) = 3 then (if (i0 7) = x1 then (some (1)) else (some (0))) else (some (0))
set_option maxRecDepth 100000 in
set_option maxHeartbeats 4000000 in
theorem c_X13_isSign {l : Launch} {D : va_G} {cs zs : Nat → Nat} {h0 : Nat} {a0 : Nat → Nat} {i0 : Nat → Int32} {r0 : Nat → Nat → Int32} {l0 : Nat → Nat → Int64} {x1 : Int32} {q : Int32} (hf : f_X13_isSign i0 r0 l0 x1 = some q) : Mi l yX13_isSign wlX13_isSign rmX13_isSign D cs zs [.ref h0, .int x1] (W13 cs h0 a0 i0 r0 l0) q (W13 cs h0 a0 i0 r0 l0) := by
  refine Mi.of RX13 (by decide) rfl (Nat.le_of_ble_eq_true rfl) (fun p e s m below meth c A C hP hD hS ls hl => ?_)
  generalize ([.ref h0, .int x1] : List Value).toArray = args at C ⊢
  obtain ⟨hx, hb, hr, hml, hown, hts, hK, hA, hlocks, hZ⟩ := id C
  have hl : lv_has ls 2 [(0, .ref h0), (1, .int x1)] := hl
  rw [f_X13_isSign] at hf
  refine lv_aload_n hx hb dX13_isSign_0 rfl (lv_at hl 0 rfl) ?_
  refine va_get (D := D) (ci := 13) (v := .int (i0 6)) (C := RX13) (T := TX13) (N := 87) hx hb hts hiX13 hown hK hP 0 rfl rfl 6 (by decide) (hts _ flX13_31) (fun _ h9 => h9) rfl dX13_isSign_1 ?_
  refine lv_iconst (v := 3) hx hb dX13_isSign_4 (by decide) ?_
  refine lv_icmp_ne (tgt := 20) hx hb dX13_isSign_5 (by decide) (fun hc => ?_) (fun hc => ?_)
  · have hf := ite_f hf hc
    refine lv_iconst (v := 0) hx hb dX13_isSign_20 (by decide) ?_
    obtain rfl := Option.some.inj hf
    exact k_zret (r := 0) hx hb hr hlocks rfl hK hP hD hS dX13_isSign_21
  · have hf := ite_t hf hc
    refine lv_aload_n hx hb dX13_isSign_8 rfl (lv_at hl 0 rfl) ?_
    refine va_get (D := D) (ci := 13) (v := .int (i0 7)) (C := RX13) (T := TX13) (N := 87) hx hb hts hiX13 hown hK hP 0 rfl rfl 7 (by decide) (hts _ flX13_41) (fun _ h9 => h9) rfl dX13_isSign_9 ?_
    refine lv_iload_n hx hb dX13_isSign_12 rfl (lv_at hl 1 rfl) ?_
    refine lv_icmp_ne (tgt := 20) hx hb dX13_isSign_13 (by decide) (fun hc => ?_) (fun hc => ?_)
    · have hf := ite_f hf hc
      refine lv_iconst (v := 0) hx hb dX13_isSign_20 (by decide) ?_
      obtain rfl := Option.some.inj hf
      exact k_zret (r := 0) hx hb hr hlocks rfl hK hP hD hS dX13_isSign_21
    · have hf := ite_t hf hc
      refine lv_iconst (v := 1) hx hb dX13_isSign_16 (by decide) ?_
      refine lv_goto (tgt := 21) hx hb dX13_isSign_17 (by decide) ?_
      obtain rfl := Option.some.inj hf
      exact k_zret (r := 1) hx hb hr hlocks rfl hK hP hD hS dX13_isSign_21
/-! MarbleFloorModel.begin()V -/
abbrev wlX13_begin : List Cond := Cond.code yX13_begin cX13_begin 1 none :: tbG
abbrev rmX13_begin : Room := { frames := 2, cells := 0, slots := 0, locals := 42 }
theorem qnX13_begin : yX13_begin.cls = RX13 ∧ yX13_begin.cls ≠ "java/lang/invoke/MethodHandle" ∧ yX13_begin.cls ≠ "java/lang/invoke/VarHandle" ∧ (parseMethodDescriptor yX13_begin.desc).map (fun d => d.parameters.length) = some 0 := by decide +kernel
def f_X13_begin_23 (r0 : Nat → Nat → Int32) (l0 : Nat → Nat → Int64)  (i0 : Nat → Int32) : Option ((Nat → Int32)) := bd (f_X13_scan (upd i0 9 (-1)) r0 l0) (fun q2 => some (q2))
set_option maxRecDepth 100000 in
set_option maxHeartbeats 4000000 in
theorem w_X13_begin_23 {p : Program} {l : Launch} {e : Env} {s : State} {m : MethodId} {args : Array Value} {below : List Frame} {meth : Method} {c : Code} {A : Nat → Prop} {D : va_G} {cs zs : Nat → Nat} {h0 : Nat} {a0 : Nat → Nat} {r0 : Nat → Nat → Int32} {l0 : Nat → Nat → Int64} {q : (Nat → Int32)} (C : Cx p s m args meth c A D cs zs cX13_begin 1 none RX13)  : ∀ (i0 : Nat → Int32) (H : Heap) (locs : List Loc) (ls : Array Slot), f_X13_begin_23 r0 l0 i0 = some q → va_P D vwCl (W13 cs h0 a0 i0 r0 l0) H → va_D A (W13 cs h0 a0 i0 r0 l0) → va_S A s.heap H locs → lv_has ls 1 [(0, .ref h0)] → W p l e rmX13_begin s m args below meth c H locs 0 0 (MQ below (Qv D cs A (W13 cs h0 a0 q r0 l0)) args s 0 0 A) (F0 m 23 ls []) := by
  obtain ⟨hx, hb, hr, hml, hown, hts, hK, hA, hlocks, hZ⟩ := id C
  intro i0 H locs ls hf hP hD hS hl
  rw [f_X13_begin_23] at hf
  refine lv_aload_n hx hb dX13_begin_23 rfl (lv_at hl 0 rfl) ?_
  refine lv_iconst (v := (-1)) hx hb dX13_begin_24 (by decide) ?_
  refine va_put (D := D) (ci := 13) (v := .int (-1)) (ty := .int) (C := RX13) (T := TX13) (N := 87) hx hb hts hiX13 tyX13 tyX13_ok nmX13 hown hK hP hD hS 0 rfl rfl 9 (by decide) (hts _ flX13_10) (fun _ h9 => h9) rfl (tyX13_ok 9 (by decide)) rfl rfl (Nat.le_of_ble_eq_true rfl) dX13_begin_25 (fun H locs hP hD hS => ?_)
  obtain ⟨hP, hD⟩ := st13_9 hP hD
  refine lv_aload_n hx hb dX13_begin_28 rfl (lv_at hl 0 rfl) ?_
  obtain ⟨q2, hq2, hf⟩ := bd_s hf
  refine k_sVv (ws2 := W13 cs h0 a0 q2 r0 l0) (As := []) (rest := []) hx hb hml hown hts hK hA hZ hl.1 hP hD hS (c_X13_scan (h0 := h0) (a0 := a0) hq2) (gVt mlX13_72 imX13_scan seX13_scan inX13 coX13_scan) rfl qnX13_scan rfl rfl ⟨Nat.le_of_ble_eq_true rfl, Nat.le_of_ble_eq_true rfl⟩ 0 13 rfl rfl rfl rfl rfl (Nat.le_of_ble_eq_true rfl) ⟨Nat.zero_le _, Nat.zero_le _⟩ dX13_begin_29 (fun H locs hP hD hS => ?_)
  obtain rfl := Option.some.inj hf
  exact k_vret hx hb hr hlocks hK hP hD hS dX13_begin_32
def f_X13_begin  (i0 : Nat → Int32) (r0 : Nat → Nat → Int32) (l0 : Nat → Nat → Int64)  : Option ((Nat → Int32)) := f_X13_begin_23 r0 l0 (upd (upd (upd (upd i0 3 (i0 2)) 2 0) 5 0) 8 0)
set_option maxRecDepth 100000 in
set_option maxHeartbeats 4000000 in
theorem c_X13_begin {l : Launch} {D : va_G} {cs zs : Nat → Nat} {h0 : Nat} {a0 : Nat → Nat} {i0 : Nat → Int32} {r0 : Nat → Nat → Int32} {l0 : Nat → Nat → Int64}  {q : (Nat → Int32)} (hf : f_X13_begin i0 r0 l0 = some q) : Mv l yX13_begin wlX13_begin rmX13_begin D cs zs [.ref h0] (W13 cs h0 a0 i0 r0 l0) (W13 cs h0 a0 q r0 l0) := by
  refine Mv.of RX13 (by decide) rfl (Nat.le_of_ble_eq_true rfl) (fun p e s m below meth c A C hP hD hS ls hl => ?_)
  generalize ([.ref h0] : List Value).toArray = args at C ⊢
  obtain ⟨hx, hb, hr, hml, hown, hts, hK, hA, hlocks, hZ⟩ := id C
  have hl : lv_has ls 1 [(0, .ref h0)] := hl
  rw [f_X13_begin] at hf
  refine lv_aload_n hx hb dX13_begin_0 rfl (lv_at hl 0 rfl) ?_
  refine lv_aload_n hx hb dX13_begin_1 rfl (lv_at hl 0 rfl) ?_
  refine va_get (D := D) (ci := 13) (v := .int (i0 2)) (C := RX13) (T := TX13) (N := 87) hx hb hts hiX13 hown hK hP 0 rfl rfl 2 (by decide) (hts _ flX13_83) (fun _ h9 => h9) rfl dX13_begin_2 ?_
  refine va_put (D := D) (ci := 13) (v := .int (i0 2)) (ty := .int) (C := RX13) (T := TX13) (N := 87) hx hb hts hiX13 tyX13 tyX13_ok nmX13 hown hK hP hD hS 0 rfl rfl 3 (by decide) (hts _ flX13_17) (fun _ h9 => h9) rfl (tyX13_ok 3 (by decide)) rfl rfl (Nat.le_of_ble_eq_true rfl) dX13_begin_5 (fun H locs hP hD hS => ?_)
  obtain ⟨hP, hD⟩ := st13_3 hP hD
  refine lv_aload_n hx hb dX13_begin_8 rfl (lv_at hl 0 rfl) ?_
  refine lv_iconst (v := 0) hx hb dX13_begin_9 (by decide) ?_
  refine va_put (D := D) (ci := 13) (v := .int 0) (ty := .int) (C := RX13) (T := TX13) (N := 87) hx hb hts hiX13 tyX13 tyX13_ok nmX13 hown hK hP hD hS 0 rfl rfl 2 (by decide) (hts _ flX13_83) (fun _ h9 => h9) rfl (tyX13_ok 2 (by decide)) rfl rfl (Nat.le_of_ble_eq_true rfl) dX13_begin_10 (fun H locs hP hD hS => ?_)
  obtain ⟨hP, hD⟩ := st13_2 hP hD
  refine lv_aload_n hx hb dX13_begin_13 rfl (lv_at hl 0 rfl) ?_
  refine lv_iconst (v := 0) hx hb dX13_begin_14 (by decide) ?_
  refine va_put (D := D) (ci := 13) (v := .int 0) (ty := .int) (C := RX13) (T := TX13) (N := 87) hx hb hts hiX13 tyX13 tyX13_ok nmX13 hown hK hP hD hS 0 rfl rfl 5 (by decide) (hts _ flX13_24) (fun _ h9 => h9) rfl (tyX13_ok 5 (by decide)) rfl rfl (Nat.le_of_ble_eq_true rfl) dX13_begin_15 (fun H locs hP hD hS => ?_)
  obtain ⟨hP, hD⟩ := st13_5 hP hD
  refine lv_aload_n hx hb dX13_begin_18 rfl (lv_at hl 0 rfl) ?_
  refine lv_iconst (v := 0) hx hb dX13_begin_19 (by decide) ?_
  refine va_put (D := D) (ci := 13) (v := .int 0) (ty := .int) (C := RX13) (T := TX13) (N := 87) hx hb hts hiX13 tyX13 tyX13_ok nmX13 hown hK hP hD hS 0 rfl rfl 8 (by decide) (hts _ flX13_3) (fun _ h9 => h9) rfl (tyX13_ok 8 (by decide)) rfl rfl (Nat.le_of_ble_eq_true rfl) dX13_begin_20 (fun H locs hP hD hS => ?_)
  obtain ⟨hP, hD⟩ := st13_8 hP hD
  exact w_X13_begin_23 C  _ _ _ _ hf hP hD hS (lv_sub hl [0] rfl)
/-! MarbleFloorModel.add(III)V -/
abbrev wlX13_add : List Cond := Cond.code yX13_add cX13_add 5 none :: tbG
abbrev rmX13_add : Room := { frames := 0, cells := 0, slots := 0, locals := 0 }
theorem qnX13_add : yX13_add.cls = RX13 ∧ yX13_add.cls ≠ "java/lang/invoke/MethodHandle" ∧ yX13_add.cls ≠ "java/lang/invoke/VarHandle" ∧ (parseMethodDescriptor yX13_add.desc).map (fun d => d.parameters.length) = some 3 := by decide +kernel
def f_X13_add_29 (i0 : Nat → Int32) (l0 : Nat → Nat → Int64)  (r0 : Nat → Nat → Int32) (x3 : Int32) (x4 : Int32) : Option ((Nat → Nat → Int32)) := ck (inb x4 320) (ck (inb 6 8) (ck (inb 6 8) (some ((va_up (va_up r0 14 (upd (r0 14) x4.toNatClampNeg x3)) 11 (upd (r0 11) (6 : Int32).toNatClampNeg ((r0 11 (6 : Int32).toNatClampNeg) + 1)))))))
set_option maxRecDepth 100000 in
set_option maxHeartbeats 4000000 in
theorem w_X13_add_29 {p : Program} {l : Launch} {e : Env} {s : State} {m : MethodId} {args : Array Value} {below : List Frame} {meth : Method} {c : Code} {A : Nat → Prop} {D : va_G} {cs zs : Nat → Nat} {h0 : Nat} {a0 : Nat → Nat} {i0 : Nat → Int32} {l0 : Nat → Nat → Int64} {q : (Nat → Nat → Int32)} (C : Cx p s m args meth c A D cs zs cX13_add 5 none RX13)  : ∀ (r0 : Nat → Nat → Int32) (x3 : Int32) (x4 : Int32) (H : Heap) (locs : List Loc) (ls : Array Slot), f_X13_add_29 i0 l0 r0 x3 x4 = some q → va_P D vwCl (W13 cs h0 a0 i0 r0 l0) H → va_D A (W13 cs h0 a0 i0 r0 l0) → va_S A s.heap H locs → lv_has ls 5 [(0, .ref h0), (3, .int x3), (4, .int x4)] → W p l e rmX13_add s m args below meth c H locs 0 0 (MQ below (Qv D cs A (W13 cs h0 a0 i0 q l0)) args s 0 0 A) (F0 m 29 ls []) := by
  obtain ⟨hx, hb, hr, hml, hown, hts, hK, hA, hlocks, hZ⟩ := id C
  intro r0 x3 x4 H locs ls hf hP hD hS hl
  rw [f_X13_add_29] at hf
  refine lv_aload_n hx hb dX13_add_29 rfl (lv_at hl 0 rfl) ?_
  refine va_get (D := D) (ci := 13) (v := .ref (a0 14)) (C := RX13) (T := TX13) (N := 87) hx hb hts hiX13 hown hK hP 0 rfl rfl 14 (by decide) (hts _ flX13_96) (fun _ h9 => h9) rfl dX13_add_30 ?_
  refine lv_iload hx hb dX13_add_33 (lv_at hl 2 rfl) ?_
  refine lv_iload_n hx hb dX13_add_35 rfl (lv_at hl 1 rfl) ?_
  refine va_iast (f := r0 14) hx hb hK hP hD hS 6 0 rfl rfl (ck_in hf) dX13_add_36 (fun H locs hP hD hS => ?_)
  have hf := ck_2 hf
  obtain ⟨hP, hD⟩ := st13_14 hP hD
  refine lv_aload_n hx hb dX13_add_37 rfl (lv_at hl 0 rfl) ?_
  refine va_get (D := D) (ci := 13) (v := .ref (a0 11)) (C := RX13) (T := TX13) (N := 87) hx hb hts hiX13 hown hK hP 0 rfl rfl 11 (by decide) (hts _ flX13_86) (fun _ h9 => h9) rfl dX13_add_38 ?_
  refine lv_bipush (v := 6) hx hb dX13_add_41 (by decide) ?_
  refine lv_dup2_11 hx hb dX13_add_43 rfl rfl ?_
  refine va_iald (f := r0 11) hx hb hK hP 3 0 rfl rfl (ck_in hf) dX13_add_44 ?_
  have hf := ck_2 hf
  refine lv_iconst (v := 1) hx hb dX13_add_45 (by decide) ?_
  refine lv_iadd hx hb dX13_add_46 ?_
  refine va_iast (f := r0 11) hx hb hK hP hD hS 3 0 rfl rfl (ck_in hf) dX13_add_47 (fun H locs hP hD hS => ?_)
  have hf := ck_2 hf
  obtain ⟨hP, hD⟩ := st13_11 hP hD
  obtain rfl := Option.some.inj hf
  exact k_vret hx hb hr hlocks hK hP hD hS dX13_add_48
def f_X13_add  (i0 : Nat → Int32) (r0 : Nat → Nat → Int32) (l0 : Nat → Nat → Int64) (x1 : Int32) (x2 : Int32) (x3 : Int32) : Option ((Nat → Nat → Int32)) := ck (inb 6 8) (ck (inb (240 + (r0 11 (6 : Int32).toNatClampNeg)) 320) (ck (inb (240 + (r0 11 (6 : Int32).toNatClampNeg)) 320) (f_X13_add_29 i0 l0 (va_up (va_up r0 12 (upd (r0 12) (240 + (r0 11 (6 : Int32).toNatClampNeg)).toNatClampNeg x1)) 13 (upd (r0 13) (240 + (r0 11 (6 : Int32).toNatClampNeg)).toNatClampNeg x2)) x3 (240 + (r0 11 (6 : Int32).toNatClampNeg)))))
set_option maxRecDepth 100000 in
set_option maxHeartbeats 4000000 in
theorem c_X13_add {l : Launch} {D : va_G} {cs zs : Nat → Nat} {h0 : Nat} {a0 : Nat → Nat} {i0 : Nat → Int32} {r0 : Nat → Nat → Int32} {l0 : Nat → Nat → Int64} {x1 : Int32} {x2 : Int32} {x3 : Int32} {q : (Nat → Nat → Int32)} (hf : f_X13_add i0 r0 l0 x1 x2 x3 = some q) : Mv l yX13_add wlX13_add rmX13_add D cs zs [.ref h0, .int x1, .int x2, .int x3] (W13 cs h0 a0 i0 r0 l0) (W13 cs h0 a0 i0 q l0) := by
  refine Mv.of RX13 (by decide) rfl (Nat.le_of_ble_eq_true rfl) (fun p e s m below meth c A C hP hD hS ls hl => ?_)
  generalize ([.ref h0, .int x1, .int x2, .int x3] : List Value).toArray = args at C ⊢
  obtain ⟨hx, hb, hr, hml, hown, hts, hK, hA, hlocks, hZ⟩ := id C
  have hl : lv_has ls 5 [(0, .ref h0), (1, .int x1), (2, .int x2), (3, .int x3)] := hl
  rw [f_X13_add] at hf
  refine lv_sipush (v := 240) hx hb dX13_add_0 (by decide) ?_
  refine lv_aload_n hx hb dX13_add_3 rfl (lv_at hl 0 rfl) ?_
  refine va_get (D := D) (ci := 13) (v := .ref (a0 11)) (C := RX13) (T := TX13) (N := 87) hx hb hts hiX13 hown hK hP 0 rfl rfl 11 (by decide) (hts _ flX13_86) (fun _ h9 => h9) rfl dX13_add_4 ?_
  refine lv_bipush (v := 6) hx hb dX13_add_7 (by decide) ?_
  refine va_iald (f := r0 11) hx hb hK hP 3 0 rfl rfl (ck_in hf) dX13_add_9 ?_
  have hf := ck_2 hf
  refine lv_iadd hx hb dX13_add_10 ?_
  refine lv_istore (lv' := [(4, .int (240 + (r0 11 (6 : Int32).toNatClampNeg))), (0, .ref h0), (1, .int x1), (2, .int x2), (3, .int x3)]) hx hb dX13_add_11 hl (by decide) rfl (fun ls hl => ?_)
  refine lv_aload_n hx hb dX13_add_13 rfl (lv_at hl 1 rfl) ?_
  refine va_get (D := D) (ci := 13) (v := .ref (a0 12)) (C := RX13) (T := TX13) (N := 87) hx hb hts hiX13 hown hK hP 0 rfl rfl 12 (by decide) (hts _ flX13_90) (fun _ h9 => h9) rfl dX13_add_14 ?_
  refine lv_iload hx hb dX13_add_17 (lv_at hl 0 rfl) ?_
  refine lv_iload_n hx hb dX13_add_19 rfl (lv_at hl 2 rfl) ?_
  refine va_iast (f := r0 12) hx hb hK hP hD hS 4 0 rfl rfl (ck_in hf) dX13_add_20 (fun H locs hP hD hS => ?_)
  have hf := ck_2 hf
  obtain ⟨hP, hD⟩ := st13_12 hP hD
  refine lv_aload_n hx hb dX13_add_21 rfl (lv_at hl 1 rfl) ?_
  refine va_get (D := D) (ci := 13) (v := .ref (a0 13)) (C := RX13) (T := TX13) (N := 87) hx hb hts hiX13 hown hK hP 0 rfl rfl 13 (by decide) (hts _ flX13_93) (fun _ h9 => h9) rfl dX13_add_22 ?_
  refine lv_iload hx hb dX13_add_25 (lv_at hl 0 rfl) ?_
  refine lv_iload_n hx hb dX13_add_27 rfl (lv_at hl 3 rfl) ?_
  refine va_iast (f := r0 13) hx hb hK hP hD hS 5 0 rfl rfl (ck_in hf) dX13_add_28 (fun H locs hP hD hS => ?_)
  have hf := ck_2 hf
  obtain ⟨hP, hD⟩ := st13_13 hP hD
  exact w_X13_add_29 C  _ _ _ _ _ _ hf hP hD hS (lv_sub hl [1, 4, 0] rfl)
/-! MarbleFloorModel.copyFloor(II)V -/
abbrev wlX13_copyFloor : List Cond := Cond.code yX13_copyFloor cX13_copyFloor 4 none :: tbG
abbrev rmX13_copyFloor : Room := { frames := 0, cells := 0, slots := 0, locals := 0 }
theorem qnX13_copyFloor : yX13_copyFloor.cls = RX13 ∧ yX13_copyFloor.cls ≠ "java/lang/invoke/MethodHandle" ∧ yX13_copyFloor.cls ≠ "java/lang/invoke/VarHandle" ∧ (parseMethodDescriptor yX13_copyFloor.desc).map (fun d => d.parameters.length) = some 2 := by decide +kernel
def f_X13_copyFloor_80 (i0 : Nat → Int32) (l0 : Nat → Nat → Int64) (K26 : (Nat → Nat → Int32) → Int32 → Int32 → Int32 → Option ((Nat → Nat → Int32))) (r0 : Nat → Nat → Int32) (x1 : Int32) (x2 : Int32) (x3 : Int32) : Option ((Nat → Nat → Int32)) := ck (inb ((40 * x1) + x3) 320) (ck (inb ((40 * x2) + x3) 320) (K26 (va_up r0 14 (upd (r0 14) ((40 * x2) + x3).toNatClampNeg (r0 14 ((40 * x1) + x3).toNatClampNeg))) x1 x2 (x3 + 1)))
set_option maxRecDepth 100000 in
set_option maxHeartbeats 4000000 in
theorem w_X13_copyFloor_80 {p : Program} {l : Launch} {e : Env} {s : State} {m : MethodId} {args : Array Value} {below : List Frame} {meth : Method} {c : Code} {A : Nat → Prop} {D : va_G} {cs zs : Nat → Nat} {h0 : Nat} {a0 : Nat → Nat} {i0 : Nat → Int32} {l0 : Nat → Nat → Int64} {q : (Nat → Nat → Int32)} (C : Cx p s m args meth c A D cs zs cX13_copyFloor 4 none RX13) (K26 : (Nat → Nat → Int32) → Int32 → Int32 → Int32 → Option ((Nat → Nat → Int32))) (hK26 : ∀ (r0 : Nat → Nat → Int32) (x1 : Int32) (x2 : Int32) (x3 : Int32) (H : Heap) (locs : List Loc) (ls : Array Slot), K26 r0 x1 x2 x3 = some q → va_P D vwCl (W13 cs h0 a0 i0 r0 l0) H → va_D A (W13 cs h0 a0 i0 r0 l0) → va_S A s.heap H locs → lv_has ls 4 [(0, .ref h0), (1, .int x1), (2, .int x2), (3, .int x3)] → W p l e rmX13_copyFloor s m args below meth c H locs 0 0 (MQ below (Qv D cs A (W13 cs h0 a0 i0 q l0)) args s 0 0 A) (F0 m 26 ls [])) : ∀ (r0 : Nat → Nat → Int32) (x1 : Int32) (x2 : Int32) (x3 : Int32) (H : Heap) (locs : List Loc) (ls : Array Slot), f_X13_copyFloor_80 i0 l0 K26 r0 x1 x2 x3 = some q → va_P D vwCl (W13 cs h0 a0 i0 r0 l0) H → va_D A (W13 cs h0 a0 i0 r0 l0) → va_S A s.heap H locs → lv_has ls 4 [(0, .ref h0), (1, .int x1), (2, .int x2), (3, .int x3)] → W p l e rmX13_copyFloor s m args below meth c H locs 0 0 (MQ below (Qv D cs A (W13 cs h0 a0 i0 q l0)) args s 0 0 A) (F0 m 80 ls []) := by
  obtain ⟨hx, hb, hr, hml, hown, hts, hK, hA, hlocks, hZ⟩ := id C
  intro r0 x1 x2 x3 H locs ls hf hP hD hS hl
  rw [f_X13_copyFloor_80] at hf
  refine lv_aload_n hx hb dX13_copyFloor_80 rfl (lv_at hl 0 rfl) ?_
  refine va_get (D := D) (ci := 13) (v := .ref (a0 14)) (C := RX13) (T := TX13) (N := 87) hx hb hts hiX13 hown hK hP 0 rfl rfl 14 (by decide) (hts _ flX13_96) (fun _ h9 => h9) rfl dX13_copyFloor_81 ?_
  refine lv_bipush (v := 40) hx hb dX13_copyFloor_84 (by decide) ?_
  refine lv_iload_n hx hb dX13_copyFloor_86 rfl (lv_at hl 2 rfl) ?_
  refine lv_imul hx hb dX13_copyFloor_87 ?_
  refine lv_iload_n hx hb dX13_copyFloor_88 rfl (lv_at hl 3 rfl) ?_
  refine lv_iadd hx hb dX13_copyFloor_89 ?_
  refine lv_aload_n hx hb dX13_copyFloor_90 rfl (lv_at hl 0 rfl) ?_
  refine va_get (D := D) (ci := 13) (v := .ref (a0 14)) (C := RX13) (T := TX13) (N := 87) hx hb hts hiX13 hown hK hP 0 rfl rfl 14 (by decide) (hts _ flX13_96) (fun _ h9 => h9) rfl dX13_copyFloor_91 ?_
  refine lv_bipush (v := 40) hx hb dX13_copyFloor_94 (by decide) ?_
  refine lv_iload_n hx hb dX13_copyFloor_96 rfl (lv_at hl 1 rfl) ?_
  refine lv_imul hx hb dX13_copyFloor_97 ?_
  refine lv_iload_n hx hb dX13_copyFloor_98 rfl (lv_at hl 3 rfl) ?_
  refine lv_iadd hx hb dX13_copyFloor_99 ?_
  refine va_iald (f := r0 14) hx hb hK hP 6 0 rfl rfl (ck_in hf) dX13_copyFloor_100 ?_
  have hf := ck_2 hf
  refine va_iast (f := r0 14) hx hb hK hP hD hS 6 0 rfl rfl (ck_in hf) dX13_copyFloor_101 (fun H locs hP hD hS => ?_)
  have hf := ck_2 hf
  obtain ⟨hP, hD⟩ := st13_14 hP hD
  refine lv_iinc (v := x3 + 1) (lv' := [(3, .int (x3 + 1)), (0, .ref h0), (1, .int x1), (2, .int x2)]) hx hb dX13_copyFloor_102 hl (k := 3) rfl rfl (by decide) rfl (fun ls hl => ?_)
  refine lv_goto (tgt := 26) hx hb dX13_copyFloor_105 (by decide) ?_
  exact hK26 _ _ _ _ _ _ _ hf hP hD hS (lv_sub hl [1, 2, 3, 0] rfl)
def f_X13_copyFloor_26 (i0 : Nat → Int32) (l0 : Nat → Nat → Int64)  : Nat → (Nat → Nat → Int32) → Int32 → Int32 → Int32 → Option ((Nat → Nat → Int32))
  | 0, _, _, _, _ => none
  | n + 1, r0, x1, x2, x3 => ck (inb x1 8) (if (r0 11 x1.toNatClampNeg) ≤ x3 then (some (r0)) else (ck (inb ((40 * x1) + x3) 320) (ck (inb ((40 * x2) + x3) 320) (ck (inb ((40 * x1) + x3) 320) (ck (inb ((40 * x2) + x3) 320) (f_X13_copyFloor_80 i0 l0 (f_X13_copyFloor_26 i0 l0 n) (va_up (va_up r0 12 (upd (r0 12) ((40 * x2) + x3).toNatClampNeg (r0 12 ((40 * x1) + x3).toNatClampNeg))) 13 (upd (r0 13) ((40 * x2) + x3).toNatClampNeg (r0 13 ((40 * x1) + x3).toNatClampNeg))) x1 x2 x3))))))
set_option maxRecDepth 100000 in
set_option maxHeartbeats 4000000 in
theorem w_X13_copyFloor_26 {p : Program} {l : Launch} {e : Env} {s : State} {m : MethodId} {args : Array Value} {below : List Frame} {meth : Method} {c : Code} {A : Nat → Prop} {D : va_G} {cs zs : Nat → Nat} {h0 : Nat} {a0 : Nat → Nat} {i0 : Nat → Int32} {l0 : Nat → Nat → Int64} {q : (Nat → Nat → Int32)} (C : Cx p s m args meth c A D cs zs cX13_copyFloor 4 none RX13)  : ∀ (n : Nat), ∀ (r0 : Nat → Nat → Int32) (x1 : Int32) (x2 : Int32) (x3 : Int32) (H : Heap) (locs : List Loc) (ls : Array Slot), f_X13_copyFloor_26 i0 l0 n r0 x1 x2 x3 = some q → va_P D vwCl (W13 cs h0 a0 i0 r0 l0) H → va_D A (W13 cs h0 a0 i0 r0 l0) → va_S A s.heap H locs → lv_has ls 4 [(0, .ref h0), (1, .int x1), (2, .int x2), (3, .int x3)] → W p l e rmX13_copyFloor s m args below meth c H locs 0 0 (MQ below (Qv D cs A (W13 cs h0 a0 i0 q l0)) args s 0 0 A) (F0 m 26 ls []) := by
  obtain ⟨hx, hb, hr, hml, hown, hts, hK, hA, hlocks, hZ⟩ := id C
  intro n
  induction n with
  | zero =>
    intro r0 x1 x2 x3 H locs ls hf
    rw [f_X13_copyFloor_26] at hf
    cases hf
  | succ n ih =>
    intro r0 x1 x2 x3 H locs ls hf hP hD hS hl
    rw [f_X13_copyFloor_26] at hf
    refine lv_iload_n hx hb dX13_copyFloor_26 rfl (lv_at hl 3 rfl) ?_
    refine lv_aload_n hx hb dX13_copyFloor_27 rfl (lv_at hl 0 rfl) ?_
    refine va_get (D := D) (ci := 13) (v := .ref (a0 11)) (C := RX13) (T := TX13) (N := 87) hx hb hts hiX13 hown hK hP 0 rfl rfl 11 (by decide) (hts _ flX13_86) (fun _ h9 => h9) rfl dX13_copyFloor_28 ?_
    refine lv_iload_n hx hb dX13_copyFloor_31 rfl (lv_at hl 1 rfl) ?_
    refine va_iald (f := r0 11) hx hb hK hP 3 0 rfl rfl (ck_in hf) dX13_copyFloor_32 ?_
    have hf := ck_2 hf
    refine lv_icmp_ge (tgt := 108) hx hb dX13_copyFloor_33 (by decide) (fun hc => ?_) (fun hc => ?_)
    · have hf := ite_t hf hc
      obtain rfl := Option.some.inj hf
      exact k_vret hx hb hr hlocks hK hP hD hS dX13_copyFloor_108
    · have hf := ite_f hf hc
      refine lv_aload_n hx hb dX13_copyFloor_36 rfl (lv_at hl 0 rfl) ?_
      refine va_get (D := D) (ci := 13) (v := .ref (a0 12)) (C := RX13) (T := TX13) (N := 87) hx hb hts hiX13 hown hK hP 0 rfl rfl 12 (by decide) (hts _ flX13_90) (fun _ h9 => h9) rfl dX13_copyFloor_37 ?_
      refine lv_bipush (v := 40) hx hb dX13_copyFloor_40 (by decide) ?_
      refine lv_iload_n hx hb dX13_copyFloor_42 rfl (lv_at hl 2 rfl) ?_
      refine lv_imul hx hb dX13_copyFloor_43 ?_
      refine lv_iload_n hx hb dX13_copyFloor_44 rfl (lv_at hl 3 rfl) ?_
      refine lv_iadd hx hb dX13_copyFloor_45 ?_
      refine lv_aload_n hx hb dX13_copyFloor_46 rfl (lv_at hl 0 rfl) ?_
      refine va_get (D := D) (ci := 13) (v := .ref (a0 12)) (C := RX13) (T := TX13) (N := 87) hx hb hts hiX13 hown hK hP 0 rfl rfl 12 (by decide) (hts _ flX13_90) (fun _ h9 => h9) rfl dX13_copyFloor_47 ?_
      refine lv_bipush (v := 40) hx hb dX13_copyFloor_50 (by decide) ?_
      refine lv_iload_n hx hb dX13_copyFloor_52 rfl (lv_at hl 1 rfl) ?_
      refine lv_imul hx hb dX13_copyFloor_53 ?_
      refine lv_iload_n hx hb dX13_copyFloor_54 rfl (lv_at hl 3 rfl) ?_
      refine lv_iadd hx hb dX13_copyFloor_55 ?_
      refine va_iald (f := r0 12) hx hb hK hP 4 0 rfl rfl (ck_in hf) dX13_copyFloor_56 ?_
      have hf := ck_2 hf
      refine va_iast (f := r0 12) hx hb hK hP hD hS 4 0 rfl rfl (ck_in hf) dX13_copyFloor_57 (fun H locs hP hD hS => ?_)
      have hf := ck_2 hf
      obtain ⟨hP, hD⟩ := st13_12 hP hD
      refine lv_aload_n hx hb dX13_copyFloor_58 rfl (lv_at hl 0 rfl) ?_
      refine va_get (D := D) (ci := 13) (v := .ref (a0 13)) (C := RX13) (T := TX13) (N := 87) hx hb hts hiX13 hown hK hP 0 rfl rfl 13 (by decide) (hts _ flX13_93) (fun _ h9 => h9) rfl dX13_copyFloor_59 ?_
      refine lv_bipush (v := 40) hx hb dX13_copyFloor_62 (by decide) ?_
      refine lv_iload_n hx hb dX13_copyFloor_64 rfl (lv_at hl 2 rfl) ?_
      refine lv_imul hx hb dX13_copyFloor_65 ?_
      refine lv_iload_n hx hb dX13_copyFloor_66 rfl (lv_at hl 3 rfl) ?_
      refine lv_iadd hx hb dX13_copyFloor_67 ?_
      refine lv_aload_n hx hb dX13_copyFloor_68 rfl (lv_at hl 0 rfl) ?_
      refine va_get (D := D) (ci := 13) (v := .ref (a0 13)) (C := RX13) (T := TX13) (N := 87) hx hb hts hiX13 hown hK hP 0 rfl rfl 13 (by decide) (hts _ flX13_93) (fun _ h9 => h9) rfl dX13_copyFloor_69 ?_
      refine lv_bipush (v := 40) hx hb dX13_copyFloor_72 (by decide) ?_
      refine lv_iload_n hx hb dX13_copyFloor_74 rfl (lv_at hl 1 rfl) ?_
      refine lv_imul hx hb dX13_copyFloor_75 ?_
      refine lv_iload_n hx hb dX13_copyFloor_76 rfl (lv_at hl 3 rfl) ?_
      refine lv_iadd hx hb dX13_copyFloor_77 ?_
      refine va_iald (f := r0 13) hx hb hK hP 5 0 rfl rfl (ck_in hf) dX13_copyFloor_78 ?_
      have hf := ck_2 hf
      refine va_iast (f := r0 13) hx hb hK hP hD hS 5 0 rfl rfl (ck_in hf) dX13_copyFloor_79 (fun H locs hP hD hS => ?_)
      have hf := ck_2 hf
      obtain ⟨hP, hD⟩ := st13_13 hP hD
      exact w_X13_copyFloor_80 C _ (ih) _ _ _ _ _ _ _ hf hP hD hS (lv_sub hl [0, 1, 2, 3] rfl)
def f_X13_copyFloor_24 (i0 : Nat → Int32) (l0 : Nat → Nat → Int64)  (r0 : Nat → Nat → Int32) (x1 : Int32) (x2 : Int32) : Option ((Nat → Nat → Int32)) := f_X13_copyFloor_26 i0 l0 2000000 r0 x1 x2 0
set_option maxRecDepth 100000 in
set_option maxHeartbeats 4000000 in
theorem w_X13_copyFloor_24 {p : Program} {l : Launch} {e : Env} {s : State} {m : MethodId} {args : Array Value} {below : List Frame} {meth : Method} {c : Code} {A : Nat → Prop} {D : va_G} {cs zs : Nat → Nat} {h0 : Nat} {a0 : Nat → Nat} {i0 : Nat → Int32} {l0 : Nat → Nat → Int64} {q : (Nat → Nat → Int32)} (C : Cx p s m args meth c A D cs zs cX13_copyFloor 4 none RX13)  : ∀ (r0 : Nat → Nat → Int32) (x1 : Int32) (x2 : Int32) (H : Heap) (locs : List Loc) (ls : Array Slot), f_X13_copyFloor_24 i0 l0 r0 x1 x2 = some q → va_P D vwCl (W13 cs h0 a0 i0 r0 l0) H → va_D A (W13 cs h0 a0 i0 r0 l0) → va_S A s.heap H locs → lv_has ls 4 [(0, .ref h0), (1, .int x1), (2, .int x2)] → W p l e rmX13_copyFloor s m args below meth c H locs 0 0 (MQ below (Qv D cs A (W13 cs h0 a0 i0 q l0)) args s 0 0 A) (F0 m 24 ls []) := by
  obtain ⟨hx, hb, hr, hml, hown, hts, hK, hA, hlocks, hZ⟩ := id C
  intro r0 x1 x2 H locs ls hf hP hD hS hl
  rw [f_X13_copyFloor_24] at hf
  refine lv_iconst (v := 0) hx hb dX13_copyFloor_24 (by decide) ?_
  refine lv_istore_n (lv' := [(3, .int 0), (0, .ref h0), (1, .int x1), (2, .int x2)]) hx hb dX13_copyFloor_25 rfl hl (by decide) rfl (fun ls hl => ?_)
  exact w_X13_copyFloor_26 C  2000000 _ _ _ _ _ _ _ hf hP hD hS (lv_sub hl [1, 2, 3, 0] rfl)
def f_X13_copyFloor  (i0 : Nat → Int32) (r0 : Nat → Nat → Int32) (l0 : Nat → Nat → Int64) (x1 : Int32) (x2 : Int32) : Option ((Nat → Nat → Int32)) := ck (inb x1 8) (ck (inb x2 8) (ck (inb x1 8) (ck (inb x2 8) (f_X13_copyFloor_24 i0 l0 (va_up (va_up r0 10 (upd (r0 10) x2.toNatClampNeg (r0 10 x1.toNatClampNeg))) 11 (upd (r0 11) x2.toNatClampNeg (r0 11 x1.toNatClampNeg))) x1 x2))))
set_option maxRecDepth 100000 in
set_option maxHeartbeats 4000000 in
theorem c_X13_copyFloor {l : Launch} {D : va_G} {cs zs : Nat → Nat} {h0 : Nat} {a0 : Nat → Nat} {i0 : Nat → Int32} {r0 : Nat → Nat → Int32} {l0 : Nat → Nat → Int64} {x1 : Int32} {x2 : Int32} {q : (Nat → Nat → Int32)} (hf : f_X13_copyFloor i0 r0 l0 x1 x2 = some q) : Mv l yX13_copyFloor wlX13_copyFloor rmX13_copyFloor D cs zs [.ref h0, .int x1, .int x2] (W13 cs h0 a0 i0 r0 l0) (W13 cs h0 a0 i0 q l0) := by
  refine Mv.of RX13 (by decide) rfl (Nat.le_of_ble_eq_true rfl) (fun p e s m below meth c A C hP hD hS ls hl => ?_)
  generalize ([.ref h0, .int x1, .int x2] : List Value).toArray = args at C ⊢
  obtain ⟨hx, hb, hr, hml, hown, hts, hK, hA, hlocks, hZ⟩ := id C
  have hl : lv_has ls 4 [(0, .ref h0), (1, .int x1), (2, .int x2)] := hl
  rw [f_X13_copyFloor] at hf
  refine lv_aload_n hx hb dX13_copyFloor_0 rfl (lv_at hl 0 rfl) ?_
  refine va_get (D := D) (ci := 13) (v := .ref (a0 10)) (C := RX13) (T := TX13) (N := 87) hx hb hts hiX13 hown hK hP 0 rfl rfl 10 (by decide) (hts _ flX13_99) (fun _ h9 => h9) rfl dX13_copyFloor_1 ?_
  refine lv_iload_n hx hb dX13_copyFloor_4 rfl (lv_at hl 2 rfl) ?_
  refine lv_aload_n hx hb dX13_copyFloor_5 rfl (lv_at hl 0 rfl) ?_
  refine va_get (D := D) (ci := 13) (v := .ref (a0 10)) (C := RX13) (T := TX13) (N := 87) hx hb hts hiX13 hown hK hP 0 rfl rfl 10 (by decide) (hts _ flX13_99) (fun _ h9 => h9) rfl dX13_copyFloor_6 ?_
  refine lv_iload_n hx hb dX13_copyFloor_9 rfl (lv_at hl 1 rfl) ?_
  refine va_iald (f := r0 10) hx hb hK hP 2 0 rfl rfl (ck_in hf) dX13_copyFloor_10 ?_
  have hf := ck_2 hf
  refine va_iast (f := r0 10) hx hb hK hP hD hS 2 0 rfl rfl (ck_in hf) dX13_copyFloor_11 (fun H locs hP hD hS => ?_)
  have hf := ck_2 hf
  obtain ⟨hP, hD⟩ := st13_10 hP hD
  refine lv_aload_n hx hb dX13_copyFloor_12 rfl (lv_at hl 0 rfl) ?_
  refine va_get (D := D) (ci := 13) (v := .ref (a0 11)) (C := RX13) (T := TX13) (N := 87) hx hb hts hiX13 hown hK hP 0 rfl rfl 11 (by decide) (hts _ flX13_86) (fun _ h9 => h9) rfl dX13_copyFloor_13 ?_
  refine lv_iload_n hx hb dX13_copyFloor_16 rfl (lv_at hl 2 rfl) ?_
  refine lv_aload_n hx hb dX13_copyFloor_17 rfl (lv_at hl 0 rfl) ?_
  refine va_get (D := D) (ci := 13) (v := .ref (a0 11)) (C := RX13) (T := TX13) (N := 87) hx hb hts hiX13 hown hK hP 0 rfl rfl 11 (by decide) (hts _ flX13_86) (fun _ h9 => h9) rfl dX13_copyFloor_18 ?_
  refine lv_iload_n hx hb dX13_copyFloor_21 rfl (lv_at hl 1 rfl) ?_
  refine va_iald (f := r0 11) hx hb hK hP 3 0 rfl rfl (ck_in hf) dX13_copyFloor_22 ?_
  have hf := ck_2 hf
  refine va_iast (f := r0 11) hx hb hK hP hD hS 3 0 rfl rfl (ck_in hf) dX13_copyFloor_23 (fun H locs hP hD hS => ?_)
  have hf := ck_2 hf
  obtain ⟨hP, hD⟩ := st13_11 hP hD
  exact w_X13_copyFloor_24 C  _ _ _ _ _ _ hf hP hD hS (lv_sub hl [0, 1, 2] rfl)
/-! MarbleFloorModel.putFour(I)V -/
abbrev wlX13_putFour : List Cond := Cond.code yX13_putFour cX13_putFour 3 none :: tbG
abbrev rmX13_putFour : Room := { frames := 0, cells := 0, slots := 0, locals := 0 }
theorem qnX13_putFour : yX13_putFour.cls = RX13 ∧ yX13_putFour.cls ≠ "java/lang/invoke/MethodHandle" ∧ yX13_putFour.cls ≠ "java/lang/invoke/VarHandle" ∧ (parseMethodDescriptor yX13_putFour.desc).map (fun d => d.parameters.length) = some 1 := by decide +kernel
def f_X13_putFour_3 (l0 : Nat → Nat → Int64)  : Nat → (Nat → Int32) → (Nat → Nat → Int32) → Int32 → Int32 → Option ((Nat → Int32) × (Nat → Nat → Int32))
  | 0, _, _, _, _ => none
  | n + 1, i0, r0, x1, x2 => if x2 < 0 then (some (i0, r0)) else (ck (inb (i0 2) 900) (f_X13_putFour_3 l0 n (upd i0 2 ((i0 2) + 1)) (va_up r0 1 (upd (r0 1) (i0 2).toNatClampNeg (vp_nar .byte ((x1 >>> (x2 &&& 31)).toInt8.toInt32)))) x1 (x2 + (-8))))
set_option maxRecDepth 100000 in
set_option maxHeartbeats 4000000 in
theorem w_X13_putFour_3 {p : Program} {l : Launch} {e : Env} {s : State} {m : MethodId} {args : Array Value} {below : List Frame} {meth : Method} {c : Code} {A : Nat → Prop} {D : va_G} {cs zs : Nat → Nat} {h0 : Nat} {a0 : Nat → Nat} {l0 : Nat → Nat → Int64} {q : (Nat → Int32) × (Nat → Nat → Int32)} (C : Cx p s m args meth c A D cs zs cX13_putFour 3 none RX13)  : ∀ (n : Nat), ∀ (i0 : Nat → Int32) (r0 : Nat → Nat → Int32) (x1 : Int32) (x2 : Int32) (H : Heap) (locs : List Loc) (ls : Array Slot), f_X13_putFour_3 l0 n i0 r0 x1 x2 = some q → va_P D vwCl (W13 cs h0 a0 i0 r0 l0) H → va_D A (W13 cs h0 a0 i0 r0 l0) → va_S A s.heap H locs → lv_has ls 3 [(0, .ref h0), (1, .int x1), (2, .int x2)] → W p l e rmX13_putFour s m args below meth c H locs 0 0 (MQ below (Qv D cs A (W13 cs h0 a0 q.1 q.2 l0)) args s 0 0 A) (F0 m 3 ls []) := by
  obtain ⟨hx, hb, hr, hml, hown, hts, hK, hA, hlocks, hZ⟩ := id C
  intro n
  induction n with
  | zero =>
    intro i0 r0 x1 x2 H locs ls hf
    rw [f_X13_putFour_3] at hf
    cases hf
  | succ n ih =>
    intro i0 r0 x1 x2 H locs ls hf hP hD hS hl
    rw [f_X13_putFour_3] at hf
    refine lv_iload_n hx hb dX13_putFour_3 rfl (lv_at hl 2 rfl) ?_
    refine lv_if_lt (tgt := 36) hx hb dX13_putFour_4 (by decide) (fun hc => ?_) (fun hc => ?_)
    · have hf := ite_t hf hc
      obtain rfl := Option.some.inj hf
      exact k_vret hx hb hr hlocks hK hP hD hS dX13_putFour_36
    · have hf := ite_f hf hc
      refine lv_aload_n hx hb dX13_putFour_7 rfl (lv_at hl 0 rfl) ?_
      refine va_get (D := D) (ci := 13) (v := .ref (a0 1)) (C := RX13) (T := TX13) (N := 87) hx hb hts hiX13 hown hK hP 0 rfl rfl 1 (by decide) (hts _ flX13_20) (fun _ h9 => h9) rfl dX13_putFour_8 ?_
      refine lv_aload_n hx hb dX13_putFour_11 rfl (lv_at hl 0 rfl) ?_
      refine va_get (D := D) (ci := 13) (v := .int (i0 2)) (C := RX13) (T := TX13) (N := 87) hx hb hts hiX13 hown hK hP 0 rfl rfl 2 (by decide) (hts _ flX13_83) (fun _ h9 => h9) rfl dX13_putFour_12 ?_
      refine lv_iload_n hx hb dX13_putFour_15 rfl (lv_at hl 1 rfl) ?_
      refine lv_iload_n hx hb dX13_putFour_16 rfl (lv_at hl 2 rfl) ?_
      refine lv_ishr hx hb dX13_putFour_17 ?_
      refine lv_i2b hx hb dX13_putFour_18 rfl ?_
      refine va_bast (f := r0 1) hx hb hK hP hD hS 1 3 rfl rfl (ck_in hf) dX13_putFour_19 (fun H locs hP hD hS => ?_)
      have hf := ck_2 hf
      obtain ⟨hP, hD⟩ := st13_1 hP hD
      refine lv_aload_n hx hb dX13_putFour_20 rfl (lv_at hl 0 rfl) ?_
      refine lv_dup hx hb dX13_putFour_21 rfl ?_
      refine va_get (D := D) (ci := 13) (v := .int (i0 2)) (C := RX13) (T := TX13) (N := 87) hx hb hts hiX13 hown hK hP 0 rfl rfl 2 (by decide) (hts _ flX13_83) (fun _ h9 => h9) rfl dX13_putFour_22 ?_
      refine lv_iconst (v := 1) hx hb dX13_putFour_25 (by decide) ?_
      refine lv_iadd hx hb dX13_putFour_26 ?_
      refine va_put (D := D) (ci := 13) (v := .int ((i0 2) + 1)) (ty := .int) (C := RX13) (T := TX13) (N := 87) hx hb hts hiX13 tyX13 tyX13_ok nmX13 hown hK hP hD hS 0 rfl rfl 2 (by decide) (hts _ flX13_83) (fun _ h9 => h9) rfl (tyX13_ok 2 (by decide)) rfl rfl (Nat.le_of_ble_eq_true rfl) dX13_putFour_27 (fun H locs hP hD hS => ?_)
      obtain ⟨hP, hD⟩ := st13_2 hP hD
      refine lv_iinc (v := x2 + (-8)) (lv' := [(2, .int (x2 + (-8))), (0, .ref h0), (1, .int x1)]) hx hb dX13_putFour_30 hl (k := 2) rfl rfl (by decide) rfl (fun ls hl => ?_)
      refine lv_goto (tgt := 3) hx hb dX13_putFour_33 (by decide) ?_
      exact ih _ _ _ _ _ _ _ hf hP hD hS (lv_sub hl [1, 2, 0] rfl)
def f_X13_putFour  (i0 : Nat → Int32) (r0 : Nat → Nat → Int32) (l0 : Nat → Nat → Int64) (x1 : Int32) : Option ((Nat → Int32) × (Nat → Nat → Int32)) := f_X13_putFour_3 l0 2000000 i0 r0 x1 24
set_option maxRecDepth 100000 in
set_option maxHeartbeats 4000000 in
theorem c_X13_putFour {l : Launch} {D : va_G} {cs zs : Nat → Nat} {h0 : Nat} {a0 : Nat → Nat} {i0 : Nat → Int32} {r0 : Nat → Nat → Int32} {l0 : Nat → Nat → Int64} {x1 : Int32} {q : (Nat → Int32) × (Nat → Nat → Int32)} (hf : f_X13_putFour i0 r0 l0 x1 = some q) : Mv l yX13_putFour wlX13_putFour rmX13_putFour D cs zs [.ref h0, .int x1] (W13 cs h0 a0 i0 r0 l0) (W13 cs h0 a0 q.1 q.2 l0) := by
  refine Mv.of RX13 (by decide) rfl (Nat.le_of_ble_eq_true rfl) (fun p e s m below meth c A C hP hD hS ls hl => ?_)
  generalize ([.ref h0, .int x1] : List Value).toArray = args at C ⊢
  obtain ⟨hx, hb, hr, hml, hown, hts, hK, hA, hlocks, hZ⟩ := id C
  have hl : lv_has ls 3 [(0, .ref h0), (1, .int x1)] := hl
  rw [f_X13_putFour] at hf
  refine lv_bipush (v := 24) hx hb dX13_putFour_0 (by decide) ?_
  refine lv_istore_n (lv' := [(2, .int 24), (0, .ref h0), (1, .int x1)]) hx hb dX13_putFour_2 rfl hl (by decide) rfl (fun ls hl => ?_)
  exact w_X13_putFour_3 C  2000000 _ _ _ _ _ _ _ hf hP hD hS (lv_sub hl [1, 2, 0] rfl)
/-! MarbleFloorModel.feed(IIIII)I -/
abbrev wlX13_feed : List Cond := Cond.code yX13_feed cX13_feed 6 (some .int) :: tbG
abbrev rmX13_feed : Room := { frames := 1, cells := 0, slots := 0, locals := 22 }
theorem qnX13_feed : yX13_feed.cls = RX13 ∧ yX13_feed.cls ≠ "java/lang/invoke/MethodHandle" ∧ yX13_feed.cls ≠ "java/lang/invoke/VarHandle" ∧ (parseMethodDescriptor yX13_feed.desc).map (fun d => d.parameters.length) = some 5 := by decide +kernel
def f_X13_feed  (i0 : Nat → Int32) (r0 : Nat → Nat → Int32) (l0 : Nat → Nat → Int64) (x1 : Int32) (x2 : Int32) (x3 : Int32) (x4 : Int32) (x5 : Int32) : Option (Int32 × (Nat → Int32) × (Nat → Nat → Int32)) := if ((i0 2) + 20) ≤ 900 then (bd (f_X13_putFour i0 r0 l0 x1) (fun q6 => bd (f_X13_putFour q6.1 q6.2 l0 x2) (fun q7 => bd (f_X13_putFour q7.1 q7.2 l0 x3) (fun q8 => bd (f_X13_putFour q8.1 q8.2 l0 x4) (fun q9 => bd (f_X13_putFour q9.1 q9.2 l0 x5) (fun q10 => some (q10.1 2, q10.1, q10.2))))))) else (some ((-3), i0, r0))
set_option maxRecDepth 100000 in
set_option maxHeartbeats 4000000 in
theorem c_X13_feed {l : Launch} {D : va_G} {cs zs : Nat → Nat} {h0 : Nat} {a0 : Nat → Nat} {i0 : Nat → Int32} {r0 : Nat → Nat → Int32} {l0 : Nat → Nat → Int64} {x1 : Int32} {x2 : Int32} {x3 : Int32} {x4 : Int32} {x5 : Int32} {q : Int32 × (Nat → Int32) × (Nat → Nat → Int32)} (hf : f_X13_feed i0 r0 l0 x1 x2 x3 x4 x5 = some q) : Mi l yX13_feed wlX13_feed rmX13_feed D cs zs [.ref h0, .int x1, .int x2, .int x3, .int x4, .int x5] (W13 cs h0 a0 i0 r0 l0) q.1 (W13 cs h0 a0 q.2.1 q.2.2 l0) := by
  refine Mi.of RX13 (by decide) rfl (Nat.le_of_ble_eq_true rfl) (fun p e s m below meth c A C hP hD hS ls hl => ?_)
  generalize ([.ref h0, .int x1, .int x2, .int x3, .int x4, .int x5] : List Value).toArray = args at C ⊢
  obtain ⟨hx, hb, hr, hml, hown, hts, hK, hA, hlocks, hZ⟩ := id C
  have hl : lv_has ls 6 [(0, .ref h0), (1, .int x1), (2, .int x2), (3, .int x3), (4, .int x4), (5, .int x5)] := hl
  rw [f_X13_feed] at hf
  refine lv_aload_n hx hb dX13_feed_0 rfl (lv_at hl 0 rfl) ?_
  refine va_get (D := D) (ci := 13) (v := .int (i0 2)) (C := RX13) (T := TX13) (N := 87) hx hb hts hiX13 hown hK hP 0 rfl rfl 2 (by decide) (hts _ flX13_83) (fun _ h9 => h9) rfl dX13_feed_1 ?_
  refine lv_bipush (v := 20) hx hb dX13_feed_4 (by decide) ?_
  refine lv_iadd hx hb dX13_feed_6 ?_
  refine lv_sipush (v := 900) hx hb dX13_feed_7 (by decide) ?_
  refine lv_icmp_le (tgt := 16) hx hb dX13_feed_10 (by decide) (fun hc => ?_) (fun hc => ?_)
  · have hf := ite_t hf hc
    refine lv_aload_n hx hb dX13_feed_16 rfl (lv_at hl 0 rfl) ?_
    refine lv_iload_n hx hb dX13_feed_17 rfl (lv_at hl 1 rfl) ?_
    obtain ⟨q6, hq6, hf⟩ := bd_s hf
    refine k_sVv (ws2 := W13 cs h0 a0 q6.1 q6.2 l0) (As := [.int x1]) (rest := []) hx hb hml hown hts hK hA hZ hl.1 hP hD hS (c_X13_putFour (h0 := h0) (a0 := a0) hq6) (gVt mlX13_285 imX13_putFour seX13_putFour inX13 coX13_putFour) rfl qnX13_putFour rfl rfl ⟨Nat.le_of_ble_eq_true rfl, Nat.le_of_ble_eq_true rfl⟩ 0 13 rfl rfl rfl rfl rfl (Nat.le_of_ble_eq_true rfl) ⟨Nat.zero_le _, Nat.zero_le _⟩ dX13_feed_18 (fun H locs hP hD hS => ?_)
    refine lv_aload_n hx hb dX13_feed_21 rfl (lv_at hl 0 rfl) ?_
    refine lv_iload_n hx hb dX13_feed_22 rfl (lv_at hl 2 rfl) ?_
    obtain ⟨q7, hq7, hf⟩ := bd_s hf
    refine k_sVv (ws2 := W13 cs h0 a0 q7.1 q7.2 l0) (As := [.int x2]) (rest := []) hx hb hml hown hts hK hA hZ hl.1 hP hD hS (c_X13_putFour (h0 := h0) (a0 := a0) hq7) (gVt mlX13_285 imX13_putFour seX13_putFour inX13 coX13_putFour) rfl qnX13_putFour rfl rfl ⟨Nat.le_of_ble_eq_true rfl, Nat.le_of_ble_eq_true rfl⟩ 0 13 rfl rfl rfl rfl rfl (Nat.le_of_ble_eq_true rfl) ⟨Nat.zero_le _, Nat.zero_le _⟩ dX13_feed_23 (fun H locs hP hD hS => ?_)
    refine lv_aload_n hx hb dX13_feed_26 rfl (lv_at hl 0 rfl) ?_
    refine lv_iload_n hx hb dX13_feed_27 rfl (lv_at hl 3 rfl) ?_
    obtain ⟨q8, hq8, hf⟩ := bd_s hf
    refine k_sVv (ws2 := W13 cs h0 a0 q8.1 q8.2 l0) (As := [.int x3]) (rest := []) hx hb hml hown hts hK hA hZ hl.1 hP hD hS (c_X13_putFour (h0 := h0) (a0 := a0) hq8) (gVt mlX13_285 imX13_putFour seX13_putFour inX13 coX13_putFour) rfl qnX13_putFour rfl rfl ⟨Nat.le_of_ble_eq_true rfl, Nat.le_of_ble_eq_true rfl⟩ 0 13 rfl rfl rfl rfl rfl (Nat.le_of_ble_eq_true rfl) ⟨Nat.zero_le _, Nat.zero_le _⟩ dX13_feed_28 (fun H locs hP hD hS => ?_)
    refine lv_aload_n hx hb dX13_feed_31 rfl (lv_at hl 0 rfl) ?_
    refine lv_iload hx hb dX13_feed_32 (lv_at hl 4 rfl) ?_
    obtain ⟨q9, hq9, hf⟩ := bd_s hf
    refine k_sVv (ws2 := W13 cs h0 a0 q9.1 q9.2 l0) (As := [.int x4]) (rest := []) hx hb hml hown hts hK hA hZ hl.1 hP hD hS (c_X13_putFour (h0 := h0) (a0 := a0) hq9) (gVt mlX13_285 imX13_putFour seX13_putFour inX13 coX13_putFour) rfl qnX13_putFour rfl rfl ⟨Nat.le_of_ble_eq_true rfl, Nat.le_of_ble_eq_true rfl⟩ 0 13 rfl rfl rfl rfl rfl (Nat.le_of_ble_eq_true rfl) ⟨Nat.zero_le _, Nat.zero_le _⟩ dX13_feed_34 (fun H locs hP hD hS => ?_)
    refine lv_aload_n hx hb dX13_feed_37 rfl (lv_at hl 0 rfl) ?_
    refine lv_iload hx hb dX13_feed_38 (lv_at hl 5 rfl) ?_
    obtain ⟨q10, hq10, hf⟩ := bd_s hf
    refine k_sVv (ws2 := W13 cs h0 a0 q10.1 q10.2 l0) (As := [.int x5]) (rest := []) hx hb hml hown hts hK hA hZ hl.1 hP hD hS (c_X13_putFour (h0 := h0) (a0 := a0) hq10) (gVt mlX13_285 imX13_putFour seX13_putFour inX13 coX13_putFour) rfl qnX13_putFour rfl rfl ⟨Nat.le_of_ble_eq_true rfl, Nat.le_of_ble_eq_true rfl⟩ 0 13 rfl rfl rfl rfl rfl (Nat.le_of_ble_eq_true rfl) ⟨Nat.zero_le _, Nat.zero_le _⟩ dX13_feed_40 (fun H locs hP hD hS => ?_)
    refine lv_aload_n hx hb dX13_feed_43 rfl (lv_at hl 0 rfl) ?_
    refine va_get (D := D) (ci := 13) (v := .int (q10.1 2)) (C := RX13) (T := TX13) (N := 87) hx hb hts hiX13 hown hK hP 0 rfl rfl 2 (by decide) (hts _ flX13_83) (fun _ h9 => h9) rfl dX13_feed_44 ?_
    obtain rfl := Option.some.inj hf
    exact k_iret hx hb hr hlocks hK hP hD hS dX13_feed_47
  · have hf := ite_f hf hc
    refine lv_bipush (v := (-3)) hx hb dX13_feed_13 (by decide) ?_
    obtain rfl := Option.some.inj hf
    exact k_iret hx hb hr hlocks hK hP hD hS dX13_feed_15
/-! MarbleFloorModel.end(I)I -/
abbrev wlX13_end : List Cond := Cond.code yX13_end cX13_end 2 (some .int) :: tbG
abbrev rmX13_end : Room := { frames := 1, cells := 0, slots := 0, locals := 25 }
theorem qnX13_end : yX13_end.cls = RX13 ∧ yX13_end.cls ≠ "java/lang/invoke/MethodHandle" ∧ yX13_end.cls ≠ "java/lang/invoke/VarHandle" ∧ (parseMethodDescriptor yX13_end.desc).map (fun d => d.parameters.length) = some 1 := by decide +kernel
def f_X13_end  (i0 : Nat → Int32) (r0 : Nat → Nat → Int32) (l0 : Nat → Nat → Int64) (x1 : Int32) : Option (Int32 × (Nat → Int32)) := bd (f_X13_in x1.toInt64 0 ((i0 2).toInt64)) (fun q2 => if q2 = 0 then (some ((-1), i0)) else (some (x1, (upd i0 2 x1))))
set_option maxRecDepth 100000 in
set_option maxHeartbeats 4000000 in
theorem c_X13_end {l : Launch} {D : va_G} {cs zs : Nat → Nat} {h0 : Nat} {a0 : Nat → Nat} {i0 : Nat → Int32} {r0 : Nat → Nat → Int32} {l0 : Nat → Nat → Int64} {x1 : Int32} {q : Int32 × (Nat → Int32)} (hf : f_X13_end i0 r0 l0 x1 = some q) : Mi l yX13_end wlX13_end rmX13_end D cs zs [.ref h0, .int x1] (W13 cs h0 a0 i0 r0 l0) q.1 (W13 cs h0 a0 q.2 r0 l0) := by
  refine Mi.of RX13 (by decide) rfl (Nat.le_of_ble_eq_true rfl) (fun p e s m below meth c A C hP hD hS ls hl => ?_)
  generalize ([.ref h0, .int x1] : List Value).toArray = args at C ⊢
  obtain ⟨hx, hb, hr, hml, hown, hts, hK, hA, hlocks, hZ⟩ := id C
  have hl : lv_has ls 2 [(0, .ref h0), (1, .int x1)] := hl
  rw [f_X13_end] at hf
  refine lv_iload_n hx hb dX13_end_0 rfl (lv_at hl 1 rfl) ?_
  refine lv_i2l hx hb dX13_end_1 rfl ?_
  refine lv_lconst (v := 0) hx hb dX13_end_2 (by decide) ?_
  refine lv_aload_n hx hb dX13_end_3 rfl (lv_at hl 0 rfl) ?_
  refine va_get (D := D) (ci := 13) (v := .int (i0 2)) (C := RX13) (T := TX13) (N := 87) hx hb hts hiX13 hown hK hP 0 rfl rfl 2 (by decide) (hts _ flX13_83) (fun _ h9 => h9) rfl dX13_end_4 ?_
  refine lv_i2l hx hb dX13_end_7 rfl ?_
  obtain ⟨q2, hq2, hf⟩ := bd_s hf
  refine k_eSi (As := [.long x1.toInt64, .long 0, .long ((i0 2).toInt64)]) (rest := []) hx hb hml hown hts hK hA hZ hl.1 hP hD hS (c_X13_in  hq2) (gSt mlX13_64 stX13_in inX13 coX13_in) rfl qnX13_in rfl rfl ⟨Nat.le_of_ble_eq_true rfl, Nat.le_of_ble_eq_true rfl⟩ rfl rfl (Nat.le_of_ble_eq_true rfl) ⟨Nat.zero_le _, Nat.zero_le _⟩ dX13_end_8 (fun H locs hP hD hS => ?_)
  refine lv_if_ne (tgt := 16) hx hb dX13_end_11 (by decide) (fun hc => ?_) (fun hc => ?_)
  · have hf := ite_f hf hc
    refine lv_aload_n hx hb dX13_end_16 rfl (lv_at hl 0 rfl) ?_
    refine lv_iload_n hx hb dX13_end_17 rfl (lv_at hl 1 rfl) ?_
    refine va_put (D := D) (ci := 13) (v := .int x1) (ty := .int) (C := RX13) (T := TX13) (N := 87) hx hb hts hiX13 tyX13 tyX13_ok nmX13 hown hK hP hD hS 0 rfl rfl 2 (by decide) (hts _ flX13_83) (fun _ h9 => h9) rfl (tyX13_ok 2 (by decide)) rfl rfl (Nat.le_of_ble_eq_true rfl) dX13_end_18 (fun H locs hP hD hS => ?_)
    obtain ⟨hP, hD⟩ := st13_2 hP hD
    refine lv_iload_n hx hb dX13_end_21 rfl (lv_at hl 1 rfl) ?_
    obtain rfl := Option.some.inj hf
    exact k_iret hx hb hr hlocks hK hP hD hS dX13_end_22
  · have hf := ite_t hf hc
    refine lv_iconst (v := (-1)) hx hb dX13_end_14 (by decide) ?_
    obtain rfl := Option.some.inj hf
    exact k_iret hx hb hr hlocks hK hP hD hS dX13_end_15
/-! MarbleFloorModel.isFloor(I)Z -/
abbrev wlX13_isFloor : List Cond := Cond.code yX13_isFloor cX13_isFloor 1 (some .boolean) :: tbG
abbrev rmX13_isFloor : Room := { frames := 1, cells := 0, slots := 0, locals := 25 }
theorem qnX13_isFloor : yX13_isFloor.cls ≠ "java/lang/invoke/MethodHandle" ∧ yX13_isFloor.cls ≠ "java/lang/invoke/VarHandle" ∧ (parseMethodDescriptor yX13_isFloor.desc).map (fun d => d.parameters.length) = some 1 := by decide +kernel
def f_X13_isFloor   (x0 : Int32) : Option (Int32) := bd (f_X13_in x0.toInt64 0 5) (fun q2 => ck (bz q2) (some (q2)))
set_option maxRecDepth 100000 in
set_option maxHeartbeats 4000000 in
theorem c_X13_isFloor {l : Launch} {D : va_G} {cs zs : Nat → Nat}   {x0 : Int32} {q : Int32} (hf : f_X13_isFloor x0 = some q) : Mi l yX13_isFloor wlX13_isFloor rmX13_isFloor D cs zs [.int x0] (([] : va_W)) q (([] : va_W)) := by
  refine Mi.of RX13 (by decide) rfl (Nat.le_of_ble_eq_true rfl) (fun p e s m below meth c A C hP hD hS ls hl => ?_)
  generalize ([.int x0] : List Value).toArray = args at C ⊢
  obtain ⟨hx, hb, hr, hml, hown, hts, hK, hA, hlocks, hZ⟩ := id C
  have hl : lv_has ls 1 [(0, .int x0)] := hl
  rw [f_X13_isFloor] at hf
  refine lv_iload_n hx hb dX13_isFloor_0 rfl (lv_at hl 0 rfl) ?_
  refine lv_i2l hx hb dX13_isFloor_1 rfl ?_
  refine lv_lconst (v := 0) hx hb dX13_isFloor_2 (by decide) ?_
  refine lv_ldc2 (v := 5) hx hb hown (hts _ kcX13_288) dX13_isFloor_3 ?_
  obtain ⟨q2, hq2, hf⟩ := bd_s hf
  refine k_eSi (As := [.long x0.toInt64, .long 0, .long 5]) (rest := []) hx hb hml hown hts hK hA hZ hl.1 hP hD hS (c_X13_in  hq2) (gSt mlX13_64 stX13_in inX13 coX13_in) rfl qnX13_in rfl rfl ⟨Nat.le_of_ble_eq_true rfl, Nat.le_of_ble_eq_true rfl⟩ rfl rfl (Nat.le_of_ble_eq_true rfl) ⟨Nat.zero_le _, Nat.zero_le _⟩ dX13_isFloor_6 (fun H locs hP hD hS => ?_)
  have hz := ck_bz hf
  have hf := ck_2 hf
  obtain rfl := Option.some.inj hf
  exact k_zret (r := q2) hx hb hr hlocks hz hK hP hD hS dX13_isFloor_9
/-! MarbleFloorModel.fault(I)I -/
abbrev wlX13_fault : List Cond := Cond.code yX13_fault cX13_fault 2 (some .int) :: tbG
abbrev rmX13_fault : Room := { frames := 0, cells := 0, slots := 0, locals := 0 }
theorem qnX13_fault : yX13_fault.cls = RX13 ∧ yX13_fault.cls ≠ "java/lang/invoke/MethodHandle" ∧ yX13_fault.cls ≠ "java/lang/invoke/VarHandle" ∧ (parseMethodDescriptor yX13_fault.desc).map (fun d => d.parameters.length) = some 1 := by decide +kernel
def f_X13_fault  (i0 : Nat → Int32) (r0 : Nat → Nat → Int32) (l0 : Nat → Nat → Int64) (x1 : Int32) : Option (Int32) := if x1 = 0 then (some (i0 8)) else (if x1 = 1 then (some (i0 9)) else (some ((-1))))
set_option maxRecDepth 100000 in
set_option maxHeartbeats 4000000 in
theorem c_X13_fault {l : Launch} {D : va_G} {cs zs : Nat → Nat} {h0 : Nat} {a0 : Nat → Nat} {i0 : Nat → Int32} {r0 : Nat → Nat → Int32} {l0 : Nat → Nat → Int64} {x1 : Int32} {q : Int32} (hf : f_X13_fault i0 r0 l0 x1 = some q) : Mi l yX13_fault wlX13_fault rmX13_fault D cs zs [.ref h0, .int x1] (W13 cs h0 a0 i0 r0 l0) q (W13 cs h0 a0 i0 r0 l0) := by
  refine Mi.of RX13 (by decide) rfl (Nat.le_of_ble_eq_true rfl) (fun p e s m below meth c A C hP hD hS ls hl => ?_)
  generalize ([.ref h0, .int x1] : List Value).toArray = args at C ⊢
  obtain ⟨hx, hb, hr, hml, hown, hts, hK, hA, hlocks, hZ⟩ := id C
  have hl : lv_has ls 2 [(0, .ref h0), (1, .int x1)] := hl
  rw [f_X13_fault] at hf
  refine lv_iload_n hx hb dX13_fault_0 rfl (lv_at hl 1 rfl) ?_
  refine lv_if_ne (tgt := 11) hx hb dX13_fault_1 (by decide) (fun hc => ?_) (fun hc => ?_)
  · have hf := ite_f hf hc
    refine lv_iload_n hx hb dX13_fault_11 rfl (lv_at hl 1 rfl) ?_
    refine lv_iconst (v := 1) hx hb dX13_fault_12 (by decide) ?_
    refine lv_icmp_ne (tgt := 23) hx hb dX13_fault_13 (by decide) (fun hc => ?_) (fun hc => ?_)
    · have hf := ite_f hf hc
      refine lv_iconst (v := (-1)) hx hb dX13_fault_23 (by decide) ?_
      obtain rfl := Option.some.inj hf
      exact k_iret hx hb hr hlocks hK hP hD hS dX13_fault_24
    · have hf := ite_t hf hc
      refine lv_aload_n hx hb dX13_fault_16 rfl (lv_at hl 0 rfl) ?_
      refine va_get (D := D) (ci := 13) (v := .int (i0 9)) (C := RX13) (T := TX13) (N := 87) hx hb hts hiX13 hown hK hP 0 rfl rfl 9 (by decide) (hts _ flX13_10) (fun _ h9 => h9) rfl dX13_fault_17 ?_
      refine lv_goto (tgt := 24) hx hb dX13_fault_20 (by decide) ?_
      obtain rfl := Option.some.inj hf
      exact k_iret hx hb hr hlocks hK hP hD hS dX13_fault_24
  · have hf := ite_t hf hc
    refine lv_aload_n hx hb dX13_fault_4 rfl (lv_at hl 0 rfl) ?_
    refine va_get (D := D) (ci := 13) (v := .int (i0 8)) (C := RX13) (T := TX13) (N := 87) hx hb hts hiX13 hown hK hP 0 rfl rfl 8 (by decide) (hts _ flX13_3) (fun _ h9 => h9) rfl dX13_fault_5 ?_
    refine lv_goto (tgt := 24) hx hb dX13_fault_8 (by decide) ?_
    obtain rfl := Option.some.inj hf
    exact k_iret hx hb hr hlocks hK hP hD hS dX13_fault_24
/-! MarbleFloorModel.step(III)I -/
abbrev wlX13_step : List Cond := Cond.code yX13_step cX13_step 5 (some .int) :: tbG
abbrev rmX13_step : Room := { frames := 2, cells := 0, slots := 0, locals := 45 }
theorem qnX13_step : yX13_step.cls = RX13 ∧ yX13_step.cls ≠ "java/lang/invoke/MethodHandle" ∧ yX13_step.cls ≠ "java/lang/invoke/VarHandle" ∧ (parseMethodDescriptor yX13_step.desc).map (fun d => d.parameters.length) = some 3 := by decide +kernel
def f_X13_step  (i0 : Nat → Int32) (r0 : Nat → Nat → Int32) (l0 : Nat → Nat → Int64) (x1 : Int32) (x2 : Int32) (x3 : Int32) : Option (Int32) := bd (f_X13_isFloor x1) (fun q3 => if q3 = 0 then (some ((-1))) else (if x3 = 1 then (ck (inb x1 8) (some (r0 10 x1.toNatClampNeg))) else (ck (inb x1 8) (bd (f_X13_in x2.toInt64 0 (((r0 11 x1.toNatClampNeg).toInt64) - 1)) (fun q4 => if q4 = 0 then (some ((-1))) else (if x3 = 0 then (ck (inb ((40 * x1) + x2) 320) (if (r0 13 ((40 * x1) + x2).toNatClampNeg) = (-1) then (some (0)) else (some (1)))) else (if x3 = 2 then (ck (inb ((40 * x1) + x2) 320) (some (r0 12 ((40 * x1) + x2).toNatClampNeg))) else (if x3 = 3 then (ck (inb ((40 * x1) + x2) 320) (some (r0 13 ((40 * x1) + x2).toNatClampNeg))) else (if x3 = 4 then (ck (inb ((40 * x1) + x2) 320) (some (r0 14 ((40 * x1) + x2).toNatClampNeg))) else (some ((-1))))))))))))
set_option maxRecDepth 100000 in
set_option maxHeartbeats 4000000 in
theorem c_X13_step {l : Launch} {D : va_G} {cs zs : Nat → Nat} {h0 : Nat} {a0 : Nat → Nat} {i0 : Nat → Int32} {r0 : Nat → Nat → Int32} {l0 : Nat → Nat → Int64} {x1 : Int32} {x2 : Int32} {x3 : Int32} {q : Int32} (hf : f_X13_step i0 r0 l0 x1 x2 x3 = some q) : Mi l yX13_step wlX13_step rmX13_step D cs zs [.ref h0, .int x1, .int x2, .int x3] (W13 cs h0 a0 i0 r0 l0) q (W13 cs h0 a0 i0 r0 l0) := by
  refine Mi.of RX13 (by decide) rfl (Nat.le_of_ble_eq_true rfl) (fun p e s m below meth c A C hP hD hS ls hl => ?_)
  generalize ([.ref h0, .int x1, .int x2, .int x3] : List Value).toArray = args at C ⊢
  obtain ⟨hx, hb, hr, hml, hown, hts, hK, hA, hlocks, hZ⟩ := id C
  have hl : lv_has ls 5 [(0, .ref h0), (1, .int x1), (2, .int x2), (3, .int x3)] := hl
  rw [f_X13_step] at hf
  refine lv_iload_n hx hb dX13_step_0 rfl (lv_at hl 1 rfl) ?_
  obtain ⟨q3, hq3, hf⟩ := bd_s hf
  refine k_eSi (As := [.int x1]) (rest := []) hx hb hml hown hts hK hA hZ hl.1 hP hD hS (c_X13_isFloor  hq3) (gSt mlX13_290 stX13_isFloor inX13 coX13_isFloor) rfl qnX13_isFloor rfl rfl ⟨Nat.le_of_ble_eq_true rfl, Nat.le_of_ble_eq_true rfl⟩ rfl rfl (Nat.le_of_ble_eq_true rfl) ⟨Nat.zero_le _, Nat.zero_le _⟩ dX13_step_1 (fun H locs hP hD hS => ?_)
  refine lv_if_ne (tgt := 9) hx hb dX13_step_4 (by decide) (fun hc => ?_) (fun hc => ?_)
  · have hf := ite_f hf hc
    refine lv_iload_n hx hb dX13_step_9 rfl (lv_at hl 3 rfl) ?_
    refine lv_iconst (v := 1) hx hb dX13_step_10 (by decide) ?_
    refine lv_icmp_ne (tgt := 21) hx hb dX13_step_11 (by decide) (fun hc => ?_) (fun hc => ?_)
    · have hf := ite_f hf hc
      refine lv_iload_n hx hb dX13_step_21 rfl (lv_at hl 2 rfl) ?_
      refine lv_i2l hx hb dX13_step_22 rfl ?_
      refine lv_lconst (v := 0) hx hb dX13_step_23 (by decide) ?_
      refine lv_aload_n hx hb dX13_step_24 rfl (lv_at hl 0 rfl) ?_
      refine va_get (D := D) (ci := 13) (v := .ref (a0 11)) (C := RX13) (T := TX13) (N := 87) hx hb hts hiX13 hown hK hP 0 rfl rfl 11 (by decide) (hts _ flX13_86) (fun _ h9 => h9) rfl dX13_step_25 ?_
      refine lv_iload_n hx hb dX13_step_28 rfl (lv_at hl 1 rfl) ?_
      refine va_iald (f := r0 11) hx hb hK hP 3 0 rfl rfl (ck_in hf) dX13_step_29 ?_
      have hf := ck_2 hf
      refine lv_i2l hx hb dX13_step_30 rfl ?_
      refine lv_lconst (v := 1) hx hb dX13_step_31 (by decide) ?_
      refine lv_lsub hx hb dX13_step_32 ?_
      obtain ⟨q4, hq4, hf⟩ := bd_s hf
      refine k_eSi (As := [.long x2.toInt64, .long 0, .long (((r0 11 x1.toNatClampNeg).toInt64) - 1)]) (rest := []) hx hb hml hown hts hK hA hZ hl.1 hP hD hS (c_X13_in  hq4) (gSt mlX13_64 stX13_in inX13 coX13_in) rfl qnX13_in rfl rfl ⟨Nat.le_of_ble_eq_true rfl, Nat.le_of_ble_eq_true rfl⟩ rfl rfl (Nat.le_of_ble_eq_true rfl) ⟨Nat.zero_le _, Nat.zero_le _⟩ dX13_step_33 (fun H locs hP hD hS => ?_)
      refine lv_if_ne (tgt := 41) hx hb dX13_step_36 (by decide) (fun hc => ?_) (fun hc => ?_)
      · have hf := ite_f hf hc
        refine lv_bipush (v := 40) hx hb dX13_step_41 (by decide) ?_
        refine lv_iload_n hx hb dX13_step_43 rfl (lv_at hl 1 rfl) ?_
        refine lv_imul hx hb dX13_step_44 ?_
        refine lv_iload_n hx hb dX13_step_45 rfl (lv_at hl 2 rfl) ?_
        refine lv_iadd hx hb dX13_step_46 ?_
        refine lv_istore (lv' := [(4, .int ((40 * x1) + x2)), (0, .ref h0), (1, .int x1), (2, .int x2), (3, .int x3)]) hx hb dX13_step_47 hl (by decide) rfl (fun ls hl => ?_)
        refine lv_iload_n hx hb dX13_step_49 rfl (lv_at hl 4 rfl) ?_
        by_cases hc0 : x3 = 0
        · have hf := ite_t hf hc0
          refine lv_tableIn (off := 34) (tgt := 84) hx hb dX13_step_50 (by rw [hc0]; decide) (by rw [hc0]; decide) (by rw [hc0]; rfl) (by decide) ?_
          refine lv_aload_n hx hb dX13_step_84 rfl (lv_at hl 1 rfl) ?_
          refine va_get (D := D) (ci := 13) (v := .ref (a0 13)) (C := RX13) (T := TX13) (N := 87) hx hb hts hiX13 hown hK hP 0 rfl rfl 13 (by decide) (hts _ flX13_93) (fun _ h9 => h9) rfl dX13_step_85 ?_
          refine lv_iload hx hb dX13_step_88 (lv_at hl 0 rfl) ?_
          refine va_iald (f := r0 13) hx hb hK hP 5 0 rfl rfl (ck_in hf) dX13_step_90 ?_
          have hf := ck_2 hf
          refine lv_iconst (v := (-1)) hx hb dX13_step_91 (by decide) ?_
          refine lv_icmp_ne (tgt := 99) hx hb dX13_step_92 (by decide) (fun hc => ?_) (fun hc => ?_)
          · have hf := ite_f hf hc
            refine lv_iconst (v := 1) hx hb dX13_step_99 (by decide) ?_
            obtain rfl := Option.some.inj hf
            exact k_iret hx hb hr hlocks hK hP hD hS dX13_step_100
          · have hf := ite_t hf hc
            refine lv_iconst (v := 0) hx hb dX13_step_95 (by decide) ?_
            refine lv_goto (tgt := 100) hx hb dX13_step_96 (by decide) ?_
            obtain rfl := Option.some.inj hf
            exact k_iret hx hb hr hlocks hK hP hD hS dX13_step_100
        · have hf := ite_f hf hc0
          by_cases hc2 : x3 = 2
          · have hf := ite_t hf hc2
            refine lv_tableIn (off := 51) (tgt := 101) hx hb dX13_step_50 (by rw [hc2]; decide) (by rw [hc2]; decide) (by rw [hc2]; rfl) (by decide) ?_
            refine lv_aload_n hx hb dX13_step_101 rfl (lv_at hl 1 rfl) ?_
            refine va_get (D := D) (ci := 13) (v := .ref (a0 12)) (C := RX13) (T := TX13) (N := 87) hx hb hts hiX13 hown hK hP 0 rfl rfl 12 (by decide) (hts _ flX13_90) (fun _ h9 => h9) rfl dX13_step_102 ?_
            refine lv_iload hx hb dX13_step_105 (lv_at hl 0 rfl) ?_
            refine va_iald (f := r0 12) hx hb hK hP 4 0 rfl rfl (ck_in hf) dX13_step_107 ?_
            have hf := ck_2 hf
            obtain rfl := Option.some.inj hf
            exact k_iret hx hb hr hlocks hK hP hD hS dX13_step_108
          · have hf := ite_f hf hc2
            by_cases hc3 : x3 = 3
            · have hf := ite_t hf hc3
              refine lv_tableIn (off := 59) (tgt := 109) hx hb dX13_step_50 (by rw [hc3]; decide) (by rw [hc3]; decide) (by rw [hc3]; rfl) (by decide) ?_
              refine lv_aload_n hx hb dX13_step_109 rfl (lv_at hl 1 rfl) ?_
              refine va_get (D := D) (ci := 13) (v := .ref (a0 13)) (C := RX13) (T := TX13) (N := 87) hx hb hts hiX13 hown hK hP 0 rfl rfl 13 (by decide) (hts _ flX13_93) (fun _ h9 => h9) rfl dX13_step_110 ?_
              refine lv_iload hx hb dX13_step_113 (lv_at hl 0 rfl) ?_
              refine va_iald (f := r0 13) hx hb hK hP 5 0 rfl rfl (ck_in hf) dX13_step_115 ?_
              have hf := ck_2 hf
              obtain rfl := Option.some.inj hf
              exact k_iret hx hb hr hlocks hK hP hD hS dX13_step_116
            · have hf := ite_f hf hc3
              by_cases hc4 : x3 = 4
              · have hf := ite_t hf hc4
                refine lv_tableIn (off := 67) (tgt := 117) hx hb dX13_step_50 (by rw [hc4]; decide) (by rw [hc4]; decide) (by rw [hc4]; rfl) (by decide) ?_
                refine lv_aload_n hx hb dX13_step_117 rfl (lv_at hl 1 rfl) ?_
                refine va_get (D := D) (ci := 13) (v := .ref (a0 14)) (C := RX13) (T := TX13) (N := 87) hx hb hts hiX13 hown hK hP 0 rfl rfl 14 (by decide) (hts _ flX13_96) (fun _ h9 => h9) rfl dX13_step_118 ?_
                refine lv_iload hx hb dX13_step_121 (lv_at hl 0 rfl) ?_
                refine va_iald (f := r0 14) hx hb hK hP 6 0 rfl rfl (ck_in hf) dX13_step_123 ?_
                have hf := ck_2 hf
                obtain rfl := Option.some.inj hf
                exact k_iret hx hb hr hlocks hK hP hD hS dX13_step_124
              · have hf := ite_f hf hc4
                by_cases hc1 : x3 = 1
                · refine lv_tableIn (off := 75) (tgt := 125) hx hb dX13_step_50 (by rw [hc1]; decide) (by rw [hc1]; decide) (by rw [hc1]; rfl) (by decide) ?_
                  refine lv_iconst (v := (-1)) hx hb dX13_step_125 (by decide) ?_
                  obtain rfl := Option.some.inj hf
                  exact k_iret hx hb hr hlocks hK hP hD hS dX13_step_126
                · have z0 := sw_ne (k := 0) (by decide) hc0
                  have z1 := sw_ne (k := 1) (by decide) hc1
                  have z2 := sw_ne (k := 2) (by decide) hc2
                  have z3 := sw_ne (k := 3) (by decide) hc3
                  have z4 := sw_ne (k := 4) (by decide) hc4
                  refine lv_tableOut (tgt := 125) hx hb dX13_step_50 (by omega) (by decide) ?_
                  refine lv_iconst (v := (-1)) hx hb dX13_step_125 (by decide) ?_
                  obtain rfl := Option.some.inj hf
                  exact k_iret hx hb hr hlocks hK hP hD hS dX13_step_126
      · have hf := ite_t hf hc
        refine lv_iconst (v := (-1)) hx hb dX13_step_39 (by decide) ?_
        obtain rfl := Option.some.inj hf
        exact k_iret hx hb hr hlocks hK hP hD hS dX13_step_40
    · have hf := ite_t hf hc
      refine lv_aload_n hx hb dX13_step_14 rfl (lv_at hl 0 rfl) ?_
      refine va_get (D := D) (ci := 13) (v := .ref (a0 10)) (C := RX13) (T := TX13) (N := 87) hx hb hts hiX13 hown hK hP 0 rfl rfl 10 (by decide) (hts _ flX13_99) (fun _ h9 => h9) rfl dX13_step_15 ?_
      refine lv_iload_n hx hb dX13_step_18 rfl (lv_at hl 1 rfl) ?_
      refine va_iald (f := r0 10) hx hb hK hP 2 0 rfl rfl (ck_in hf) dX13_step_19 ?_
      have hf := ck_2 hf
      obtain rfl := Option.some.inj hf
      exact k_iret hx hb hr hlocks hK hP hD hS dX13_step_20
  · have hf := ite_t hf hc
    refine lv_iconst (v := (-1)) hx hb dX13_step_7 (by decide) ?_
    obtain rfl := Option.some.inj hf
    exact k_iret hx hb hr hlocks hK hP hD hS dX13_step_8
/-! MarbleFloorModel.bit(II)I -/
abbrev wlX13_bit : List Cond := Cond.code yX13_bit cX13_bit 2 (some .int) :: tbG
abbrev rmX13_bit : Room := { frames := 0, cells := 0, slots := 0, locals := 0 }
theorem qnX13_bit : yX13_bit.cls ≠ "java/lang/invoke/MethodHandle" ∧ yX13_bit.cls ≠ "java/lang/invoke/VarHandle" ∧ (parseMethodDescriptor yX13_bit.desc).map (fun d => d.parameters.length) = some 2 := by decide +kernel
def f_X13_bit   (x0 : Int32) (x1 : Int32) : Option (Int32) := some ((x0 >>> (x1 &&& 31)) &&& 1)
set_option maxRecDepth 100000 in
set_option maxHeartbeats 4000000 in
theorem c_X13_bit {l : Launch} {D : va_G} {cs zs : Nat → Nat}   {x0 : Int32} {x1 : Int32} {q : Int32} (hf : f_X13_bit x0 x1 = some q) : Mi l yX13_bit wlX13_bit rmX13_bit D cs zs [.int x0, .int x1] (([] : va_W)) q (([] : va_W)) := by
  refine Mi.of RX13 (by decide) rfl (Nat.le_of_ble_eq_true rfl) (fun p e s m below meth c A C hP hD hS ls hl => ?_)
  generalize ([.int x0, .int x1] : List Value).toArray = args at C ⊢
  obtain ⟨hx, hb, hr, hml, hown, hts, hK, hA, hlocks, hZ⟩ := id C
  have hl : lv_has ls 2 [(0, .int x0), (1, .int x1)] := hl
  rw [f_X13_bit] at hf
  refine lv_iload_n hx hb dX13_bit_0 rfl (lv_at hl 0 rfl) ?_
  refine lv_iload_n hx hb dX13_bit_1 rfl (lv_at hl 1 rfl) ?_
  refine lv_ishr hx hb dX13_bit_2 ?_
  refine lv_iconst (v := 1) hx hb dX13_bit_3 (by decide) ?_
  refine lv_iand hx hb dX13_bit_4 ?_
  obtain rfl := Option.some.inj hf
  exact k_iret hx hb hr hlocks hK hP hD hS dX13_bit_5
