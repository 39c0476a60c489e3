def fs4 (a : Nat → Nat) (i : Nat → Int32) : List Value := [.ref (a 0), .ref (a 1), .ref (a 2), .ref (a 3), .ref (a 4), .ref (a 5), .int (i 6), .int (i 7), .int (i 8), .int (i 9), .int (i 10), .int (i 11), .int (i 12)]
def W4 (cs : Nat → ClassId) (h : Nat) (a : Nat → Nat) (i : Nat → Int32) (r : Nat → Nat → Int32) : va_W := [(h, .inr (4, fs4 a i)), (a 0, .inl (cs 0, 20, .inl (r 0))), (a 1, .inl (cs 0, 20, .inl (r 1))), (a 2, .inl (cs 0, 24, .inl (r 2))), (a 3, .inl (cs 0, 20, .inl (r 3))), (a 4, .inl (cs 2, 20, .inl (r 4)))]
theorem st4_0 {D : va_G} {A : Nat → Prop} {H : Heap} {cs : Nat → ClassId} {h : Nat} {a : Nat → Nat} {i : Nat → Int32} {r : Nat → Nat → Int32} {f : Nat → Int32} (hP : va_P D vwCl ((W4 cs h a i r).set 1 (a 0, .inl (cs 0, 20, .inl f))) H) (hD : va_D A ((W4 cs h a i r).set 1 (a 0, .inl (cs 0, 20, .inl f)))) : va_P D vwCl (W4 cs h a i (va_up r 0 f)) H ∧ va_D A (W4 cs h a i (va_up r 0 f)) := ⟨hP, hD⟩
theorem st4_0_T {D : va_G} {A : Nat → Prop} {H : Heap} {cs : Nat → ClassId} {h : Nat} {a : Nat → Nat} {i : Nat → Int32} {r : Nat → Nat → Int32} {f : Nat → Int32} {T : va_W} (hP : va_P D vwCl ((W4 cs h a i r ++ T).set 1 (a 0, .inl (cs 0, 20, .inl f))) H) (hD : va_D A ((W4 cs h a i r ++ T).set 1 (a 0, .inl (cs 0, 20, .inl f)))) : va_P D vwCl (W4 cs h a i (va_up r 0 f) ++ T) H ∧ va_D A (W4 cs h a i (va_up r 0 f) ++ T) := ⟨hP, hD⟩
theorem st4_1 {D : va_G} {A : Nat → Prop} {H : Heap} {cs : Nat → ClassId} {h : Nat} {a : Nat → Nat} {i : Nat → Int32} {r : Nat → Nat → Int32} {f : Nat → Int32} (hP : va_P D vwCl ((W4 cs h a i r).set 2 (a 1, .inl (cs 0, 20, .inl f))) H) (hD : va_D A ((W4 cs h a i r).set 2 (a 1, .inl (cs 0, 20, .inl f)))) : va_P D vwCl (W4 cs h a i (va_up r 1 f)) H ∧ va_D A (W4 cs h a i (va_up r 1 f)) := ⟨hP, hD⟩
theorem st4_1_T {D : va_G} {A : Nat → Prop} {H : Heap} {cs : Nat → ClassId} {h : Nat} {a : Nat → Nat} {i : Nat → Int32} {r : Nat → Nat → Int32} {f : Nat → Int32} {T : va_W} (hP : va_P D vwCl ((W4 cs h a i r ++ T).set 2 (a 1, .inl (cs 0, 20, .inl f))) H) (hD : va_D A ((W4 cs h a i r ++ T).set 2 (a 1, .inl (cs 0, 20, .inl f)))) : va_P D vwCl (W4 cs h a i (va_up r 1 f) ++ T) H ∧ va_D A (W4 cs h a i (va_up r 1 f) ++ T) := ⟨hP, hD⟩
theorem st4_2 {D : va_G} {A : Nat → Prop} {H : Heap} {cs : Nat → ClassId} {h : Nat} {a : Nat → Nat} {i : Nat → Int32} {r : Nat → Nat → Int32} {f : Nat → Int32} (hP : va_P D vwCl ((W4 cs h a i r).set 3 (a 2, .inl (cs 0, 24, .inl f))) H) (hD : va_D A ((W4 cs h a i r).set 3 (a 2, .inl (cs 0, 24, .inl f)))) : va_P D vwCl (W4 cs h a i (va_up r 2 f)) H ∧ va_D A (W4 cs h a i (va_up r 2 f)) := ⟨hP, hD⟩
theorem st4_2_T {D : va_G} {A : Nat → Prop} {H : Heap} {cs : Nat → ClassId} {h : Nat} {a : Nat → Nat} {i : Nat → Int32} {r : Nat → Nat → Int32} {f : Nat → Int32} {T : va_W} (hP : va_P D vwCl ((W4 cs h a i r ++ T).set 3 (a 2, .inl (cs 0, 24, .inl f))) H) (hD : va_D A ((W4 cs h a i r ++ T).set 3 (a 2, .inl (cs 0, 24, .inl f)))) : va_P D vwCl (W4 cs h a i (va_up r 2 f) ++ T) H ∧ va_D A (W4 cs h a i (va_up r 2 f) ++ T) := ⟨hP, hD⟩
theorem st4_3 {D : va_G} {A : Nat → Prop} {H : Heap} {cs : Nat → ClassId} {h : Nat} {a : Nat → Nat} {i : Nat → Int32} {r : Nat → Nat → Int32} {f : Nat → Int32} (hP : va_P D vwCl ((W4 cs h a i r).set 4 (a 3, .inl (cs 0, 20, .inl f))) H) (hD : va_D A ((W4 cs h a i r).set 4 (a 3, .inl (cs 0, 20, .inl f)))) : va_P D vwCl (W4 cs h a i (va_up r 3 f)) H ∧ va_D A (W4 cs h a i (va_up r 3 f)) := ⟨hP, hD⟩
theorem st4_3_T {D : va_G} {A : Nat → Prop} {H : Heap} {cs : Nat → ClassId} {h : Nat} {a : Nat → Nat} {i : Nat → Int32} {r : Nat → Nat → Int32} {f : Nat → Int32} {T : va_W} (hP : va_P D vwCl ((W4 cs h a i r ++ T).set 4 (a 3, .inl (cs 0, 20, .inl f))) H) (hD : va_D A ((W4 cs h a i r ++ T).set 4 (a 3, .inl (cs 0, 20, .inl f)))) : va_P D vwCl (W4 cs h a i (va_up r 3 f) ++ T) H ∧ va_D A (W4 cs h a i (va_up r 3 f) ++ T) := ⟨hP, hD⟩
theorem st4_4 {D : va_G} {A : Nat → Prop} {H : Heap} {cs : Nat → ClassId} {h : Nat} {a : Nat → Nat} {i : Nat → Int32} {r : Nat → Nat → Int32} {f : Nat → Int32} (hP : va_P D vwCl ((W4 cs h a i r).set 5 (a 4, .inl (cs 2, 20, .inl f))) H) (hD : va_D A ((W4 cs h a i r).set 5 (a 4, .inl (cs 2, 20, .inl f)))) : va_P D vwCl (W4 cs h a i (va_up r 4 f)) H ∧ va_D A (W4 cs h a i (va_up r 4 f)) := ⟨hP, hD⟩
theorem st4_4_T {D : va_G} {A : Nat → Prop} {H : Heap} {cs : Nat → ClassId} {h : Nat} {a : Nat → Nat} {i : Nat → Int32} {r : Nat → Nat → Int32} {f : Nat → Int32} {T : va_W} (hP : va_P D vwCl ((W4 cs h a i r ++ T).set 5 (a 4, .inl (cs 2, 20, .inl f))) H) (hD : va_D A ((W4 cs h a i r ++ T).set 5 (a 4, .inl (cs 2, 20, .inl f)))) : va_P D vwCl (W4 cs h a i (va_up r 4 f) ++ T) H ∧ va_D A (W4 cs h a i (va_up r 4 f) ++ T) := ⟨hP, hD⟩
theorem st4_6 {D : va_G} {A : Nat → Prop} {H : Heap} {cs : Nat → ClassId} {h : Nat} {a : Nat → Nat} {i : Nat → Int32} {r : Nat → Nat → Int32} {v : Int32} (hP : va_P D vwCl ((W4 cs h a i r).set 0 (h, .inr (4, (fs4 a i).set 6 (.int v)))) H) (hD : va_D A ((W4 cs h a i r).set 0 (h, .inr (4, (fs4 a i).set 6 (.int v))))) : va_P D vwCl (W4 cs h a (upd i 6 v) r) H ∧ va_D A (W4 cs h a (upd i 6 v) r) := ⟨hP, hD⟩
theorem st4_6_T {D : va_G} {A : Nat → Prop} {H : Heap} {cs : Nat → ClassId} {h : Nat} {a : Nat → Nat} {i : Nat → Int32} {r : Nat → Nat → Int32} {v : Int32} {T : va_W} (hP : va_P D vwCl ((W4 cs h a i r ++ T).set 0 (h, .inr (4, (fs4 a i).set 6 (.int v)))) H) (hD : va_D A ((W4 cs h a i r ++ T).set 0 (h, .inr (4, (fs4 a i).set 6 (.int v))))) : va_P D vwCl (W4 cs h a (upd i 6 v) r ++ T) H ∧ va_D A (W4 cs h a (upd i 6 v) r ++ T) := ⟨hP, hD⟩
theorem st4_7 {D : va_G} {A : Nat → Prop} {H : Heap} {cs : Nat → ClassId} {h : Nat} {a : Nat → Nat} {i : Nat → Int32} {r : Nat → Nat → Int32} {v : Int32} (hP : va_P D vwCl ((W4 cs h a i r).set 0 (h, .inr (4, (fs4 a i).set 7 (.int v)))) H) (hD : va_D A ((W4 cs h a i r).set 0 (h, .inr (4, (fs4 a i).set 7 (.int v))))) : va_P D vwCl (W4 cs h a (upd i 7 v) r) H ∧ va_D A (W4 cs h a (upd i 7 v) r) := ⟨hP, hD⟩
theorem st4_7_T {D : va_G} {A : Nat → Prop} {H : Heap} {cs : Nat → ClassId} {h : Nat} {a : Nat → Nat} {i : Nat → Int32} {r : Nat → Nat → Int32} {v : Int32} {T : va_W} (hP : va_P D vwCl ((W4 cs h a i r ++ T).set 0 (h, .inr (4, (fs4 a i).set 7 (.int v)))) H) (hD : va_D A ((W4 cs h a i r ++ T).set 0 (h, .inr (4, (fs4 a i).set 7 (.int v))))) : va_P D vwCl (W4 cs h a (upd i 7 v) r ++ T) H ∧ va_D A (W4 cs h a (upd i 7 v) r ++ T) := ⟨hP, hD⟩
theorem st4_8 {D : va_G} {A : Nat → Prop} {H : Heap} {cs : Nat → ClassId} {h : Nat} {a : Nat → Nat} {i : Nat → Int32} {r : Nat → Nat → Int32} {v : Int32} (hP : va_P D vwCl ((W4 cs h a i r).set 0 (h, .inr (4, (fs4 a i).set 8 (.int v)))) H) (hD : va_D A ((W4 cs h a i r).set 0 (h, .inr (4, (fs4 a i).set 8 (.int v))))) : va_P D vwCl (W4 cs h a (upd i 8 v) r) H ∧ va_D A (W4 cs h a (upd i 8 v) r) := ⟨hP, hD⟩
theorem st4_8_T {D : va_G} {A : Nat → Prop} {H : Heap} {cs : Nat → ClassId} {h : Nat} {a : Nat → Nat} {i : Nat → Int32} {r : Nat → Nat → Int32} {v : Int32} {T : va_W} (hP : va_P D vwCl ((W4 cs h a i r ++ T).set 0 (h, .inr (4, (fs4 a i).set 8 (.int v)))) H) (hD : va_D A ((W4 cs h a i r ++ T).set 0 (h, .inr (4, (fs4 a i).set 8 (.int v))))) : va_P D vwCl (W4 cs h a (upd i 8 v) r ++ T) H ∧ va_D A (W4 cs h a (upd i 8 v) r ++ T) := ⟨hP, hD⟩
theorem st4_9 {D : va_G} {A : Nat → Prop} {H : Heap} {cs : Nat → ClassId} {h : Nat} {a : Nat → Nat} {i : Nat → Int32} {r : Nat → Nat → Int32} {v : Int32} (hP : va_P D vwCl ((W4 cs h a i r).set 0 (h, .inr (4, (fs4 a i).set 9 (.int v)))) H) (hD : va_D A ((W4 cs h a i r).set 0 (h, .inr (4, (fs4 a i).set 9 (.int v))))) : va_P D vwCl (W4 cs h a (upd i 9 v) r) H ∧ va_D A (W4 cs h a (upd i 9 v) r) := ⟨hP, hD⟩
theorem st4_9_T {D : va_G} {A : Nat → Prop} {H : Heap} {cs : Nat → ClassId} {h : Nat} {a : Nat → Nat} {i : Nat → Int32} {r : Nat → Nat → Int32} {v : Int32} {T : va_W} (hP : va_P D vwCl ((W4 cs h a i r ++ T).set 0 (h, .inr (4, (fs4 a i).set 9 (.int v)))) H) (hD : va_D A ((W4 cs h a i r ++ T).set 0 (h, .inr (4, (fs4 a i).set 9 (.int v))))) : va_P D vwCl (W4 cs h a (upd i 9 v) r ++ T) H ∧ va_D A (W4 cs h a (upd i 9 v) r ++ T) := ⟨hP, hD⟩
theorem st4_10 {D : va_G} {A : Nat → Prop} {H : Heap} {cs : Nat → ClassId} {h : Nat} {a : Nat → Nat} {i : Nat → Int32} {r : Nat → Nat → Int32} {v : Int32} (hP : va_P D vwCl ((W4 cs h a i r).set 0 (h, .inr (4, (fs4 a i).set 10 (.int v)))) H) (hD : va_D A ((W4 cs h a i r).set 0 (h, .inr (4, (fs4 a i).set 10 (.int v))))) : va_P D vwCl (W4 cs h a (upd i 10 v) r) H ∧ va_D A (W4 cs h a (upd i 10 v) r) := ⟨hP, hD⟩
theorem st4_10_T {D : va_G} {A : Nat → Prop} {H : Heap} {cs : Nat → ClassId} {h : Nat} {a : Nat → Nat} {i : Nat → Int32} {r : Nat → Nat → Int32} {v : Int32} {T : va_W} (hP : va_P D vwCl ((W4 cs h a i r ++ T).set 0 (h, .inr (4, (fs4 a i).set 10 (.int v)))) H) (hD : va_D A ((W4 cs h a i r ++ T).set 0 (h, .inr (4, (fs4 a i).set 10 (.int v))))) : va_P D vwCl (W4 cs h a (upd i 10 v) r ++ T) H ∧ va_D A (W4 cs h a (upd i 10 v) r ++ T) := ⟨hP, hD⟩
theorem st4_11 {D : va_G} {A : Nat → Prop} {H : Heap} {cs : Nat → ClassId} {h : Nat} {a : Nat → Nat} {i : Nat → Int32} {r : Nat → Nat → Int32} {v : Int32} (hP : va_P D vwCl ((W4 cs h a i r).set 0 (h, .inr (4, (fs4 a i).set 11 (.int v)))) H) (hD : va_D A ((W4 cs h a i r).set 0 (h, .inr (4, (fs4 a i).set 11 (.int v))))) : va_P D vwCl (W4 cs h a (upd i 11 v) r) H ∧ va_D A (W4 cs h a (upd i 11 v) r) := ⟨hP, hD⟩
theorem st4_11_T {D : va_G} {A : Nat → Prop} {H : Heap} {cs : Nat → ClassId} {h : Nat} {a : Nat → Nat} {i : Nat → Int32} {r : Nat → Nat → Int32} {v : Int32} {T : va_W} (hP : va_P D vwCl ((W4 cs h a i r ++ T).set 0 (h, .inr (4, (fs4 a i).set 11 (.int v)))) H) (hD : va_D A ((W4 cs h a i r ++ T).set 0 (h, .inr (4, (fs4 a i).set 11 (.int v))))) : va_P D vwCl (W4 cs h a (upd i 11 v) r ++ T) H ∧ va_D A (W4 cs h a (upd i 11 v) r ++ T) := ⟨hP, hD⟩
theorem st4_12 {D : va_G} {A : Nat → Prop} {H : Heap} {cs : Nat → ClassId} {h : Nat} {a : Nat → Nat} {i : Nat → Int32} {r : Nat → Nat → Int32} {v : Int32} (hP : va_P D vwCl ((W4 cs h a i r).set 0 (h, .inr (4, (fs4 a i).set 12 (.int v)))) H) (hD : va_D A ((W4 cs h a i r).set 0 (h, .inr (4, (fs4 a i).set 12 (.int v))))) : va_P D vwCl (W4 cs h a (upd i 12 v) r) H ∧ va_D A (W4 cs h a (upd i 12 v) r) := ⟨hP, hD⟩
theorem st4_12_T {D : va_G} {A : Nat → Prop} {H : Heap} {cs : Nat → ClassId} {h : Nat} {a : Nat → Nat} {i : Nat → Int32} {r : Nat → Nat → Int32} {v : Int32} {T : va_W} (hP : va_P D vwCl ((W4 cs h a i r ++ T).set 0 (h, .inr (4, (fs4 a i).set 12 (.int v)))) H) (hD : va_D A ((W4 cs h a i r ++ T).set 0 (h, .inr (4, (fs4 a i).set 12 (.int v))))) : va_P D vwCl (W4 cs h a (upd i 12 v) r ++ T) H ∧ va_D A (W4 cs h a (upd i 12 v) r ++ T) := ⟨hP, hD⟩
/-! MarbleFloor$Machine.hasNoValue(I)Z -/
abbrev wlX4_hasNoValue : List Cond := Cond.code yX4_hasNoValue cX4_hasNoValue 1 (some .boolean) :: tbG
abbrev rmX4_hasNoValue : Room := { frames := 0, cells := 0, slots := 0, locals := 0 }
theorem qnX4_hasNoValue : yX4_hasNoValue.cls ≠ "java/lang/invoke/MethodHandle" ∧ yX4_hasNoValue.cls ≠ "java/lang/invoke/VarHandle" ∧ (parseMethodDescriptor yX4_hasNoValue.desc).map (fun d => d.parameters.length) = some 1 := by decide +kernel
def f_X4_hasNoValue   (x0 : Int32) : Option (Int32) := if x0 < 0 then (some (1)) else (if 20 ≤ x0 then (some (1)) else (if x0 < 8 then (some (0)) else (if 10 ≤ x0 then (some (0)) else (some (1)))))
set_option maxRecDepth 100000 in
set_option maxHeartbeats 4000000 in
theorem c_X4_hasNoValue {l : Launch} {D : va_G} {cs zs : Nat → Nat}   {x0 : Int32} {q : Int32} (hf : f_X4_hasNoValue x0 = some q) : Mi l yX4_hasNoValue wlX4_hasNoValue rmX4_hasNoValue D cs zs [.int x0] (([] : va_W)) q (([] : va_W)) := by
  refine Mi.of RX4 (by decide) rfl (Nat.le_of_ble_eq_true rfl) (fun p e s m below meth c A C hP hD hS ls hl => ?_)
  generalize ([.int x0] : List Value).toArray = args at C ⊢
  obtain ⟨hx, hb, hr, hml, hown, hts, hK, hA, hlocks, hZ⟩ := id C
  have hl : lv_has ls 1 [(0, .int x0)] := hl
  rw [f_X4_hasNoValue] at hf
  refine lv_iload_n hx hb dX4_hasNoValue_0 rfl (lv_at hl 0 rfl) ?_
  refine lv_if_lt (tgt := 22) hx hb dX4_hasNoValue_1 (by decide) (fun hc => ?_) (fun hc => ?_)
  · have hf := ite_t hf hc
    refine lv_iconst (v := 1) hx hb dX4_hasNoValue_22 (by decide) ?_
    refine lv_goto (tgt := 27) hx hb dX4_hasNoValue_23 (by decide) ?_
    obtain rfl := Option.some.inj hf
    exact k_zret (r := 1) hx hb hr hlocks rfl hK hP hD hS dX4_hasNoValue_27
  · have hf := ite_f hf hc
    refine lv_iload_n hx hb dX4_hasNoValue_4 rfl (lv_at hl 0 rfl) ?_
    refine lv_bipush (v := 20) hx hb dX4_hasNoValue_5 (by decide) ?_
    refine lv_icmp_ge (tgt := 22) hx hb dX4_hasNoValue_7 (by decide) (fun hc => ?_) (fun hc => ?_)
    · have hf := ite_t hf hc
      refine lv_iconst (v := 1) hx hb dX4_hasNoValue_22 (by decide) ?_
      refine lv_goto (tgt := 27) hx hb dX4_hasNoValue_23 (by decide) ?_
      obtain rfl := Option.some.inj hf
      exact k_zret (r := 1) hx hb hr hlocks rfl hK hP hD hS dX4_hasNoValue_27
    · have hf := ite_f hf hc
      refine lv_iload_n hx hb dX4_hasNoValue_10 rfl (lv_at hl 0 rfl) ?_
      refine lv_bipush (v := 8) hx hb dX4_hasNoValue_11 (by decide) ?_
      refine lv_icmp_lt (tgt := 26) hx hb dX4_hasNoValue_13 (by decide) (fun hc => ?_) (fun hc => ?_)
      · have hf := ite_t hf hc
        refine lv_iconst (v := 0) hx hb dX4_hasNoValue_26 (by decide) ?_
        obtain rfl := Option.some.inj hf
        exact k_zret (r := 0) hx hb hr hlocks rfl hK hP hD hS dX4_hasNoValue_27
      · have hf := ite_f hf hc
        refine lv_iload_n hx hb dX4_hasNoValue_16 rfl (lv_at hl 0 rfl) ?_
        refine lv_bipush (v := 10) hx hb dX4_hasNoValue_17 (by decide) ?_
        refine lv_icmp_ge (tgt := 26) hx hb dX4_hasNoValue_19 (by decide) (fun hc => ?_) (fun hc => ?_)
        · have hf := ite_t hf hc
          refine lv_iconst (v := 0) hx hb dX4_hasNoValue_26 (by decide) ?_
          obtain rfl := Option.some.inj hf
          exact k_zret (r := 0) hx hb hr hlocks rfl hK hP hD hS dX4_hasNoValue_27
        · have hf := ite_f hf hc
          refine lv_iconst (v := 1) hx hb dX4_hasNoValue_22 (by decide) ?_
          refine lv_goto (tgt := 27) hx hb dX4_hasNoValue_23 (by decide) ?_
          obtain rfl := Option.some.inj hf
          exact k_zret (r := 1) hx hb hr hlocks rfl hK hP hD hS dX4_hasNoValue_27
/-! MarbleFloor$Machine.put(II)I -/
abbrev wlX4_put : List Cond := Cond.code yX4_put cX4_put 4 (some .int) :: tbG
abbrev rmX4_put : Room := { frames := 0, cells := 0, slots := 0, locals := 0 }
theorem qnX4_put : yX4_put.cls = RX4 ∧ yX4_put.cls ≠ "java/lang/invoke/MethodHandle" ∧ yX4_put.cls ≠ "java/lang/invoke/VarHandle" ∧ (parseMethodDescriptor yX4_put.desc).map (fun d => d.parameters.length) = some 2 := by decide +kernel
def f_X4_put  (i0 : Nat → Int32) (r0 : Nat → Nat → Int32) (x1 : Int32) (x2 : Int32) : Option (Int32 × (Nat → Nat → Int32)) := ck (inb x1 20) (ck (inb x1 20) (some (r0 0 x1.toNatClampNeg, (va_up r0 0 (upd (r0 0) x1.toNatClampNeg x2)))))
set_option maxRecDepth 100000 in
set_option maxHeartbeats 4000000 in
theorem c_X4_put {l : Launch} {D : va_G} {cs zs : Nat → Nat} {h0 : Nat} {a0 : Nat → Nat} {i0 : Nat → Int32} {r0 : Nat → Nat → Int32} {x1 : Int32} {x2 : Int32} {q : Int32 × (Nat → Nat → Int32)} (hf : f_X4_put i0 r0 x1 x2 = some q) : Mi l yX4_put wlX4_put rmX4_put D cs zs [.ref h0, .int x1, .int x2] (W4 cs h0 a0 i0 r0) q.1 (W4 cs h0 a0 i0 q.2) := by
  refine Mi.of RX4 (by decide) rfl (Nat.le_of_ble_eq_true rfl) (fun p e s m below meth c A C hP hD hS ls hl => ?_)
  generalize ([.ref h0, .int x1, .int x2] : List Value).toArray = args at C ⊢
  obtain ⟨hx, hb, hr, hml, hown, hts, hK, hA, hlocks, hZ⟩ := id C
  have hl : lv_has ls 4 [(0, .ref h0), (1, .int x1), (2, .int x2)] := hl
  rw [f_X4_put] at hf
  refine lv_aload_n hx hb dX4_put_0 rfl (lv_at hl 0 rfl) ?_
  refine va_get (D := D) (ci := 4) (v := .ref (a0 0)) (C := RX4) (T := TX4) (N := 13) hx hb hts hiX4 hown hK hP 0 rfl rfl 0 (by decide) (hts _ flX4_9) (fun _ h9 => h9) rfl dX4_put_1 ?_
  refine lv_iload_n hx hb dX4_put_4 rfl (lv_at hl 1 rfl) ?_
  refine va_iald (f := r0 0) hx hb hK hP 1 0 rfl rfl (ck_in hf) dX4_put_5 ?_
  have hf := ck_2 hf
  refine lv_istore_n (lv' := [(3, .int (r0 0 x1.toNatClampNeg)), (0, .ref h0), (1, .int x1), (2, .int x2)]) hx hb dX4_put_6 rfl hl (by decide) rfl (fun ls hl => ?_)
  refine lv_aload_n hx hb dX4_put_7 rfl (lv_at hl 1 rfl) ?_
  refine va_get (D := D) (ci := 4) (v := .ref (a0 0)) (C := RX4) (T := TX4) (N := 13) hx hb hts hiX4 hown hK hP 0 rfl rfl 0 (by decide) (hts _ flX4_9) (fun _ h9 => h9) rfl dX4_put_8 ?_
  refine lv_iload_n hx hb dX4_put_11 rfl (lv_at hl 2 rfl) ?_
  refine lv_iload_n hx hb dX4_put_12 rfl (lv_at hl 3 rfl) ?_
  refine va_iast (f := r0 0) hx hb hK hP hD hS 1 0 rfl rfl (ck_in hf) dX4_put_13 (fun H locs hP hD hS => ?_)
  have hf := ck_2 hf
  obtain ⟨hP, hD⟩ := st4_0 hP hD
  refine lv_iload_n hx hb dX4_put_14 rfl (lv_at hl 0 rfl) ?_
  obtain rfl := Option.some.inj hf
  exact k_iret hx hb hr hlocks hK hP hD hS dX4_put_15
/-! MarbleFloor$Machine.valueOf(I)I -/
abbrev wlX4_valueOf : List Cond := Cond.code yX4_valueOf cX4_valueOf 2 (some .int) :: tbG
abbrev rmX4_valueOf : Room := { frames := 0, cells := 0, slots := 0, locals := 0 }
theorem qnX4_valueOf : yX4_valueOf.cls = RX4 ∧ yX4_valueOf.cls ≠ "java/lang/invoke/MethodHandle" ∧ yX4_valueOf.cls ≠ "java/lang/invoke/VarHandle" ∧ (parseMethodDescriptor yX4_valueOf.desc).map (fun d => d.parameters.length) = some 1 := by decide +kernel
def f_X4_valueOf  (i0 : Nat → Int32) (r0 : Nat → Nat → Int32) (x1 : Int32) : Option (Int32) := ck (inb x1 20) (some (r0 0 x1.toNatClampNeg))
set_option maxRecDepth 100000 in
set_option maxHeartbeats 4000000 in
theorem c_X4_valueOf {l : Launch} {D : va_G} {cs zs : Nat → Nat} {h0 : Nat} {a0 : Nat → Nat} {i0 : Nat → Int32} {r0 : Nat → Nat → Int32} {x1 : Int32} {q : Int32} (hf : f_X4_valueOf i0 r0 x1 = some q) : Mi l yX4_valueOf wlX4_valueOf rmX4_valueOf D cs zs [.ref h0, .int x1] (W4 cs h0 a0 i0 r0) q (W4 cs h0 a0 i0 r0) := by
  refine Mi.of RX4 (by decide) rfl (Nat.le_of_ble_eq_true rfl) (fun p e s m below meth c A C hP hD hS ls hl => ?_)
  generalize ([.ref h0, .int x1] : List Value).toArray = args at C ⊢
  obtain ⟨hx, hb, hr, hml, hown, hts, hK, hA, hlocks, hZ⟩ := id C
  have hl : lv_has ls 2 [(0, .ref h0), (1, .int x1)] := hl
  rw [f_X4_valueOf] at hf
  refine lv_aload_n hx hb dX4_valueOf_0 rfl (lv_at hl 0 rfl) ?_
  refine va_get (D := D) (ci := 4) (v := .ref (a0 0)) (C := RX4) (T := TX4) (N := 13) hx hb hts hiX4 hown hK hP 0 rfl rfl 0 (by decide) (hts _ flX4_9) (fun _ h9 => h9) rfl dX4_valueOf_1 ?_
  refine lv_iload_n hx hb dX4_valueOf_4 rfl (lv_at hl 1 rfl) ?_
  refine va_iald (f := r0 0) hx hb hK hP 1 0 rfl rfl (ck_in hf) dX4_valueOf_5 ?_
  have hf := ck_2 hf
  obtain rfl := Option.some.inj hf
  exact k_iret hx hb hr hlocks hK hP hD hS dX4_valueOf_6
/-! MarbleFloor$Machine.latestTrouble()I -/
abbrev wlX4_latestTrouble : List Cond := Cond.code yX4_latestTrouble cX4_latestTrouble 1 (some .int) :: tbG
abbrev rmX4_latestTrouble : Room := { frames := 0, cells := 0, slots := 0, locals := 0 }
theorem qnX4_latestTrouble : yX4_latestTrouble.cls = RX4 ∧ yX4_latestTrouble.cls ≠ "java/lang/invoke/MethodHandle" ∧ yX4_latestTrouble.cls ≠ "java/lang/invoke/VarHandle" ∧ (parseMethodDescriptor yX4_latestTrouble.desc).map (fun d => d.parameters.length) = some 0 := by decide +kernel
def f_X4_latestTrouble  (i0 : Nat → Int32) (r0 : Nat → Nat → Int32)  : Option (Int32) := some (i0 12)
set_option maxRecDepth 100000 in
set_option maxHeartbeats 4000000 in
theorem c_X4_latestTrouble {l : Launch} {D : va_G} {cs zs : Nat → Nat} {h0 : Nat} {a0 : Nat → Nat} {i0 : Nat → Int32} {r0 : Nat → Nat → Int32}  {q : Int32} (hf : f_X4_latestTrouble i0 r0 = some q) : Mi l yX4_latestTrouble wlX4_latestTrouble rmX4_latestTrouble D cs zs [.ref h0] (W4 cs h0 a0 i0 r0) q (W4 cs h0 a0 i0 r0) := by
  refine Mi.of RX4 (by decide) rfl (Nat.le_of_ble_eq_true rfl) (fun p e s m below meth c A C hP hD hS ls hl => ?_)
  generalize ([.ref h0] : List Value).toArray = args at C ⊢
  obtain ⟨hx, hb, hr, hml, hown, hts, hK, hA, hlocks, hZ⟩ := id C
  have hl : lv_has ls 1 [(0, .ref h0)] := hl
  rw [f_X4_latestTrouble] at hf
  refine lv_aload_n hx hb dX4_latestTrouble_0 rfl (lv_at hl 0 rfl) ?_
  refine va_get (D := D) (ci := 4) (v := .int (i0 12)) (C := RX4) (T := TX4) (N := 13) hx hb hts hiX4 hown hK hP 0 rfl rfl 12 (by decide) (hts _ flX4_32) (fun _ h9 => h9) rfl dX4_latestTrouble_1 ?_
  obtain rfl := Option.some.inj hf
  exact k_iret hx hb hr hlocks hK hP hD hS dX4_latestTrouble_4
/-! MarbleFloor$Machine.latestCounted()I -/
abbrev wlX4_latestCounted : List Cond := Cond.code yX4_latestCounted cX4_latestCounted 1 (some .int) :: tbG
abbrev rmX4_latestCounted : Room := { frames := 0, cells := 0, slots := 0, locals := 0 }
theorem qnX4_latestCounted : yX4_latestCounted.cls = RX4 ∧ yX4_latestCounted.cls ≠ "java/lang/invoke/MethodHandle" ∧ yX4_latestCounted.cls ≠ "java/lang/invoke/VarHandle" ∧ (parseMethodDescriptor yX4_latestCounted.desc).map (fun d => d.parameters.length) = some 0 := by decide +kernel
def f_X4_latestCounted  (i0 : Nat → Int32) (r0 : Nat → Nat → Int32)  : Option (Int32) := some (i0 11)
set_option maxRecDepth 100000 in
set_option maxHeartbeats 4000000 in
theorem c_X4_latestCounted {l : Launch} {D : va_G} {cs zs : Nat → Nat} {h0 : Nat} {a0 : Nat → Nat} {i0 : Nat → Int32} {r0 : Nat → Nat → Int32}  {q : Int32} (hf : f_X4_latestCounted i0 r0 = some q) : Mi l yX4_latestCounted wlX4_latestCounted rmX4_latestCounted D cs zs [.ref h0] (W4 cs h0 a0 i0 r0) q (W4 cs h0 a0 i0 r0) := by
  refine Mi.of RX4 (by decide) rfl (Nat.le_of_ble_eq_true rfl) (fun p e s m below meth c A C hP hD hS ls hl => ?_)
  generalize ([.ref h0] : List Value).toArray = args at C ⊢
  obtain ⟨hx, hb, hr, hml, hown, hts, hK, hA, hlocks, hZ⟩ := id C
  have hl : lv_has ls 1 [(0, .ref h0)] := hl
  rw [f_X4_latestCounted] at hf
  refine lv_aload_n hx hb dX4_latestCounted_0 rfl (lv_at hl 0 rfl) ?_
  refine va_get (D := D) (ci := 4) (v := .int (i0 11)) (C := RX4) (T := TX4) (N := 13) hx hb hts hiX4 hown hK hP 0 rfl rfl 11 (by decide) (hts _ flX4_36) (fun _ h9 => h9) rfl dX4_latestCounted_1 ?_
  obtain rfl := Option.some.inj hf
  exact k_iret hx hb hr hlocks hK hP hD hS dX4_latestCounted_4
/-! MarbleFloor$Machine.enter(I)V -/
abbrev wlX4_enter : List Cond := Cond.code yX4_enter cX4_enter 2 none :: tbG
abbrev rmX4_enter : Room := { frames := 1, cells := 0, slots := 0, locals := 22 }
theorem qnX4_enter : yX4_enter.cls = RX4 ∧ yX4_enter.cls ≠ "java/lang/invoke/MethodHandle" ∧ yX4_enter.cls ≠ "java/lang/invoke/VarHandle" ∧ (parseMethodDescriptor yX4_enter.desc).map (fun d => d.parameters.length) = some 1 := by decide +kernel
def f_X4_enter  (i0 : Nat → Int32) (r0 : Nat → Nat → Int32) (i1 : Nat → Int32) (r1 : Nat → Nat → Int32) (l1 : Nat → Nat → Int64) (x1 : Int32) : Option ((Nat → Int32)) := bd (f_X5_startOf i1 r1 l1 x1 (i0 9)) (fun q2 => some ((upd (upd i0 8 x1) 7 q2)))
set_option maxRecDepth 100000 in
set_option maxHeartbeats 4000000 in
theorem c_X4_enter {l : Launch} {D : va_G} {cs zs : Nat → Nat} {h0 : Nat} {a0 : Nat → Nat} {a1 : Nat → Nat} {i0 : Nat → Int32} {r0 : Nat → Nat → Int32} {i1 : Nat → Int32} {r1 : Nat → Nat → Int32} {l1 : Nat → Nat → Int64} {x1 : Int32} {q : (Nat → Int32)} (hf : f_X4_enter i0 r0 i1 r1 l1 x1 = some q) : Mv l yX4_enter wlX4_enter rmX4_enter D cs zs [.ref h0, .int x1] (W4 cs h0 a0 i0 r0 ++ W5 cs (a0 5) a1 i1 r1 l1) (W4 cs h0 a0 q r0 ++ W5 cs (a0 5) a1 i1 r1 l1) := by
  refine Mv.of RX4 (by decide) rfl (Nat.le_of_ble_eq_true rfl) (fun p e s m below meth c A C hP hD hS ls hl => ?_)
  generalize ([.ref h0, .int x1] : List Value).toArray = args at C ⊢
  obtain ⟨hx, hb, hr, hml, hown, hts, hK, hA, hlocks, hZ⟩ := id C
  have hl : lv_has ls 2 [(0, .ref h0), (1, .int x1)] := hl
  rw [f_X4_enter] at hf
  refine lv_aload_n hx hb dX4_enter_0 rfl (lv_at hl 0 rfl) ?_
  refine lv_iload_n hx hb dX4_enter_1 rfl (lv_at hl 1 rfl) ?_
  refine va_put (D := D) (ci := 4) (v := .int x1) (ty := .int) (C := RX4) (T := TX4) (N := 13) hx hb hts hiX4 tyX4 tyX4_ok nmX4 hown hK hP hD hS 0 rfl rfl 8 (by decide) (hts _ flX4_71) (fun _ h9 => h9) rfl (tyX4_ok 8 (by decide)) rfl rfl (Nat.le_of_ble_eq_true rfl) dX4_enter_2 (fun H locs hP hD hS => ?_)
  obtain ⟨hP, hD⟩ := st4_8_T hP hD
  refine lv_aload_n hx hb dX4_enter_5 rfl (lv_at hl 0 rfl) ?_
  refine lv_aload_n hx hb dX4_enter_6 rfl (lv_at hl 0 rfl) ?_
  refine va_get (D := D) (ci := 4) (v := .ref (a0 5)) (C := RX4) (T := TX4) (N := 13) hx hb hts hiX4 hown hK hP 0 rfl rfl 5 (by decide) (hts _ flX4_28) (fun _ h9 => h9) rfl dX4_enter_7 ?_
  refine lv_iload_n hx hb dX4_enter_10 rfl (lv_at hl 1 rfl) ?_
  refine lv_aload_n hx hb dX4_enter_11 rfl (lv_at hl 0 rfl) ?_
  refine va_get (D := D) (ci := 4) (v := .int (i0 9)) (C := RX4) (T := TX4) (N := 13) hx hb hts hiX4 hown hK hP 0 rfl rfl 9 (by decide) (hts _ flX4_52) (fun _ h9 => h9) rfl dX4_enter_12 ?_
  obtain ⟨q2, hq2, hf⟩ := bd_s hf
  refine k_pVi (wr := W4 cs h0 a0 (upd i0 8 x1) r0) (ws2 := W4 cs h0 a0 (upd i0 8 x1) r0 ++ W5 cs (a0 5) a1 i1 r1 l1) (As := [.int x1, .int (i0 9)]) (rest := [.ref h0]) hx hb hml hown hts hK hA hZ hl.1 hP hD hS (c_X5_startOf (h0 := (a0 5)) (a0 := a1) hq2) (gVt mlX4_74 imX5_startOf seX5_startOf inX5 coX5_startOf) rfl qnX5_startOf rfl rfl ⟨Nat.le_of_ble_eq_true rfl, Nat.le_of_ble_eq_true rfl⟩ [6, 7, 8, 9, 10, 11, 12, 13, 14, 15, 16, 17, 18, 19] [0, 1, 2, 3, 4, 5] [0, 1, 2, 3, 4, 5, 6, 7, 8, 9, 10, 11, 12, 13, 14, 15, 16, 17, 18, 19] rfl rfl rfl (by decide) 0 5 rfl rfl rfl rfl rfl (Nat.le_of_ble_eq_true rfl) ⟨Nat.zero_le _, Nat.zero_le _⟩ dX4_enter_15 (fun H locs hP hD hS => ?_)
  refine va_put (D := D) (ci := 4) (v := .int q2) (ty := .int) (C := RX4) (T := TX4) (N := 13) hx hb hts hiX4 tyX4 tyX4_ok nmX4 hown hK hP hD hS 0 rfl rfl 7 (by decide) (hts _ flX4_62) (fun _ h9 => h9) rfl (tyX4_ok 7 (by decide)) rfl rfl (Nat.le_of_ble_eq_true rfl) dX4_enter_18 (fun H locs hP hD hS => ?_)
  obtain ⟨hP, hD⟩ := st4_7_T hP hD
  obtain rfl := Option.some.inj hf
  exact k_vret hx hb hr hlocks hK hP hD hS dX4_enter_21
/-! MarbleFloor$Machine.goBehind(I)V -/
abbrev wlX4_goBehind : List Cond := Cond.code yX4_goBehind cX4_goBehind 2 none :: tbG
abbrev rmX4_goBehind : Room := { frames := 1, cells := 0, slots := 0, locals := 22 }
theorem qnX4_goBehind : yX4_goBehind.cls = RX4 ∧ yX4_goBehind.cls ≠ "java/lang/invoke/MethodHandle" ∧ yX4_goBehind.cls ≠ "java/lang/invoke/VarHandle" ∧ (parseMethodDescriptor yX4_goBehind.desc).map (fun d => d.parameters.length) = some 1 := by decide +kernel
def f_X4_goBehind  (i0 : Nat → Int32) (r0 : Nat → Nat → Int32) (i1 : Nat → Int32) (r1 : Nat → Nat → Int32) (l1 : Nat → Nat → Int64) (x1 : Int32) : Option ((Nat → Int32)) := bd (f_X5_bodyOf i1 r1 l1 x1) (fun q3 => bd (f_X5_behind i1 r1 l1 x1 (i0 9)) (fun q4 => some ((upd (upd i0 8 q3) 7 q4))))
set_option maxRecDepth 100000 in
set_option maxHeartbeats 4000000 in
theorem c_X4_goBehind {l : Launch} {D : va_G} {cs zs : Nat → Nat} {h0 : Nat} {a0 : Nat → Nat} {a1 : Nat → Nat} {i0 : Nat → Int32} {r0 : Nat → Nat → Int32} {i1 : Nat → Int32} {r1 : Nat → Nat → Int32} {l1 : Nat → Nat → Int64} {x1 : Int32} {q : (Nat → Int32)} (hf : f_X4_goBehind i0 r0 i1 r1 l1 x1 = some q) : Mv l yX4_goBehind wlX4_goBehind rmX4_goBehind D cs zs [.ref h0, .int x1] (W4 cs h0 a0 i0 r0 ++ W5 cs (a0 5) a1 i1 r1 l1) (W4 cs h0 a0 q r0 ++ W5 cs (a0 5) a1 i1 r1 l1) := by
  refine Mv.of RX4 (by decide) rfl (Nat.le_of_ble_eq_true rfl) (fun p e s m below meth c A C hP hD hS ls hl => ?_)
  generalize ([.ref h0, .int x1] : List Value).toArray = args at C ⊢
  obtain ⟨hx, hb, hr, hml, hown, hts, hK, hA, hlocks, hZ⟩ := id C
  have hl : lv_has ls 2 [(0, .ref h0), (1, .int x1)] := hl
  rw [f_X4_goBehind] at hf
  refine lv_aload_n hx hb dX4_goBehind_0 rfl (lv_at hl 0 rfl) ?_
  refine lv_aload_n hx hb dX4_goBehind_1 rfl (lv_at hl 0 rfl) ?_
  refine va_get (D := D) (ci := 4) (v := .ref (a0 5)) (C := RX4) (T := TX4) (N := 13) hx hb hts hiX4 hown hK hP 0 rfl rfl 5 (by decide) (hts _ flX4_28) (fun _ h9 => h9) rfl dX4_goBehind_2 ?_
  refine lv_iload_n hx hb dX4_goBehind_5 rfl (lv_at hl 1 rfl) ?_
  obtain ⟨q3, hq3, hf⟩ := bd_s hf
  refine k_pVi (wr := W4 cs h0 a0 i0 r0) (ws2 := W4 cs h0 a0 i0 r0 ++ W5 cs (a0 5) a1 i1 r1 l1) (As := [.int x1]) (rest := [.ref h0]) hx hb hml hown hts hK hA hZ hl.1 hP hD hS (c_X5_bodyOf (h0 := (a0 5)) (a0 := a1) hq3) (gVt mlX4_78 imX5_bodyOf seX5_bodyOf inX5 coX5_bodyOf) rfl qnX5_bodyOf rfl rfl ⟨Nat.le_of_ble_eq_true rfl, Nat.le_of_ble_eq_true rfl⟩ [6, 7, 8, 9, 10, 11, 12, 13, 14, 15, 16, 17, 18, 19] [0, 1, 2, 3, 4, 5] [0, 1, 2, 3, 4, 5, 6, 7, 8, 9, 10, 11, 12, 13, 14, 15, 16, 17, 18, 19] rfl rfl rfl (by decide) 0 5 rfl rfl rfl rfl rfl (Nat.le_of_ble_eq_true rfl) ⟨Nat.zero_le _, Nat.zero_le _⟩ dX4_goBehind_6 (fun H locs hP hD hS => ?_)
  refine va_put (D := D) (ci := 4) (v := .int q3) (ty := .int) (C := RX4) (T := TX4) (N := 13) hx hb hts hiX4 tyX4 tyX4_ok nmX4 hown hK hP hD hS 0 rfl rfl 8 (by decide) (hts _ flX4_71) (fun _ h9 => h9) rfl (tyX4_ok 8 (by decide)) rfl rfl (Nat.le_of_ble_eq_true rfl) dX4_goBehind_9 (fun H locs hP hD hS => ?_)
  obtain ⟨hP, hD⟩ := st4_8_T hP hD
  refine lv_aload_n hx hb dX4_goBehind_12 rfl (lv_at hl 0 rfl) ?_
  refine lv_aload_n hx hb dX4_goBehind_13 rfl (lv_at hl 0 rfl) ?_
  refine va_get (D := D) (ci := 4) (v := .ref (a0 5)) (C := RX4) (T := TX4) (N := 13) hx hb hts hiX4 hown hK hP 0 rfl rfl 5 (by decide) (hts _ flX4_28) (fun _ h9 => h9) rfl dX4_goBehind_14 ?_
  refine lv_iload_n hx hb dX4_goBehind_17 rfl (lv_at hl 1 rfl) ?_
  refine lv_aload_n hx hb dX4_goBehind_18 rfl (lv_at hl 0 rfl) ?_
  refine va_get (D := D) (ci := 4) (v := .int (i0 9)) (C := RX4) (T := TX4) (N := 13) hx hb hts hiX4 hown hK hP 0 rfl rfl 9 (by decide) (hts _ flX4_52) (fun _ h9 => h9) rfl dX4_goBehind_19 ?_
  obtain ⟨q4, hq4, hf⟩ := bd_s hf
  refine k_pVi (wr := W4 cs h0 a0 (upd i0 8 q3) r0) (ws2 := W4 cs h0 a0 (upd i0 8 q3) r0 ++ W5 cs (a0 5) a1 i1 r1 l1) (As := [.int x1, .int (i0 9)]) (rest := [.ref h0]) hx hb hml hown hts hK hA hZ hl.1 hP hD hS (c_X5_behind (h0 := (a0 5)) (a0 := a1) hq4) (gVt mlX4_82 imX5_behind seX5_behind inX5 coX5_behind) rfl qnX5_behind rfl rfl ⟨Nat.le_of_ble_eq_true rfl, Nat.le_of_ble_eq_true rfl⟩ [6, 7, 8, 9, 10, 11, 12, 13, 14, 15, 16, 17, 18, 19] [0, 1, 2, 3, 4, 5] [0, 1, 2, 3, 4, 5, 6, 7, 8, 9, 10, 11, 12, 13, 14, 15, 16, 17, 18, 19] rfl rfl rfl (by decide) 0 5 rfl rfl rfl rfl rfl (Nat.le_of_ble_eq_true rfl) ⟨Nat.zero_le _, Nat.zero_le _⟩ dX4_goBehind_22 (fun H locs hP hD hS => ?_)
  refine va_put (D := D) (ci := 4) (v := .int q4) (ty := .int) (C := RX4) (T := TX4) (N := 13) hx hb hts hiX4 tyX4 tyX4_ok nmX4 hown hK hP hD hS 0 rfl rfl 7 (by decide) (hts _ flX4_62) (fun _ h9 => h9) rfl (tyX4_ok 7 (by decide)) rfl rfl (Nat.le_of_ble_eq_true rfl) dX4_goBehind_25 (fun H locs hP hD hS => ?_)
  obtain ⟨hP, hD⟩ := st4_7_T hP hD
  obtain rfl := Option.some.inj hf
  exact k_vret hx hb hr hlocks hK hP hD hS dX4_goBehind_28
/-! MarbleFloor$Machine.endCall()V -/
abbrev wlX4_endCall : List Cond := Cond.code yX4_endCall cX4_endCall 1 none :: tbG
abbrev rmX4_endCall : Room := { frames := 2, cells := 0, slots := 0, locals := 43 }
theorem qnX4_endCall : yX4_endCall.cls = RX4 ∧ yX4_endCall.cls ≠ "java/lang/invoke/MethodHandle" ∧ yX4_endCall.cls ≠ "java/lang/invoke/VarHandle" ∧ (parseMethodDescriptor yX4_endCall.desc).map (fun d => d.parameters.length) = some 0 := by decide +kernel
def f_X4_endCall  (i0 : Nat → Int32) (r0 : Nat → Nat → Int32) (i1 : Nat → Int32) (r1 : Nat → Nat → Int32) (l1 : Nat → Nat → Int64)  : Option ((Nat → Int32)) := if (i0 6) = 0 then (some ((upd i0 10 1))) else (ck (inb ((i0 6) - 1) 20) (ck (bz (r0 4 ((i0 6) - 1).toNatClampNeg)) (ck (inb ((i0 6) - 1) 20) (bd (f_X4_goBehind (upd (upd i0 6 ((i0 6) - 1)) 9 (r0 4 ((i0 6) - 1).toNatClampNeg)) r0 i1 r1 l1 (r0 3 ((i0 6) - 1).toNatClampNeg)) (fun q2 => some (q2))))))
set_option maxRecDepth 100000 in
set_option maxHeartbeats 4000000 in
theorem c_X4_endCall {l : Launch} {D : va_G} {cs zs : Nat → Nat} {h0 : Nat} {a0 : Nat → Nat} {a1 : Nat → Nat} {i0 : Nat → Int32} {r0 : Nat → Nat → Int32} {i1 : Nat → Int32} {r1 : Nat → Nat → Int32} {l1 : Nat → Nat → Int64}  {q : (Nat → Int32)} (hf : f_X4_endCall i0 r0 i1 r1 l1 = some q) : Mv l yX4_endCall wlX4_endCall rmX4_endCall D cs zs [.ref h0] (W4 cs h0 a0 i0 r0 ++ W5 cs (a0 5) a1 i1 r1 l1) (W4 cs h0 a0 q r0 ++ W5 cs (a0 5) a1 i1 r1 l1) := by
  refine Mv.of RX4 (by decide) rfl (Nat.le_of_ble_eq_true rfl) (fun p e s m below meth c A C hP hD hS ls hl => ?_)
  generalize ([.ref h0] : List Value).toArray = args at C ⊢
  obtain ⟨hx, hb, hr, hml, hown, hts, hK, hA, hlocks, hZ⟩ := id C
  have hl : lv_has ls 1 [(0, .ref h0)] := hl
  rw [f_X4_endCall] at hf
  refine lv_aload_n hx hb dX4_endCall_0 rfl (lv_at hl 0 rfl) ?_
  refine va_get (D := D) (ci := 4) (v := .int (i0 6)) (C := RX4) (T := TX4) (N := 13) hx hb hts hiX4 hown hK hP 0 rfl rfl 6 (by decide) (hts _ flX4_45) (fun _ h9 => h9) rfl dX4_endCall_1 ?_
  refine lv_if_ne (tgt := 13) hx hb dX4_endCall_4 (by decide) (fun hc => ?_) (fun hc => ?_)
  · have hf := ite_f hf hc
    refine lv_aload_n hx hb dX4_endCall_13 rfl (lv_at hl 0 rfl) ?_
    refine lv_dup hx hb dX4_endCall_14 rfl ?_
    refine va_get (D := D) (ci := 4) (v := .int (i0 6)) (C := RX4) (T := TX4) (N := 13) hx hb hts hiX4 hown hK hP 0 rfl rfl 6 (by decide) (hts _ flX4_45) (fun _ h9 => h9) rfl dX4_endCall_15 ?_
    refine lv_iconst (v := 1) hx hb dX4_endCall_18 (by decide) ?_
    refine lv_isub hx hb dX4_endCall_19 ?_
    refine va_put (D := D) (ci := 4) (v := .int ((i0 6) - 1)) (ty := .int) (C := RX4) (T := TX4) (N := 13) hx hb hts hiX4 tyX4 tyX4_ok nmX4 hown hK hP hD hS 0 rfl rfl 6 (by decide) (hts _ flX4_45) (fun _ h9 => h9) rfl (tyX4_ok 6 (by decide)) rfl rfl (Nat.le_of_ble_eq_true rfl) dX4_endCall_20 (fun H locs hP hD hS => ?_)
    obtain ⟨hP, hD⟩ := st4_6_T hP hD
    refine lv_aload_n hx hb dX4_endCall_23 rfl (lv_at hl 0 rfl) ?_
    refine lv_aload_n hx hb dX4_endCall_24 rfl (lv_at hl 0 rfl) ?_
    refine va_get (D := D) (ci := 4) (v := .ref (a0 4)) (C := RX4) (T := TX4) (N := 13) hx hb hts hiX4 hown hK hP 0 rfl rfl 4 (by decide) (hts _ flX4_24) (fun _ h9 => h9) rfl dX4_endCall_25 ?_
    refine lv_aload_n hx hb dX4_endCall_28 rfl (lv_at hl 0 rfl) ?_
    refine va_get (D := D) (ci := 4) (v := .int ((i0 6) - 1)) (C := RX4) (T := TX4) (N := 13) hx hb hts hiX4 hown hK hP 0 rfl rfl 6 (by decide) (hts _ flX4_45) (fun _ h9 => h9) rfl dX4_endCall_29 ?_
    refine va_zald (f := r0 4) hx hb hK hP 5 2 rfl rfl (ck_in hf) dX4_endCall_32 ?_
    have hf := ck_2 hf
    have hz := ck_bz hf
    have hzf := ck_bzf hf
    have hf := ck_2 hf
    refine va_put (D := D) (ci := 4) (v := .int (r0 4 ((i0 6) - 1).toNatClampNeg)) (ty := .boolean) (C := RX4) (T := TX4) (N := 13) hx hb hts hiX4 tyX4 tyX4_ok nmX4 hown hK hP hD hS 0 rfl rfl 9 (by decide) (hts _ flX4_52) (fun _ h9 => h9) rfl (tyX4_ok 9 (by decide)) hz hzf (Nat.le_of_ble_eq_true rfl) dX4_endCall_33 (fun H locs hP hD hS => ?_)
    obtain ⟨hP, hD⟩ := st4_9_T hP hD
    refine lv_aload_n hx hb dX4_endCall_36 rfl (lv_at hl 0 rfl) ?_
    refine lv_aload_n hx hb dX4_endCall_37 rfl (lv_at hl 0 rfl) ?_
    refine va_get (D := D) (ci := 4) (v := .ref (a0 3)) (C := RX4) (T := TX4) (N := 13) hx hb hts hiX4 hown hK hP 0 rfl rfl 3 (by decide) (hts _ flX4_21) (fun _ h9 => h9) rfl dX4_endCall_38 ?_
    refine lv_aload_n hx hb dX4_endCall_41 rfl (lv_at hl 0 rfl) ?_
    refine va_get (D := D) (ci := 4) (v := .int ((i0 6) - 1)) (C := RX4) (T := TX4) (N := 13) hx hb hts hiX4 hown hK hP 0 rfl rfl 6 (by decide) (hts _ flX4_45) (fun _ h9 => h9) rfl dX4_endCall_42 ?_
    refine va_iald (f := r0 3) hx hb hK hP 4 0 rfl rfl (ck_in hf) dX4_endCall_45 ?_
    have hf := ck_2 hf
    obtain ⟨q2, hq2, hf⟩ := bd_s hf
    refine k_sVv (ws2 := W4 cs h0 a0 q2 r0 ++ W5 cs (a0 5) a1 i1 r1 l1) (As := [.int (r0 3 ((i0 6) - 1).toNatClampNeg)]) (rest := []) hx hb hml hown hts hK hA hZ hl.1 hP hD hS (c_X4_goBehind (h0 := h0) (a0 := a0) (a1 := a1) hq2) (gVt mlX4_114 imX4_goBehind seX4_goBehind inX4 coX4_goBehind) rfl qnX4_goBehind rfl rfl ⟨Nat.le_of_ble_eq_true rfl, Nat.le_of_ble_eq_true rfl⟩ 0 4 rfl rfl rfl rfl rfl (Nat.le_of_ble_eq_true rfl) ⟨Nat.zero_le _, Nat.zero_le _⟩ dX4_endCall_46 (fun H locs hP hD hS => ?_)
    obtain rfl := Option.some.inj hf
    exact k_vret hx hb hr hlocks hK hP hD hS dX4_endCall_49
  · have hf := ite_t hf hc
    refine lv_aload_n hx hb dX4_endCall_7 rfl (lv_at hl 0 rfl) ?_
    refine lv_iconst (v := 1) hx hb dX4_endCall_8 (by decide) ?_
    refine va_put (D := D) (ci := 4) (v := .int 1) (ty := .boolean) (C := RX4) (T := TX4) (N := 13) hx hb hts hiX4 tyX4 tyX4_ok nmX4 hown hK hP hD hS 0 rfl rfl 10 (by decide) (hts _ flX4_48) (fun _ h9 => h9) rfl (tyX4_ok 10 (by decide)) rfl rfl (Nat.le_of_ble_eq_true rfl) dX4_endCall_9 (fun H locs hP hD hS => ?_)
    obtain ⟨hP, hD⟩ := st4_10_T hP hD
    obtain rfl := Option.some.inj hf
    exact k_vret hx hb hr hlocks hK hP hD hS dX4_endCall_12
/-! MarbleFloor$Machine.work(III)I -/
abbrev wlX4_work : List Cond := Cond.code yX4_work cX4_work 3 (some .int) :: tbG
abbrev rmX4_work : Room := { frames := 0, cells := 0, slots := 0, locals := 0 }
theorem qnX4_work : yX4_work.cls ≠ "java/lang/invoke/MethodHandle" ∧ yX4_work.cls ≠ "java/lang/invoke/VarHandle" ∧ (parseMethodDescriptor yX4_work.desc).map (fun d => d.parameters.length) = some 3 := by decide +kernel
def f_X4_work   (x0 : Int32) (x1 : Int32) (x2 : Int32) : Option (Int32) := if x0 = 37 then (if x2 = 0 then (some (0)) else (ck (nz x2) (some (x1 - x1 / x2 * x2)))) else (if x0 = 38 then (some (x1 &&& x2)) else (if x0 = 42 then (some (x1 * x2)) else (if x0 = 43 then (some (x1 + x2)) else (if x0 = 45 then (some (x1 - x2)) else (if x0 = 47 then (if x2 = 0 then (some (0)) else (ck (nz x2) (some (x1 / x2)))) else (if x0 = 60 then (if x2 ≤ x1 then (some (0)) else (some (1))) else (if x0 = 61 then (if x1 = x2 then (some (1)) else (some (0))) else (if x0 = 62 then (if x1 ≤ x2 then (some (0)) else (some (1))) else (if x1 = x2 then (some (0)) else (some (1)))))))))))
set_option maxRecDepth 100000 in
set_option maxHeartbeats 4000000 in
theorem c_X4_work {l : Launch} {D : va_G} {cs zs : Nat → Nat}   {x0 : Int32} {x1 : Int32} {x2 : Int32} {q : Int32} (hf : f_X4_work x0 x1 x2 = some q) : Mi l yX4_work wlX4_work rmX4_work D cs zs [.int x0, .int x1, .int x2] (([] : va_W)) q (([] : va_W)) := by
  refine Mi.of RX4 (by decide) rfl (Nat.le_of_ble_eq_true rfl) (fun p e s m below meth c A C hP hD hS ls hl => ?_)
  generalize ([.int x0, .int x1, .int x2] : List Value).toArray = args at C ⊢
  obtain ⟨hx, hb, hr, hml, hown, hts, hK, hA, hlocks, hZ⟩ := id C
  have hl : lv_has ls 3 [(0, .int x0), (1, .int x1), (2, .int x2)] := hl
  rw [f_X4_work] at hf
  refine lv_iload_n hx hb dX4_work_0 rfl (lv_at hl 0 rfl) ?_
  by_cases hc37 : x0 = 37
  · have hf := ite_t hf hc37
    refine lv_tableIn (off := 143) (tgt := 144) hx hb dX4_work_1 (by rw [hc37]; decide) (by rw [hc37]; decide) (by rw [hc37]; rfl) (by decide) ?_
    refine lv_iload_n hx hb dX4_work_144 rfl (lv_at hl 2 rfl) ?_
    refine lv_if_ne (tgt := 152) hx hb dX4_work_145 (by decide) (fun hc => ?_) (fun hc => ?_)
    · have hf := ite_f hf hc
      refine lv_iload_n hx hb dX4_work_152 rfl (lv_at hl 1 rfl) ?_
      refine lv_iload_n hx hb dX4_work_153 rfl (lv_at hl 2 rfl) ?_
      refine lv_irem hx hb dX4_work_154 (ck_nz hf) ?_
      have hf := ck_2 hf
      obtain rfl := Option.some.inj hf
      exact k_iret hx hb hr hlocks hK hP hD hS dX4_work_155
    · have hf := ite_t hf hc
      refine lv_iconst (v := 0) hx hb dX4_work_148 (by decide) ?_
      refine lv_goto (tgt := 155) hx hb dX4_work_149 (by decide) ?_
      obtain rfl := Option.some.inj hf
      exact k_iret hx hb hr hlocks hK hP hD hS dX4_work_155
  · have hf := ite_f hf hc37
    by_cases hc38 : x0 = 38
    · have hf := ite_t hf hc38
      refine lv_tableIn (off := 155) (tgt := 156) hx hb dX4_work_1 (by rw [hc38]; decide) (by rw [hc38]; decide) (by rw [hc38]; rfl) (by decide) ?_
      refine lv_iload_n hx hb dX4_work_156 rfl (lv_at hl 1 rfl) ?_
      refine lv_iload_n hx hb dX4_work_157 rfl (lv_at hl 2 rfl) ?_
      refine lv_iand hx hb dX4_work_158 ?_
      obtain rfl := Option.some.inj hf
      exact k_iret hx hb hr hlocks hK hP hD hS dX4_work_159
    · have hf := ite_f hf hc38
      by_cases hc42 : x0 = 42
      · have hf := ite_t hf hc42
        refine lv_tableIn (off := 127) (tgt := 128) hx hb dX4_work_1 (by rw [hc42]; decide) (by rw [hc42]; decide) (by rw [hc42]; rfl) (by decide) ?_
        refine lv_iload_n hx hb dX4_work_128 rfl (lv_at hl 1 rfl) ?_
        refine lv_iload_n hx hb dX4_work_129 rfl (lv_at hl 2 rfl) ?_
        refine lv_imul hx hb dX4_work_130 ?_
        obtain rfl := Option.some.inj hf
        exact k_iret hx hb hr hlocks hK hP hD hS dX4_work_131
      · have hf := ite_f hf hc42
        by_cases hc43 : x0 = 43
        · have hf := ite_t hf hc43
          refine lv_tableIn (off := 119) (tgt := 120) hx hb dX4_work_1 (by rw [hc43]; decide) (by rw [hc43]; decide) (by rw [hc43]; rfl) (by decide) ?_
          refine lv_iload_n hx hb dX4_work_120 rfl (lv_at hl 1 rfl) ?_
          refine lv_iload_n hx hb dX4_work_121 rfl (lv_at hl 2 rfl) ?_
          refine lv_iadd hx hb dX4_work_122 ?_
          obtain rfl := Option.some.inj hf
          exact k_iret hx hb hr hlocks hK hP hD hS dX4_work_123
        · have hf := ite_f hf hc43
          by_cases hc45 : x0 = 45
          · have hf := ite_t hf hc45
            refine lv_tableIn (off := 123) (tgt := 124) hx hb dX4_work_1 (by rw [hc45]; decide) (by rw [hc45]; decide) (by rw [hc45]; rfl) (by decide) ?_
            refine lv_iload_n hx hb dX4_work_124 rfl (lv_at hl 1 rfl) ?_
            refine lv_iload_n hx hb dX4_work_125 rfl (lv_at hl 2 rfl) ?_
            refine lv_isub hx hb dX4_work_126 ?_
            obtain rfl := Option.some.inj hf
            exact k_iret hx hb hr hlocks hK hP hD hS dX4_work_127
          · have hf := ite_f hf hc45
            by_cases hc47 : x0 = 47
            · have hf := ite_t hf hc47
              refine lv_tableIn (off := 131) (tgt := 132) hx hb dX4_work_1 (by rw [hc47]; decide) (by rw [hc47]; decide) (by rw [hc47]; rfl) (by decide) ?_
              refine lv_iload_n hx hb dX4_work_132 rfl (lv_at hl 2 rfl) ?_
              refine lv_if_ne (tgt := 140) hx hb dX4_work_133 (by decide) (fun hc => ?_) (fun hc => ?_)
              · have hf := ite_f hf hc
                refine lv_iload_n hx hb dX4_work_140 rfl (lv_at hl 1 rfl) ?_
                refine lv_iload_n hx hb dX4_work_141 rfl (lv_at hl 2 rfl) ?_
                refine lv_idiv hx hb dX4_work_142 (ck_nz hf) ?_
                have hf := ck_2 hf
                obtain rfl := Option.some.inj hf
                exact k_iret hx hb hr hlocks hK hP hD hS dX4_work_143
              · have hf := ite_t hf hc
                refine lv_iconst (v := 0) hx hb dX4_work_136 (by decide) ?_
                refine lv_goto (tgt := 143) hx hb dX4_work_137 (by decide) ?_
                obtain rfl := Option.some.inj hf
                exact k_iret hx hb hr hlocks hK hP hD hS dX4_work_143
            · have hf := ite_f hf hc47
              by_cases hc60 : x0 = 60
              · have hf := ite_t hf hc60
                refine lv_tableIn (off := 170) (tgt := 171) hx hb dX4_work_1 (by rw [hc60]; decide) (by rw [hc60]; decide) (by rw [hc60]; rfl) (by decide) ?_
                refine lv_iload_n hx hb dX4_work_171 rfl (lv_at hl 1 rfl) ?_
                refine lv_iload_n hx hb dX4_work_172 rfl (lv_at hl 2 rfl) ?_
                refine lv_icmp_ge (tgt := 180) hx hb dX4_work_173 (by decide) (fun hc => ?_) (fun hc => ?_)
                · have hf := ite_t hf hc
                  refine lv_iconst (v := 0) hx hb dX4_work_180 (by decide) ?_
                  obtain rfl := Option.some.inj hf
                  exact k_iret hx hb hr hlocks hK hP hD hS dX4_work_181
                · have hf := ite_f hf hc
                  refine lv_iconst (v := 1) hx hb dX4_work_176 (by decide) ?_
                  refine lv_goto (tgt := 181) hx hb dX4_work_177 (by decide) ?_
                  obtain rfl := Option.some.inj hf
                  exact k_iret hx hb hr hlocks hK hP hD hS dX4_work_181
              · have hf := ite_f hf hc60
                by_cases hc61 : x0 = 61
                · have hf := ite_t hf hc61
                  refine lv_tableIn (off := 159) (tgt := 160) hx hb dX4_work_1 (by rw [hc61]; decide) (by rw [hc61]; decide) (by rw [hc61]; rfl) (by decide) ?_
                  refine lv_iload_n hx hb dX4_work_160 rfl (lv_at hl 1 rfl) ?_
                  refine lv_iload_n hx hb dX4_work_161 rfl (lv_at hl 2 rfl) ?_
                  refine lv_icmp_ne (tgt := 169) hx hb dX4_work_162 (by decide) (fun hc => ?_) (fun hc => ?_)
                  · have hf := ite_f hf hc
                    refine lv_iconst (v := 0) hx hb dX4_work_169 (by decide) ?_
                    obtain rfl := Option.some.inj hf
                    exact k_iret hx hb hr hlocks hK hP hD hS dX4_work_170
                  · have hf := ite_t hf hc
                    refine lv_iconst (v := 1) hx hb dX4_work_165 (by decide) ?_
                    refine lv_goto (tgt := 170) hx hb dX4_work_166 (by decide) ?_
                    obtain rfl := Option.some.inj hf
                    exact k_iret hx hb hr hlocks hK hP hD hS dX4_work_170
                · have hf := ite_f hf hc61
                  by_cases hc62 : x0 = 62
                  · have hf := ite_t hf hc62
                    refine lv_tableIn (off := 181) (tgt := 182) hx hb dX4_work_1 (by rw [hc62]; decide) (by rw [hc62]; decide) (by rw [hc62]; rfl) (by decide) ?_
                    refine lv_iload_n hx hb dX4_work_182 rfl (lv_at hl 1 rfl) ?_
                    refine lv_iload_n hx hb dX4_work_183 rfl (lv_at hl 2 rfl) ?_
                    refine lv_icmp_le (tgt := 191) hx hb dX4_work_184 (by decide) (fun hc => ?_) (fun hc => ?_)
                    · have hf := ite_t hf hc
                      refine lv_iconst (v := 0) hx hb dX4_work_191 (by decide) ?_
                      obtain rfl := Option.some.inj hf
                      exact k_iret hx hb hr hlocks hK hP hD hS dX4_work_192
                    · have hf := ite_f hf hc
                      refine lv_iconst (v := 1) hx hb dX4_work_187 (by decide) ?_
                      refine lv_goto (tgt := 192) hx hb dX4_work_188 (by decide) ?_
                      obtain rfl := Option.some.inj hf
                      exact k_iret hx hb hr hlocks hK hP hD hS dX4_work_192
                  · have hf := ite_f hf hc62
                    by_cases hc39 : x0 = 39
                    · refine lv_tableIn (off := 192) (tgt := 193) hx hb dX4_work_1 (by rw [hc39]; decide) (by rw [hc39]; decide) (by rw [hc39]; rfl) (by decide) ?_
                      refine lv_iload_n hx hb dX4_work_193 rfl (lv_at hl 1 rfl) ?_
                      refine lv_iload_n hx hb dX4_work_194 rfl (lv_at hl 2 rfl) ?_
                      refine lv_icmp_eq (tgt := 202) hx hb dX4_work_195 (by decide) (fun hc => ?_) (fun hc => ?_)
                      · have hf := ite_t hf hc
                        refine lv_iconst (v := 0) hx hb dX4_work_202 (by decide) ?_
                        obtain rfl := Option.some.inj hf
                        exact k_iret hx hb hr hlocks hK hP hD hS dX4_work_203
                      · have hf := ite_f hf hc
                        refine lv_iconst (v := 1) hx hb dX4_work_198 (by decide) ?_
                        refine lv_goto (tgt := 203) hx hb dX4_work_199 (by decide) ?_
                        obtain rfl := Option.some.inj hf
                        exact k_iret hx hb hr hlocks hK hP hD hS dX4_work_203
                    · by_cases hc40 : x0 = 40
                      · refine lv_tableIn (off := 192) (tgt := 193) hx hb dX4_work_1 (by rw [hc40]; decide) (by rw [hc40]; decide) (by rw [hc40]; rfl) (by decide) ?_
                        refine lv_iload_n hx hb dX4_work_193 rfl (lv_at hl 1 rfl) ?_
                        refine lv_iload_n hx hb dX4_work_194 rfl (lv_at hl 2 rfl) ?_
                        refine lv_icmp_eq (tgt := 202) hx hb dX4_work_195 (by decide) (fun hc => ?_) (fun hc => ?_)
                        · have hf := ite_t hf hc
                          refine lv_iconst (v := 0) hx hb dX4_work_202 (by decide) ?_
                          obtain rfl := Option.some.inj hf
                          exact k_iret hx hb hr hlocks hK hP hD hS dX4_work_203
                        · have hf := ite_f hf hc
                          refine lv_iconst (v := 1) hx hb dX4_work_198 (by decide) ?_
                          refine lv_goto (tgt := 203) hx hb dX4_work_199 (by decide) ?_
                          obtain rfl := Option.some.inj hf
                          exact k_iret hx hb hr hlocks hK hP hD hS dX4_work_203
                      · by_cases hc41 : x0 = 41
                        · refine lv_tableIn (off := 192) (tgt := 193) hx hb dX4_work_1 (by rw [hc41]; decide) (by rw [hc41]; decide) (by rw [hc41]; rfl) (by decide) ?_
                          refine lv_iload_n hx hb dX4_work_193 rfl (lv_at hl 1 rfl) ?_
                          refine lv_iload_n hx hb dX4_work_194 rfl (lv_at hl 2 rfl) ?_
                          refine lv_icmp_eq (tgt := 202) hx hb dX4_work_195 (by decide) (fun hc => ?_) (fun hc => ?_)
                          · have hf := ite_t hf hc
                            refine lv_iconst (v := 0) hx hb dX4_work_202 (by decide) ?_
                            obtain rfl := Option.some.inj hf
                            exact k_iret hx hb hr hlocks hK hP hD hS dX4_work_203
                          · have hf := ite_f hf hc
                            refine lv_iconst (v := 1) hx hb dX4_work_198 (by decide) ?_
                            refine lv_goto (tgt := 203) hx hb dX4_work_199 (by decide) ?_
                            obtain rfl := Option.some.inj hf
                            exact k_iret hx hb hr hlocks hK hP hD hS dX4_work_203
                        · by_cases hc44 : x0 = 44
                          · refine lv_tableIn (off := 192) (tgt := 193) hx hb dX4_work_1 (by rw [hc44]; decide) (by rw [hc44]; decide) (by rw [hc44]; rfl) (by decide) ?_
                            refine lv_iload_n hx hb dX4_work_193 rfl (lv_at hl 1 rfl) ?_
                            refine lv_iload_n hx hb dX4_work_194 rfl (lv_at hl 2 rfl) ?_
                            refine lv_icmp_eq (tgt := 202) hx hb dX4_work_195 (by decide) (fun hc => ?_) (fun hc => ?_)
                            · have hf := ite_t hf hc
                              refine lv_iconst (v := 0) hx hb dX4_work_202 (by decide) ?_
                              obtain rfl := Option.some.inj hf
                              exact k_iret hx hb hr hlocks hK hP hD hS dX4_work_203
                            · have hf := ite_f hf hc
                              refine lv_iconst (v := 1) hx hb dX4_work_198 (by decide) ?_
                              refine lv_goto (tgt := 203) hx hb dX4_work_199 (by decide) ?_
                              obtain rfl := Option.some.inj hf
                              exact k_iret hx hb hr hlocks hK hP hD hS dX4_work_203
                          · by_cases hc46 : x0 = 46
                            · refine lv_tableIn (off := 192) (tgt := 193) hx hb dX4_work_1 (by rw [hc46]; decide) (by rw [hc46]; decide) (by rw [hc46]; rfl) (by decide) ?_
                              refine lv_iload_n hx hb dX4_work_193 rfl (lv_at hl 1 rfl) ?_
                              refine lv_iload_n hx hb dX4_work_194 rfl (lv_at hl 2 rfl) ?_
                              refine lv_icmp_eq (tgt := 202) hx hb dX4_work_195 (by decide) (fun hc => ?_) (fun hc => ?_)
                              · have hf := ite_t hf hc
                                refine lv_iconst (v := 0) hx hb dX4_work_202 (by decide) ?_
                                obtain rfl := Option.some.inj hf
                                exact k_iret hx hb hr hlocks hK hP hD hS dX4_work_203
                              · have hf := ite_f hf hc
                                refine lv_iconst (v := 1) hx hb dX4_work_198 (by decide) ?_
                                refine lv_goto (tgt := 203) hx hb dX4_work_199 (by decide) ?_
                                obtain rfl := Option.some.inj hf
                                exact k_iret hx hb hr hlocks hK hP hD hS dX4_work_203
                            · by_cases hc48 : x0 = 48
                              · refine lv_tableIn (off := 192) (tgt := 193) hx hb dX4_work_1 (by rw [hc48]; decide) (by rw [hc48]; decide) (by rw [hc48]; rfl) (by decide) ?_
                                refine lv_iload_n hx hb dX4_work_193 rfl (lv_at hl 1 rfl) ?_
                                refine lv_iload_n hx hb dX4_work_194 rfl (lv_at hl 2 rfl) ?_
                                refine lv_icmp_eq (tgt := 202) hx hb dX4_work_195 (by decide) (fun hc => ?_) (fun hc => ?_)
                                · have hf := ite_t hf hc
                                  refine lv_iconst (v := 0) hx hb dX4_work_202 (by decide) ?_
                                  obtain rfl := Option.some.inj hf
                                  exact k_iret hx hb hr hlocks hK hP hD hS dX4_work_203
                                · have hf := ite_f hf hc
                                  refine lv_iconst (v := 1) hx hb dX4_work_198 (by decide) ?_
                                  refine lv_goto (tgt := 203) hx hb dX4_work_199 (by decide) ?_
                                  obtain rfl := Option.some.inj hf
                                  exact k_iret hx hb hr hlocks hK hP hD hS dX4_work_203
                              · by_cases hc49 : x0 = 49
                                · refine lv_tableIn (off := 192) (tgt := 193) hx hb dX4_work_1 (by rw [hc49]; decide) (by rw [hc49]; decide) (by rw [hc49]; rfl) (by decide) ?_
                                  refine lv_iload_n hx hb dX4_work_193 rfl (lv_at hl 1 rfl) ?_
                                  refine lv_iload_n hx hb dX4_work_194 rfl (lv_at hl 2 rfl) ?_
                                  refine lv_icmp_eq (tgt := 202) hx hb dX4_work_195 (by decide) (fun hc => ?_) (fun hc => ?_)
                                  · have hf := ite_t hf hc
                                    refine lv_iconst (v := 0) hx hb dX4_work_202 (by decide) ?_
                                    obtain rfl := Option.some.inj hf
                                    exact k_iret hx hb hr hlocks hK hP hD hS dX4_work_203
                                  · have hf := ite_f hf hc
                                    refine lv_iconst (v := 1) hx hb dX4_work_198 (by decide) ?_
                                    refine lv_goto (tgt := 203) hx hb dX4_work_199 (by decide) ?_
                                    obtain rfl := Option.some.inj hf
                                    exact k_iret hx hb hr hlocks hK hP hD hS dX4_work_203
                                · by_cases hc50 : x0 = 50
                                  · refine lv_tableIn (off := 192) (tgt := 193) hx hb dX4_work_1 (by rw [hc50]; decide) (by rw [hc50]; decide) (by rw [hc50]; rfl) (by decide) ?_
                                    refine lv_iload_n hx hb dX4_work_193 rfl (lv_at hl 1 rfl) ?_
                                    refine lv_iload_n hx hb dX4_work_194 rfl (lv_at hl 2 rfl) ?_
                                    refine lv_icmp_eq (tgt := 202) hx hb dX4_work_195 (by decide) (fun hc => ?_) (fun hc => ?_)
                                    · have hf := ite_t hf hc
                                      refine lv_iconst (v := 0) hx hb dX4_work_202 (by decide) ?_
                                      obtain rfl := Option.some.inj hf
                                      exact k_iret hx hb hr hlocks hK hP hD hS dX4_work_203
                                    · have hf := ite_f hf hc
                                      refine lv_iconst (v := 1) hx hb dX4_work_198 (by decide) ?_
                                      refine lv_goto (tgt := 203) hx hb dX4_work_199 (by decide) ?_
                                      obtain rfl := Option.some.inj hf
                                      exact k_iret hx hb hr hlocks hK hP hD hS dX4_work_203
                                  · by_cases hc51 : x0 = 51
                                    · refine lv_tableIn (off := 192) (tgt := 193) hx hb dX4_work_1 (by rw [hc51]; decide) (by rw [hc51]; decide) (by rw [hc51]; rfl) (by decide) ?_
                                      refine lv_iload_n hx hb dX4_work_193 rfl (lv_at hl 1 rfl) ?_
                                      refine lv_iload_n hx hb dX4_work_194 rfl (lv_at hl 2 rfl) ?_
                                      refine lv_icmp_eq (tgt := 202) hx hb dX4_work_195 (by decide) (fun hc => ?_) (fun hc => ?_)
                                      · have hf := ite_t hf hc
                                        refine lv_iconst (v := 0) hx hb dX4_work_202 (by decide) ?_
                                        obtain rfl := Option.some.inj hf
                                        exact k_iret hx hb hr hlocks hK hP hD hS dX4_work_203
                                      · have hf := ite_f hf hc
                                        refine lv_iconst (v := 1) hx hb dX4_work_198 (by decide) ?_
                                        refine lv_goto (tgt := 203) hx hb dX4_work_199 (by decide) ?_
                                        obtain rfl := Option.some.inj hf
                                        exact k_iret hx hb hr hlocks hK hP hD hS dX4_work_203
                                    · by_cases hc52 : x0 = 52
                                      · refine lv_tableIn (off := 192) (tgt := 193) hx hb dX4_work_1 (by rw [hc52]; decide) (by rw [hc52]; decide) (by rw [hc52]; rfl) (by decide) ?_
                                        refine lv_iload_n hx hb dX4_work_193 rfl (lv_at hl 1 rfl) ?_
                                        refine lv_iload_n hx hb dX4_work_194 rfl (lv_at hl 2 rfl) ?_
                                        refine lv_icmp_eq (tgt := 202) hx hb dX4_work_195 (by decide) (fun hc => ?_) (fun hc => ?_)
                                        · have hf := ite_t hf hc
                                          refine lv_iconst (v := 0) hx hb dX4_work_202 (by decide) ?_
                                          obtain rfl := Option.some.inj hf
                                          exact k_iret hx hb hr hlocks hK hP hD hS dX4_work_203
                                        · have hf := ite_f hf hc
                                          refine lv_iconst (v := 1) hx hb dX4_work_198 (by decide) ?_
                                          refine lv_goto (tgt := 203) hx hb dX4_work_199 (by decide) ?_
                                          obtain rfl := Option.some.inj hf
                                          exact k_iret hx hb hr hlocks hK hP hD hS dX4_work_203
                                      · by_cases hc53 : x0 = 53
                                        · refine lv_tableIn (off := 192) (tgt := 193) hx hb dX4_work_1 (by rw [hc53]; decide) (by rw [hc53]; decide) (by rw [hc53]; rfl) (by decide) ?_
                                          refine lv_iload_n hx hb dX4_work_193 rfl (lv_at hl 1 rfl) ?_
                                          refine lv_iload_n hx hb dX4_work_194 rfl (lv_at hl 2 rfl) ?_
                                          refine lv_icmp_eq (tgt := 202) hx hb dX4_work_195 (by decide) (fun hc => ?_) (fun hc => ?_)
                                          · have hf := ite_t hf hc
                                            refine lv_iconst (v := 0) hx hb dX4_work_202 (by decide) ?_
                                            obtain rfl := Option.some.inj hf
                                            exact k_iret hx hb hr hlocks hK hP hD hS dX4_work_203
                                          · have hf := ite_f hf hc
                                            refine lv_iconst (v := 1) hx hb dX4_work_198 (by decide) ?_
                                            refine lv_goto (tgt := 203) hx hb dX4_work_199 (by decide) ?_
                                            obtain rfl := Option.some.inj hf
                                            exact k_iret hx hb hr hlocks hK hP hD hS dX4_work_203
                                        · by_cases hc54 : x0 = 54
                                          · refine lv_tableIn (off := 192) (tgt := 193) hx hb dX4_work_1 (by rw [hc54]; decide) (by rw [hc54]; decide) (by rw [hc54]; rfl) (by decide) ?_
                                            refine lv_iload_n hx hb dX4_work_193 rfl (lv_at hl 1 rfl) ?_
                                            refine lv_iload_n hx hb dX4_work_194 rfl (lv_at hl 2 rfl) ?_
                                            refine lv_icmp_eq (tgt := 202) hx hb dX4_work_195 (by decide) (fun hc => ?_) (fun hc => ?_)
                                            · have hf := ite_t hf hc
                                              refine lv_iconst (v := 0) hx hb dX4_work_202 (by decide) ?_
                                              obtain rfl := Option.some.inj hf
                                              exact k_iret hx hb hr hlocks hK hP hD hS dX4_work_203
                                            · have hf := ite_f hf hc
                                              refine lv_iconst (v := 1) hx hb dX4_work_198 (by decide) ?_
                                              refine lv_goto (tgt := 203) hx hb dX4_work_199 (by decide) ?_
                                              obtain rfl := Option.some.inj hf
                                              exact k_iret hx hb hr hlocks hK hP hD hS dX4_work_203
                                          · by_cases hc55 : x0 = 55
                                            · refine lv_tableIn (off := 192) (tgt := 193) hx hb dX4_work_1 (by rw [hc55]; decide) (by rw [hc55]; decide) (by rw [hc55]; rfl) (by decide) ?_
                                              refine lv_iload_n hx hb dX4_work_193 rfl (lv_at hl 1 rfl) ?_
                                              refine lv_iload_n hx hb dX4_work_194 rfl (lv_at hl 2 rfl) ?_
                                              refine lv_icmp_eq (tgt := 202) hx hb dX4_work_195 (by decide) (fun hc => ?_) (fun hc => ?_)
                                              · have hf := ite_t hf hc
                                                refine lv_iconst (v := 0) hx hb dX4_work_202 (by decide) ?_
                                                obtain rfl := Option.some.inj hf
                                                exact k_iret hx hb hr hlocks hK hP hD hS dX4_work_203
                                              · have hf := ite_f hf hc
                                                refine lv_iconst (v := 1) hx hb dX4_work_198 (by decide) ?_
                                                refine lv_goto (tgt := 203) hx hb dX4_work_199 (by decide) ?_
                                                obtain rfl := Option.some.inj hf
                                                exact k_iret hx hb hr hlocks hK hP hD hS dX4_work_203
                                            · by_cases hc56 : x0 = 56
                                              · refine lv_tableIn (off := 192) (tgt := 193) hx hb dX4_work_1 (by rw [hc56]; decide) (by rw [hc56]; decide) (by rw [hc56]; rfl) (by decide) ?_
                                                refine lv_iload_n hx hb dX4_work_193 rfl (lv_at hl 1 rfl) ?_
                                                refine lv_iload_n hx hb dX4_work_194 rfl (lv_at hl 2 rfl) ?_
                                                refine lv_icmp_eq (tgt := 202) hx hb dX4_work_195 (by decide) (fun hc => ?_) (fun hc => ?_)
                                                · have hf := ite_t hf hc
                                                  refine lv_iconst (v := 0) hx hb dX4_work_202 (by decide) ?_
                                                  obtain rfl := Option.some.inj hf
                                                  exact k_iret hx hb hr hlocks hK hP hD hS dX4_work_203
                                                · have hf := ite_f hf hc
                                                  refine lv_iconst (v := 1) hx hb dX4_work_198 (by decide) ?_
                                                  refine lv_goto (tgt := 203) hx hb dX4_work_199 (by decide) ?_
                                                  obtain rfl := Option.some.inj hf
                                                  exact k_iret hx hb hr hlocks hK hP hD hS dX4_work_203
                                              · by_cases hc57 : x0 = 57
                                                · refine lv_tableIn (off := 192) (tgt := 193) hx hb dX4_work_1 (by rw [hc57]; decide) (by rw [hc57]; decide) (by rw [hc57]; rfl) (by decide) ?_
                                                  refine lv_iload_n hx hb dX4_work_193 rfl (lv_at hl 1 rfl) ?_
                                                  refine lv_iload_n hx hb dX4_work_194 rfl (lv_at hl 2 rfl) ?_
                                                  refine lv_icmp_eq (tgt := 202) hx hb dX4_work_195 (by decide) (fun hc => ?_) (fun hc => ?_)
                                                  · have hf := ite_t hf hc
                                                    refine lv_iconst (v := 0) hx hb dX4_work_202 (by decide) ?_
                                                    obtain rfl := Option.some.inj hf
                                                    exact k_iret hx hb hr hlocks hK hP hD hS dX4_work_203
                                                  · have hf := ite_f hf hc
                                                    refine lv_iconst (v := 1) hx hb dX4_work_198 (by decide) ?_
                                                    refine lv_goto (tgt := 203) hx hb dX4_work_199 (by decide) ?_
                                                    obtain rfl := Option.some.inj hf
                                                    exact k_iret hx hb hr hlocks hK hP hD hS dX4_work_203
                                                · by_cases hc58 : x0 = 58
                                                  · refine lv_tableIn (off := 192) (tgt := 193) hx hb dX4_work_1 (by rw [hc58]; decide) (by rw [hc58]; decide) (by rw [hc58]; rfl) (by decide) ?_
                                                    refine lv_iload_n hx hb dX4_work_193 rfl (lv_at hl 1 rfl) ?_
                                                    refine lv_iload_n hx hb dX4_work_194 rfl (lv_at hl 2 rfl) ?_
                                                    refine lv_icmp_eq (tgt := 202) hx hb dX4_work_195 (by decide) (fun hc => ?_) (fun hc => ?_)
                                                    · have hf := ite_t hf hc
                                                      refine lv_iconst (v := 0) hx hb dX4_work_202 (by decide) ?_
                                                      obtain rfl := Option.some.inj hf
                                                      exact k_iret hx hb hr hlocks hK hP hD hS dX4_work_203
                                                    · have hf := ite_f hf hc
                                                      refine lv_iconst (v := 1) hx hb dX4_work_198 (by decide) ?_
                                                      refine lv_goto (tgt := 203) hx hb dX4_work_199 (by decide) ?_
                                                      obtain rfl := Option.some.inj hf
                                                      exact k_iret hx hb hr hlocks hK hP hD hS dX4_work_203
                                                  · by_cases hc59 : x0 = 59
                                                    · refine lv_tableIn (off := 192) (tgt := 193) hx hb dX4_work_1 (by rw [hc59]; decide) (by rw [hc59]; decide) (by rw [hc59]; rfl) (by decide) ?_
                                                      refine lv_iload_n hx hb dX4_work_193 rfl (lv_at hl 1 rfl) ?_
                                                      refine lv_iload_n hx hb dX4_work_194 rfl (lv_at hl 2 rfl) ?_
                                                      refine lv_icmp_eq (tgt := 202) hx hb dX4_work_195 (by decide) (fun hc => ?_) (fun hc => ?_)
                                                      · have hf := ite_t hf hc
                                                        refine lv_iconst (v := 0) hx hb dX4_work_202 (by decide) ?_
                                                        obtain rfl := Option.some.inj hf
                                                        exact k_iret hx hb hr hlocks hK hP hD hS dX4_work_203
                                                      · have hf := ite_f hf hc
                                                        refine lv_iconst (v := 1) hx hb dX4_work_198 (by decide) ?_
                                                        refine lv_goto (tgt := 203) hx hb dX4_work_199 (by decide) ?_
                                                        obtain rfl := Option.some.inj hf
                                                        exact k_iret hx hb hr hlocks hK hP hD hS dX4_work_203
                                                    · have z37 := sw_ne (k := 37) (by decide) hc37
                                                      have z38 := sw_ne (k := 38) (by decide) hc38
                                                      have z39 := sw_ne (k := 39) (by decide) hc39
                                                      have z40 := sw_ne (k := 40) (by decide) hc40
                                                      have z41 := sw_ne (k := 41) (by decide) hc41
                                                      have z42 := sw_ne (k := 42) (by decide) hc42
                                                      have z43 := sw_ne (k := 43) (by decide) hc43
                                                      have z44 := sw_ne (k := 44) (by decide) hc44
                                                      have z45 := sw_ne (k := 45) (by decide) hc45
                                                      have z46 := sw_ne (k := 46) (by decide) hc46
                                                      have z47 := sw_ne (k := 47) (by decide) hc47
                                                      have z48 := sw_ne (k := 48) (by decide) hc48
                                                      have z49 := sw_ne (k := 49) (by decide) hc49
                                                      have z50 := sw_ne (k := 50) (by decide) hc50
                                                      have z51 := sw_ne (k := 51) (by decide) hc51
                                                      have z52 := sw_ne (k := 52) (by decide) hc52
                                                      have z53 := sw_ne (k := 53) (by decide) hc53
                                                      have z54 := sw_ne (k := 54) (by decide) hc54
                                                      have z55 := sw_ne (k := 55) (by decide) hc55
                                                      have z56 := sw_ne (k := 56) (by decide) hc56
                                                      have z57 := sw_ne (k := 57) (by decide) hc57
                                                      have z58 := sw_ne (k := 58) (by decide) hc58
                                                      have z59 := sw_ne (k := 59) (by decide) hc59
                                                      have z60 := sw_ne (k := 60) (by decide) hc60
                                                      have z61 := sw_ne (k := 61) (by decide) hc61
                                                      have z62 := sw_ne (k := 62) (by decide) hc62
                                                      refine lv_tableOut (tgt := 193) hx hb dX4_work_1 (by omega) (by decide) ?_
                                                      refine lv_iload_n hx hb dX4_work_193 rfl (lv_at hl 1 rfl) ?_
                                                      refine lv_iload_n hx hb dX4_work_194 rfl (lv_at hl 2 rfl) ?_
                                                      refine lv_icmp_eq (tgt := 202) hx hb dX4_work_195 (by decide) (fun hc => ?_) (fun hc => ?_)
                                                      · have hf := ite_t hf hc
                                                        refine lv_iconst (v := 0) hx hb dX4_work_202 (by decide) ?_
                                                        obtain rfl := Option.some.inj hf
                                                        exact k_iret hx hb hr hlocks hK hP hD hS dX4_work_203
                                                      · have hf := ite_f hf hc
                                                        refine lv_iconst (v := 1) hx hb dX4_work_198 (by decide) ?_
                                                        refine lv_goto (tgt := 203) hx hb dX4_work_199 (by decide) ?_
                                                        obtain rfl := Option.some.inj hf
                                                        exact k_iret hx hb hr hlocks hK hP hD hS dX4_work_203
/-! MarbleFloor$Machine.meet(I)V -/
abbrev wlX4_meet : List Cond := Cond.code yX4_meet cX4_meet 2 none :: tbG
abbrev rmX4_meet : Room := { frames := 0, cells := 0, slots := 0, locals := 0 }
theorem qnX4_meet : yX4_meet.cls = RX4 ∧ yX4_meet.cls ≠ "java/lang/invoke/MethodHandle" ∧ yX4_meet.cls ≠ "java/lang/invoke/VarHandle" ∧ (parseMethodDescriptor yX4_meet.desc).map (fun d => d.parameters.length) = some 1 := by decide +kernel
def f_X4_meet  (i0 : Nat → Int32) (r0 : Nat → Nat → Int32) (x1 : Int32) : Option ((Nat → Int32)) := if (i0 12) = 0 then (some ((upd i0 12 x1))) else (some (i0))
set_option maxRecDepth 100000 in
set_option maxHeartbeats 4000000 in
theorem c_X4_meet {l : Launch} {D : va_G} {cs zs : Nat → Nat} {h0 : Nat} {a0 : Nat → Nat} {i0 : Nat → Int32} {r0 : Nat → Nat → Int32} {x1 : Int32} {q : (Nat → Int32)} (hf : f_X4_meet i0 r0 x1 = some q) : Mv l yX4_meet wlX4_meet rmX4_meet D cs zs [.ref h0, .int x1] (W4 cs h0 a0 i0 r0) (W4 cs h0 a0 q r0) := by
  refine Mv.of RX4 (by decide) rfl (Nat.le_of_ble_eq_true rfl) (fun p e s m below meth c A C hP hD hS ls hl => ?_)
  generalize ([.ref h0, .int x1] : List Value).toArray = args at C ⊢
  obtain ⟨hx, hb, hr, hml, hown, hts, hK, hA, hlocks, hZ⟩ := id C
  have hl : lv_has ls 2 [(0, .ref h0), (1, .int x1)] := hl
  rw [f_X4_meet] at hf
  refine lv_aload_n hx hb dX4_meet_0 rfl (lv_at hl 0 rfl) ?_
  refine va_get (D := D) (ci := 4) (v := .int (i0 12)) (C := RX4) (T := TX4) (N := 13) hx hb hts hiX4 hown hK hP 0 rfl rfl 12 (by decide) (hts _ flX4_32) (fun _ h9 => h9) rfl dX4_meet_1 ?_
  refine lv_if_ne (tgt := 12) hx hb dX4_meet_4 (by decide) (fun hc => ?_) (fun hc => ?_)
  · have hf := ite_f hf hc
    obtain rfl := Option.some.inj hf
    exact k_vret hx hb hr hlocks hK hP hD hS dX4_meet_12
  · have hf := ite_t hf hc
    refine lv_aload_n hx hb dX4_meet_7 rfl (lv_at hl 0 rfl) ?_
    refine lv_iload_n hx hb dX4_meet_8 rfl (lv_at hl 1 rfl) ?_
    refine va_put (D := D) (ci := 4) (v := .int x1) (ty := .int) (C := RX4) (T := TX4) (N := 13) hx hb hts hiX4 tyX4 tyX4_ok nmX4 hown hK hP hD hS 0 rfl rfl 12 (by decide) (hts _ flX4_32) (fun _ h9 => h9) rfl (tyX4_ok 12 (by decide)) rfl rfl (Nat.le_of_ble_eq_true rfl) dX4_meet_9 (fun H locs hP hD hS => ?_)
    obtain ⟨hP, hD⟩ := st4_12 hP hD
    obtain rfl := Option.some.inj hf
    exact k_vret hx hb hr hlocks hK hP hD hS dX4_meet_12
/-! MarbleFloor$Machine.placeOf(I)I -/
abbrev wlX4_placeOf : List Cond := Cond.code yX4_placeOf cX4_placeOf 3 (some .int) :: tbG
abbrev rmX4_placeOf : Room := { frames := 1, cells := 0, slots := 0, locals := 21 }
theorem qnX4_placeOf : yX4_placeOf.cls = RX4 ∧ yX4_placeOf.cls ≠ "java/lang/invoke/MethodHandle" ∧ yX4_placeOf.cls ≠ "java/lang/invoke/VarHandle" ∧ (parseMethodDescriptor yX4_placeOf.desc).map (fun d => d.parameters.length) = some 1 := by decide +kernel
def f_X4_placeOf_28 (r0 : Nat → Nat → Int32)  (i0 : Nat → Int32) : Option (Int32 × (Nat → Int32)) := bd (f_X4_meet i0 r0 2) (fun q2 => some (10, q2))
set_option maxRecDepth 100000 in
set_option maxHeartbeats 4000000 in
theorem w_X4_placeOf_28 {p : Program} {l : Launch} {e : Env} {s : State} {m : MethodId} {args : Array Value} {below : List Frame} {meth : Method} {c : Code} {A : Nat → Prop} {D : va_G} {cs zs : Nat → Nat} {h0 : Nat} {a0 : Nat → Nat} {r0 : Nat → Nat → Int32} {q : Int32 × (Nat → Int32)} (C : Cx p s m args meth c A D cs zs cX4_placeOf 3 (some .int) RX4)  : ∀ (i0 : Nat → Int32) (H : Heap) (locs : List Loc) (ls : Array Slot), f_X4_placeOf_28 r0 i0 = some q → va_P D vwCl (W4 cs h0 a0 i0 r0) H → va_D A (W4 cs h0 a0 i0 r0) → va_S A s.heap H locs → lv_has ls 3 [(0, .ref h0)] → W p l e rmX4_placeOf s m args below meth c H locs 0 0 (MQ below (Qi D cs A q.1 (W4 cs h0 a0 q.2 r0)) args s 0 0 A) (F0 m 28 ls []) := by
  obtain ⟨hx, hb, hr, hml, hown, hts, hK, hA, hlocks, hZ⟩ := id C
  intro i0 H locs ls hf hP hD hS hl
  rw [f_X4_placeOf_28] at hf
  refine lv_aload_n hx hb dX4_placeOf_28 rfl (lv_at hl 0 rfl) ?_
  refine lv_iconst (v := 2) hx hb dX4_placeOf_29 (by decide) ?_
  obtain ⟨q2, hq2, hf⟩ := bd_s hf
  refine k_sVv (ws2 := W4 cs h0 a0 q2 r0) (As := [.int 2]) (rest := []) hx hb hml hown hts hK hA hZ hl.1 hP hD hS (c_X4_meet (h0 := h0) (a0 := a0) hq2) (gVt mlX4_85 imX4_meet seX4_meet inX4 coX4_meet) rfl qnX4_meet rfl rfl ⟨Nat.le_of_ble_eq_true rfl, Nat.le_of_ble_eq_true rfl⟩ 0 4 rfl rfl rfl rfl rfl (Nat.le_of_ble_eq_true rfl) ⟨Nat.zero_le _, Nat.zero_le _⟩ dX4_placeOf_30 (fun H locs hP hD hS => ?_)
  refine lv_bipush (v := 10) hx hb dX4_placeOf_33 (by decide) ?_
  obtain rfl := Option.some.inj hf
  exact k_iret hx hb hr hlocks hK hP hD hS dX4_placeOf_35
def f_X4_placeOf  (i0 : Nat → Int32) (r0 : Nat → Nat → Int32) (x1 : Int32) : Option (Int32 × (Nat → Int32)) := if 20 ≤ x1 then (ck (inb (x1 - 20) 20) (if (r0 0 (x1 - 20).toNatClampNeg) < 0 then (f_X4_placeOf_28 r0 i0) else (if (r0 0 (x1 - 20).toNatClampNeg) < 10 then (some (10 + (r0 0 (x1 - 20).toNatClampNeg), i0)) else (f_X4_placeOf_28 r0 i0)))) else (some (x1, i0))
set_option maxRecDepth 100000 in
set_option maxHeartbeats 4000000 in
theorem c_X4_placeOf {l : Launch} {D : va_G} {cs zs : Nat → Nat} {h0 : Nat} {a0 : Nat → Nat} {i0 : Nat → Int32} {r0 : Nat → Nat → Int32} {x1 : Int32} {q : Int32 × (Nat → Int32)} (hf : f_X4_placeOf i0 r0 x1 = some q) : Mi l yX4_placeOf wlX4_placeOf rmX4_placeOf D cs zs [.ref h0, .int x1] (W4 cs h0 a0 i0 r0) q.1 (W4 cs h0 a0 q.2 r0) := by
  refine Mi.of RX4 (by decide) rfl (Nat.le_of_ble_eq_true rfl) (fun p e s m below meth c A C hP hD hS ls hl => ?_)
  generalize ([.ref h0, .int x1] : List Value).toArray = args at C ⊢
  obtain ⟨hx, hb, hr, hml, hown, hts, hK, hA, hlocks, hZ⟩ := id C
  have hl : lv_has ls 3 [(0, .ref h0), (1, .int x1)] := hl
  rw [f_X4_placeOf] at hf
  refine lv_iload_n hx hb dX4_placeOf_0 rfl (lv_at hl 1 rfl) ?_
  refine lv_bipush (v := 20) hx hb dX4_placeOf_1 (by decide) ?_
  refine lv_icmp_ge (tgt := 8) hx hb dX4_placeOf_3 (by decide) (fun hc => ?_) (fun hc => ?_)
  · have hf := ite_t hf hc
    refine lv_aload_n hx hb dX4_placeOf_8 rfl (lv_at hl 0 rfl) ?_
    refine va_get (D := D) (ci := 4) (v := .ref (a0 0)) (C := RX4) (T := TX4) (N := 13) hx hb hts hiX4 hown hK hP 0 rfl rfl 0 (by decide) (hts _ flX4_9) (fun _ h9 => h9) rfl dX4_placeOf_9 ?_
    refine lv_iload_n hx hb dX4_placeOf_12 rfl (lv_at hl 1 rfl) ?_
    refine lv_bipush (v := 20) hx hb dX4_placeOf_13 (by decide) ?_
    refine lv_isub hx hb dX4_placeOf_15 ?_
    refine va_iald (f := r0 0) hx hb hK hP 1 0 rfl rfl (ck_in hf) dX4_placeOf_16 ?_
    have hf := ck_2 hf
    refine lv_istore_n (lv' := [(2, .int (r0 0 (x1 - 20).toNatClampNeg)), (0, .ref h0), (1, .int x1)]) hx hb dX4_placeOf_17 rfl hl (by decide) rfl (fun ls hl => ?_)
    refine lv_iload_n hx hb dX4_placeOf_18 rfl (lv_at hl 0 rfl) ?_
    refine lv_if_lt (tgt := 28) hx hb dX4_placeOf_19 (by decide) (fun hc => ?_) (fun hc => ?_)
    · have hf := ite_t hf hc
      exact w_X4_placeOf_28 C  _ _ _ _ hf hP hD hS (lv_sub hl [1] rfl)
    · have hf := ite_f hf hc
      refine lv_iload_n hx hb dX4_placeOf_22 rfl (lv_at hl 0 rfl) ?_
      refine lv_bipush (v := 10) hx hb dX4_placeOf_23 (by decide) ?_
      refine lv_icmp_lt (tgt := 36) hx hb dX4_placeOf_25 (by decide) (fun hc => ?_) (fun hc => ?_)
      · have hf := ite_t hf hc
        refine lv_bipush (v := 10) hx hb dX4_placeOf_36 (by decide) ?_
        refine lv_iload_n hx hb dX4_placeOf_38 rfl (lv_at hl 0 rfl) ?_
        refine lv_iadd hx hb dX4_placeOf_39 ?_
        obtain rfl := Option.some.inj hf
        exact k_iret hx hb hr hlocks hK hP hD hS dX4_placeOf_40
      · have hf := ite_f hf hc
        exact w_X4_placeOf_28 C  _ _ _ _ hf hP hD hS (lv_sub hl [1] rfl)
  · have hf := ite_f hf hc
    refine lv_iload_n hx hb dX4_placeOf_6 rfl (lv_at hl 1 rfl) ?_
    obtain rfl := Option.some.inj hf
    exact k_iret hx hb hr hlocks hK hP hD hS dX4_placeOf_7
/-! MarbleFloor$Machine.reckon(II)I -/
abbrev wlX4_reckon : List Cond := Cond.code yX4_reckon cX4_reckon 6 (some .int) :: tbG
abbrev rmX4_reckon : Room := { frames := 2, cells := 0, slots := 0, locals := 43 }
theorem qnX4_reckon : yX4_reckon.cls = RX4 ∧ yX4_reckon.cls ≠ "java/lang/invoke/MethodHandle" ∧ yX4_reckon.cls ≠ "java/lang/invoke/VarHandle" ∧ (parseMethodDescriptor yX4_reckon.desc).map (fun d => d.parameters.length) = some 2 := by decide +kernel
def f_X4_reckon_114 (i1 : Nat → Int32) (r1 : Nat → Nat → Int32) (l1 : Nat → Nat → Int64) (K5 : (Nat → Int32) → (Nat → Nat → Int32) → Int32 → Int32 → Int32 → Option (Int32 × (Nat → Int32) × (Nat → Nat → Int32))) (i0 : Nat → Int32) (r0 : Nat → Nat → Int32) (x2 : Int32) (x3 : Int32) (x4 : Int32) : Option (Int32 × (Nat → Int32) × (Nat → Nat → Int32)) := K5 i0 r0 x2 x3 (x4 + 1)
set_option maxRecDepth 100000 in
set_option maxHeartbeats 4000000 in
theorem w_X4_reckon_114 {p : Program} {l : Launch} {e : Env} {s : State} {m : MethodId} {args : Array Value} {below : List Frame} {meth : Method} {c : Code} {A : Nat → Prop} {D : va_G} {cs zs : Nat → Nat} {h0 : Nat} {a0 : Nat → Nat} {a1 : Nat → Nat} {i1 : Nat → Int32} {r1 : Nat → Nat → Int32} {l1 : Nat → Nat → Int64} {q : Int32 × (Nat → Int32) × (Nat → Nat → Int32)} (C : Cx p s m args meth c A D cs zs cX4_reckon 6 (some .int) RX4) (K5 : (Nat → Int32) → (Nat → Nat → Int32) → Int32 → Int32 → Int32 → Option (Int32 × (Nat → Int32) × (Nat → Nat → Int32))) (hK5 : ∀ (i0 : Nat → Int32) (r0 : Nat → Nat → Int32) (x2 : Int32) (x3 : Int32) (x4 : Int32) (H : Heap) (locs : List Loc) (ls : Array Slot), K5 i0 r0 x2 x3 x4 = some q → va_P D vwCl (W4 cs h0 a0 i0 r0 ++ W5 cs (a0 5) a1 i1 r1 l1) H → va_D A (W4 cs h0 a0 i0 r0 ++ W5 cs (a0 5) a1 i1 r1 l1) → va_S A s.heap H locs → lv_has ls 6 [(0, .ref h0), (2, .int x2), (3, .int x3), (4, .int x4)] → W p l e rmX4_reckon s m args below meth c H locs 0 0 (MQ below (Qi D cs A q.1 (W4 cs h0 a0 q.2.1 q.2.2 ++ W5 cs (a0 5) a1 i1 r1 l1)) args s 0 0 A) (F0 m 5 ls [])) : ∀ (i0 : Nat → Int32) (r0 : Nat → Nat → Int32) (x2 : Int32) (x3 : Int32) (x4 : Int32) (H : Heap) (locs : List Loc) (ls : Array Slot), f_X4_reckon_114 i1 r1 l1 K5 i0 r0 x2 x3 x4 = some q → va_P D vwCl (W4 cs h0 a0 i0 r0 ++ W5 cs (a0 5) a1 i1 r1 l1) H → va_D A (W4 cs h0 a0 i0 r0 ++ W5 cs (a0 5) a1 i1 r1 l1) → va_S A s.heap H locs → lv_has ls 6 [(0, .ref h0), (2, .int x2), (3, .int x3), (4, .int x4)] → W p l e rmX4_reckon s m args below meth c H locs 0 0 (MQ below (Qi D cs A q.1 (W4 cs h0 a0 q.2.1 q.2.2 ++ W5 cs (a0 5) a1 i1 r1 l1)) args s 0 0 A) (F0 m 114 ls []) := by
  obtain ⟨hx, hb, hr, hml, hown, hts, hK, hA, hlocks, hZ⟩ := id C
  intro i0 r0 x2 x3 x4 H locs ls hf hP hD hS hl
  rw [f_X4_reckon_114] at hf
  refine lv_iinc (v := x4 + 1) (lv' := [(4, .int (x4 + 1)), (0, .ref h0), (2, .int x2), (3, .int x3)]) hx hb dX4_reckon_114 hl (k := 3) rfl rfl (by decide) rfl (fun ls hl => ?_)
  refine lv_goto (tgt := 5) hx hb dX4_reckon_117 (by decide) ?_
  exact hK5 _ _ _ _ _ _ _ _ hf hP hD hS (lv_sub hl [1, 2, 3, 0] rfl)
def f_X4_reckon_110 (i1 : Nat → Int32) (r1 : Nat → Nat → Int32) (l1 : Nat → Nat → Int64) (K5 : (Nat → Int32) → (Nat → Nat → Int32) → Int32 → Int32 → Int32 → Option (Int32 × (Nat → Int32) × (Nat → Nat → Int32))) (i0 : Nat → Int32) (r0 : Nat → Nat → Int32) (x2 : Int32) (x3 : Int32) (x4 : Int32) (y0 : Int32) (y1 : Int32) : Option (Int32 × (Nat → Int32) × (Nat → Nat → Int32)) := ck (inb y1 24) (f_X4_reckon_114 i1 r1 l1 K5 i0 (va_up r0 2 (upd (r0 2) y1.toNatClampNeg y0)) x2 (x3 + 1) x4)
set_option maxRecDepth 100000 in
set_option maxHeartbeats 4000000 in
theorem w_X4_reckon_110 {p : Program} {l : Launch} {e : Env} {s : State} {m : MethodId} {args : Array Value} {below : List Frame} {meth : Method} {c : Code} {A : Nat → Prop} {D : va_G} {cs zs : Nat → Nat} {h0 : Nat} {a0 : Nat → Nat} {a1 : Nat → Nat} {i1 : Nat → Int32} {r1 : Nat → Nat → Int32} {l1 : Nat → Nat → Int64} {q : Int32 × (Nat → Int32) × (Nat → Nat → Int32)} (C : Cx p s m args meth c A D cs zs cX4_reckon 6 (some .int) RX4) (K5 : (Nat → Int32) → (Nat → Nat → Int32) → Int32 → Int32 → Int32 → Option (Int32 × (Nat → Int32) × (Nat → Nat → Int32))) (hK5 : ∀ (i0 : Nat → Int32) (r0 : Nat → Nat → Int32) (x2 : Int32) (x3 : Int32) (x4 : Int32) (H : Heap) (locs : List Loc) (ls : Array Slot), K5 i0 r0 x2 x3 x4 = some q → va_P D vwCl (W4 cs h0 a0 i0 r0 ++ W5 cs (a0 5) a1 i1 r1 l1) H → va_D A (W4 cs h0 a0 i0 r0 ++ W5 cs (a0 5) a1 i1 r1 l1) → va_S A s.heap H locs → lv_has ls 6 [(0, .ref h0), (2, .int x2), (3, .int x3), (4, .int x4)] → W p l e rmX4_reckon s m args below meth c H locs 0 0 (MQ below (Qi D cs A q.1 (W4 cs h0 a0 q.2.1 q.2.2 ++ W5 cs (a0 5) a1 i1 r1 l1)) args s 0 0 A) (F0 m 5 ls [])) : ∀ (i0 : Nat → Int32) (r0 : Nat → Nat → Int32) (x2 : Int32) (x3 : Int32) (x4 : Int32) (y0 : Int32) (y1 : Int32) (H : Heap) (locs : List Loc) (ls : Array Slot), f_X4_reckon_110 i1 r1 l1 K5 i0 r0 x2 x3 x4 y0 y1 = some q → va_P D vwCl (W4 cs h0 a0 i0 r0 ++ W5 cs (a0 5) a1 i1 r1 l1) H → va_D A (W4 cs h0 a0 i0 r0 ++ W5 cs (a0 5) a1 i1 r1 l1) → va_S A s.heap H locs → lv_has ls 6 [(0, .ref h0), (2, .int x2), (3, .int x3), (4, .int x4)] → W p l e rmX4_reckon s m args below meth c H locs 0 0 (MQ below (Qi D cs A q.1 (W4 cs h0 a0 q.2.1 q.2.2 ++ W5 cs (a0 5) a1 i1 r1 l1)) args s 0 0 A) (F0 m 110 ls [.int y0, .int y1, .ref (a0 2)]) := by
  obtain ⟨hx, hb, hr, hml, hown, hts, hK, hA, hlocks, hZ⟩ := id C
  intro i0 r0 x2 x3 x4 y0 y1 H locs ls hf hP hD hS hl
  rw [f_X4_reckon_110] at hf
  refine va_iast (f := r0 2) hx hb hK hP hD hS 3 0 rfl rfl (ck_in hf) dX4_reckon_110 (fun H locs hP hD hS => ?_)
  have hf := ck_2 hf
  obtain ⟨hP, hD⟩ := st4_2_T hP hD
  refine lv_iinc (v := x3 + 1) (lv' := [(3, .int (x3 + 1)), (0, .ref h0), (2, .int x2), (4, .int x4)]) hx hb dX4_reckon_111 hl (k := 2) rfl rfl (by decide) rfl (fun ls hl => ?_)
  exact w_X4_reckon_114 C _ (hK5) _ _ _ _ _ _ _ _ hf hP hD hS (lv_sub hl [1, 2, 0, 3] rfl)
def f_X4_reckon_66 (i1 : Nat → Int32) (r1 : Nat → Nat → Int32) (l1 : Nat → Nat → Int64) (K5 : (Nat → Int32) → (Nat → Nat → Int32) → Int32 → Int32 → Int32 → Option (Int32 × (Nat → Int32) × (Nat → Nat → Int32))) (i0 : Nat → Int32) (r0 : Nat → Nat → Int32) (x2 : Int32) (x3 : Int32) (x4 : Int32) (x5 : Int32) : Option (Int32 × (Nat → Int32) × (Nat → Nat → Int32)) := if x5 < 0 then (f_X4_reckon_114 i1 r1 l1 K5 i0 r0 x2 x3 x4) else (if 24 ≤ x3 then (f_X4_reckon_114 i1 r1 l1 K5 i0 r0 x2 x3 x4) else (if 10000 ≤ x5 then (bd (f_X4_placeOf i0 r0 (x5 - 10000)) (fun q4 => ck (inb q4.1 20) (f_X4_reckon_110 i1 r1 l1 K5 q4.2 r0 x2 x3 x4 (r0 0 q4.1.toNatClampNeg) x3))) else (f_X4_reckon_110 i1 r1 l1 K5 i0 r0 x2 x3 x4 x5 x3)))
set_option maxRecDepth 100000 in
set_option maxHeartbeats 4000000 in
theorem w_X4_reckon_66 {p : Program} {l : Launch} {e : Env} {s : State} {m : MethodId} {args : Array Value} {below : List Frame} {meth : Method} {c : Code} {A : Nat → Prop} {D : va_G} {cs zs : Nat → Nat} {h0 : Nat} {a0 : Nat → Nat} {a1 : Nat → Nat} {i1 : Nat → Int32} {r1 : Nat → Nat → Int32} {l1 : Nat → Nat → Int64} {q : Int32 × (Nat → Int32) × (Nat → Nat → Int32)} (C : Cx p s m args meth c A D cs zs cX4_reckon 6 (some .int) RX4) (K5 : (Nat → Int32) → (Nat → Nat → Int32) → Int32 → Int32 → Int32 → Option (Int32 × (Nat → Int32) × (Nat → Nat → Int32))) (hK5 : ∀ (i0 : Nat → Int32) (r0 : Nat → Nat → Int32) (x2 : Int32) (x3 : Int32) (x4 : Int32) (H : Heap) (locs : List Loc) (ls : Array Slot), K5 i0 r0 x2 x3 x4 = some q → va_P D vwCl (W4 cs h0 a0 i0 r0 ++ W5 cs (a0 5) a1 i1 r1 l1) H → va_D A (W4 cs h0 a0 i0 r0 ++ W5 cs (a0 5) a1 i1 r1 l1) → va_S A s.heap H locs → lv_has ls 6 [(0, .ref h0), (2, .int x2), (3, .int x3), (4, .int x4)] → W p l e rmX4_reckon s m args below meth c H locs 0 0 (MQ below (Qi D cs A q.1 (W4 cs h0 a0 q.2.1 q.2.2 ++ W5 cs (a0 5) a1 i1 r1 l1)) args s 0 0 A) (F0 m 5 ls [])) : ∀ (i0 : Nat → Int32) (r0 : Nat → Nat → Int32) (x2 : Int32) (x3 : Int32) (x4 : Int32) (x5 : Int32) (H : Heap) (locs : List Loc) (ls : Array Slot), f_X4_reckon_66 i1 r1 l1 K5 i0 r0 x2 x3 x4 x5 = some q → va_P D vwCl (W4 cs h0 a0 i0 r0 ++ W5 cs (a0 5) a1 i1 r1 l1) H → va_D A (W4 cs h0 a0 i0 r0 ++ W5 cs (a0 5) a1 i1 r1 l1) → va_S A s.heap H locs → lv_has ls 6 [(0, .ref h0), (2, .int x2), (3, .int x3), (4, .int x4), (5, .int x5)] → W p l e rmX4_reckon s m args below meth c H locs 0 0 (MQ below (Qi D cs A q.1 (W4 cs h0 a0 q.2.1 q.2.2 ++ W5 cs (a0 5) a1 i1 r1 l1)) args s 0 0 A) (F0 m 66 ls []) := by
  obtain ⟨hx, hb, hr, hml, hown, hts, hK, hA, hlocks, hZ⟩ := id C
  intro i0 r0 x2 x3 x4 x5 H locs ls hf hP hD hS hl
  rw [f_X4_reckon_66] at hf
  refine lv_iload hx hb dX4_reckon_66 (lv_at hl 4 rfl) ?_
  refine lv_if_lt (tgt := 114) hx hb dX4_reckon_68 (by decide) (fun hc => ?_) (fun hc => ?_)
  · have hf := ite_t hf hc
    exact w_X4_reckon_114 C _ (hK5) _ _ _ _ _ _ _ _ hf hP hD hS (lv_sub hl [0, 1, 2, 3] rfl)
  · have hf := ite_f hf hc
    refine lv_iload_n hx hb dX4_reckon_71 rfl (lv_at hl 2 rfl) ?_
    refine lv_bipush (v := 24) hx hb dX4_reckon_72 (by decide) ?_
    refine lv_icmp_ge (tgt := 114) hx hb dX4_reckon_74 (by decide) (fun hc => ?_) (fun hc => ?_)
    · have hf := ite_t hf hc
      exact w_X4_reckon_114 C _ (hK5) _ _ _ _ _ _ _ _ hf hP hD hS (lv_sub hl [0, 1, 2, 3] rfl)
    · have hf := ite_f hf hc
      refine lv_aload_n hx hb dX4_reckon_77 rfl (lv_at hl 0 rfl) ?_
      refine va_get (D := D) (ci := 4) (v := .ref (a0 2)) (C := RX4) (T := TX4) (N := 13) hx hb hts hiX4 hown hK hP 0 rfl rfl 2 (by decide) (hts _ flX4_18) (fun _ h9 => h9) rfl dX4_reckon_78 ?_
      refine lv_iload_n hx hb dX4_reckon_81 rfl (lv_at hl 2 rfl) ?_
      refine lv_iload hx hb dX4_reckon_82 (lv_at hl 4 rfl) ?_
      refine lv_sipush (v := 10000) hx hb dX4_reckon_84 (by decide) ?_
      refine lv_icmp_ge (tgt := 95) hx hb dX4_reckon_87 (by decide) (fun hc => ?_) (fun hc => ?_)
      · have hf := ite_t hf hc
        refine lv_aload_n hx hb dX4_reckon_95 rfl (lv_at hl 0 rfl) ?_
        refine va_get (D := D) (ci := 4) (v := .ref (a0 0)) (C := RX4) (T := TX4) (N := 13) hx hb hts hiX4 hown hK hP 0 rfl rfl 0 (by decide) (hts _ flX4_9) (fun _ h9 => h9) rfl dX4_reckon_96 ?_
        refine lv_aload_n hx hb dX4_reckon_99 rfl (lv_at hl 0 rfl) ?_
        refine lv_iload hx hb dX4_reckon_100 (lv_at hl 4 rfl) ?_
        refine lv_sipush (v := 10000) hx hb dX4_reckon_102 (by decide) ?_
        refine lv_isub hx hb dX4_reckon_105 ?_
        obtain ⟨q4, hq4, hf⟩ := bd_s hf
        refine k_pVi (wr := W5 cs (a0 5) a1 i1 r1 l1) (ws2 := W4 cs h0 a0 q4.2 r0 ++ W5 cs (a0 5) a1 i1 r1 l1) (As := [.int (x5 - 10000)]) (rest := [.ref (a0 0), .int x3, .ref (a0 2)]) hx hb hml hown hts hK hA hZ hl.1 hP hD hS (c_X4_placeOf (h0 := h0) (a0 := a0) hq4) (gVt mlX4_104 imX4_placeOf seX4_placeOf inX4 coX4_placeOf) rfl qnX4_placeOf rfl rfl ⟨Nat.le_of_ble_eq_true rfl, Nat.le_of_ble_eq_true rfl⟩ [0, 1, 2, 3, 4, 5] [6, 7, 8, 9, 10, 11, 12, 13, 14, 15, 16, 17, 18, 19] [14, 15, 16, 17, 18, 19, 0, 1, 2, 3, 4, 5, 6, 7, 8, 9, 10, 11, 12, 13] rfl rfl rfl (by decide) 0 4 rfl rfl rfl rfl rfl (Nat.le_of_ble_eq_true rfl) ⟨Nat.zero_le _, Nat.zero_le _⟩ dX4_reckon_106 (fun H locs hP hD hS => ?_)
        refine va_iald (f := r0 0) hx hb hK hP 1 0 rfl rfl (ck_in hf) dX4_reckon_109 ?_
        have hf := ck_2 hf
        exact w_X4_reckon_110 C _ (hK5) _ _ _ _ _ _ _ _ _ _ hf hP hD hS (lv_sub hl [0, 1, 2, 3] rfl)
      · have hf := ite_f hf hc
        refine lv_iload hx hb dX4_reckon_90 (lv_at hl 4 rfl) ?_
        refine lv_goto (tgt := 110) hx hb dX4_reckon_92 (by decide) ?_
        exact w_X4_reckon_110 C _ (hK5) _ _ _ _ _ _ _ _ _ _ hf hP hD hS (lv_sub hl [0, 1, 2, 3] rfl)
def f_X4_reckon_5 (i1 : Nat → Int32) (r1 : Nat → Nat → Int32) (l1 : Nat → Nat → Int64)  : Nat → (Nat → Int32) → (Nat → Nat → Int32) → Int32 → Int32 → Int32 → Option (Int32 × (Nat → Int32) × (Nat → Nat → Int32))
  | 0, _, _, _, _, _ => none
  | n + 1, i0, r0, x2, x3, x4 => if x2 ≤ x4 then (ck (inb 0 24) (some (r0 2 (0 : Int32).toNatClampNeg, i0, r0))) else (bd (f_X5_codeAt i1 r1 l1 x4) (fun q5 => if 0 ≤ q5 then (f_X4_reckon_66 i1 r1 l1 (f_X4_reckon_5 i1 r1 l1 n) i0 r0 x2 x3 x4 q5) else (if x3 < 2 then (f_X4_reckon_66 i1 r1 l1 (f_X4_reckon_5 i1 r1 l1 n) i0 r0 x2 x3 x4 q5) else (ck (inb ((x3 + (-1)) - 1) 24) (ck (inb (x3 + (-1)) 24) (bd (f_X4_work (-q5) (r0 2 ((x3 + (-1)) - 1).toNatClampNeg) (r0 2 (x3 + (-1)).toNatClampNeg)) (fun q6 => ck (inb ((x3 + (-1)) - 1) 24) (f_X4_reckon_114 i1 r1 l1 (f_X4_reckon_5 i1 r1 l1 n) i0 (va_up r0 2 (upd (r0 2) ((x3 + (-1)) - 1).toNatClampNeg q6)) x2 (x3 + (-1)) x4))))))))
set_option maxRecDepth 100000 in
set_option maxHeartbeats 4000000 in
theorem w_X4_reckon_5 {p : Program} {l : Launch} {e : Env} {s : State} {m : MethodId} {args : Array Value} {below : List Frame} {meth : Method} {c : Code} {A : Nat → Prop} {D : va_G} {cs zs : Nat → Nat} {h0 : Nat} {a0 : Nat → Nat} {a1 : Nat → Nat} {i1 : Nat → Int32} {r1 : Nat → Nat → Int32} {l1 : Nat → Nat → Int64} {q : Int32 × (Nat → Int32) × (Nat → Nat → Int32)} (C : Cx p s m args meth c A D cs zs cX4_reckon 6 (some .int) RX4)  : ∀ (n : Nat), ∀ (i0 : Nat → Int32) (r0 : Nat → Nat → Int32) (x2 : Int32) (x3 : Int32) (x4 : Int32) (H : Heap) (locs : List Loc) (ls : Array Slot), f_X4_reckon_5 i1 r1 l1 n i0 r0 x2 x3 x4 = some q → va_P D vwCl (W4 cs h0 a0 i0 r0 ++ W5 cs (a0 5) a1 i1 r1 l1) H → va_D A (W4 cs h0 a0 i0 r0 ++ W5 cs (a0 5) a1 i1 r1 l1) → va_S A s.heap H locs → lv_has ls 6 [(0, .ref h0), (2, .int x2), (3, .int x3), (4, .int x4)] → W p l e rmX4_reckon s m args below meth c H locs 0 0 (MQ below (Qi D cs A q.1 (W4 cs h0 a0 q.2.1 q.2.2 ++ W5 cs (a0 5) a1 i1 r1 l1)) args s 0 0 A) (F0 m 5 ls []) := by
  obtain ⟨hx, hb, hr, hml, hown, hts, hK, hA, hlocks, hZ⟩ := id C
  intro n
  induction n with
  | zero =>
    intro i0 r0 x2 x3 x4 H locs ls hf
    rw [f_X4_reckon_5] at hf
    cases hf
  | succ n ih =>
    intro i0 r0 x2 x3 x4 H locs ls hf hP hD hS hl
    rw [f_X4_reckon_5] at hf
    refine lv_iload hx hb dX4_reckon_5 (lv_at hl 3 rfl) ?_
    refine lv_iload_n hx hb dX4_reckon_7 rfl (lv_at hl 1 rfl) ?_
    refine lv_icmp_ge (tgt := 120) hx hb dX4_reckon_8 (by decide) (fun hc => ?_) (fun hc => ?_)
    · have hf := ite_t hf hc
      refine lv_aload_n hx hb dX4_reckon_120 rfl (lv_at hl 0 rfl) ?_
      refine va_get (D := D) (ci := 4) (v := .ref (a0 2)) (C := RX4) (T := TX4) (N := 13) hx hb hts hiX4 hown hK hP 0 rfl rfl 2 (by decide) (hts _ flX4_18) (fun _ h9 => h9) rfl dX4_reckon_121 ?_
      refine lv_iconst (v := 0) hx hb dX4_reckon_124 (by decide) ?_
      refine va_iald (f := r0 2) hx hb hK hP 3 0 rfl rfl (ck_in hf) dX4_reckon_125 ?_
      have hf := ck_2 hf
      obtain rfl := Option.some.inj hf
      exact k_iret hx hb hr hlocks hK hP hD hS dX4_reckon_126
    · have hf := ite_f hf hc
      refine lv_aload_n hx hb dX4_reckon_11 rfl (lv_at hl 0 rfl) ?_
      refine va_get (D := D) (ci := 4) (v := .ref (a0 5)) (C := RX4) (T := TX4) (N := 13) hx hb hts hiX4 hown hK hP 0 rfl rfl 5 (by decide) (hts _ flX4_28) (fun _ h9 => h9) rfl dX4_reckon_12 ?_
      refine lv_iload hx hb dX4_reckon_15 (lv_at hl 3 rfl) ?_
      obtain ⟨q5, hq5, hf⟩ := bd_s hf
      refine k_pVi (wr := W4 cs h0 a0 i0 r0) (ws2 := W4 cs h0 a0 i0 r0 ++ W5 cs (a0 5) a1 i1 r1 l1) (As := [.int x4]) (rest := []) hx hb hml hown hts hK hA hZ hl.1 hP hD hS (c_X5_codeAt (h0 := (a0 5)) (a0 := a1) hq5) (gVt mlX4_133 imX5_codeAt seX5_codeAt inX5 coX5_codeAt) rfl qnX5_codeAt rfl rfl ⟨Nat.le_of_ble_eq_true rfl, Nat.le_of_ble_eq_true rfl⟩ [6, 7, 8, 9, 10, 11, 12, 13, 14, 15, 16, 17, 18, 19] [0, 1, 2, 3, 4, 5] [0, 1, 2, 3, 4, 5, 6, 7, 8, 9, 10, 11, 12, 13, 14, 15, 16, 17, 18, 19] rfl rfl rfl (by decide) 0 5 rfl rfl rfl rfl rfl (Nat.le_of_ble_eq_true rfl) ⟨Nat.zero_le _, Nat.zero_le _⟩ dX4_reckon_17 (fun H locs hP hD hS => ?_)
      refine lv_istore (lv' := [(5, .int q5), (0, .ref h0), (2, .int x2), (3, .int x3), (4, .int x4)]) hx hb dX4_reckon_20 hl (by decide) rfl (fun ls hl => ?_)
      refine lv_iload hx hb dX4_reckon_22 (lv_at hl 0 rfl) ?_
      refine lv_if_ge (tgt := 66) hx hb dX4_reckon_24 (by decide) (fun hc => ?_) (fun hc => ?_)
      · have hf := ite_t hf hc
        exact w_X4_reckon_66 C _ (ih) _ _ _ _ _ _ _ _ _ hf hP hD hS (lv_sub hl [1, 2, 3, 4, 0] rfl)
      · have hf := ite_f hf hc
        refine lv_iload_n hx hb dX4_reckon_27 rfl (lv_at hl 3 rfl) ?_
        refine lv_iconst (v := 2) hx hb dX4_reckon_28 (by decide) ?_
        refine lv_icmp_lt (tgt := 66) hx hb dX4_reckon_29 (by decide) (fun hc => ?_) (fun hc => ?_)
        · have hf := ite_t hf hc
          exact w_X4_reckon_66 C _ (ih) _ _ _ _ _ _ _ _ _ hf hP hD hS (lv_sub hl [1, 2, 3, 4, 0] rfl)
        · have hf := ite_f hf hc
          refine lv_iinc (v := x3 + (-1)) (lv' := [(3, .int (x3 + (-1))), (5, .int q5), (0, .ref h0), (2, .int x2), (4, .int x4)]) hx hb dX4_reckon_32 hl (k := 3) rfl rfl (by decide) rfl (fun ls hl => ?_)
          refine lv_aload_n hx hb dX4_reckon_35 rfl (lv_at hl 2 rfl) ?_
          refine va_get (D := D) (ci := 4) (v := .ref (a0 2)) (C := RX4) (T := TX4) (N := 13) hx hb hts hiX4 hown hK hP 0 rfl rfl 2 (by decide) (hts _ flX4_18) (fun _ h9 => h9) rfl dX4_reckon_36 ?_
          refine lv_iload_n hx hb dX4_reckon_39 rfl (lv_at hl 0 rfl) ?_
          refine lv_iconst (v := 1) hx hb dX4_reckon_40 (by decide) ?_
          refine lv_isub hx hb dX4_reckon_41 ?_
          refine lv_iload hx hb dX4_reckon_42 (lv_at hl 1 rfl) ?_
          refine lv_ineg hx hb dX4_reckon_44 ?_
          refine lv_aload_n hx hb dX4_reckon_45 rfl (lv_at hl 2 rfl) ?_
          refine va_get (D := D) (ci := 4) (v := .ref (a0 2)) (C := RX4) (T := TX4) (N := 13) hx hb hts hiX4 hown hK hP 0 rfl rfl 2 (by decide) (hts _ flX4_18) (fun _ h9 => h9) rfl dX4_reckon_46 ?_
          refine lv_iload_n hx hb dX4_reckon_49 rfl (lv_at hl 0 rfl) ?_
          refine lv_iconst (v := 1) hx hb dX4_reckon_50 (by decide) ?_
          refine lv_isub hx hb dX4_reckon_51 ?_
          refine va_iald (f := r0 2) hx hb hK hP 3 0 rfl rfl (ck_in hf) dX4_reckon_52 ?_
          have hf := ck_2 hf
          refine lv_aload_n hx hb dX4_reckon_53 rfl (lv_at hl 2 rfl) ?_
          refine va_get (D := D) (ci := 4) (v := .ref (a0 2)) (C := RX4) (T := TX4) (N := 13) hx hb hts hiX4 hown hK hP 0 rfl rfl 2 (by decide) (hts _ flX4_18) (fun _ h9 => h9) rfl dX4_reckon_54 ?_
          refine lv_iload_n hx hb dX4_reckon_57 rfl (lv_at hl 0 rfl) ?_
          refine va_iald (f := r0 2) hx hb hK hP 3 0 rfl rfl (ck_in hf) dX4_reckon_58 ?_
          have hf := ck_2 hf
          obtain ⟨q6, hq6, hf⟩ := bd_s hf
          refine k_eSi (As := [.int (-q5), .int (r0 2 ((x3 + (-1)) - 1).toNatClampNeg), .int (r0 2 (x3 + (-1)).toNatClampNeg)]) (rest := [.int ((x3 + (-1)) - 1), .ref (a0 2)]) hx hb hml hown hts hK hA hZ hl.1 hP hD hS (c_X4_work  hq6) (gSt mlX4_136 stX4_work inX4 coX4_work) rfl qnX4_work rfl rfl ⟨Nat.le_of_ble_eq_true rfl, Nat.le_of_ble_eq_true rfl⟩ rfl rfl (Nat.le_of_ble_eq_true rfl) ⟨Nat.zero_le _, Nat.zero_le _⟩ dX4_reckon_59 (fun H locs hP hD hS => ?_)
          refine va_iast (f := r0 2) hx hb hK hP hD hS 3 0 rfl rfl (ck_in hf) dX4_reckon_62 (fun H locs hP hD hS => ?_)
          have hf := ck_2 hf
          obtain ⟨hP, hD⟩ := st4_2_T hP hD
          refine lv_goto (tgt := 114) hx hb dX4_reckon_63 (by decide) ?_
          exact w_X4_reckon_114 C _ (ih) _ _ _ _ _ _ _ _ hf hP hD hS (lv_sub hl [2, 3, 0, 4] rfl)
def f_X4_reckon  (i0 : Nat → Int32) (r0 : Nat → Nat → Int32) (i1 : Nat → Int32) (r1 : Nat → Nat → Int32) (l1 : Nat → Nat → Int64) (x1 : Int32) (x2 : Int32) : Option (Int32 × (Nat → Int32) × (Nat → Nat → Int32)) := f_X4_reckon_5 i1 r1 l1 2000000 i0 r0 x2 0 x1
set_option maxRecDepth 100000 in
set_option maxHeartbeats 4000000 in
theorem c_X4_reckon {l : Launch} {D : va_G} {cs zs : Nat → Nat} {h0 : Nat} {a0 : Nat → Nat} {a1 : Nat → Nat} {i0 : Nat → Int32} {r0 : Nat → Nat → Int32} {i1 : Nat → Int32} {r1 : Nat → Nat → Int32} {l1 : Nat → Nat → Int64} {x1 : Int32} {x2 : Int32} {q : Int32 × (Nat → Int32) × (Nat → Nat → Int32)} (hf : f_X4_reckon i0 r0 i1 r1 l1 x1 x2 = some q) : Mi l yX4_reckon wlX4_reckon rmX4_reckon D cs zs [.ref h0, .int x1, .int x2] (W4 cs h0 a0 i0 r0 ++ W5 cs (a0 5) a1 i1 r1 l1) q.1 (W4 cs h0 a0 q.2.1 q.2.2 ++ W5 cs (a0 5) a1 i1 r1 l1) := by
  refine Mi.of RX4 (by decide) rfl (Nat.le_of_ble_eq_true rfl) (fun p e s m below meth c A C hP hD hS ls hl => ?_)
  generalize ([.ref h0, .int x1, .int x2] : List Value).toArray = args at C ⊢
  obtain ⟨hx, hb, hr, hml, hown, hts, hK, hA, hlocks, hZ⟩ := id C
  have hl : lv_has ls 6 [(0, .ref h0), (1, .int x1), (2, .int x2)] := hl
  rw [f_X4_reckon] at hf
  refine lv_iconst (v := 0) hx hb dX4_reckon_0 (by decide) ?_
  refine lv_istore_n (lv' := [(3, .int 0), (0, .ref h0), (1, .int x1), (2, .int x2)]) hx hb dX4_reckon_1 rfl hl (by decide) rfl (fun ls hl => ?_)
  refine lv_iload_n hx hb dX4_reckon_2 rfl (lv_at hl 2 rfl) ?_
  refine lv_istore (lv' := [(4, .int x1), (3, .int 0), (0, .ref h0), (1, .int x1), (2, .int x2)]) hx hb dX4_reckon_3 hl (by decide) rfl (fun ls hl => ?_)
  exact w_X4_reckon_5 C  2000000 _ _ _ _ _ _ _ _ hf hP hD hS (lv_sub hl [2, 4, 1, 0] rfl)
/-! MarbleFloor$Machine.holds(IZ)Z -/
abbrev wlX4_holds : List Cond := Cond.code yX4_holds cX4_holds 4 (some .boolean) :: tbG
abbrev rmX4_holds : Room := { frames := 3, cells := 0, slots := 0, locals := 68 }
theorem qnX4_holds : yX4_holds.cls = RX4 ∧ yX4_holds.cls ≠ "java/lang/invoke/MethodHandle" ∧ yX4_holds.cls ≠ "java/lang/invoke/VarHandle" ∧ (parseMethodDescriptor yX4_holds.desc).map (fun d => d.parameters.length) = some 2 := by decide +kernel
def f_X4_holds_13 (i1 : Nat → Int32) (r1 : Nat → Nat → Int32) (l1 : Nat → Nat → Int64)  (i0 : Nat → Int32) (r0 : Nat → Nat → Int32) (x1 : Int32) (y0 : Int32) : Option (Int32 × (Nat → Int32) × (Nat → Nat → Int32)) := bd (f_X5_beginOf i1 r1 l1 x1 y0) (fun q4 => bd (f_X5_endOf i1 r1 l1 x1 y0) (fun q5 => bd (f_X4_reckon i0 r0 i1 r1 l1 q4 q5) (fun q6 => if q6.1 = 0 then (some (0, q6.2.1, q6.2.2)) else (some (1, q6.2.1, q6.2.2)))))
set_option maxRecDepth 100000 in
set_option maxHeartbeats 4000000 in
theorem w_X4_holds_13 {p : Program} {l : Launch} {e : Env} {s : State} {m : MethodId} {args : Array Value} {below : List Frame} {meth : Method} {c : Code} {A : Nat → Prop} {D : va_G} {cs zs : Nat → Nat} {h0 : Nat} {a0 : Nat → Nat} {a1 : Nat → Nat} {i1 : Nat → Int32} {r1 : Nat → Nat → Int32} {l1 : Nat → Nat → Int64} {q : Int32 × (Nat → Int32) × (Nat → Nat → Int32)} (C : Cx p s m args meth c A D cs zs cX4_holds 4 (some .boolean) RX4)  : ∀ (i0 : Nat → Int32) (r0 : Nat → Nat → Int32) (x1 : Int32) (y0 : Int32) (H : Heap) (locs : List Loc) (ls : Array Slot), f_X4_holds_13 i1 r1 l1 i0 r0 x1 y0 = some q → va_P D vwCl (W4 cs h0 a0 i0 r0 ++ W5 cs (a0 5) a1 i1 r1 l1) H → va_D A (W4 cs h0 a0 i0 r0 ++ W5 cs (a0 5) a1 i1 r1 l1) → va_S A s.heap H locs → lv_has ls 4 [(0, .ref h0), (1, .int x1)] → W p l e rmX4_holds s m args below meth c H locs 0 0 (MQ below (Qi D cs A q.1 (W4 cs h0 a0 q.2.1 q.2.2 ++ W5 cs (a0 5) a1 i1 r1 l1)) args s 0 0 A) (F0 m 13 ls [.int y0]) := by
  obtain ⟨hx, hb, hr, hml, hown, hts, hK, hA, hlocks, hZ⟩ := id C
  intro i0 r0 x1 y0 H locs ls hf hP hD hS hl
  rw [f_X4_holds_13] at hf
  refine lv_istore_n (lv' := [(3, .int y0), (0, .ref h0), (1, .int x1)]) hx hb dX4_holds_13 rfl hl (by decide) rfl (fun ls hl => ?_)
  refine lv_aload_n hx hb dX4_holds_14 rfl (lv_at hl 1 rfl) ?_
  refine lv_aload_n hx hb dX4_holds_15 rfl (lv_at hl 1 rfl) ?_
  refine va_get (D := D) (ci := 4) (v := .ref (a0 5)) (C := RX4) (T := TX4) (N := 13) hx hb hts hiX4 hown hK hP 0 rfl rfl 5 (by decide) (hts _ flX4_28) (fun _ h9 => h9) rfl dX4_holds_16 ?_
  refine lv_iload_n hx hb dX4_holds_19 rfl (lv_at hl 2 rfl) ?_
  refine lv_iload_n hx hb dX4_holds_20 rfl (lv_at hl 0 rfl) ?_
  obtain ⟨q4, hq4, hf⟩ := bd_s hf
  refine k_pVi (wr := W4 cs h0 a0 i0 r0) (ws2 := W4 cs h0 a0 i0 r0 ++ W5 cs (a0 5) a1 i1 r1 l1) (As := [.int x1, .int y0]) (rest := [.ref h0]) hx hb hml hown hts hK hA hZ hl.1 hP hD hS (c_X5_beginOf (h0 := (a0 5)) (a0 := a1) hq4) (gVt mlX4_123 imX5_beginOf seX5_beginOf inX5 coX5_beginOf) rfl qnX5_beginOf rfl rfl ⟨Nat.le_of_ble_eq_true rfl, Nat.le_of_ble_eq_true rfl⟩ [6, 7, 8, 9, 10, 11, 12, 13, 14, 15, 16, 17, 18, 19] [0, 1, 2, 3, 4, 5] [0, 1, 2, 3, 4, 5, 6, 7, 8, 9, 10, 11, 12, 13, 14, 15, 16, 17, 18, 19] rfl rfl rfl (by decide) 0 5 rfl rfl rfl rfl rfl (Nat.le_of_ble_eq_true rfl) ⟨Nat.zero_le _, Nat.zero_le _⟩ dX4_holds_21 (fun H locs hP hD hS => ?_)
  refine lv_aload_n hx hb dX4_holds_24 rfl (lv_at hl 1 rfl) ?_
  refine va_get (D := D) (ci := 4) (v := .ref (a0 5)) (C := RX4) (T := TX4) (N := 13) hx hb hts hiX4 hown hK hP 0 rfl rfl 5 (by decide) (hts _ flX4_28) (fun _ h9 => h9) rfl dX4_holds_25 ?_
  refine lv_iload_n hx hb dX4_holds_28 rfl (lv_at hl 2 rfl) ?_
  refine lv_iload_n hx hb dX4_holds_29 rfl (lv_at hl 0 rfl) ?_
  obtain ⟨q5, hq5, hf⟩ := bd_s hf
  refine k_pVi (wr := W4 cs h0 a0 i0 r0) (ws2 := W4 cs h0 a0 i0 r0 ++ W5 cs (a0 5) a1 i1 r1 l1) (As := [.int x1, .int y0]) (rest := [.int q4, .ref h0]) hx hb hml hown hts hK hA hZ hl.1 hP hD hS (c_X5_endOf (h0 := (a0 5)) (a0 := a1) hq5) (gVt mlX4_127 imX5_endOf seX5_endOf inX5 coX5_endOf) rfl qnX5_endOf rfl rfl ⟨Nat.le_of_ble_eq_true rfl, Nat.le_of_ble_eq_true rfl⟩ [6, 7, 8, 9, 10, 11, 12, 13, 14, 15, 16, 17, 18, 19] [0, 1, 2, 3, 4, 5] [0, 1, 2, 3, 4, 5, 6, 7, 8, 9, 10, 11, 12, 13, 14, 15, 16, 17, 18, 19] rfl rfl rfl (by decide) 0 5 rfl rfl rfl rfl rfl (Nat.le_of_ble_eq_true rfl) ⟨Nat.zero_le _, Nat.zero_le _⟩ dX4_holds_30 (fun H locs hP hD hS => ?_)
  obtain ⟨q6, hq6, hf⟩ := bd_s hf
  refine k_sVi (ws2 := W4 cs h0 a0 q6.2.1 q6.2.2 ++ W5 cs (a0 5) a1 i1 r1 l1) (As := [.int q4, .int q5]) (rest := []) hx hb hml hown hts hK hA hZ hl.1 hP hD hS (c_X4_reckon (h0 := h0) (a0 := a0) (a1 := a1) hq6) (gVt mlX4_130 imX4_reckon seX4_reckon inX4 coX4_reckon) rfl qnX4_reckon rfl rfl ⟨Nat.le_of_ble_eq_true rfl, Nat.le_of_ble_eq_true rfl⟩ 0 4 rfl rfl rfl rfl rfl (Nat.le_of_ble_eq_true rfl) ⟨Nat.zero_le _, Nat.zero_le _⟩ dX4_holds_33 (fun H locs hP hD hS => ?_)
  refine lv_if_eq (tgt := 43) hx hb dX4_holds_36 (by decide) (fun hc => ?_) (fun hc => ?_)
  · have hf := ite_t hf hc
    refine lv_iconst (v := 0) hx hb dX4_holds_43 (by decide) ?_
    obtain rfl := Option.some.inj hf
    exact k_zret (r := 0) hx hb hr hlocks rfl hK hP hD hS dX4_holds_44
  · have hf := ite_f hf hc
    refine lv_iconst (v := 1) hx hb dX4_holds_39 (by decide) ?_
    refine lv_goto (tgt := 44) hx hb dX4_holds_40 (by decide) ?_
    obtain rfl := Option.some.inj hf
    exact k_zret (r := 1) hx hb hr hlocks rfl hK hP hD hS dX4_holds_44
def f_X4_holds  (i0 : Nat → Int32) (r0 : Nat → Nat → Int32) (i1 : Nat → Int32) (r1 : Nat → Nat → Int32) (l1 : Nat → Nat → Int64) (x1 : Int32) (x2 : Int32) : Option (Int32 × (Nat → Int32) × (Nat → Nat → Int32)) := if x2 = (i0 9) then (f_X4_holds_13 i1 r1 l1 i0 r0 x1 1) else (f_X4_holds_13 i1 r1 l1 i0 r0 x1 0)
set_option maxRecDepth 100000 in
set_option maxHeartbeats 4000000 in
theorem c_X4_holds {l : Launch} {D : va_G} {cs zs : Nat → Nat} {h0 : Nat} {a0 : Nat → Nat} {a1 : Nat → Nat} {i0 : Nat → Int32} {r0 : Nat → Nat → Int32} {i1 : Nat → Int32} {r1 : Nat → Nat → Int32} {l1 : Nat → Nat → Int64} {x1 : Int32} {x2 : Int32} {q : Int32 × (Nat → Int32) × (Nat → Nat → Int32)} (hf : f_X4_holds i0 r0 i1 r1 l1 x1 x2 = some q) : Mi l yX4_holds wlX4_holds rmX4_holds D cs zs [.ref h0, .int x1, .int x2] (W4 cs h0 a0 i0 r0 ++ W5 cs (a0 5) a1 i1 r1 l1) q.1 (W4 cs h0 a0 q.2.1 q.2.2 ++ W5 cs (a0 5) a1 i1 r1 l1) := by
  refine Mi.of RX4 (by decide) rfl (Nat.le_of_ble_eq_true rfl) (fun p e s m below meth c A C hP hD hS ls hl => ?_)
  generalize ([.ref h0, .int x1, .int x2] : List Value).toArray = args at C ⊢
  obtain ⟨hx, hb, hr, hml, hown, hts, hK, hA, hlocks, hZ⟩ := id C
  have hl : lv_has ls 4 [(0, .ref h0), (1, .int x1), (2, .int x2)] := hl
  rw [f_X4_holds] at hf
  refine lv_iload_n hx hb dX4_holds_0 rfl (lv_at hl 2 rfl) ?_
  refine lv_aload_n hx hb dX4_holds_1 rfl (lv_at hl 0 rfl) ?_
  refine va_get (D := D) (ci := 4) (v := .int (i0 9)) (C := RX4) (T := TX4) (N := 13) hx hb hts hiX4 hown hK hP 0 rfl rfl 9 (by decide) (hts _ flX4_52) (fun _ h9 => h9) rfl dX4_holds_2 ?_
  refine lv_icmp_ne (tgt := 12) hx hb dX4_holds_5 (by decide) (fun hc => ?_) (fun hc => ?_)
  · have hf := ite_f hf hc
    refine lv_iconst (v := 0) hx hb dX4_holds_12 (by decide) ?_
    exact w_X4_holds_13 C  _ _ _ _ _ _ _ hf hP hD hS (lv_sub hl [0, 1] rfl)
  · have hf := ite_t hf hc
    refine lv_iconst (v := 1) hx hb dX4_holds_8 (by decide) ?_
    refine lv_goto (tgt := 13) hx hb dX4_holds_9 (by decide) ?_
    exact w_X4_holds_13 C  _ _ _ _ _ _ _ hf hP hD hS (lv_sub hl [0, 1] rfl)
/-! MarbleFloor$Machine.countOne()V -/
abbrev wlX4_countOne : List Cond := Cond.code yX4_countOne cX4_countOne 1 none :: tbG
abbrev rmX4_countOne : Room := { frames := 1, cells := 0, slots := 0, locals := 21 }
theorem qnX4_countOne : yX4_countOne.cls = RX4 ∧ yX4_countOne.cls ≠ "java/lang/invoke/MethodHandle" ∧ yX4_countOne.cls ≠ "java/lang/invoke/VarHandle" ∧ (parseMethodDescriptor yX4_countOne.desc).map (fun d => d.parameters.length) = some 0 := by decide +kernel
def f_X4_countOne  (i0 : Nat → Int32) (r0 : Nat → Nat → Int32)  : Option ((Nat → Int32)) := if ((i0 11) + 1) ≤ 5000 then (some ((upd i0 11 ((i0 11) + 1)))) else (bd (f_X4_meet (upd i0 11 ((i0 11) + 1)) r0 3) (fun q2 => some (q2)))
set_option maxRecDepth 100000 in
set_option maxHeartbeats 4000000 in
theorem c_X4_countOne {l : Launch} {D : va_G} {cs zs : Nat → Nat} {h0 : Nat} {a0 : Nat → Nat} {i0 : Nat → Int32} {r0 : Nat → Nat → Int32}  {q : (Nat → Int32)} (hf : f_X4_countOne i0 r0 = some q) : Mv l yX4_countOne wlX4_countOne rmX4_countOne D cs zs [.ref h0] (W4 cs h0 a0 i0 r0) (W4 cs h0 a0 q r0) := by
  refine Mv.of RX4 (by decide) rfl (Nat.le_of_ble_eq_true rfl) (fun p e s m below meth c A C hP hD hS ls hl => ?_)
  generalize ([.ref h0] : List Value).toArray = args at C ⊢
  obtain ⟨hx, hb, hr, hml, hown, hts, hK, hA, hlocks, hZ⟩ := id C
  have hl : lv_has ls 1 [(0, .ref h0)] := hl
  rw [f_X4_countOne] at hf
  refine lv_aload_n hx hb dX4_countOne_0 rfl (lv_at hl 0 rfl) ?_
  refine lv_dup hx hb dX4_countOne_1 rfl ?_
  refine va_get (D := D) (ci := 4) (v := .int (i0 11)) (C := RX4) (T := TX4) (N := 13) hx hb hts hiX4 hown hK hP 0 rfl rfl 11 (by decide) (hts _ flX4_36) (fun _ h9 => h9) rfl dX4_countOne_2 ?_
  refine lv_iconst (v := 1) hx hb dX4_countOne_5 (by decide) ?_
  refine lv_iadd hx hb dX4_countOne_6 ?_
  refine va_put (D := D) (ci := 4) (v := .int ((i0 11) + 1)) (ty := .int) (C := RX4) (T := TX4) (N := 13) hx hb hts hiX4 tyX4 tyX4_ok nmX4 hown hK hP hD hS 0 rfl rfl 11 (by decide) (hts _ flX4_36) (fun _ h9 => h9) rfl (tyX4_ok 11 (by decide)) rfl rfl (Nat.le_of_ble_eq_true rfl) dX4_countOne_7 (fun H locs hP hD hS => ?_)
  obtain ⟨hP, hD⟩ := st4_11 hP hD
  refine lv_aload_n hx hb dX4_countOne_10 rfl (lv_at hl 0 rfl) ?_
  refine va_get (D := D) (ci := 4) (v := .int ((i0 11) + 1)) (C := RX4) (T := TX4) (N := 13) hx hb hts hiX4 hown hK hP 0 rfl rfl 11 (by decide) (hts _ flX4_36) (fun _ h9 => h9) rfl dX4_countOne_11 ?_
  refine lv_sipush (v := 5000) hx hb dX4_countOne_14 (by decide) ?_
  refine lv_icmp_le (tgt := 25) hx hb dX4_countOne_17 (by decide) (fun hc => ?_) (fun hc => ?_)
  · have hf := ite_t hf hc
    obtain rfl := Option.some.inj hf
    exact k_vret hx hb hr hlocks hK hP hD hS dX4_countOne_25
  · have hf := ite_f hf hc
    refine lv_aload_n hx hb dX4_countOne_20 rfl (lv_at hl 0 rfl) ?_
    refine lv_iconst (v := 3) hx hb dX4_countOne_21 (by decide) ?_
    obtain ⟨q2, hq2, hf⟩ := bd_s hf
    refine k_sVv (ws2 := W4 cs h0 a0 q2 r0) (As := [.int 3]) (rest := []) hx hb hml hown hts hK hA hZ hl.1 hP hD hS (c_X4_meet (h0 := h0) (a0 := a0) hq2) (gVt mlX4_85 imX4_meet seX4_meet inX4 coX4_meet) rfl qnX4_meet rfl rfl ⟨Nat.le_of_ble_eq_true rfl, Nat.le_of_ble_eq_true rfl⟩ 0 4 rfl rfl rfl rfl rfl (Nat.le_of_ble_eq_true rfl) ⟨Nat.zero_le _, Nat.zero_le _⟩ dX4_countOne_22 (fun H locs hP hD hS => ?_)
    obtain rfl := Option.some.inj hf
    exact k_vret hx hb hr hlocks hK hP hD hS dX4_countOne_25
/-! MarbleFloor$Machine.leaveBody()V -/
abbrev wlX4_leaveBody : List Cond := Cond.code yX4_leaveBody cX4_leaveBody 3 none :: tbG
abbrev rmX4_leaveBody : Room := { frames := 4, cells := 0, slots := 0, locals := 91 }
theorem qnX4_leaveBody : yX4_leaveBody.cls = RX4 ∧ yX4_leaveBody.cls ≠ "java/lang/invoke/MethodHandle" ∧ yX4_leaveBody.cls ≠ "java/lang/invoke/VarHandle" ∧ (parseMethodDescriptor yX4_leaveBody.desc).map (fun d => d.parameters.length) = some 0 := by decide +kernel
def f_X4_leaveBody_63 (i1 : Nat → Int32) (r1 : Nat → Nat → Int32) (l1 : Nat → Nat → Int64)  (i0 : Nat → Int32) (r0 : Nat → Nat → Int32) (x1 : Int32) : Option ((Nat → Int32) × (Nat → Nat → Int32)) := bd (f_X4_goBehind i0 r0 i1 r1 l1 x1) (fun q13 => some (q13, r0))
set_option maxRecDepth 100000 in
set_option maxHeartbeats 4000000 in
theorem w_X4_leaveBody_63 {p : Program} {l : Launch} {e : Env} {s : State} {m : MethodId} {args : Array Value} {below : List Frame} {meth : Method} {c : Code} {A : Nat → Prop} {D : va_G} {cs zs : Nat → Nat} {h0 : Nat} {a0 : Nat → Nat} {a1 : Nat → Nat} {i1 : Nat → Int32} {r1 : Nat → Nat → Int32} {l1 : Nat → Nat → Int64} {q : (Nat → Int32) × (Nat → Nat → Int32)} (C : Cx p s m args meth c A D cs zs cX4_leaveBody 3 none RX4)  : ∀ (i0 : Nat → Int32) (r0 : Nat → Nat → Int32) (x1 : Int32) (H : Heap) (locs : List Loc) (ls : Array Slot), f_X4_leaveBody_63 i1 r1 l1 i0 r0 x1 = some q → va_P D vwCl (W4 cs h0 a0 i0 r0 ++ W5 cs (a0 5) a1 i1 r1 l1) H → va_D A (W4 cs h0 a0 i0 r0 ++ W5 cs (a0 5) a1 i1 r1 l1) → va_S A s.heap H locs → lv_has ls 3 [(0, .ref h0), (1, .int x1)] → W p l e rmX4_leaveBody s m args below meth c H locs 0 0 (MQ below (Qv D cs A (W4 cs h0 a0 q.1 q.2 ++ W5 cs (a0 5) a1 i1 r1 l1)) args s 0 0 A) (F0 m 63 ls []) := by
  obtain ⟨hx, hb, hr, hml, hown, hts, hK, hA, hlocks, hZ⟩ := id C
  intro i0 r0 x1 H locs ls hf hP hD hS hl
  rw [f_X4_leaveBody_63] at hf
  refine lv_aload_n hx hb dX4_leaveBody_63 rfl (lv_at hl 0 rfl) ?_
  refine lv_iload_n hx hb dX4_leaveBody_64 rfl (lv_at hl 1 rfl) ?_
  obtain ⟨q13, hq13, hf⟩ := bd_s hf
  refine k_sVv (ws2 := W4 cs h0 a0 q13 r0 ++ W5 cs (a0 5) a1 i1 r1 l1) (As := [.int x1]) (rest := []) hx hb hml hown hts hK hA hZ hl.1 hP hD hS (c_X4_goBehind (h0 := h0) (a0 := a0) (a1 := a1) hq13) (gVt mlX4_114 imX4_goBehind seX4_goBehind inX4 coX4_goBehind) rfl qnX4_goBehind rfl rfl ⟨Nat.le_of_ble_eq_true rfl, Nat.le_of_ble_eq_true rfl⟩ 0 4 rfl rfl rfl rfl rfl (Nat.le_of_ble_eq_true rfl) ⟨Nat.zero_le _, Nat.zero_le _⟩ dX4_leaveBody_65 (fun H locs hP hD hS => ?_)
  refine lv_goto (tgt := 136) hx hb dX4_leaveBody_68 (by decide) ?_
  obtain rfl := Option.some.inj hf
  exact k_vret hx hb hr hlocks hK hP hD hS dX4_leaveBody_136
def f_X4_leaveBody_89 (i1 : Nat → Int32) (r1 : Nat → Nat → Int32) (l1 : Nat → Nat → Int64)  (i0 : Nat → Int32) (r0 : Nat → Nat → Int32) (x1 : Int32) : Option ((Nat → Int32) × (Nat → Nat → Int32)) := bd (f_X4_enter i0 r0 i1 r1 l1 (2 * x1)) (fun q14 => some (q14, r0))
set_option maxRecDepth 100000 in
set_option maxHeartbeats 4000000 in
theorem w_X4_leaveBody_89 {p : Program} {l : Launch} {e : Env} {s : State} {m : MethodId} {args : Array Value} {below : List Frame} {meth : Method} {c : Code} {A : Nat → Prop} {D : va_G} {cs zs : Nat → Nat} {h0 : Nat} {a0 : Nat → Nat} {a1 : Nat → Nat} {i1 : Nat → Int32} {r1 : Nat → Nat → Int32} {l1 : Nat → Nat → Int64} {q : (Nat → Int32) × (Nat → Nat → Int32)} (C : Cx p s m args meth c A D cs zs cX4_leaveBody 3 none RX4)  : ∀ (i0 : Nat → Int32) (r0 : Nat → Nat → Int32) (x1 : Int32) (H : Heap) (locs : List Loc) (ls : Array Slot), f_X4_leaveBody_89 i1 r1 l1 i0 r0 x1 = some q → va_P D vwCl (W4 cs h0 a0 i0 r0 ++ W5 cs (a0 5) a1 i1 r1 l1) H → va_D A (W4 cs h0 a0 i0 r0 ++ W5 cs (a0 5) a1 i1 r1 l1) → va_S A s.heap H locs → lv_has ls 3 [(0, .ref h0), (1, .int x1)] → W p l e rmX4_leaveBody s m args below meth c H locs 0 0 (MQ below (Qv D cs A (W4 cs h0 a0 q.1 q.2 ++ W5 cs (a0 5) a1 i1 r1 l1)) args s 0 0 A) (F0 m 89 ls []) := by
  obtain ⟨hx, hb, hr, hml, hown, hts, hK, hA, hlocks, hZ⟩ := id C
  intro i0 r0 x1 H locs ls hf hP hD hS hl
  rw [f_X4_leaveBody_89] at hf
  refine lv_aload_n hx hb dX4_leaveBody_89 rfl (lv_at hl 0 rfl) ?_
  refine lv_iconst (v := 2) hx hb dX4_leaveBody_90 (by decide) ?_
  refine lv_iload_n hx hb dX4_leaveBody_91 rfl (lv_at hl 1 rfl) ?_
  refine lv_imul hx hb dX4_leaveBody_92 ?_
  obtain ⟨q14, hq14, hf⟩ := bd_s hf
  refine k_sVv (ws2 := W4 cs h0 a0 q14 r0 ++ W5 cs (a0 5) a1 i1 r1 l1) (As := [.int (2 * x1)]) (rest := []) hx hb hml hown hts hK hA hZ hl.1 hP hD hS (c_X4_enter (h0 := h0) (a0 := a0) (a1 := a1) hq14) (gVt mlX4_57 imX4_enter seX4_enter inX4 coX4_enter) rfl qnX4_enter rfl rfl ⟨Nat.le_of_ble_eq_true rfl, Nat.le_of_ble_eq_true rfl⟩ 0 4 rfl rfl rfl rfl rfl (Nat.le_of_ble_eq_true rfl) ⟨Nat.zero_le _, Nat.zero_le _⟩ dX4_leaveBody_93 (fun H locs hP hD hS => ?_)
  refine lv_goto (tgt := 136) hx hb dX4_leaveBody_96 (by decide) ?_
  obtain rfl := Option.some.inj hf
  exact k_vret hx hb hr hlocks hK hP hD hS dX4_leaveBody_136
def f_X4_leaveBody_35 (i1 : Nat → Int32) (r1 : Nat → Nat → Int32) (l1 : Nat → Nat → Int64)  (i0 : Nat → Int32) (r0 : Nat → Nat → Int32) (x1 : Int32) (y0 : Int32) : Option ((Nat → Int32) × (Nat → Nat → Int32)) := bd (f_X5_kindOf i1 r1 l1 x1) (fun q15 => if q15 = 4 then (bd (f_X4_holds i0 r0 i1 r1 l1 x1 0) (fun q22 => if q22.1 = y0 then (f_X4_leaveBody_63 i1 r1 l1 q22.2.1 q22.2.2 x1) else (bd (f_X4_meet q22.2.1 q22.2.2 1) (fun q23 => f_X4_leaveBody_63 i1 r1 l1 q23 q22.2.2 x1)))) else (if y0 = 0 then (bd (f_X4_holds i0 r0 i1 r1 l1 x1 1) (fun q20 => if q20.1 = 0 then (f_X4_leaveBody_89 i1 r1 l1 q20.2.1 q20.2.2 x1) else (bd (f_X4_meet q20.2.1 q20.2.2 1) (fun q21 => f_X4_leaveBody_89 i1 r1 l1 q21 q20.2.2 x1)))) else (bd (f_X4_holds i0 r0 i1 r1 l1 x1 0) (fun q16 => if q16.1 = 0 then (if (q16.2.1 12) = 0 then (bd (f_X4_countOne q16.2.1 q16.2.2) (fun q17 => bd (f_X4_enter q17 q16.2.2 i1 r1 l1 ((2 * x1) + 1)) (fun q18 => some (q18, q16.2.2)))) else (some (q16.2.1, q16.2.2))) else (bd (f_X4_goBehind q16.2.1 q16.2.2 i1 r1 l1 x1) (fun q19 => some (q19, q16.2.2)))))))
set_option maxRecDepth 100000 in
set_option maxHeartbeats 4000000 in
theorem w_X4_leaveBody_35 {p : Program} {l : Launch} {e : Env} {s : State} {m : MethodId} {args : Array Value} {below : List Frame} {meth : Method} {c : Code} {A : Nat → Prop} {D : va_G} {cs zs : Nat → Nat} {h0 : Nat} {a0 : Nat → Nat} {a1 : Nat → Nat} {i1 : Nat → Int32} {r1 : Nat → Nat → Int32} {l1 : Nat → Nat → Int64} {q : (Nat → Int32) × (Nat → Nat → Int32)} (C : Cx p s m args meth c A D cs zs cX4_leaveBody 3 none RX4)  : ∀ (i0 : Nat → Int32) (r0 : Nat → Nat → Int32) (x1 : Int32) (y0 : Int32) (H : Heap) (locs : List Loc) (ls : Array Slot), f_X4_leaveBody_35 i1 r1 l1 i0 r0 x1 y0 = some q → va_P D vwCl (W4 cs h0 a0 i0 r0 ++ W5 cs (a0 5) a1 i1 r1 l1) H → va_D A (W4 cs h0 a0 i0 r0 ++ W5 cs (a0 5) a1 i1 r1 l1) → va_S A s.heap H locs → lv_has ls 3 [(0, .ref h0), (1, .int x1)] → W p l e rmX4_leaveBody s m args below meth c H locs 0 0 (MQ below (Qv D cs A (W4 cs h0 a0 q.1 q.2 ++ W5 cs (a0 5) a1 i1 r1 l1)) args s 0 0 A) (F0 m 35 ls [.int y0]) := by
  obtain ⟨hx, hb, hr, hml, hown, hts, hK, hA, hlocks, hZ⟩ := id C
  intro i0 r0 x1 y0 H locs ls hf hP hD hS hl
  rw [f_X4_leaveBody_35] at hf
  refine lv_istore_n (lv' := [(2, .int y0), (0, .ref h0), (1, .int x1)]) hx hb dX4_leaveBody_35 rfl hl (by decide) rfl (fun ls hl => ?_)
  refine lv_aload_n hx hb dX4_leaveBody_36 rfl (lv_at hl 1 rfl) ?_
  refine va_get (D := D) (ci := 4) (v := .ref (a0 5)) (C := RX4) (T := TX4) (N := 13) hx hb hts hiX4 hown hK hP 0 rfl rfl 5 (by decide) (hts _ flX4_28) (fun _ h9 => h9) rfl dX4_leaveBody_37 ?_
  refine lv_iload_n hx hb dX4_leaveBody_40 rfl (lv_at hl 2 rfl) ?_
  obtain ⟨q15, hq15, hf⟩ := bd_s hf
  refine k_pVi (wr := W4 cs h0 a0 i0 r0) (ws2 := W4 cs h0 a0 i0 r0 ++ W5 cs (a0 5) a1 i1 r1 l1) (As := [.int x1]) (rest := []) hx hb hml hown hts hK hA hZ hl.1 hP hD hS (c_X5_kindOf (h0 := (a0 5)) (a0 := a1) hq15) (gVt mlX4_91 imX5_kindOf seX5_kindOf inX5 coX5_kindOf) rfl qnX5_kindOf rfl rfl ⟨Nat.le_of_ble_eq_true rfl, Nat.le_of_ble_eq_true rfl⟩ [6, 7, 8, 9, 10, 11, 12, 13, 14, 15, 16, 17, 18, 19] [0, 1, 2, 3, 4, 5] [0, 1, 2, 3, 4, 5, 6, 7, 8, 9, 10, 11, 12, 13, 14, 15, 16, 17, 18, 19] rfl rfl rfl (by decide) 0 5 rfl rfl rfl rfl rfl (Nat.le_of_ble_eq_true rfl) ⟨Nat.zero_le _, Nat.zero_le _⟩ dX4_leaveBody_41 (fun H locs hP hD hS => ?_)
  refine lv_iconst (v := 4) hx hb dX4_leaveBody_44 (by decide) ?_
  refine lv_icmp_ne (tgt := 71) hx hb dX4_leaveBody_45 (by decide) (fun hc => ?_) (fun hc => ?_)
  · have hf := ite_f hf hc
    refine lv_iload_n hx hb dX4_leaveBody_71 rfl (lv_at hl 0 rfl) ?_
    refine lv_if_ne (tgt := 99) hx hb dX4_leaveBody_72 (by decide) (fun hc => ?_) (fun hc => ?_)
    · have hf := ite_f hf hc
      refine lv_aload_n hx hb dX4_leaveBody_99 rfl (lv_at hl 1 rfl) ?_
      refine lv_iload_n hx hb dX4_leaveBody_100 rfl (lv_at hl 2 rfl) ?_
      refine lv_iconst (v := 0) hx hb dX4_leaveBody_101 (by decide) ?_
      obtain ⟨q16, hq16, hf⟩ := bd_s hf
      refine k_sVi (ws2 := W4 cs h0 a0 q16.2.1 q16.2.2 ++ W5 cs (a0 5) a1 i1 r1 l1) (As := [.int x1, .int 0]) (rest := []) hx hb hml hown hts hK hA hZ hl.1 hP hD hS (c_X4_holds (h0 := h0) (a0 := a0) (a1 := a1) hq16) (gVt mlX4_94 imX4_holds seX4_holds inX4 coX4_holds) rfl qnX4_holds rfl rfl ⟨Nat.le_of_ble_eq_true rfl, Nat.le_of_ble_eq_true rfl⟩ 0 4 rfl rfl rfl rfl rfl (Nat.le_of_ble_eq_true rfl) ⟨Nat.zero_le _, Nat.zero_le _⟩ dX4_leaveBody_102 (fun H locs hP hD hS => ?_)
      refine lv_if_eq (tgt := 116) hx hb dX4_leaveBody_105 (by decide) (fun hc => ?_) (fun hc => ?_)
      · have hf := ite_t hf hc
        refine lv_aload_n hx hb dX4_leaveBody_116 rfl (lv_at hl 1 rfl) ?_
        refine va_get (D := D) (ci := 4) (v := .int (q16.2.1 12)) (C := RX4) (T := TX4) (N := 13) hx hb hts hiX4 hown hK hP 0 rfl rfl 12 (by decide) (hts _ flX4_32) (fun _ h9 => h9) rfl dX4_leaveBody_117 ?_
        refine lv_if_ne (tgt := 136) hx hb dX4_leaveBody_120 (by decide) (fun hc => ?_) (fun hc => ?_)
        · have hf := ite_f hf hc
          obtain rfl := Option.some.inj hf
          exact k_vret hx hb hr hlocks hK hP hD hS dX4_leaveBody_136
        · have hf := ite_t hf hc
          refine lv_aload_n hx hb dX4_leaveBody_123 rfl (lv_at hl 1 rfl) ?_
          obtain ⟨q17, hq17, hf⟩ := bd_s hf
          refine k_pVv (wr := W5 cs (a0 5) a1 i1 r1 l1) (ws2 := W4 cs h0 a0 q17 q16.2.2 ++ W5 cs (a0 5) a1 i1 r1 l1) (As := []) (rest := []) hx hb hml hown hts hK hA hZ hl.1 hP hD hS (c_X4_countOne (h0 := h0) (a0 := a0) hq17) (gVt mlX4_88 imX4_countOne seX4_countOne inX4 coX4_countOne) rfl qnX4_countOne rfl rfl ⟨Nat.le_of_ble_eq_true rfl, Nat.le_of_ble_eq_true rfl⟩ [0, 1, 2, 3, 4, 5] [6, 7, 8, 9, 10, 11, 12, 13, 14, 15, 16, 17, 18, 19] [14, 15, 16, 17, 18, 19, 0, 1, 2, 3, 4, 5, 6, 7, 8, 9, 10, 11, 12, 13] rfl rfl rfl (by decide) 0 4 rfl rfl rfl rfl rfl (Nat.le_of_ble_eq_true rfl) ⟨Nat.zero_le _, Nat.zero_le _⟩ dX4_leaveBody_124 (fun H locs hP hD hS => ?_)
          refine lv_aload_n hx hb dX4_leaveBody_127 rfl (lv_at hl 1 rfl) ?_
          refine lv_iconst (v := 2) hx hb dX4_leaveBody_128 (by decide) ?_
          refine lv_iload_n hx hb dX4_leaveBody_129 rfl (lv_at hl 2 rfl) ?_
          refine lv_imul hx hb dX4_leaveBody_130 ?_
          refine lv_iconst (v := 1) hx hb dX4_leaveBody_131 (by decide) ?_
          refine lv_iadd hx hb dX4_leaveBody_132 ?_
          obtain ⟨q18, hq18, hf⟩ := bd_s hf
          refine k_sVv (ws2 := W4 cs h0 a0 q18 q16.2.2 ++ W5 cs (a0 5) a1 i1 r1 l1) (As := [.int ((2 * x1) + 1)]) (rest := []) hx hb hml hown hts hK hA hZ hl.1 hP hD hS (c_X4_enter (h0 := h0) (a0 := a0) (a1 := a1) hq18) (gVt mlX4_57 imX4_enter seX4_enter inX4 coX4_enter) rfl qnX4_enter rfl rfl ⟨Nat.le_of_ble_eq_true rfl, Nat.le_of_ble_eq_true rfl⟩ 0 4 rfl rfl rfl rfl rfl (Nat.le_of_ble_eq_true rfl) ⟨Nat.zero_le _, Nat.zero_le _⟩ dX4_leaveBody_133 (fun H locs hP hD hS => ?_)
          obtain rfl := Option.some.inj hf
          exact k_vret hx hb hr hlocks hK hP hD hS dX4_leaveBody_136
      · have hf := ite_f hf hc
        refine lv_aload_n hx hb dX4_leaveBody_108 rfl (lv_at hl 1 rfl) ?_
        refine lv_iload_n hx hb dX4_leaveBody_109 rfl (lv_at hl 2 rfl) ?_
        obtain ⟨q19, hq19, hf⟩ := bd_s hf
        refine k_sVv (ws2 := W4 cs h0 a0 q19 q16.2.2 ++ W5 cs (a0 5) a1 i1 r1 l1) (As := [.int x1]) (rest := []) hx hb hml hown hts hK hA hZ hl.1 hP hD hS (c_X4_goBehind (h0 := h0) (a0 := a0) (a1 := a1) hq19) (gVt mlX4_114 imX4_goBehind seX4_goBehind inX4 coX4_goBehind) rfl qnX4_goBehind rfl rfl ⟨Nat.le_of_ble_eq_true rfl, Nat.le_of_ble_eq_true rfl⟩ 0 4 rfl rfl rfl rfl rfl (Nat.le_of_ble_eq_true rfl) ⟨Nat.zero_le _, Nat.zero_le _⟩ dX4_leaveBody_110 (fun H locs hP hD hS => ?_)
        refine lv_goto (tgt := 136) hx hb dX4_leaveBody_113 (by decide) ?_
        obtain rfl := Option.some.inj hf
        exact k_vret hx hb hr hlocks hK hP hD hS dX4_leaveBody_136
    · have hf := ite_t hf hc
      refine lv_aload_n hx hb dX4_leaveBody_75 rfl (lv_at hl 1 rfl) ?_
      refine lv_iload_n hx hb dX4_leaveBody_76 rfl (lv_at hl 2 rfl) ?_
      refine lv_iconst (v := 1) hx hb dX4_leaveBody_77 (by decide) ?_
      obtain ⟨q20, hq20, hf⟩ := bd_s hf
      refine k_sVi (ws2 := W4 cs h0 a0 q20.2.1 q20.2.2 ++ W5 cs (a0 5) a1 i1 r1 l1) (As := [.int x1, .int 1]) (rest := []) hx hb hml hown hts hK hA hZ hl.1 hP hD hS (c_X4_holds (h0 := h0) (a0 := a0) (a1 := a1) hq20) (gVt mlX4_94 imX4_holds seX4_holds inX4 coX4_holds) rfl qnX4_holds rfl rfl ⟨Nat.le_of_ble_eq_true rfl, Nat.le_of_ble_eq_true rfl⟩ 0 4 rfl rfl rfl rfl rfl (Nat.le_of_ble_eq_true rfl) ⟨Nat.zero_le _, Nat.zero_le _⟩ dX4_leaveBody_78 (fun H locs hP hD hS => ?_)
      refine lv_if_eq (tgt := 89) hx hb dX4_leaveBody_81 (by decide) (fun hc => ?_) (fun hc => ?_)
      · have hf := ite_t hf hc
        exact w_X4_leaveBody_89 C  _ _ _ _ _ _ hf hP hD hS (lv_sub hl [1, 2] rfl)
      · have hf := ite_f hf hc
        refine lv_aload_n hx hb dX4_leaveBody_84 rfl (lv_at hl 1 rfl) ?_
        refine lv_iconst (v := 1) hx hb dX4_leaveBody_85 (by decide) ?_
        obtain ⟨q21, hq21, hf⟩ := bd_s hf
        refine k_pVv (wr := W5 cs (a0 5) a1 i1 r1 l1) (ws2 := W4 cs h0 a0 q21 q20.2.2 ++ W5 cs (a0 5) a1 i1 r1 l1) (As := [.int 1]) (rest := []) hx hb hml hown hts hK hA hZ hl.1 hP hD hS (c_X4_meet (h0 := h0) (a0 := a0) hq21) (gVt mlX4_85 imX4_meet seX4_meet inX4 coX4_meet) rfl qnX4_meet rfl rfl ⟨Nat.le_of_ble_eq_true rfl, Nat.le_of_ble_eq_true rfl⟩ [0, 1, 2, 3, 4, 5] [6, 7, 8, 9, 10, 11, 12, 13, 14, 15, 16, 17, 18, 19] [14, 15, 16, 17, 18, 19, 0, 1, 2, 3, 4, 5, 6, 7, 8, 9, 10, 11, 12, 13] rfl rfl rfl (by decide) 0 4 rfl rfl rfl rfl rfl (Nat.le_of_ble_eq_true rfl) ⟨Nat.zero_le _, Nat.zero_le _⟩ dX4_leaveBody_86 (fun H locs hP hD hS => ?_)
        exact w_X4_leaveBody_89 C  _ _ _ _ _ _ hf hP hD hS (lv_sub hl [1, 2] rfl)
  · have hf := ite_t hf hc
    refine lv_aload_n hx hb dX4_leaveBody_48 rfl (lv_at hl 1 rfl) ?_
    refine lv_iload_n hx hb dX4_leaveBody_49 rfl (lv_at hl 2 rfl) ?_
    refine lv_iconst (v := 0) hx hb dX4_leaveBody_50 (by decide) ?_
    obtain ⟨q22, hq22, hf⟩ := bd_s hf
    refine k_sVi (ws2 := W4 cs h0 a0 q22.2.1 q22.2.2 ++ W5 cs (a0 5) a1 i1 r1 l1) (As := [.int x1, .int 0]) (rest := []) hx hb hml hown hts hK hA hZ hl.1 hP hD hS (c_X4_holds (h0 := h0) (a0 := a0) (a1 := a1) hq22) (gVt mlX4_94 imX4_holds seX4_holds inX4 coX4_holds) rfl qnX4_holds rfl rfl ⟨Nat.le_of_ble_eq_true rfl, Nat.le_of_ble_eq_true rfl⟩ 0 4 rfl rfl rfl rfl rfl (Nat.le_of_ble_eq_true rfl) ⟨Nat.zero_le _, Nat.zero_le _⟩ dX4_leaveBody_51 (fun H locs hP hD hS => ?_)
    refine lv_iload_n hx hb dX4_leaveBody_54 rfl (lv_at hl 0 rfl) ?_
    refine lv_icmp_eq (tgt := 63) hx hb dX4_leaveBody_55 (by decide) (fun hc => ?_) (fun hc => ?_)
    · have hf := ite_t hf hc
      exact w_X4_leaveBody_63 C  _ _ _ _ _ _ hf hP hD hS (lv_sub hl [1, 2] rfl)
    · have hf := ite_f hf hc
      refine lv_aload_n hx hb dX4_leaveBody_58 rfl (lv_at hl 1 rfl) ?_
      refine lv_iconst (v := 1) hx hb dX4_leaveBody_59 (by decide) ?_
      obtain ⟨q23, hq23, hf⟩ := bd_s hf
      refine k_pVv (wr := W5 cs (a0 5) a1 i1 r1 l1) (ws2 := W4 cs h0 a0 q23 q22.2.2 ++ W5 cs (a0 5) a1 i1 r1 l1) (As := [.int 1]) (rest := []) hx hb hml hown hts hK hA hZ hl.1 hP hD hS (c_X4_meet (h0 := h0) (a0 := a0) hq23) (gVt mlX4_85 imX4_meet seX4_meet inX4 coX4_meet) rfl qnX4_meet rfl rfl ⟨Nat.le_of_ble_eq_true rfl, Nat.le_of_ble_eq_true rfl⟩ [0, 1, 2, 3, 4, 5] [6, 7, 8, 9, 10, 11, 12, 13, 14, 15, 16, 17, 18, 19] [14, 15, 16, 17, 18, 19, 0, 1, 2, 3, 4, 5, 6, 7, 8, 9, 10, 11, 12, 13] rfl rfl rfl (by decide) 0 4 rfl rfl rfl rfl rfl (Nat.le_of_ble_eq_true rfl) ⟨Nat.zero_le _, Nat.zero_le _⟩ dX4_leaveBody_60 (fun H locs hP hD hS => ?_)
      exact w_X4_leaveBody_63 C  _ _ _ _ _ _ hf hP hD hS (lv_sub hl [1, 2] rfl)
def f_X4_leaveBody  (i0 : Nat → Int32) (r0 : Nat → Nat → Int32) (i1 : Nat → Int32) (r1 : Nat → Nat → Int32) (l1 : Nat → Nat → Int64)  : Option ((Nat → Int32) × (Nat → Nat → Int32)) := if (i0 8) < 120 then (ck (nz 2) (ck (nz 2) (if ((i0 8) - (i0 8) / 2 * 2) = 0 then (f_X4_leaveBody_35 i1 r1 l1 i0 r0 ((i0 8) / 2) 1) else (f_X4_leaveBody_35 i1 r1 l1 i0 r0 ((i0 8) / 2) 0)))) else (bd (f_X4_endCall i0 r0 i1 r1 l1) (fun q24 => some (q24, r0)))
set_option maxRecDepth 100000 in
set_option maxHeartbeats 4000000 in
theorem c_X4_leaveBody {l : Launch} {D : va_G} {cs zs : Nat → Nat} {h0 : Nat} {a0 : Nat → Nat} {a1 : Nat → Nat} {i0 : Nat → Int32} {r0 : Nat → Nat → Int32} {i1 : Nat → Int32} {r1 : Nat → Nat → Int32} {l1 : Nat → Nat → Int64}  {q : (Nat → Int32) × (Nat → Nat → Int32)} (hf : f_X4_leaveBody i0 r0 i1 r1 l1 = some q) : Mv l yX4_leaveBody wlX4_leaveBody rmX4_leaveBody D cs zs [.ref h0] (W4 cs h0 a0 i0 r0 ++ W5 cs (a0 5) a1 i1 r1 l1) (W4 cs h0 a0 q.1 q.2 ++ W5 cs (a0 5) a1 i1 r1 l1) := by
  refine Mv.of RX4 (by decide) rfl (Nat.le_of_ble_eq_true rfl) (fun p e s m below meth c A C hP hD hS ls hl => ?_)
  generalize ([.ref h0] : List Value).toArray = args at C ⊢
  obtain ⟨hx, hb, hr, hml, hown, hts, hK, hA, hlocks, hZ⟩ := id C
  have hl : lv_has ls 3 [(0, .ref h0)] := hl
  rw [f_X4_leaveBody] at hf
  refine lv_aload_n hx hb dX4_leaveBody_0 rfl (lv_at hl 0 rfl) ?_
  refine va_get (D := D) (ci := 4) (v := .int (i0 8)) (C := RX4) (T := TX4) (N := 13) hx hb hts hiX4 hown hK hP 0 rfl rfl 8 (by decide) (hts _ flX4_71) (fun _ h9 => h9) rfl dX4_leaveBody_1 ?_
  refine lv_bipush (v := 120) hx hb dX4_leaveBody_4 (by decide) ?_
  refine lv_icmp_lt (tgt := 14) hx hb dX4_leaveBody_6 (by decide) (fun hc => ?_) (fun hc => ?_)
  · have hf := ite_t hf hc
    refine lv_aload_n hx hb dX4_leaveBody_14 rfl (lv_at hl 0 rfl) ?_
    refine va_get (D := D) (ci := 4) (v := .int (i0 8)) (C := RX4) (T := TX4) (N := 13) hx hb hts hiX4 hown hK hP 0 rfl rfl 8 (by decide) (hts _ flX4_71) (fun _ h9 => h9) rfl dX4_leaveBody_15 ?_
    refine lv_iconst (v := 2) hx hb dX4_leaveBody_18 (by decide) ?_
    refine lv_idiv hx hb dX4_leaveBody_19 (ck_nz hf) ?_
    have hf := ck_2 hf
    refine lv_istore_n (lv' := [(1, .int ((i0 8) / 2)), (0, .ref h0)]) hx hb dX4_leaveBody_20 rfl hl (by decide) rfl (fun ls hl => ?_)
    refine lv_aload_n hx hb dX4_leaveBody_21 rfl (lv_at hl 1 rfl) ?_
    refine va_get (D := D) (ci := 4) (v := .int (i0 8)) (C := RX4) (T := TX4) (N := 13) hx hb hts hiX4 hown hK hP 0 rfl rfl 8 (by decide) (hts _ flX4_71) (fun _ h9 => h9) rfl dX4_leaveBody_22 ?_
    refine lv_iconst (v := 2) hx hb dX4_leaveBody_25 (by decide) ?_
    refine lv_irem hx hb dX4_leaveBody_26 (ck_nz hf) ?_
    have hf := ck_2 hf
    refine lv_if_ne (tgt := 34) hx hb dX4_leaveBody_27 (by decide) (fun hc => ?_) (fun hc => ?_)
    · have hf := ite_f hf hc
      refine lv_iconst (v := 0) hx hb dX4_leaveBody_34 (by decide) ?_
      exact w_X4_leaveBody_35 C  _ _ _ _ _ _ _ hf hP hD hS (lv_sub hl [1, 0] rfl)
    · have hf := ite_t hf hc
      refine lv_iconst (v := 1) hx hb dX4_leaveBody_30 (by decide) ?_
      refine lv_goto (tgt := 35) hx hb dX4_leaveBody_31 (by decide) ?_
      exact w_X4_leaveBody_35 C  _ _ _ _ _ _ _ hf hP hD hS (lv_sub hl [1, 0] rfl)
  · have hf := ite_f hf hc
    refine lv_aload_n hx hb dX4_leaveBody_9 rfl (lv_at hl 0 rfl) ?_
    obtain ⟨q24, hq24, hf⟩ := bd_s hf
    refine k_sVv (ws2 := W4 cs h0 a0 q24 r0 ++ W5 cs (a0 5) a1 i1 r1 l1) (As := []) (rest := []) hx hb hml hown hts hK hA hZ hl.1 hP hD hS (c_X4_endCall (h0 := h0) (a0 := a0) (a1 := a1) hq24) (gVt mlX4_120 imX4_endCall seX4_endCall inX4 coX4_endCall) rfl qnX4_endCall rfl rfl ⟨Nat.le_of_ble_eq_true rfl, Nat.le_of_ble_eq_true rfl⟩ 0 4 rfl rfl rfl rfl rfl (Nat.le_of_ble_eq_true rfl) ⟨Nat.zero_le _, Nat.zero_le _⟩ dX4_leaveBody_10 (fun H locs hP hD hS => ?_)
    obtain rfl := Option.some.inj hf
    exact k_vret hx hb hr hlocks hK hP hD hS dX4_leaveBody_13
/-! MarbleFloor$Machine.change(I)V -/
abbrev wlX4_change : List Cond := Cond.code yX4_change cX4_change 5 none :: tbG
abbrev rmX4_change : Room := { frames := 3, cells := 0, slots := 0, locals := 68 }
theorem qnX4_change : yX4_change.cls = RX4 ∧ yX4_change.cls ≠ "java/lang/invoke/MethodHandle" ∧ yX4_change.cls ≠ "java/lang/invoke/VarHandle" ∧ (parseMethodDescriptor yX4_change.desc).map (fun d => d.parameters.length) = some 1 := by decide +kernel
def f_X4_change_75 (i1 : Nat → Int32) (r1 : Nat → Nat → Int32) (l1 : Nat → Nat → Int64)  (i0 : Nat → Int32) (r0 : Nat → Nat → Int32) (x2 : Int32) (x3 : Int32) (y0 : Int32) : Option ((Nat → Int32) × (Nat → Nat → Int32)) := if y0 = (i0 9) then (ck (inb x2 20) (ck (inb x2 20) (some (i0, (va_up r0 0 (upd (r0 0) x2.toNatClampNeg ((r0 0 x2.toNatClampNeg) - x3))))))) else (ck (inb x2 20) (ck (inb x2 20) (some (i0, (va_up r0 0 (upd (r0 0) x2.toNatClampNeg ((r0 0 x2.toNatClampNeg) + x3)))))))
set_option maxRecDepth 100000 in
set_option maxHeartbeats 4000000 in
theorem w_X4_change_75 {p : Program} {l : Launch} {e : Env} {s : State} {m : MethodId} {args : Array Value} {below : List Frame} {meth : Method} {c : Code} {A : Nat → Prop} {D : va_G} {cs zs : Nat → Nat} {h0 : Nat} {a0 : Nat → Nat} {a1 : Nat → Nat} {i1 : Nat → Int32} {r1 : Nat → Nat → Int32} {l1 : Nat → Nat → Int64} {q : (Nat → Int32) × (Nat → Nat → Int32)} (C : Cx p s m args meth c A D cs zs cX4_change 5 none RX4)  : ∀ (i0 : Nat → Int32) (r0 : Nat → Nat → Int32) (x2 : Int32) (x3 : Int32) (y0 : Int32) (H : Heap) (locs : List Loc) (ls : Array Slot), f_X4_change_75 i1 r1 l1 i0 r0 x2 x3 y0 = some q → va_P D vwCl (W4 cs h0 a0 i0 r0 ++ W5 cs (a0 5) a1 i1 r1 l1) H → va_D A (W4 cs h0 a0 i0 r0 ++ W5 cs (a0 5) a1 i1 r1 l1) → va_S A s.heap H locs → lv_has ls 5 [(0, .ref h0), (2, .int x2), (3, .int x3)] → W p l e rmX4_change s m args below meth c H locs 0 0 (MQ below (Qv D cs A (W4 cs h0 a0 q.1 q.2 ++ W5 cs (a0 5) a1 i1 r1 l1)) args s 0 0 A) (F0 m 75 ls [.int y0]) := by
  obtain ⟨hx, hb, hr, hml, hown, hts, hK, hA, hlocks, hZ⟩ := id C
  intro i0 r0 x2 x3 y0 H locs ls hf hP hD hS hl
  rw [f_X4_change_75] at hf
  refine lv_aload_n hx hb dX4_change_75 rfl (lv_at hl 0 rfl) ?_
  refine va_get (D := D) (ci := 4) (v := .int (i0 9)) (C := RX4) (T := TX4) (N := 13) hx hb hts hiX4 hown hK hP 0 rfl rfl 9 (by decide) (hts _ flX4_52) (fun _ h9 => h9) rfl dX4_change_76 ?_
  refine lv_icmp_eq (tgt := 95) hx hb dX4_change_79 (by decide) (fun hc => ?_) (fun hc => ?_)
  · have hf := ite_t hf hc
    refine lv_aload_n hx hb dX4_change_95 rfl (lv_at hl 0 rfl) ?_
    refine va_get (D := D) (ci := 4) (v := .ref (a0 0)) (C := RX4) (T := TX4) (N := 13) hx hb hts hiX4 hown hK hP 0 rfl rfl 0 (by decide) (hts _ flX4_9) (fun _ h9 => h9) rfl dX4_change_96 ?_
    refine lv_iload_n hx hb dX4_change_99 rfl (lv_at hl 1 rfl) ?_
    refine lv_dup2_11 hx hb dX4_change_100 rfl rfl ?_
    refine va_iald (f := r0 0) hx hb hK hP 1 0 rfl rfl (ck_in hf) dX4_change_101 ?_
    have hf := ck_2 hf
    refine lv_iload_n hx hb dX4_change_102 rfl (lv_at hl 2 rfl) ?_
    refine lv_isub hx hb dX4_change_103 ?_
    refine va_iast (f := r0 0) hx hb hK hP hD hS 1 0 rfl rfl (ck_in hf) dX4_change_104 (fun H locs hP hD hS => ?_)
    have hf := ck_2 hf
    obtain ⟨hP, hD⟩ := st4_0_T hP hD
    obtain rfl := Option.some.inj hf
    exact k_vret hx hb hr hlocks hK hP hD hS dX4_change_105
  · have hf := ite_f hf hc
    refine lv_aload_n hx hb dX4_change_82 rfl (lv_at hl 0 rfl) ?_
    refine va_get (D := D) (ci := 4) (v := .ref (a0 0)) (C := RX4) (T := TX4) (N := 13) hx hb hts hiX4 hown hK hP 0 rfl rfl 0 (by decide) (hts _ flX4_9) (fun _ h9 => h9) rfl dX4_change_83 ?_
    refine lv_iload_n hx hb dX4_change_86 rfl (lv_at hl 1 rfl) ?_
    refine lv_dup2_11 hx hb dX4_change_87 rfl rfl ?_
    refine va_iald (f := r0 0) hx hb hK hP 1 0 rfl rfl (ck_in hf) dX4_change_88 ?_
    have hf := ck_2 hf
    refine lv_iload_n hx hb dX4_change_89 rfl (lv_at hl 2 rfl) ?_
    refine lv_iadd hx hb dX4_change_90 ?_
    refine va_iast (f := r0 0) hx hb hK hP hD hS 1 0 rfl rfl (ck_in hf) dX4_change_91 (fun H locs hP hD hS => ?_)
    have hf := ck_2 hf
    obtain ⟨hP, hD⟩ := st4_0_T hP hD
    refine lv_goto (tgt := 105) hx hb dX4_change_92 (by decide) ?_
    obtain rfl := Option.some.inj hf
    exact k_vret hx hb hr hlocks hK hP hD hS dX4_change_105
def f_X4_change  (i0 : Nat → Int32) (r0 : Nat → Nat → Int32) (i1 : Nat → Int32) (r1 : Nat → Nat → Int32) (l1 : Nat → Nat → Int64) (x1 : Int32) : Option ((Nat → Int32) × (Nat → Nat → Int32)) := bd (f_X5_leftOf i1 r1 l1 x1) (fun q7 => bd (f_X4_placeOf i0 r0 q7) (fun q8 => bd (f_X5_beginOf i1 r1 l1 x1 0) (fun q9 => bd (f_X5_endOf i1 r1 l1 x1 0) (fun q10 => bd (f_X4_reckon q8.2 r0 i1 r1 l1 q9 q10) (fun q11 => bd (f_X5_kindOf i1 r1 l1 x1) (fun q12 => if q12 = 2 then (ck (inb q8.1 20) (ck (inb q8.1 20) (some (q11.2.1, (va_up q11.2.2 0 (upd (q11.2.2 0) q8.1.toNatClampNeg ((q11.2.2 0 q8.1.toNatClampNeg) ^^^ q11.1))))))) else (if q12 = 0 then (f_X4_change_75 i1 r1 l1 q11.2.1 q11.2.2 q8.1 q11.1 1) else (f_X4_change_75 i1 r1 l1 q11.2.1 q11.2.2 q8.1 q11.1 0))))))))
set_option maxRecDepth 100000 in
set_option maxHeartbeats 4000000 in
theorem c_X4_change {l : Launch} {D : va_G} {cs zs : Nat → Nat} {h0 : Nat} {a0 : Nat → Nat} {a1 : Nat → Nat} {i0 : Nat → Int32} {r0 : Nat → Nat → Int32} {i1 : Nat → Int32} {r1 : Nat → Nat → Int32} {l1 : Nat → Nat → Int64} {x1 : Int32} {q : (Nat → Int32) × (Nat → Nat → Int32)} (hf : f_X4_change i0 r0 i1 r1 l1 x1 = some q) : Mv l yX4_change wlX4_change rmX4_change D cs zs [.ref h0, .int x1] (W4 cs h0 a0 i0 r0 ++ W5 cs (a0 5) a1 i1 r1 l1) (W4 cs h0 a0 q.1 q.2 ++ W5 cs (a0 5) a1 i1 r1 l1) := by
  refine Mv.of RX4 (by decide) rfl (Nat.le_of_ble_eq_true rfl) (fun p e s m below meth c A C hP hD hS ls hl => ?_)
  generalize ([.ref h0, .int x1] : List Value).toArray = args at C ⊢
  obtain ⟨hx, hb, hr, hml, hown, hts, hK, hA, hlocks, hZ⟩ := id C
  have hl : lv_has ls 5 [(0, .ref h0), (1, .int x1)] := hl
  rw [f_X4_change] at hf
  refine lv_aload_n hx hb dX4_change_0 rfl (lv_at hl 0 rfl) ?_
  refine lv_aload_n hx hb dX4_change_1 rfl (lv_at hl 0 rfl) ?_
  refine va_get (D := D) (ci := 4) (v := .ref (a0 5)) (C := RX4) (T := TX4) (N := 13) hx hb hts hiX4 hown hK hP 0 rfl rfl 5 (by decide) (hts _ flX4_28) (fun _ h9 => h9) rfl dX4_change_2 ?_
  refine lv_iload_n hx hb dX4_change_5 rfl (lv_at hl 1 rfl) ?_
  obtain ⟨q7, hq7, hf⟩ := bd_s hf
  refine k_pVi (wr := W4 cs h0 a0 i0 r0) (ws2 := W4 cs h0 a0 i0 r0 ++ W5 cs (a0 5) a1 i1 r1 l1) (As := [.int x1]) (rest := [.ref h0]) hx hb hml hown hts hK hA hZ hl.1 hP hD hS (c_X5_leftOf (h0 := (a0 5)) (a0 := a1) hq7) (gVt mlX4_101 imX5_leftOf seX5_leftOf inX5 coX5_leftOf) rfl qnX5_leftOf rfl rfl ⟨Nat.le_of_ble_eq_true rfl, Nat.le_of_ble_eq_true rfl⟩ [6, 7, 8, 9, 10, 11, 12, 13, 14, 15, 16, 17, 18, 19] [0, 1, 2, 3, 4, 5] [0, 1, 2, 3, 4, 5, 6, 7, 8, 9, 10, 11, 12, 13, 14, 15, 16, 17, 18, 19] rfl rfl rfl (by decide) 0 5 rfl rfl rfl rfl rfl (Nat.le_of_ble_eq_true rfl) ⟨Nat.zero_le _, Nat.zero_le _⟩ dX4_change_6 (fun H locs hP hD hS => ?_)
  obtain ⟨q8, hq8, hf⟩ := bd_s hf
  refine k_pVi (wr := W5 cs (a0 5) a1 i1 r1 l1) (ws2 := W4 cs h0 a0 q8.2 r0 ++ W5 cs (a0 5) a1 i1 r1 l1) (As := [.int q7]) (rest := []) hx hb hml hown hts hK hA hZ hl.1 hP hD hS (c_X4_placeOf (h0 := h0) (a0 := a0) hq8) (gVt mlX4_104 imX4_placeOf seX4_placeOf inX4 coX4_placeOf) rfl qnX4_placeOf rfl rfl ⟨Nat.le_of_ble_eq_true rfl, Nat.le_of_ble_eq_true rfl⟩ [0, 1, 2, 3, 4, 5] [6, 7, 8, 9, 10, 11, 12, 13, 14, 15, 16, 17, 18, 19] [14, 15, 16, 17, 18, 19, 0, 1, 2, 3, 4, 5, 6, 7, 8, 9, 10, 11, 12, 13] rfl rfl rfl (by decide) 0 4 rfl rfl rfl rfl rfl (Nat.le_of_ble_eq_true rfl) ⟨Nat.zero_le _, Nat.zero_le _⟩ dX4_change_9 (fun H locs hP hD hS => ?_)
  refine lv_istore_n (lv' := [(2, .int q8.1), (0, .ref h0), (1, .int x1)]) hx hb dX4_change_12 rfl hl (by decide) rfl (fun ls hl => ?_)
  refine lv_aload_n hx hb dX4_change_13 rfl (lv_at hl 1 rfl) ?_
  refine lv_aload_n hx hb dX4_change_14 rfl (lv_at hl 1 rfl) ?_
  refine va_get (D := D) (ci := 4) (v := .ref (a0 5)) (C := RX4) (T := TX4) (N := 13) hx hb hts hiX4 hown hK hP 0 rfl rfl 5 (by decide) (hts _ flX4_28) (fun _ h9 => h9) rfl dX4_change_15 ?_
  refine lv_iload_n hx hb dX4_change_18 rfl (lv_at hl 2 rfl) ?_
  refine lv_iconst (v := 0) hx hb dX4_change_19 (by decide) ?_
  obtain ⟨q9, hq9, hf⟩ := bd_s hf
  refine k_pVi (wr := W4 cs h0 a0 q8.2 r0) (ws2 := W4 cs h0 a0 q8.2 r0 ++ W5 cs (a0 5) a1 i1 r1 l1) (As := [.int x1, .int 0]) (rest := [.ref h0]) hx hb hml hown hts hK hA hZ hl.1 hP hD hS (c_X5_beginOf (h0 := (a0 5)) (a0 := a1) hq9) (gVt mlX4_123 imX5_beginOf seX5_beginOf inX5 coX5_beginOf) rfl qnX5_beginOf rfl rfl ⟨Nat.le_of_ble_eq_true rfl, Nat.le_of_ble_eq_true rfl⟩ [6, 7, 8, 9, 10, 11, 12, 13, 14, 15, 16, 17, 18, 19] [0, 1, 2, 3, 4, 5] [0, 1, 2, 3, 4, 5, 6, 7, 8, 9, 10, 11, 12, 13, 14, 15, 16, 17, 18, 19] rfl rfl rfl (by decide) 0 5 rfl rfl rfl rfl rfl (Nat.le_of_ble_eq_true rfl) ⟨Nat.zero_le _, Nat.zero_le _⟩ dX4_change_20 (fun H locs hP hD hS => ?_)
  refine lv_aload_n hx hb dX4_change_23 rfl (lv_at hl 1 rfl) ?_
  refine va_get (D := D) (ci := 4) (v := .ref (a0 5)) (C := RX4) (T := TX4) (N := 13) hx hb hts hiX4 hown hK hP 0 rfl rfl 5 (by decide) (hts _ flX4_28) (fun _ h9 => h9) rfl dX4_change_24 ?_
  refine lv_iload_n hx hb dX4_change_27 rfl (lv_at hl 2 rfl) ?_
  refine lv_iconst (v := 0) hx hb dX4_change_28 (by decide) ?_
  obtain ⟨q10, hq10, hf⟩ := bd_s hf
  refine k_pVi (wr := W4 cs h0 a0 q8.2 r0) (ws2 := W4 cs h0 a0 q8.2 r0 ++ W5 cs (a0 5) a1 i1 r1 l1) (As := [.int x1, .int 0]) (rest := [.int q9, .ref h0]) hx hb hml hown hts hK hA hZ hl.1 hP hD hS (c_X5_endOf (h0 := (a0 5)) (a0 := a1) hq10) (gVt mlX4_127 imX5_endOf seX5_endOf inX5 coX5_endOf) rfl qnX5_endOf rfl rfl ⟨Nat.le_of_ble_eq_true rfl, Nat.le_of_ble_eq_true rfl⟩ [6, 7, 8, 9, 10, 11, 12, 13, 14, 15, 16, 17, 18, 19] [0, 1, 2, 3, 4, 5] [0, 1, 2, 3, 4, 5, 6, 7, 8, 9, 10, 11, 12, 13, 14, 15, 16, 17, 18, 19] rfl rfl rfl (by decide) 0 5 rfl rfl rfl rfl rfl (Nat.le_of_ble_eq_true rfl) ⟨Nat.zero_le _, Nat.zero_le _⟩ dX4_change_29 (fun H locs hP hD hS => ?_)
  obtain ⟨q11, hq11, hf⟩ := bd_s hf
  refine k_sVi (ws2 := W4 cs h0 a0 q11.2.1 q11.2.2 ++ W5 cs (a0 5) a1 i1 r1 l1) (As := [.int q9, .int q10]) (rest := []) hx hb hml hown hts hK hA hZ hl.1 hP hD hS (c_X4_reckon (h0 := h0) (a0 := a0) (a1 := a1) hq11) (gVt mlX4_130 imX4_reckon seX4_reckon inX4 coX4_reckon) rfl qnX4_reckon rfl rfl ⟨Nat.le_of_ble_eq_true rfl, Nat.le_of_ble_eq_true rfl⟩ 0 4 rfl rfl rfl rfl rfl (Nat.le_of_ble_eq_true rfl) ⟨Nat.zero_le _, Nat.zero_le _⟩ dX4_change_32 (fun H locs hP hD hS => ?_)
  refine lv_istore_n (lv' := [(3, .int q11.1), (2, .int q8.1), (0, .ref h0), (1, .int x1)]) hx hb dX4_change_35 rfl hl (by decide) rfl (fun ls hl => ?_)
  refine lv_aload_n hx hb dX4_change_36 rfl (lv_at hl 2 rfl) ?_
  refine va_get (D := D) (ci := 4) (v := .ref (a0 5)) (C := RX4) (T := TX4) (N := 13) hx hb hts hiX4 hown hK hP 0 rfl rfl 5 (by decide) (hts _ flX4_28) (fun _ h9 => h9) rfl dX4_change_37 ?_
  refine lv_iload_n hx hb dX4_change_40 rfl (lv_at hl 3 rfl) ?_
  obtain ⟨q12, hq12, hf⟩ := bd_s hf
  refine k_pVi (wr := W4 cs h0 a0 q11.2.1 q11.2.2) (ws2 := W4 cs h0 a0 q11.2.1 q11.2.2 ++ W5 cs (a0 5) a1 i1 r1 l1) (As := [.int x1]) (rest := []) hx hb hml hown hts hK hA hZ hl.1 hP hD hS (c_X5_kindOf (h0 := (a0 5)) (a0 := a1) hq12) (gVt mlX4_91 imX5_kindOf seX5_kindOf inX5 coX5_kindOf) rfl qnX5_kindOf rfl rfl ⟨Nat.le_of_ble_eq_true rfl, Nat.le_of_ble_eq_true rfl⟩ [6, 7, 8, 9, 10, 11, 12, 13, 14, 15, 16, 17, 18, 19] [0, 1, 2, 3, 4, 5] [0, 1, 2, 3, 4, 5, 6, 7, 8, 9, 10, 11, 12, 13, 14, 15, 16, 17, 18, 19] rfl rfl rfl (by decide) 0 5 rfl rfl rfl rfl rfl (Nat.le_of_ble_eq_true rfl) ⟨Nat.zero_le _, Nat.zero_le _⟩ dX4_change_41 (fun H locs hP hD hS => ?_)
  refine lv_istore (lv' := [(4, .int q12), (3, .int q11.1), (2, .int q8.1), (0, .ref h0), (1, .int x1)]) hx hb dX4_change_44 hl (by decide) rfl (fun ls hl => ?_)
  refine lv_iload hx hb dX4_change_46 (lv_at hl 0 rfl) ?_
  refine lv_iconst (v := 2) hx hb dX4_change_48 (by decide) ?_
  refine lv_icmp_ne (tgt := 65) hx hb dX4_change_49 (by decide) (fun hc => ?_) (fun hc => ?_)
  · have hf := ite_f hf hc
    refine lv_iload hx hb dX4_change_65 (lv_at hl 0 rfl) ?_
    refine lv_if_ne (tgt := 74) hx hb dX4_change_67 (by decide) (fun hc => ?_) (fun hc => ?_)
    · have hf := ite_f hf hc
      refine lv_iconst (v := 0) hx hb dX4_change_74 (by decide) ?_
      exact w_X4_change_75 C  _ _ _ _ _ _ _ _ hf hP hD hS (lv_sub hl [3, 2, 1] rfl)
    · have hf := ite_t hf hc
      refine lv_iconst (v := 1) hx hb dX4_change_70 (by decide) ?_
      refine lv_goto (tgt := 75) hx hb dX4_change_71 (by decide) ?_
      exact w_X4_change_75 C  _ _ _ _ _ _ _ _ hf hP hD hS (lv_sub hl [3, 2, 1] rfl)
  · have hf := ite_t hf hc
    refine lv_aload_n hx hb dX4_change_52 rfl (lv_at hl 3 rfl) ?_
    refine va_get (D := D) (ci := 4) (v := .ref (a0 0)) (C := RX4) (T := TX4) (N := 13) hx hb hts hiX4 hown hK hP 0 rfl rfl 0 (by decide) (hts _ flX4_9) (fun _ h9 => h9) rfl dX4_change_53 ?_
    refine lv_iload_n hx hb dX4_change_56 rfl (lv_at hl 2 rfl) ?_
    refine lv_dup2_11 hx hb dX4_change_57 rfl rfl ?_
    refine va_iald (f := q11.2.2 0) hx hb hK hP 1 0 rfl rfl (ck_in hf) dX4_change_58 ?_
    have hf := ck_2 hf
    refine lv_iload_n hx hb dX4_change_59 rfl (lv_at hl 1 rfl) ?_
    refine lv_ixor hx hb dX4_change_60 ?_
    refine va_iast (f := q11.2.2 0) hx hb hK hP hD hS 1 0 rfl rfl (ck_in hf) dX4_change_61 (fun H locs hP hD hS => ?_)
    have hf := ck_2 hf
    obtain ⟨hP, hD⟩ := st4_0_T hP hD
    refine lv_goto (tgt := 105) hx hb dX4_change_62 (by decide) ?_
    obtain rfl := Option.some.inj hf
    exact k_vret hx hb hr hlocks hK hP hD hS dX4_change_105
/-! MarbleFloor$Machine.beginCall(I)V -/
abbrev wlX4_beginCall : List Cond := Cond.code yX4_beginCall cX4_beginCall 2 none :: tbG
abbrev rmX4_beginCall : Room := { frames := 2, cells := 0, slots := 0, locals := 43 }
theorem qnX4_beginCall : yX4_beginCall.cls = RX4 ∧ yX4_beginCall.cls ≠ "java/lang/invoke/MethodHandle" ∧ yX4_beginCall.cls ≠ "java/lang/invoke/VarHandle" ∧ (parseMethodDescriptor yX4_beginCall.desc).map (fun d => d.parameters.length) = some 1 := by decide +kernel
def f_X4_beginCall_71 (i1 : Nat → Int32) (r1 : Nat → Nat → Int32) (l1 : Nat → Nat → Int64)  (i0 : Nat → Int32) (r0 : Nat → Nat → Int32) (x1 : Int32) (y0 : Int32) (y1 : Int32) : Option ((Nat → Int32) × (Nat → Nat → Int32)) := ck (bz (y1 ^^^ y0)) (bd (f_X5_leftOf i1 r1 l1 x1) (fun q5 => bd (f_X4_enter (upd i0 9 (y1 ^^^ y0)) r0 i1 r1 l1 (120 + q5)) (fun q6 => some (q6, r0))))
set_option maxRecDepth 100000 in
set_option maxHeartbeats 4000000 in
theorem w_X4_beginCall_71 {p : Program} {l : Launch} {e : Env} {s : State} {m : MethodId} {args : Array Value} {below : List Frame} {meth : Method} {c : Code} {A : Nat → Prop} {D : va_G} {cs zs : Nat → Nat} {h0 : Nat} {a0 : Nat → Nat} {a1 : Nat → Nat} {i1 : Nat → Int32} {r1 : Nat → Nat → Int32} {l1 : Nat → Nat → Int64} {q : (Nat → Int32) × (Nat → Nat → Int32)} (C : Cx p s m args meth c A D cs zs cX4_beginCall 2 none RX4)  : ∀ (i0 : Nat → Int32) (r0 : Nat → Nat → Int32) (x1 : Int32) (y0 : Int32) (y1 : Int32) (H : Heap) (locs : List Loc) (ls : Array Slot), f_X4_beginCall_71 i1 r1 l1 i0 r0 x1 y0 y1 = some q → va_P D vwCl (W4 cs h0 a0 i0 r0 ++ W5 cs (a0 5) a1 i1 r1 l1) H → va_D A (W4 cs h0 a0 i0 r0 ++ W5 cs (a0 5) a1 i1 r1 l1) → va_S A s.heap H locs → lv_has ls 2 [(0, .ref h0), (1, .int x1)] → W p l e rmX4_beginCall s m args below meth c H locs 0 0 (MQ below (Qv D cs A (W4 cs h0 a0 q.1 q.2 ++ W5 cs (a0 5) a1 i1 r1 l1)) args s 0 0 A) (F0 m 71 ls [.int y0, .int y1, .ref h0]) := by
  obtain ⟨hx, hb, hr, hml, hown, hts, hK, hA, hlocks, hZ⟩ := id C
  intro i0 r0 x1 y0 y1 H locs ls hf hP hD hS hl
  rw [f_X4_beginCall_71] at hf
  refine lv_ixor hx hb dX4_beginCall_71 ?_
  have hz := ck_bz hf
  have hzf := ck_bzf hf
  have hf := ck_2 hf
  refine va_put (D := D) (ci := 4) (v := .int (y1 ^^^ y0)) (ty := .boolean) (C := RX4) (T := TX4) (N := 13) hx hb hts hiX4 tyX4 tyX4_ok nmX4 hown hK hP hD hS 0 rfl rfl 9 (by decide) (hts _ flX4_52) (fun _ h9 => h9) rfl (tyX4_ok 9 (by decide)) hz hzf (Nat.le_of_ble_eq_true rfl) dX4_beginCall_72 (fun H locs hP hD hS => ?_)
  obtain ⟨hP, hD⟩ := st4_9_T hP hD
  refine lv_aload_n hx hb dX4_beginCall_75 rfl (lv_at hl 0 rfl) ?_
  refine lv_bipush (v := 120) hx hb dX4_beginCall_76 (by decide) ?_
  refine lv_aload_n hx hb dX4_beginCall_78 rfl (lv_at hl 0 rfl) ?_
  refine va_get (D := D) (ci := 4) (v := .ref (a0 5)) (C := RX4) (T := TX4) (N := 13) hx hb hts hiX4 hown hK hP 0 rfl rfl 5 (by decide) (hts _ flX4_28) (fun _ h9 => h9) rfl dX4_beginCall_79 ?_
  refine lv_iload_n hx hb dX4_beginCall_82 rfl (lv_at hl 1 rfl) ?_
  obtain ⟨q5, hq5, hf⟩ := bd_s hf
  refine k_pVi (wr := W4 cs h0 a0 (upd i0 9 (y1 ^^^ y0)) r0) (ws2 := W4 cs h0 a0 (upd i0 9 (y1 ^^^ y0)) r0 ++ W5 cs (a0 5) a1 i1 r1 l1) (As := [.int x1]) (rest := [.int 120, .ref h0]) hx hb hml hown hts hK hA hZ hl.1 hP hD hS (c_X5_leftOf (h0 := (a0 5)) (a0 := a1) hq5) (gVt mlX4_101 imX5_leftOf seX5_leftOf inX5 coX5_leftOf) rfl qnX5_leftOf rfl rfl ⟨Nat.le_of_ble_eq_true rfl, Nat.le_of_ble_eq_true rfl⟩ [6, 7, 8, 9, 10, 11, 12, 13, 14, 15, 16, 17, 18, 19] [0, 1, 2, 3, 4, 5] [0, 1, 2, 3, 4, 5, 6, 7, 8, 9, 10, 11, 12, 13, 14, 15, 16, 17, 18, 19] rfl rfl rfl (by decide) 0 5 rfl rfl rfl rfl rfl (Nat.le_of_ble_eq_true rfl) ⟨Nat.zero_le _, Nat.zero_le _⟩ dX4_beginCall_83 (fun H locs hP hD hS => ?_)
  refine lv_iadd hx hb dX4_beginCall_86 ?_
  obtain ⟨q6, hq6, hf⟩ := bd_s hf
  refine k_sVv (ws2 := W4 cs h0 a0 q6 r0 ++ W5 cs (a0 5) a1 i1 r1 l1) (As := [.int (120 + q5)]) (rest := []) hx hb hml hown hts hK hA hZ hl.1 hP hD hS (c_X4_enter (h0 := h0) (a0 := a0) (a1 := a1) hq6) (gVt mlX4_57 imX4_enter seX4_enter inX4 coX4_enter) rfl qnX4_enter rfl rfl ⟨Nat.le_of_ble_eq_true rfl, Nat.le_of_ble_eq_true rfl⟩ 0 4 rfl rfl rfl rfl rfl (Nat.le_of_ble_eq_true rfl) ⟨Nat.zero_le _, Nat.zero_le _⟩ dX4_beginCall_87 (fun H locs hP hD hS => ?_)
  obtain rfl := Option.some.inj hf
  exact k_vret hx hb hr hlocks hK hP hD hS dX4_beginCall_90
def f_X4_beginCall_38 (i1 : Nat → Int32) (r1 : Nat → Nat → Int32) (l1 : Nat → Nat → Int64)  (i0 : Nat → Int32) (r0 : Nat → Nat → Int32) (x1 : Int32) : Option ((Nat → Int32) × (Nat → Nat → Int32)) := bd (f_X5_kindOf i1 r1 l1 x1) (fun q7 => if q7 = 7 then (f_X4_beginCall_71 i1 r1 l1 (upd i0 6 ((i0 6) + 1)) r0 x1 1 (i0 9)) else (f_X4_beginCall_71 i1 r1 l1 (upd i0 6 ((i0 6) + 1)) r0 x1 0 (i0 9)))
set_option maxRecDepth 100000 in
set_option maxHeartbeats 4000000 in
theorem w_X4_beginCall_38 {p : Program} {l : Launch} {e : Env} {s : State} {m : MethodId} {args : Array Value} {below : List Frame} {meth : Method} {c : Code} {A : Nat → Prop} {D : va_G} {cs zs : Nat → Nat} {h0 : Nat} {a0 : Nat → Nat} {a1 : Nat → Nat} {i1 : Nat → Int32} {r1 : Nat → Nat → Int32} {l1 : Nat → Nat → Int64} {q : (Nat → Int32) × (Nat → Nat → Int32)} (C : Cx p s m args meth c A D cs zs cX4_beginCall 2 none RX4)  : ∀ (i0 : Nat → Int32) (r0 : Nat → Nat → Int32) (x1 : Int32) (H : Heap) (locs : List Loc) (ls : Array Slot), f_X4_beginCall_38 i1 r1 l1 i0 r0 x1 = some q → va_P D vwCl (W4 cs h0 a0 i0 r0 ++ W5 cs (a0 5) a1 i1 r1 l1) H → va_D A (W4 cs h0 a0 i0 r0 ++ W5 cs (a0 5) a1 i1 r1 l1) → va_S A s.heap H locs → lv_has ls 2 [(0, .ref h0), (1, .int x1)] → W p l e rmX4_beginCall s m args below meth c H locs 0 0 (MQ below (Qv D cs A (W4 cs h0 a0 q.1 q.2 ++ W5 cs (a0 5) a1 i1 r1 l1)) args s 0 0 A) (F0 m 38 ls []) := by
  obtain ⟨hx, hb, hr, hml, hown, hts, hK, hA, hlocks, hZ⟩ := id C
  intro i0 r0 x1 H locs ls hf hP hD hS hl
  rw [f_X4_beginCall_38] at hf
  refine lv_aload_n hx hb dX4_beginCall_38 rfl (lv_at hl 0 rfl) ?_
  refine lv_dup hx hb dX4_beginCall_39 rfl ?_
  refine va_get (D := D) (ci := 4) (v := .int (i0 6)) (C := RX4) (T := TX4) (N := 13) hx hb hts hiX4 hown hK hP 0 rfl rfl 6 (by decide) (hts _ flX4_45) (fun _ h9 => h9) rfl dX4_beginCall_40 ?_
  refine lv_iconst (v := 1) hx hb dX4_beginCall_43 (by decide) ?_
  refine lv_iadd hx hb dX4_beginCall_44 ?_
  refine va_put (D := D) (ci := 4) (v := .int ((i0 6) + 1)) (ty := .int) (C := RX4) (T := TX4) (N := 13) hx hb hts hiX4 tyX4 tyX4_ok nmX4 hown hK hP hD hS 0 rfl rfl 6 (by decide) (hts _ flX4_45) (fun _ h9 => h9) rfl (tyX4_ok 6 (by decide)) rfl rfl (Nat.le_of_ble_eq_true rfl) dX4_beginCall_45 (fun H locs hP hD hS => ?_)
  obtain ⟨hP, hD⟩ := st4_6_T hP hD
  refine lv_aload_n hx hb dX4_beginCall_48 rfl (lv_at hl 0 rfl) ?_
  refine lv_dup hx hb dX4_beginCall_49 rfl ?_
  refine va_get (D := D) (ci := 4) (v := .int (i0 9)) (C := RX4) (T := TX4) (N := 13) hx hb hts hiX4 hown hK hP 0 rfl rfl 9 (by decide) (hts _ flX4_52) (fun _ h9 => h9) rfl dX4_beginCall_50 ?_
  refine lv_aload_n hx hb dX4_beginCall_53 rfl (lv_at hl 0 rfl) ?_
  refine va_get (D := D) (ci := 4) (v := .ref (a0 5)) (C := RX4) (T := TX4) (N := 13) hx hb hts hiX4 hown hK hP 0 rfl rfl 5 (by decide) (hts _ flX4_28) (fun _ h9 => h9) rfl dX4_beginCall_54 ?_
  refine lv_iload_n hx hb dX4_beginCall_57 rfl (lv_at hl 1 rfl) ?_
  obtain ⟨q7, hq7, hf⟩ := bd_s hf
  refine k_pVi (wr := W4 cs h0 a0 (upd i0 6 ((i0 6) + 1)) r0) (ws2 := W4 cs h0 a0 (upd i0 6 ((i0 6) + 1)) r0 ++ W5 cs (a0 5) a1 i1 r1 l1) (As := [.int x1]) (rest := [.int (i0 9), .ref h0]) hx hb hml hown hts hK hA hZ hl.1 hP hD hS (c_X5_kindOf (h0 := (a0 5)) (a0 := a1) hq7) (gVt mlX4_91 imX5_kindOf seX5_kindOf inX5 coX5_kindOf) rfl qnX5_kindOf rfl rfl ⟨Nat.le_of_ble_eq_true rfl, Nat.le_of_ble_eq_true rfl⟩ [6, 7, 8, 9, 10, 11, 12, 13, 14, 15, 16, 17, 18, 19] [0, 1, 2, 3, 4, 5] [0, 1, 2, 3, 4, 5, 6, 7, 8, 9, 10, 11, 12, 13, 14, 15, 16, 17, 18, 19] rfl rfl rfl (by decide) 0 5 rfl rfl rfl rfl rfl (Nat.le_of_ble_eq_true rfl) ⟨Nat.zero_le _, Nat.zero_le _⟩ dX4_beginCall_58 (fun H locs hP hD hS => ?_)
  refine lv_bipush (v := 7) hx hb dX4_beginCall_61 (by decide) ?_
  refine lv_icmp_ne (tgt := 70) hx hb dX4_beginCall_63 (by decide) (fun hc => ?_) (fun hc => ?_)
  · have hf := ite_f hf hc
    refine lv_iconst (v := 0) hx hb dX4_beginCall_70 (by decide) ?_
    exact w_X4_beginCall_71 C  _ _ _ _ _ _ _ _ hf hP hD hS (lv_sub hl [0, 1] rfl)
  · have hf := ite_t hf hc
    refine lv_iconst (v := 1) hx hb dX4_beginCall_66 (by decide) ?_
    refine lv_goto (tgt := 71) hx hb dX4_beginCall_67 (by decide) ?_
    exact w_X4_beginCall_71 C  _ _ _ _ _ _ _ _ hf hP hD hS (lv_sub hl [0, 1] rfl)
def f_X4_beginCall  (i0 : Nat → Int32) (r0 : Nat → Nat → Int32) (i1 : Nat → Int32) (r1 : Nat → Nat → Int32) (l1 : Nat → Nat → Int64) (x1 : Int32) : Option ((Nat → Int32) × (Nat → Nat → Int32)) := if (i0 6) < 20 then (ck (inb (i0 6) 20) (ck (inb (i0 6) 20) (f_X4_beginCall_38 i1 r1 l1 i0 (va_up (va_up r0 3 (upd (r0 3) (i0 6).toNatClampNeg x1)) 4 (upd (r0 4) (i0 6).toNatClampNeg (vp_nar .boolean (i0 9)))) x1))) else (bd (f_X4_meet i0 r0 4) (fun q8 => some (q8, r0)))
set_option maxRecDepth 100000 in
set_option maxHeartbeats 4000000 in
theorem c_X4_beginCall {l : Launch} {D : va_G} {cs zs : Nat → Nat} {h0 : Nat} {a0 : Nat → Nat} {a1 : Nat → Nat} {i0 : Nat → Int32} {r0 : Nat → Nat → Int32} {i1 : Nat → Int32} {r1 : Nat → Nat → Int32} {l1 : Nat → Nat → Int64} {x1 : Int32} {q : (Nat → Int32) × (Nat → Nat → Int32)} (hf : f_X4_beginCall i0 r0 i1 r1 l1 x1 = some q) : Mv l yX4_beginCall wlX4_beginCall rmX4_beginCall D cs zs [.ref h0, .int x1] (W4 cs h0 a0 i0 r0 ++ W5 cs (a0 5) a1 i1 r1 l1) (W4 cs h0 a0 q.1 q.2 ++ W5 cs (a0 5) a1 i1 r1 l1) := by
  refine Mv.of RX4 (by decide) rfl (Nat.le_of_ble_eq_true rfl) (fun p e s m below meth c A C hP hD hS ls hl => ?_)
  generalize ([.ref h0, .int x1] : List Value).toArray = args at C ⊢
  obtain ⟨hx, hb, hr, hml, hown, hts, hK, hA, hlocks, hZ⟩ := id C
  have hl : lv_has ls 2 [(0, .ref h0), (1, .int x1)] := hl
  rw [f_X4_beginCall] at hf
  refine lv_aload_n hx hb dX4_beginCall_0 rfl (lv_at hl 0 rfl) ?_
  refine va_get (D := D) (ci := 4) (v := .int (i0 6)) (C := RX4) (T := TX4) (N := 13) hx hb hts hiX4 hown hK hP 0 rfl rfl 6 (by decide) (hts _ flX4_45) (fun _ h9 => h9) rfl dX4_beginCall_1 ?_
  refine lv_bipush (v := 20) hx hb dX4_beginCall_4 (by decide) ?_
  refine lv_icmp_lt (tgt := 15) hx hb dX4_beginCall_6 (by decide) (fun hc => ?_) (fun hc => ?_)
  · have hf := ite_t hf hc
    refine lv_aload_n hx hb dX4_beginCall_15 rfl (lv_at hl 0 rfl) ?_
    refine va_get (D := D) (ci := 4) (v := .ref (a0 3)) (C := RX4) (T := TX4) (N := 13) hx hb hts hiX4 hown hK hP 0 rfl rfl 3 (by decide) (hts _ flX4_21) (fun _ h9 => h9) rfl dX4_beginCall_16 ?_
    refine lv_aload_n hx hb dX4_beginCall_19 rfl (lv_at hl 0 rfl) ?_
    refine va_get (D := D) (ci := 4) (v := .int (i0 6)) (C := RX4) (T := TX4) (N := 13) hx hb hts hiX4 hown hK hP 0 rfl rfl 6 (by decide) (hts _ flX4_45) (fun _ h9 => h9) rfl dX4_beginCall_20 ?_
    refine lv_iload_n hx hb dX4_beginCall_23 rfl (lv_at hl 1 rfl) ?_
    refine va_iast (f := r0 3) hx hb hK hP hD hS 4 0 rfl rfl (ck_in hf) dX4_beginCall_24 (fun H locs hP hD hS => ?_)
    have hf := ck_2 hf
    obtain ⟨hP, hD⟩ := st4_3_T hP hD
    refine lv_aload_n hx hb dX4_beginCall_25 rfl (lv_at hl 0 rfl) ?_
    refine va_get (D := D) (ci := 4) (v := .ref (a0 4)) (C := RX4) (T := TX4) (N := 13) hx hb hts hiX4 hown hK hP 0 rfl rfl 4 (by decide) (hts _ flX4_24) (fun _ h9 => h9) rfl dX4_beginCall_26 ?_
    refine lv_aload_n hx hb dX4_beginCall_29 rfl (lv_at hl 0 rfl) ?_
    refine va_get (D := D) (ci := 4) (v := .int (i0 6)) (C := RX4) (T := TX4) (N := 13) hx hb hts hiX4 hown hK hP 0 rfl rfl 6 (by decide) (hts _ flX4_45) (fun _ h9 => h9) rfl dX4_beginCall_30 ?_
    refine lv_aload_n hx hb dX4_beginCall_33 rfl (lv_at hl 0 rfl) ?_
    refine va_get (D := D) (ci := 4) (v := .int (i0 9)) (C := RX4) (T := TX4) (N := 13) hx hb hts hiX4 hown hK hP 0 rfl rfl 9 (by decide) (hts _ flX4_52) (fun _ h9 => h9) rfl dX4_beginCall_34 ?_
    refine va_zast (f := r0 4) hx hb hK hP hD hS 5 2 rfl rfl (ck_in hf) dX4_beginCall_37 (fun H locs hP hD hS => ?_)
    have hf := ck_2 hf
    obtain ⟨hP, hD⟩ := st4_4_T hP hD
    exact w_X4_beginCall_38 C  _ _ _ _ _ _ hf hP hD hS (lv_sub hl [0, 1] rfl)
  · have hf := ite_f hf hc
    refine lv_aload_n hx hb dX4_beginCall_9 rfl (lv_at hl 0 rfl) ?_
    refine lv_iconst (v := 4) hx hb dX4_beginCall_10 (by decide) ?_
    obtain ⟨q8, hq8, hf⟩ := bd_s hf
    refine k_pVv (wr := W5 cs (a0 5) a1 i1 r1 l1) (ws2 := W4 cs h0 a0 q8 r0 ++ W5 cs (a0 5) a1 i1 r1 l1) (As := [.int 4]) (rest := []) hx hb hml hown hts hK hA hZ hl.1 hP hD hS (c_X4_meet (h0 := h0) (a0 := a0) hq8) (gVt mlX4_85 imX4_meet seX4_meet inX4 coX4_meet) rfl qnX4_meet rfl rfl ⟨Nat.le_of_ble_eq_true rfl, Nat.le_of_ble_eq_true rfl⟩ [0, 1, 2, 3, 4, 5] [6, 7, 8, 9, 10, 11, 12, 13, 14, 15, 16, 17, 18, 19] [14, 15, 16, 17, 18, 19, 0, 1, 2, 3, 4, 5, 6, 7, 8, 9, 10, 11, 12, 13] rfl rfl rfl (by decide) 0 4 rfl rfl rfl rfl rfl (Nat.le_of_ble_eq_true rfl) ⟨Nat.zero_le _, Nat.zero_le _⟩ dX4_beginCall_11 (fun H locs hP hD hS => ?_)
    obtain rfl := Option.some.inj hf
    exact k_vret hx hb hr hlocks hK hP hD hS dX4_beginCall_14
/-! MarbleFloor$Machine.swapValues(II)V -/
abbrev wlX4_swapValues : List Cond := Cond.code yX4_swapValues cX4_swapValues 4 none :: tbG
abbrev rmX4_swapValues : Room := { frames := 0, cells := 0, slots := 0, locals := 0 }
theorem qnX4_swapValues : yX4_swapValues.cls = RX4 ∧ yX4_swapValues.cls ≠ "java/lang/invoke/MethodHandle" ∧ yX4_swapValues.cls ≠ "java/lang/invoke/VarHandle" ∧ (parseMethodDescriptor yX4_swapValues.desc).map (fun d => d.parameters.length) = some 2 := by decide +kernel
def f_X4_swapValues  (i0 : Nat → Int32) (r0 : Nat → Nat → Int32) (x1 : Int32) (x2 : Int32) : Option ((Nat → Nat → Int32)) := ck (inb x1 20) (ck (inb x2 20) (ck (inb x1 20) (ck (inb x2 20) (some ((va_up (va_up r0 0 (upd (r0 0) x1.toNatClampNeg (r0 0 x2.toNatClampNeg))) 0 (upd (upd (r0 0) x1.toNatClampNeg (r0 0 x2.toNatClampNeg)) x2.toNatClampNeg (r0 0 x1.toNatClampNeg))))))))
set_option maxRecDepth 100000 in
set_option maxHeartbeats 4000000 in
theorem c_X4_swapValues {l : Launch} {D : va_G} {cs zs : Nat → Nat} {h0 : Nat} {a0 : Nat → Nat} {i0 : Nat → Int32} {r0 : Nat → Nat → Int32} {x1 : Int32} {x2 : Int32} {q : (Nat → Nat → Int32)} (hf : f_X4_swapValues i0 r0 x1 x2 = some q) : Mv l yX4_swapValues wlX4_swapValues rmX4_swapValues D cs zs [.ref h0, .int x1, .int x2] (W4 cs h0 a0 i0 r0) (W4 cs h0 a0 i0 q) := by
  refine Mv.of RX4 (by decide) rfl (Nat.le_of_ble_eq_true rfl) (fun p e s m below meth c A C hP hD hS ls hl => ?_)
  generalize ([.ref h0, .int x1, .int x2] : List Value).toArray = args at C ⊢
  obtain ⟨hx, hb, hr, hml, hown, hts, hK, hA, hlocks, hZ⟩ := id C
  have hl : lv_has ls 4 [(0, .ref h0), (1, .int x1), (2, .int x2)] := hl
  rw [f_X4_swapValues] at hf
  refine lv_aload_n hx hb dX4_swapValues_0 rfl (lv_at hl 0 rfl) ?_
  refine va_get (D := D) (ci := 4) (v := .ref (a0 0)) (C := RX4) (T := TX4) (N := 13) hx hb hts hiX4 hown hK hP 0 rfl rfl 0 (by decide) (hts _ flX4_9) (fun _ h9 => h9) rfl dX4_swapValues_1 ?_
  refine lv_iload_n hx hb dX4_swapValues_4 rfl (lv_at hl 1 rfl) ?_
  refine va_iald (f := r0 0) hx hb hK hP 1 0 rfl rfl (ck_in hf) dX4_swapValues_5 ?_
  have hf := ck_2 hf
  refine lv_istore_n (lv' := [(3, .int (r0 0 x1.toNatClampNeg)), (0, .ref h0), (1, .int x1), (2, .int x2)]) hx hb dX4_swapValues_6 rfl hl (by decide) rfl (fun ls hl => ?_)
  refine lv_aload_n hx hb dX4_swapValues_7 rfl (lv_at hl 1 rfl) ?_
  refine va_get (D := D) (ci := 4) (v := .ref (a0 0)) (C := RX4) (T := TX4) (N := 13) hx hb hts hiX4 hown hK hP 0 rfl rfl 0 (by decide) (hts _ flX4_9) (fun _ h9 => h9) rfl dX4_swapValues_8 ?_
  refine lv_iload_n hx hb dX4_swapValues_11 rfl (lv_at hl 2 rfl) ?_
  refine lv_aload_n hx hb dX4_swapValues_12 rfl (lv_at hl 1 rfl) ?_
  refine va_get (D := D) (ci := 4) (v := .ref (a0 0)) (C := RX4) (T := TX4) (N := 13) hx hb hts hiX4 hown hK hP 0 rfl rfl 0 (by decide) (hts _ flX4_9) (fun _ h9 => h9) rfl dX4_swapValues_13 ?_
  refine lv_iload_n hx hb dX4_swapValues_16 rfl (lv_at hl 3 rfl) ?_
  refine va_iald (f := r0 0) hx hb hK hP 1 0 rfl rfl (ck_in hf) dX4_swapValues_17 ?_
  have hf := ck_2 hf
  refine va_iast (f := r0 0) hx hb hK hP hD hS 1 0 rfl rfl (ck_in hf) dX4_swapValues_18 (fun H locs hP hD hS => ?_)
  have hf := ck_2 hf
  obtain ⟨hP, hD⟩ := st4_0 hP hD
  refine lv_aload_n hx hb dX4_swapValues_19 rfl (lv_at hl 1 rfl) ?_
  refine va_get (D := D) (ci := 4) (v := .ref (a0 0)) (C := RX4) (T := TX4) (N := 13) hx hb hts hiX4 hown hK hP 0 rfl rfl 0 (by decide) (hts _ flX4_9) (fun _ h9 => h9) rfl dX4_swapValues_20 ?_
  refine lv_iload_n hx hb dX4_swapValues_23 rfl (lv_at hl 3 rfl) ?_
  refine lv_iload_n hx hb dX4_swapValues_24 rfl (lv_at hl 0 rfl) ?_
  refine va_iast (f := upd (r0 0) x1.toNatClampNeg (r0 0 x2.toNatClampNeg)) hx hb hK hP hD hS 1 0 rfl rfl (ck_in hf) dX4_swapValues_25 (fun H locs hP hD hS => ?_)
  have hf := ck_2 hf
  obtain ⟨hP, hD⟩ := st4_0 hP hD
  obtain rfl := Option.some.inj hf
  exact k_vret hx hb hr hlocks hK hP hD hS dX4_swapValues_26
/-! MarbleFloor$Machine.beginStep(I)V -/
abbrev wlX4_beginStep : List Cond := Cond.code yX4_beginStep cX4_beginStep 2 none :: tbG
abbrev rmX4_beginStep : Room := { frames := 4, cells := 0, slots := 0, locals := 92 }
theorem qnX4_beginStep : yX4_beginStep.cls = RX4 ∧ yX4_beginStep.cls ≠ "java/lang/invoke/MethodHandle" ∧ yX4_beginStep.cls ≠ "java/lang/invoke/VarHandle" ∧ (parseMethodDescriptor yX4_beginStep.desc).map (fun d => d.parameters.length) = some 1 := by decide +kernel
def f_X4_beginStep_95 (i1 : Nat → Int32) (r1 : Nat → Nat → Int32) (l1 : Nat → Nat → Int64)  (i0 : Nat → Int32) (r0 : Nat → Nat → Int32) (x1 : Int32) : Option ((Nat → Int32) × (Nat → Nat → Int32)) := bd (f_X4_enter i0 r0 i1 r1 l1 (2 * x1)) (fun q17 => some (q17, r0))
set_option maxRecDepth 100000 in
set_option maxHeartbeats 4000000 in
theorem w_X4_beginStep_95 {p : Program} {l : Launch} {e : Env} {s : State} {m : MethodId} {args : Array Value} {below : List Frame} {meth : Method} {c : Code} {A : Nat → Prop} {D : va_G} {cs zs : Nat → Nat} {h0 : Nat} {a0 : Nat → Nat} {a1 : Nat → Nat} {i1 : Nat → Int32} {r1 : Nat → Nat → Int32} {l1 : Nat → Nat → Int64} {q : (Nat → Int32) × (Nat → Nat → Int32)} (C : Cx p s m args meth c A D cs zs cX4_beginStep 2 none RX4)  : ∀ (i0 : Nat → Int32) (r0 : Nat → Nat → Int32) (x1 : Int32) (H : Heap) (locs : List Loc) (ls : Array Slot), f_X4_beginStep_95 i1 r1 l1 i0 r0 x1 = some q → va_P D vwCl (W4 cs h0 a0 i0 r0 ++ W5 cs (a0 5) a1 i1 r1 l1) H → va_D A (W4 cs h0 a0 i0 r0 ++ W5 cs (a0 5) a1 i1 r1 l1) → va_S A s.heap H locs → lv_has ls 2 [(0, .ref h0), (1, .int x1)] → W p l e rmX4_beginStep s m args below meth c H locs 0 0 (MQ below (Qv D cs A (W4 cs h0 a0 q.1 q.2 ++ W5 cs (a0 5) a1 i1 r1 l1)) args s 0 0 A) (F0 m 95 ls []) := by
  obtain ⟨hx, hb, hr, hml, hown, hts, hK, hA, hlocks, hZ⟩ := id C
  intro i0 r0 x1 H locs ls hf hP hD hS hl
  rw [f_X4_beginStep_95] at hf
  refine lv_aload_n hx hb dX4_beginStep_95 rfl (lv_at hl 0 rfl) ?_
  refine lv_iconst (v := 2) hx hb dX4_beginStep_96 (by decide) ?_
  refine lv_iload_n hx hb dX4_beginStep_97 rfl (lv_at hl 1 rfl) ?_
  refine lv_imul hx hb dX4_beginStep_98 ?_
  obtain ⟨q17, hq17, hf⟩ := bd_s hf
  refine k_sVv (ws2 := W4 cs h0 a0 q17 r0 ++ W5 cs (a0 5) a1 i1 r1 l1) (As := [.int (2 * x1)]) (rest := []) hx hb hml hown hts hK hA hZ hl.1 hP hD hS (c_X4_enter (h0 := h0) (a0 := a0) (a1 := a1) hq17) (gVt mlX4_57 imX4_enter seX4_enter inX4 coX4_enter) rfl qnX4_enter rfl rfl ⟨Nat.le_of_ble_eq_true rfl, Nat.le_of_ble_eq_true rfl⟩ 0 4 rfl rfl rfl rfl rfl (Nat.le_of_ble_eq_true rfl) ⟨Nat.zero_le _, Nat.zero_le _⟩ dX4_beginStep_99 (fun H locs hP hD hS => ?_)
  refine lv_goto (tgt := 159) hx hb dX4_beginStep_102 (by decide) ?_
  obtain rfl := Option.some.inj hf
  exact k_vret hx hb hr hlocks hK hP hD hS dX4_beginStep_159
def f_X4_beginStep_74 (i1 : Nat → Int32) (r1 : Nat → Nat → Int32) (l1 : Nat → Nat → Int64)  (i0 : Nat → Int32) (r0 : Nat → Nat → Int32) (y0 : Int32) (y1 : Int32) : Option ((Nat → Int32) × (Nat → Nat → Int32)) := bd (f_X4_enter i0 r0 i1 r1 l1 (y1 + y0)) (fun q18 => some (q18, r0))
set_option maxRecDepth 100000 in
set_option maxHeartbeats 4000000 in
theorem w_X4_beginStep_74 {p : Program} {l : Launch} {e : Env} {s : State} {m : MethodId} {args : Array Value} {below : List Frame} {meth : Method} {c : Code} {A : Nat → Prop} {D : va_G} {cs zs : Nat → Nat} {h0 : Nat} {a0 : Nat → Nat} {a1 : Nat → Nat} {i1 : Nat → Int32} {r1 : Nat → Nat → Int32} {l1 : Nat → Nat → Int64} {q : (Nat → Int32) × (Nat → Nat → Int32)} (C : Cx p s m args meth c A D cs zs cX4_beginStep 2 none RX4)  : ∀ (i0 : Nat → Int32) (r0 : Nat → Nat → Int32) (y0 : Int32) (y1 : Int32) (H : Heap) (locs : List Loc) (ls : Array Slot), f_X4_beginStep_74 i1 r1 l1 i0 r0 y0 y1 = some q → va_P D vwCl (W4 cs h0 a0 i0 r0 ++ W5 cs (a0 5) a1 i1 r1 l1) H → va_D A (W4 cs h0 a0 i0 r0 ++ W5 cs (a0 5) a1 i1 r1 l1) → va_S A s.heap H locs → lv_has ls 2 [] → W p l e rmX4_beginStep s m args below meth c H locs 0 0 (MQ below (Qv D cs A (W4 cs h0 a0 q.1 q.2 ++ W5 cs (a0 5) a1 i1 r1 l1)) args s 0 0 A) (F0 m 74 ls [.int y0, .int y1, .ref h0]) := by
  obtain ⟨hx, hb, hr, hml, hown, hts, hK, hA, hlocks, hZ⟩ := id C
  intro i0 r0 y0 y1 H locs ls hf hP hD hS hl
  rw [f_X4_beginStep_74] at hf
  refine lv_iadd hx hb dX4_beginStep_74 ?_
  obtain ⟨q18, hq18, hf⟩ := bd_s hf
  refine k_sVv (ws2 := W4 cs h0 a0 q18 r0 ++ W5 cs (a0 5) a1 i1 r1 l1) (As := [.int (y1 + y0)]) (rest := []) hx hb hml hown hts hK hA hZ hl.1 hP hD hS (c_X4_enter (h0 := h0) (a0 := a0) (a1 := a1) hq18) (gVt mlX4_57 imX4_enter seX4_enter inX4 coX4_enter) rfl qnX4_enter rfl rfl ⟨Nat.le_of_ble_eq_true rfl, Nat.le_of_ble_eq_true rfl⟩ 0 4 rfl rfl rfl rfl rfl (Nat.le_of_ble_eq_true rfl) ⟨Nat.zero_le _, Nat.zero_le _⟩ dX4_beginStep_75 (fun H locs hP hD hS => ?_)
  refine lv_goto (tgt := 159) hx hb dX4_beginStep_78 (by decide) ?_
  obtain rfl := Option.some.inj hf
  exact k_vret hx hb hr hlocks hK hP hD hS dX4_beginStep_159
def f_X4_beginStep  (i0 : Nat → Int32) (r0 : Nat → Nat → Int32) (i1 : Nat → Int32) (r1 : Nat → Nat → Int32) (l1 : Nat → Nat → Int64) (x1 : Int32) : Option ((Nat → Int32) × (Nat → Nat → Int32)) := bd (f_X4_countOne i0 r0) (fun q19 => if (q19 12) = 0 then (bd (f_X5_kindOf i1 r1 l1 x1) (fun q20 => if q20 = 3 then (bd (f_X5_leftOf i1 r1 l1 x1) (fun q21 => bd (f_X4_placeOf q19 r0 q21) (fun q22 => bd (f_X5_rightOf i1 r1 l1 x1) (fun q23 => bd (f_X4_placeOf q22.2 r0 q23) (fun q24 => bd (f_X4_swapValues q24.2 r0 q22.1 q24.1) (fun q25 => bd (f_X4_goBehind q24.2 q25 i1 r1 l1 x1) (fun q26 => some (q26, q25)))))))) else (if q20 = 4 then (bd (f_X4_holds q19 r0 i1 r1 l1 x1 1) (fun q27 => if q27.1 = 0 then (f_X4_beginStep_74 i1 r1 l1 q27.2.1 q27.2.2 1 (2 * x1)) else (f_X4_beginStep_74 i1 r1 l1 q27.2.1 q27.2.2 0 (2 * x1)))) else (if q20 = 5 then (bd (f_X4_holds q19 r0 i1 r1 l1 x1 1) (fun q28 => if q28.1 = 0 then (bd (f_X4_meet q28.2.1 q28.2.2 1) (fun q29 => f_X4_beginStep_95 i1 r1 l1 q29 q28.2.2 x1)) else (f_X4_beginStep_95 i1 r1 l1 q28.2.1 q28.2.2 x1))) else (if q20 = 6 then (bd (f_X4_beginCall q19 r0 i1 r1 l1 x1) (fun q30 => some (q30.1, q30.2))) else (if q20 = 7 then (bd (f_X4_beginCall q19 r0 i1 r1 l1 x1) (fun q31 => some (q31.1, q31.2))) else (bd (f_X4_change q19 r0 i1 r1 l1 x1) (fun q32 => bd (f_X4_goBehind q32.1 q32.2 i1 r1 l1 x1) (fun q33 => some (q33, q32.2)))))))))) else (some (q19, r0)))
set_option maxRecDepth 100000 in
set_option maxHeartbeats 4000000 in
theorem c_X4_beginStep {l : Launch} {D : va_G} {cs zs : Nat → Nat} {h0 : Nat} {a0 : Nat → Nat} {a1 : Nat → Nat} {i0 : Nat → Int32} {r0 : Nat → Nat → Int32} {i1 : Nat → Int32} {r1 : Nat → Nat → Int32} {l1 : Nat → Nat → Int64} {x1 : Int32} {q : (Nat → Int32) × (Nat → Nat → Int32)} (hf : f_X4_beginStep i0 r0 i1 r1 l1 x1 = some q) : Mv l yX4_beginStep wlX4_beginStep rmX4_beginStep D cs zs [.ref h0, .int x1] (W4 cs h0 a0 i0 r0 ++ W5 cs (a0 5) a1 i1 r1 l1) (W4 cs h0 a0 q.1 q.2 ++ W5 cs (a0 5) a1 i1 r1 l1) := by
  refine Mv.of RX4 (by decide) rfl (Nat.le_of_ble_eq_true rfl) (fun p e s m below meth c A C hP hD hS ls hl => ?_)
  generalize ([.ref h0, .int x1] : List Value).toArray = args at C ⊢
  obtain ⟨hx, hb, hr, hml, hown, hts, hK, hA, hlocks, hZ⟩ := id C
  have hl : lv_has ls 2 [(0, .ref h0), (1, .int x1)] := hl
  rw [f_X4_beginStep] at hf
  refine lv_aload_n hx hb dX4_beginStep_0 rfl (lv_at hl 0 rfl) ?_
  obtain ⟨q19, hq19, hf⟩ := bd_s hf
  refine k_pVv (wr := W5 cs (a0 5) a1 i1 r1 l1) (ws2 := W4 cs h0 a0 q19 r0 ++ W5 cs (a0 5) a1 i1 r1 l1) (As := []) (rest := []) hx hb hml hown hts hK hA hZ hl.1 hP hD hS (c_X4_countOne (h0 := h0) (a0 := a0) hq19) (gVt mlX4_88 imX4_countOne seX4_countOne inX4 coX4_countOne) rfl qnX4_countOne rfl rfl ⟨Nat.le_of_ble_eq_true rfl, Nat.le_of_ble_eq_true rfl⟩ [0, 1, 2, 3, 4, 5] [6, 7, 8, 9, 10, 11, 12, 13, 14, 15, 16, 17, 18, 19] [14, 15, 16, 17, 18, 19, 0, 1, 2, 3, 4, 5, 6, 7, 8, 9, 10, 11, 12, 13] rfl rfl rfl (by decide) 0 4 rfl rfl rfl rfl rfl (Nat.le_of_ble_eq_true rfl) ⟨Nat.zero_le _, Nat.zero_le _⟩ dX4_beginStep_1 (fun H locs hP hD hS => ?_)
  refine lv_aload_n hx hb dX4_beginStep_4 rfl (lv_at hl 0 rfl) ?_
  refine va_get (D := D) (ci := 4) (v := .int (q19 12)) (C := RX4) (T := TX4) (N := 13) hx hb hts hiX4 hown hK hP 0 rfl rfl 12 (by decide) (hts _ flX4_32) (fun _ h9 => h9) rfl dX4_beginStep_5 ?_
  refine lv_if_eq (tgt := 12) hx hb dX4_beginStep_8 (by decide) (fun hc => ?_) (fun hc => ?_)
  · have hf := ite_t hf hc
    refine lv_aload_n hx hb dX4_beginStep_12 rfl (lv_at hl 0 rfl) ?_
    refine va_get (D := D) (ci := 4) (v := .ref (a0 5)) (C := RX4) (T := TX4) (N := 13) hx hb hts hiX4 hown hK hP 0 rfl rfl 5 (by decide) (hts _ flX4_28) (fun _ h9 => h9) rfl dX4_beginStep_13 ?_
    refine lv_iload_n hx hb dX4_beginStep_16 rfl (lv_at hl 1 rfl) ?_
    obtain ⟨q20, hq20, hf⟩ := bd_s hf
    refine k_pVi (wr := W4 cs h0 a0 q19 r0) (ws2 := W4 cs h0 a0 q19 r0 ++ W5 cs (a0 5) a1 i1 r1 l1) (As := [.int x1]) (rest := []) hx hb hml hown hts hK hA hZ hl.1 hP hD hS (c_X5_kindOf (h0 := (a0 5)) (a0 := a1) hq20) (gVt mlX4_91 imX5_kindOf seX5_kindOf inX5 coX5_kindOf) rfl qnX5_kindOf rfl rfl ⟨Nat.le_of_ble_eq_true rfl, Nat.le_of_ble_eq_true rfl⟩ [6, 7, 8, 9, 10, 11, 12, 13, 14, 15, 16, 17, 18, 19] [0, 1, 2, 3, 4, 5] [0, 1, 2, 3, 4, 5, 6, 7, 8, 9, 10, 11, 12, 13, 14, 15, 16, 17, 18, 19] rfl rfl rfl (by decide) 0 5 rfl rfl rfl rfl rfl (Nat.le_of_ble_eq_true rfl) ⟨Nat.zero_le _, Nat.zero_le _⟩ dX4_beginStep_17 (fun H locs hP hD hS => ?_)
    by_cases hc3 : q20 = 3
    · have hf := ite_t hf hc3
      refine lv_tableIn (off := 93) (tgt := 113) hx hb dX4_beginStep_20 (by rw [hc3]; decide) (by rw [hc3]; decide) (by rw [hc3]; rfl) (by decide) ?_
      refine lv_aload_n hx hb dX4_beginStep_113 rfl (lv_at hl 0 rfl) ?_
      refine lv_aload_n hx hb dX4_beginStep_114 rfl (lv_at hl 0 rfl) ?_
      refine lv_aload_n hx hb dX4_beginStep_115 rfl (lv_at hl 0 rfl) ?_
      refine va_get (D := D) (ci := 4) (v := .ref (a0 5)) (C := RX4) (T := TX4) (N := 13) hx hb hts hiX4 hown hK hP 0 rfl rfl 5 (by decide) (hts _ flX4_28) (fun _ h9 => h9) rfl dX4_beginStep_116 ?_
      refine lv_iload_n hx hb dX4_beginStep_119 rfl (lv_at hl 1 rfl) ?_
      obtain ⟨q21, hq21, hf⟩ := bd_s hf
      refine k_pVi (wr := W4 cs h0 a0 q19 r0) (ws2 := W4 cs h0 a0 q19 r0 ++ W5 cs (a0 5) a1 i1 r1 l1) (As := [.int x1]) (rest := [.ref h0, .ref h0]) hx hb hml hown hts hK hA hZ hl.1 hP hD hS (c_X5_leftOf (h0 := (a0 5)) (a0 := a1) hq21) (gVt mlX4_101 imX5_leftOf seX5_leftOf inX5 coX5_leftOf) rfl qnX5_leftOf rfl rfl ⟨Nat.le_of_ble_eq_true rfl, Nat.le_of_ble_eq_true rfl⟩ [6, 7, 8, 9, 10, 11, 12, 13, 14, 15, 16, 17, 18, 19] [0, 1, 2, 3, 4, 5] [0, 1, 2, 3, 4, 5, 6, 7, 8, 9, 10, 11, 12, 13, 14, 15, 16, 17, 18, 19] rfl rfl rfl (by decide) 0 5 rfl rfl rfl rfl rfl (Nat.le_of_ble_eq_true rfl) ⟨Nat.zero_le _, Nat.zero_le _⟩ dX4_beginStep_120 (fun H locs hP hD hS => ?_)
      obtain ⟨q22, hq22, hf⟩ := bd_s hf
      refine k_pVi (wr := W5 cs (a0 5) a1 i1 r1 l1) (ws2 := W4 cs h0 a0 q22.2 r0 ++ W5 cs (a0 5) a1 i1 r1 l1) (As := [.int q21]) (rest := [.ref h0]) hx hb hml hown hts hK hA hZ hl.1 hP hD hS (c_X4_placeOf (h0 := h0) (a0 := a0) hq22) (gVt mlX4_104 imX4_placeOf seX4_placeOf inX4 coX4_placeOf) rfl qnX4_placeOf rfl rfl ⟨Nat.le_of_ble_eq_true rfl, Nat.le_of_ble_eq_true rfl⟩ [0, 1, 2, 3, 4, 5] [6, 7, 8, 9, 10, 11, 12, 13, 14, 15, 16, 17, 18, 19] [14, 15, 16, 17, 18, 19, 0, 1, 2, 3, 4, 5, 6, 7, 8, 9, 10, 11, 12, 13] rfl rfl rfl (by decide) 0 4 rfl rfl rfl rfl rfl (Nat.le_of_ble_eq_true rfl) ⟨Nat.zero_le _, Nat.zero_le _⟩ dX4_beginStep_123 (fun H locs hP hD hS => ?_)
      refine lv_aload_n hx hb dX4_beginStep_126 rfl (lv_at hl 0 rfl) ?_
      refine lv_aload_n hx hb dX4_beginStep_127 rfl (lv_at hl 0 rfl) ?_
      refine va_get (D := D) (ci := 4) (v := .ref (a0 5)) (C := RX4) (T := TX4) (N := 13) hx hb hts hiX4 hown hK hP 0 rfl rfl 5 (by decide) (hts _ flX4_28) (fun _ h9 => h9) rfl dX4_beginStep_128 ?_
      refine lv_iload_n hx hb dX4_beginStep_131 rfl (lv_at hl 1 rfl) ?_
      obtain ⟨q23, hq23, hf⟩ := bd_s hf
      refine k_pVi (wr := W4 cs h0 a0 q22.2 r0) (ws2 := W4 cs h0 a0 q22.2 r0 ++ W5 cs (a0 5) a1 i1 r1 l1) (As := [.int x1]) (rest := [.ref h0, .int q22.1, .ref h0]) hx hb hml hown hts hK hA hZ hl.1 hP hD hS (c_X5_rightOf (h0 := (a0 5)) (a0 := a1) hq23) (gVt mlX4_107 imX5_rightOf seX5_rightOf inX5 coX5_rightOf) rfl qnX5_rightOf rfl rfl ⟨Nat.le_of_ble_eq_true rfl, Nat.le_of_ble_eq_true rfl⟩ [6, 7, 8, 9, 10, 11, 12, 13, 14, 15, 16, 17, 18, 19] [0, 1, 2, 3, 4, 5] [0, 1, 2, 3, 4, 5, 6, 7, 8, 9, 10, 11, 12, 13, 14, 15, 16, 17, 18, 19] rfl rfl rfl (by decide) 0 5 rfl rfl rfl rfl rfl (Nat.le_of_ble_eq_true rfl) ⟨Nat.zero_le _, Nat.zero_le _⟩ dX4_beginStep_132 (fun H locs hP hD hS => ?_)
      obtain ⟨q24, hq24, hf⟩ := bd_s hf
      refine k_pVi (wr := W5 cs (a0 5) a1 i1 r1 l1) (ws2 := W4 cs h0 a0 q24.2 r0 ++ W5 cs (a0 5) a1 i1 r1 l1) (As := [.int q23]) (rest := [.int q22.1, .ref h0]) hx hb hml hown hts hK hA hZ hl.1 hP hD hS (c_X4_placeOf (h0 := h0) (a0 := a0) hq24) (gVt mlX4_104 imX4_placeOf seX4_placeOf inX4 coX4_placeOf) rfl qnX4_placeOf rfl rfl ⟨Nat.le_of_ble_eq_true rfl, Nat.le_of_ble_eq_true rfl⟩ [0, 1, 2, 3, 4, 5] [6, 7, 8, 9, 10, 11, 12, 13, 14, 15, 16, 17, 18, 19] [14, 15, 16, 17, 18, 19, 0, 1, 2, 3, 4, 5, 6, 7, 8, 9, 10, 11, 12, 13] rfl rfl rfl (by decide) 0 4 rfl rfl rfl rfl rfl (Nat.le_of_ble_eq_true rfl) ⟨Nat.zero_le _, Nat.zero_le _⟩ dX4_beginStep_135 (fun H locs hP hD hS => ?_)
      obtain ⟨q25, hq25, hf⟩ := bd_s hf
      refine k_pVv (wr := W5 cs (a0 5) a1 i1 r1 l1) (ws2 := W4 cs h0 a0 q24.2 q25 ++ W5 cs (a0 5) a1 i1 r1 l1) (As := [.int q22.1, .int q24.1]) (rest := []) hx hb hml hown hts hK hA hZ hl.1 hP hD hS (c_X4_swapValues (h0 := h0) (a0 := a0) hq25) (gVt mlX4_110 imX4_swapValues seX4_swapValues inX4 coX4_swapValues) rfl qnX4_swapValues rfl rfl ⟨Nat.le_of_ble_eq_true rfl, Nat.le_of_ble_eq_true rfl⟩ [0, 1, 2, 3, 4, 5] [6, 7, 8, 9, 10, 11, 12, 13, 14, 15, 16, 17, 18, 19] [14, 15, 16, 17, 18, 19, 0, 1, 2, 3, 4, 5, 6, 7, 8, 9, 10, 11, 12, 13] rfl rfl rfl (by decide) 0 4 rfl rfl rfl rfl rfl (Nat.le_of_ble_eq_true rfl) ⟨Nat.zero_le _, Nat.zero_le _⟩ dX4_beginStep_138 (fun H locs hP hD hS => ?_)
      refine lv_aload_n hx hb dX4_beginStep_141 rfl (lv_at hl 0 rfl) ?_
      refine lv_iload_n hx hb dX4_beginStep_142 rfl (lv_at hl 1 rfl) ?_
      obtain ⟨q26, hq26, hf⟩ := bd_s hf
      refine k_sVv (ws2 := W4 cs h0 a0 q26 q25 ++ W5 cs (a0 5) a1 i1 r1 l1) (As := [.int x1]) (rest := []) hx hb hml hown hts hK hA hZ hl.1 hP hD hS (c_X4_goBehind (h0 := h0) (a0 := a0) (a1 := a1) hq26) (gVt mlX4_114 imX4_goBehind seX4_goBehind inX4 coX4_goBehind) rfl qnX4_goBehind rfl rfl ⟨Nat.le_of_ble_eq_true rfl, Nat.le_of_ble_eq_true rfl⟩ 0 4 rfl rfl rfl rfl rfl (Nat.le_of_ble_eq_true rfl) ⟨Nat.zero_le _, Nat.zero_le _⟩ dX4_beginStep_143 (fun H locs hP hD hS => ?_)
      refine lv_goto (tgt := 159) hx hb dX4_beginStep_146 (by decide) ?_
      obtain rfl := Option.some.inj hf
      exact k_vret hx hb hr hlocks hK hP hD hS dX4_beginStep_159
    · have hf := ite_f hf hc3
      by_cases hc4 : q20 = 4
      · have hf := ite_t hf hc4
        refine lv_tableIn (off := 36) (tgt := 56) hx hb dX4_beginStep_20 (by rw [hc4]; decide) (by rw [hc4]; decide) (by rw [hc4]; rfl) (by decide) ?_
        refine lv_aload_n hx hb dX4_beginStep_56 rfl (lv_at hl 0 rfl) ?_
        refine lv_iconst (v := 2) hx hb dX4_beginStep_57 (by decide) ?_
        refine lv_iload_n hx hb dX4_beginStep_58 rfl (lv_at hl 1 rfl) ?_
        refine lv_imul hx hb dX4_beginStep_59 ?_
        refine lv_aload_n hx hb dX4_beginStep_60 rfl (lv_at hl 0 rfl) ?_
        refine lv_iload_n hx hb dX4_beginStep_61 rfl (lv_at hl 1 rfl) ?_
        refine lv_iconst (v := 1) hx hb dX4_beginStep_62 (by decide) ?_
        obtain ⟨q27, hq27, hf⟩ := bd_s hf
        refine k_sVi (ws2 := W4 cs h0 a0 q27.2.1 q27.2.2 ++ W5 cs (a0 5) a1 i1 r1 l1) (As := [.int x1, .int 1]) (rest := [.int (2 * x1), .ref h0]) hx hb hml hown hts hK hA hZ hl.1 hP hD hS (c_X4_holds (h0 := h0) (a0 := a0) (a1 := a1) hq27) (gVt mlX4_94 imX4_holds seX4_holds inX4 coX4_holds) rfl qnX4_holds rfl rfl ⟨Nat.le_of_ble_eq_true rfl, Nat.le_of_ble_eq_true rfl⟩ 0 4 rfl rfl rfl rfl rfl (Nat.le_of_ble_eq_true rfl) ⟨Nat.zero_le _, Nat.zero_le _⟩ dX4_beginStep_63 (fun H locs hP hD hS => ?_)
        refine lv_if_eq (tgt := 73) hx hb dX4_beginStep_66 (by decide) (fun hc => ?_) (fun hc => ?_)
        · have hf := ite_t hf hc
          refine lv_iconst (v := 1) hx hb dX4_beginStep_73 (by decide) ?_
          exact w_X4_beginStep_74 C  _ _ _ _ _ _ _ hf hP hD hS (lv_sub hl [] rfl)
        · have hf := ite_f hf hc
          refine lv_iconst (v := 0) hx hb dX4_beginStep_69 (by decide) ?_
          refine lv_goto (tgt := 74) hx hb dX4_beginStep_70 (by decide) ?_
          exact w_X4_beginStep_74 C  _ _ _ _ _ _ _ hf hP hD hS (lv_sub hl [] rfl)
      · have hf := ite_f hf hc4
        by_cases hc5 : q20 = 5
        · have hf := ite_t hf hc5
          refine lv_tableIn (off := 61) (tgt := 81) hx hb dX4_beginStep_20 (by rw [hc5]; decide) (by rw [hc5]; decide) (by rw [hc5]; rfl) (by decide) ?_
          refine lv_aload_n hx hb dX4_beginStep_81 rfl (lv_at hl 0 rfl) ?_
          refine lv_iload_n hx hb dX4_beginStep_82 rfl (lv_at hl 1 rfl) ?_
          refine lv_iconst (v := 1) hx hb dX4_beginStep_83 (by decide) ?_
          obtain ⟨q28, hq28, hf⟩ := bd_s hf
          refine k_sVi (ws2 := W4 cs h0 a0 q28.2.1 q28.2.2 ++ W5 cs (a0 5) a1 i1 r1 l1) (As := [.int x1, .int 1]) (rest := []) hx hb hml hown hts hK hA hZ hl.1 hP hD hS (c_X4_holds (h0 := h0) (a0 := a0) (a1 := a1) hq28) (gVt mlX4_94 imX4_holds seX4_holds inX4 coX4_holds) rfl qnX4_holds rfl rfl ⟨Nat.le_of_ble_eq_true rfl, Nat.le_of_ble_eq_true rfl⟩ 0 4 rfl rfl rfl rfl rfl (Nat.le_of_ble_eq_true rfl) ⟨Nat.zero_le _, Nat.zero_le _⟩ dX4_beginStep_84 (fun H locs hP hD hS => ?_)
          refine lv_if_ne (tgt := 95) hx hb dX4_beginStep_87 (by decide) (fun hc => ?_) (fun hc => ?_)
          · have hf := ite_f hf hc
            exact w_X4_beginStep_95 C  _ _ _ _ _ _ hf hP hD hS (lv_sub hl [0, 1] rfl)
          · have hf := ite_t hf hc
            refine lv_aload_n hx hb dX4_beginStep_90 rfl (lv_at hl 0 rfl) ?_
            refine lv_iconst (v := 1) hx hb dX4_beginStep_91 (by decide) ?_
            obtain ⟨q29, hq29, hf⟩ := bd_s hf
            refine k_pVv (wr := W5 cs (a0 5) a1 i1 r1 l1) (ws2 := W4 cs h0 a0 q29 q28.2.2 ++ W5 cs (a0 5) a1 i1 r1 l1) (As := [.int 1]) (rest := []) hx hb hml hown hts hK hA hZ hl.1 hP hD hS (c_X4_meet (h0 := h0) (a0 := a0) hq29) (gVt mlX4_85 imX4_meet seX4_meet inX4 coX4_meet) rfl qnX4_meet rfl rfl ⟨Nat.le_of_ble_eq_true rfl, Nat.le_of_ble_eq_true rfl⟩ [0, 1, 2, 3, 4, 5] [6, 7, 8, 9, 10, 11, 12, 13, 14, 15, 16, 17, 18, 19] [14, 15, 16, 17, 18, 19, 0, 1, 2, 3, 4, 5, 6, 7, 8, 9, 10, 11, 12, 13] rfl rfl rfl (by decide) 0 4 rfl rfl rfl rfl rfl (Nat.le_of_ble_eq_true rfl) ⟨Nat.zero_le _, Nat.zero_le _⟩ dX4_beginStep_92 (fun H locs hP hD hS => ?_)
            exact w_X4_beginStep_95 C  _ _ _ _ _ _ hf hP hD hS (lv_sub hl [0, 1] rfl)
        · have hf := ite_f hf hc5
          by_cases hc6 : q20 = 6
          · have hf := ite_t hf hc6
            refine lv_tableIn (off := 85) (tgt := 105) hx hb dX4_beginStep_20 (by rw [hc6]; decide) (by rw [hc6]; decide) (by rw [hc6]; rfl) (by decide) ?_
            refine lv_aload_n hx hb dX4_beginStep_105 rfl (lv_at hl 0 rfl) ?_
            refine lv_iload_n hx hb dX4_beginStep_106 rfl (lv_at hl 1 rfl) ?_
            obtain ⟨q30, hq30, hf⟩ := bd_s hf
            refine k_sVv (ws2 := W4 cs h0 a0 q30.1 q30.2 ++ W5 cs (a0 5) a1 i1 r1 l1) (As := [.int x1]) (rest := []) hx hb hml hown hts hK hA hZ hl.1 hP hD hS (c_X4_beginCall (h0 := h0) (a0 := a0) (a1 := a1) hq30) (gVt mlX4_98 imX4_beginCall seX4_beginCall inX4 coX4_beginCall) rfl qnX4_beginCall rfl rfl ⟨Nat.le_of_ble_eq_true rfl, Nat.le_of_ble_eq_true rfl⟩ 0 4 rfl rfl rfl rfl rfl (Nat.le_of_ble_eq_true rfl) ⟨Nat.zero_le _, Nat.zero_le _⟩ dX4_beginStep_107 (fun H locs hP hD hS => ?_)
            refine lv_goto (tgt := 159) hx hb dX4_beginStep_110 (by decide) ?_
            obtain rfl := Option.some.inj hf
            exact k_vret hx hb hr hlocks hK hP hD hS dX4_beginStep_159
          · have hf := ite_f hf hc6
            by_cases hc7 : q20 = 7
            · have hf := ite_t hf hc7
              refine lv_tableIn (off := 85) (tgt := 105) hx hb dX4_beginStep_20 (by rw [hc7]; decide) (by rw [hc7]; decide) (by rw [hc7]; rfl) (by decide) ?_
              refine lv_aload_n hx hb dX4_beginStep_105 rfl (lv_at hl 0 rfl) ?_
              refine lv_iload_n hx hb dX4_beginStep_106 rfl (lv_at hl 1 rfl) ?_
              obtain ⟨q31, hq31, hf⟩ := bd_s hf
              refine k_sVv (ws2 := W4 cs h0 a0 q31.1 q31.2 ++ W5 cs (a0 5) a1 i1 r1 l1) (As := [.int x1]) (rest := []) hx hb hml hown hts hK hA hZ hl.1 hP hD hS (c_X4_beginCall (h0 := h0) (a0 := a0) (a1 := a1) hq31) (gVt mlX4_98 imX4_beginCall seX4_beginCall inX4 coX4_beginCall) rfl qnX4_beginCall rfl rfl ⟨Nat.le_of_ble_eq_true rfl, Nat.le_of_ble_eq_true rfl⟩ 0 4 rfl rfl rfl rfl rfl (Nat.le_of_ble_eq_true rfl) ⟨Nat.zero_le _, Nat.zero_le _⟩ dX4_beginStep_107 (fun H locs hP hD hS => ?_)
              refine lv_goto (tgt := 159) hx hb dX4_beginStep_110 (by decide) ?_
              obtain rfl := Option.some.inj hf
              exact k_vret hx hb hr hlocks hK hP hD hS dX4_beginStep_159
            · have hf := ite_f hf hc7
              have z3 := sw_ne (k := 3) (by decide) hc3
              have z4 := sw_ne (k := 4) (by decide) hc4
              have z5 := sw_ne (k := 5) (by decide) hc5
              have z6 := sw_ne (k := 6) (by decide) hc6
              have z7 := sw_ne (k := 7) (by decide) hc7
              refine lv_tableOut (tgt := 149) hx hb dX4_beginStep_20 (by omega) (by decide) ?_
              refine lv_aload_n hx hb dX4_beginStep_149 rfl (lv_at hl 0 rfl) ?_
              refine lv_iload_n hx hb dX4_beginStep_150 rfl (lv_at hl 1 rfl) ?_
              obtain ⟨q32, hq32, hf⟩ := bd_s hf
              refine k_sVv (ws2 := W4 cs h0 a0 q32.1 q32.2 ++ W5 cs (a0 5) a1 i1 r1 l1) (As := [.int x1]) (rest := []) hx hb hml hown hts hK hA hZ hl.1 hP hD hS (c_X4_change (h0 := h0) (a0 := a0) (a1 := a1) hq32) (gVt mlX4_117 imX4_change seX4_change inX4 coX4_change) rfl qnX4_change rfl rfl ⟨Nat.le_of_ble_eq_true rfl, Nat.le_of_ble_eq_true rfl⟩ 0 4 rfl rfl rfl rfl rfl (Nat.le_of_ble_eq_true rfl) ⟨Nat.zero_le _, Nat.zero_le _⟩ dX4_beginStep_151 (fun H locs hP hD hS => ?_)
              refine lv_aload_n hx hb dX4_beginStep_154 rfl (lv_at hl 0 rfl) ?_
              refine lv_iload_n hx hb dX4_beginStep_155 rfl (lv_at hl 1 rfl) ?_
              obtain ⟨q33, hq33, hf⟩ := bd_s hf
              refine k_sVv (ws2 := W4 cs h0 a0 q33 q32.2 ++ W5 cs (a0 5) a1 i1 r1 l1) (As := [.int x1]) (rest := []) hx hb hml hown hts hK hA hZ hl.1 hP hD hS (c_X4_goBehind (h0 := h0) (a0 := a0) (a1 := a1) hq33) (gVt mlX4_114 imX4_goBehind seX4_goBehind inX4 coX4_goBehind) rfl qnX4_goBehind rfl rfl ⟨Nat.le_of_ble_eq_true rfl, Nat.le_of_ble_eq_true rfl⟩ 0 4 rfl rfl rfl rfl rfl (Nat.le_of_ble_eq_true rfl) ⟨Nat.zero_le _, Nat.zero_le _⟩ dX4_beginStep_156 (fun H locs hP hD hS => ?_)
              obtain rfl := Option.some.inj hf
              exact k_vret hx hb hr hlocks hK hP hD hS dX4_beginStep_159
  · have hf := ite_f hf hc
    obtain rfl := Option.some.inj hf
    exact k_vret hx hb hr hlocks hK hP hD hS dX4_beginStep_11
/-! MarbleFloor$Machine.perform(LMarbleFloor$Program;IZ)I -/
abbrev wlX4_perform : List Cond := Cond.code yX4_perform cX4_perform 5 (some .int) :: tbG
abbrev rmX4_perform : Room := { frames := 5, cells := 0, slots := 0, locals := 113 }
theorem qnX4_perform : yX4_perform.cls = RX4 ∧ yX4_perform.cls ≠ "java/lang/invoke/MethodHandle" ∧ yX4_perform.cls ≠ "java/lang/invoke/VarHandle" ∧ (parseMethodDescriptor yX4_perform.desc).map (fun d => d.parameters.length) = some 3 := by decide +kernel
def f_X4_perform_100 (i1 : Nat → Int32) (r1 : Nat → Nat → Int32) (l1 : Nat → Nat → Int64) (K56 : (Nat → Int32) → (Nat → Nat → Int32) → Int32 → Option (Int32 × (Nat → Int32) × (Nat → Nat → Int32))) (i0 : Nat → Int32) (r0 : Nat → Nat → Int32) (x4 : Int32) : Option (Int32 × (Nat → Int32) × (Nat → Nat → Int32)) := K56 i0 r0 (x4 + 1)
set_option maxRecDepth 100000 in
set_option maxHeartbeats 4000000 in
theorem w_X4_perform_100 {p : Program} {l : Launch} {e : Env} {s : State} {m : MethodId} {args : Array Value} {below : List Frame} {meth : Method} {c : Code} {A : Nat → Prop} {D : va_G} {cs zs : Nat → Nat} {h0 : Nat} {a0 : Nat → Nat} {h1 : Nat} {a1 : Nat → Nat} {i1 : Nat → Int32} {r1 : Nat → Nat → Int32} {l1 : Nat → Nat → Int64} {q : Int32 × (Nat → Int32) × (Nat → Nat → Int32)} (C : Cx p s m args meth c A D cs zs cX4_perform 5 (some .int) RX4) (K56 : (Nat → Int32) → (Nat → Nat → Int32) → Int32 → Option (Int32 × (Nat → Int32) × (Nat → Nat → Int32))) (hK56 : ∀ (i0 : Nat → Int32) (r0 : Nat → Nat → Int32) (x4 : Int32) (H : Heap) (locs : List Loc) (ls : Array Slot), K56 i0 r0 x4 = some q → va_P D vwCl (W4 cs h0 (va_up a0 5 h1) i0 r0 ++ W5 cs h1 a1 i1 r1 l1) H → va_D A (W4 cs h0 (va_up a0 5 h1) i0 r0 ++ W5 cs h1 a1 i1 r1 l1) → va_S A s.heap H locs → lv_has ls 5 [(0, .ref h0), (4, .int x4)] → W p l e rmX4_perform s m args below meth c H locs 0 0 (MQ below (Qi D cs A q.1 (W4 cs h0 (va_up a0 5 h1) q.2.1 q.2.2 ++ W5 cs h1 a1 i1 r1 l1)) args s 0 0 A) (F0 m 56 ls [])) : ∀ (i0 : Nat → Int32) (r0 : Nat → Nat → Int32) (x4 : Int32) (H : Heap) (locs : List Loc) (ls : Array Slot), f_X4_perform_100 i1 r1 l1 K56 i0 r0 x4 = some q → va_P D vwCl (W4 cs h0 (va_up a0 5 h1) i0 r0 ++ W5 cs h1 a1 i1 r1 l1) H → va_D A (W4 cs h0 (va_up a0 5 h1) i0 r0 ++ W5 cs h1 a1 i1 r1 l1) → va_S A s.heap H locs → lv_has ls 5 [(0, .ref h0), (4, .int x4)] → W p l e rmX4_perform s m args below meth c H locs 0 0 (MQ below (Qi D cs A q.1 (W4 cs h0 (va_up a0 5 h1) q.2.1 q.2.2 ++ W5 cs h1 a1 i1 r1 l1)) args s 0 0 A) (F0 m 100 ls []) := by
  obtain ⟨hx, hb, hr, hml, hown, hts, hK, hA, hlocks, hZ⟩ := id C
  intro i0 r0 x4 H locs ls hf hP hD hS hl
  rw [f_X4_perform_100] at hf
  refine lv_iinc (v := x4 + 1) (lv' := [(4, .int (x4 + 1)), (0, .ref h0)]) hx hb dX4_perform_100 hl (k := 1) rfl rfl (by decide) rfl (fun ls hl => ?_)
  refine lv_goto (tgt := 56) hx hb dX4_perform_103 (by decide) ?_
  exact hK56 _ _ _ _ _ _ hf hP hD hS (lv_sub hl [1, 0] rfl)
def f_X4_perform_106 (i1 : Nat → Int32) (r1 : Nat → Nat → Int32) (l1 : Nat → Nat → Int64)  (i0 : Nat → Int32) (r0 : Nat → Nat → Int32) : Option (Int32 × (Nat → Int32) × (Nat → Nat → Int32)) := if (i0 12) = 0 then (some (i0 11, i0, r0)) else (some ((-1), i0, (va_up r0 0 (va_cpy (r0 1) (r0 0) (0 : Int32).toNatClampNeg (0 : Int32).toNatClampNeg (20 : Int32).toNatClampNeg))))
set_option maxRecDepth 100000 in
set_option maxHeartbeats 4000000 in
theorem w_X4_perform_106 {p : Program} {l : Launch} {e : Env} {s : State} {m : MethodId} {args : Array Value} {below : List Frame} {meth : Method} {c : Code} {A : Nat → Prop} {D : va_G} {cs zs : Nat → Nat} {h0 : Nat} {a0 : Nat → Nat} {h1 : Nat} {a1 : Nat → Nat} {i1 : Nat → Int32} {r1 : Nat → Nat → Int32} {l1 : Nat → Nat → Int64} {q : Int32 × (Nat → Int32) × (Nat → Nat → Int32)} (C : Cx p s m args meth c A D cs zs cX4_perform 5 (some .int) RX4)  : ∀ (i0 : Nat → Int32) (r0 : Nat → Nat → Int32) (H : Heap) (locs : List Loc) (ls : Array Slot), f_X4_perform_106 i1 r1 l1 i0 r0 = some q → va_P D vwCl (W4 cs h0 (va_up a0 5 h1) i0 r0 ++ W5 cs h1 a1 i1 r1 l1) H → va_D A (W4 cs h0 (va_up a0 5 h1) i0 r0 ++ W5 cs h1 a1 i1 r1 l1) → va_S A s.heap H locs → lv_has ls 5 [(0, .ref h0)] → W p l e rmX4_perform s m args below meth c H locs 0 0 (MQ below (Qi D cs A q.1 (W4 cs h0 (va_up a0 5 h1) q.2.1 q.2.2 ++ W5 cs h1 a1 i1 r1 l1)) args s 0 0 A) (F0 m 106 ls []) := by
  obtain ⟨hx, hb, hr, hml, hown, hts, hK, hA, hlocks, hZ⟩ := id C
  intro i0 r0 H locs ls hf hP hD hS hl
  rw [f_X4_perform_106] at hf
  refine lv_aload_n hx hb dX4_perform_106 rfl (lv_at hl 0 rfl) ?_
  refine va_get (D := D) (ci := 4) (v := .int (i0 12)) (C := RX4) (T := TX4) (N := 13) hx hb hts hiX4 hown hK hP 0 rfl rfl 12 (by decide) (hts _ flX4_32) (fun _ h9 => h9) rfl dX4_perform_107 ?_
  refine lv_if_eq (tgt := 130) hx hb dX4_perform_110 (by decide) (fun hc => ?_) (fun hc => ?_)
  · have hf := ite_t hf hc
    refine lv_aload_n hx hb dX4_perform_130 rfl (lv_at hl 0 rfl) ?_
    refine va_get (D := D) (ci := 4) (v := .int (i0 11)) (C := RX4) (T := TX4) (N := 13) hx hb hts hiX4 hown hK hP 0 rfl rfl 11 (by decide) (hts _ flX4_36) (fun _ h9 => h9) rfl dX4_perform_131 ?_
    obtain rfl := Option.some.inj hf
    exact k_iret hx hb hr hlocks hK hP hD hS dX4_perform_134
  · have hf := ite_f hf hc
    refine lv_aload_n hx hb dX4_perform_113 rfl (lv_at hl 0 rfl) ?_
    refine va_get (D := D) (ci := 4) (v := .ref ((va_up a0 5 h1) 1)) (C := RX4) (T := TX4) (N := 13) hx hb hts hiX4 hown hK hP 0 rfl rfl 1 (by decide) (hts _ flX4_15) (fun _ h9 => h9) rfl dX4_perform_114 ?_
    refine lv_iconst (v := 0) hx hb dX4_perform_117 (by decide) ?_
    refine lv_aload_n hx hb dX4_perform_118 rfl (lv_at hl 0 rfl) ?_
    refine va_get (D := D) (ci := 4) (v := .ref ((va_up a0 5 h1) 0)) (C := RX4) (T := TX4) (N := 13) hx hb hts hiX4 hown hK hP 0 rfl rfl 0 (by decide) (hts _ flX4_9) (fun _ h9 => h9) rfl dX4_perform_119 ?_
    refine lv_iconst (v := 0) hx hb dX4_perform_122 (by decide) ?_
    refine lv_bipush (v := 20) hx hb dX4_perform_123 (by decide) ?_
    refine va_copyi (f := r0 1) (g := r0 0) hx hb (hml.trans hl.1.symm) hown (hts _ mlX4_39) (hts _ ntacopy) (hts _ stacopy) (hts _ ini_System) hK hP hD hS 2 1 0 0 rfl rfl rfl rfl rfl (by decide) (by decide) (by decide) (by decide) (by decide) (fun _ _ => rfl) (Nat.le_of_ble_eq_true rfl) (Nat.le_of_ble_eq_true rfl) dX4_perform_125 (fun H locs hP hD hS => ?_)
    obtain ⟨hP, hD⟩ := st4_0_T hP hD
    refine lv_iconst (v := (-1)) hx hb dX4_perform_128 (by decide) ?_
    obtain rfl := Option.some.inj hf
    exact k_iret hx hb hr hlocks hK hP hD hS dX4_perform_129
def f_X4_perform_56 (i1 : Nat → Int32) (r1 : Nat → Nat → Int32) (l1 : Nat → Nat → Int64)  : Nat → (Nat → Int32) → (Nat → Nat → Int32) → Int32 → Option (Int32 × (Nat → Int32) × (Nat → Nat → Int32))
  | 0, _, _, _ => none
  | n + 1, i0, r0, x4 => if 1000000 ≤ x4 then (f_X4_perform_106 i1 r1 l1 i0 r0) else (if (i0 10) = 0 then (if (i0 12) = 0 then (if (i0 7) = (-1) then (bd (f_X4_leaveBody i0 r0 i1 r1 l1) (fun q5 => f_X4_perform_100 i1 r1 l1 (f_X4_perform_56 i1 r1 l1 n) q5.1 q5.2 x4)) else (bd (f_X4_beginStep i0 r0 i1 r1 l1 (i0 7)) (fun q4 => f_X4_perform_100 i1 r1 l1 (f_X4_perform_56 i1 r1 l1 n) q4.1 q4.2 x4))) else (f_X4_perform_106 i1 r1 l1 i0 r0)) else (f_X4_perform_106 i1 r1 l1 i0 r0))
set_option maxRecDepth 100000 in
set_option maxHeartbeats 4000000 in
theorem w_X4_perform_56 {p : Program} {l : Launch} {e : Env} {s : State} {m : MethodId} {args : Array Value} {below : List Frame} {meth : Method} {c : Code} {A : Nat → Prop} {D : va_G} {cs zs : Nat → Nat} {h0 : Nat} {a0 : Nat → Nat} {h1 : Nat} {a1 : Nat → Nat} {i1 : Nat → Int32} {r1 : Nat → Nat → Int32} {l1 : Nat → Nat → Int64} {q : Int32 × (Nat → Int32) × (Nat → Nat → Int32)} (C : Cx p s m args meth c A D cs zs cX4_perform 5 (some .int) RX4)  : ∀ (n : Nat), ∀ (i0 : Nat → Int32) (r0 : Nat → Nat → Int32) (x4 : Int32) (H : Heap) (locs : List Loc) (ls : Array Slot), f_X4_perform_56 i1 r1 l1 n i0 r0 x4 = some q → va_P D vwCl (W4 cs h0 (va_up a0 5 h1) i0 r0 ++ W5 cs h1 a1 i1 r1 l1) H → va_D A (W4 cs h0 (va_up a0 5 h1) i0 r0 ++ W5 cs h1 a1 i1 r1 l1) → va_S A s.heap H locs → lv_has ls 5 [(0, .ref h0), (4, .int x4)] → W p l e rmX4_perform s m args below meth c H locs 0 0 (MQ below (Qi D cs A q.1 (W4 cs h0 (va_up a0 5 h1) q.2.1 q.2.2 ++ W5 cs h1 a1 i1 r1 l1)) args s 0 0 A) (F0 m 56 ls []) := by
  obtain ⟨hx, hb, hr, hml, hown, hts, hK, hA, hlocks, hZ⟩ := id C
  intro n
  induction n with
  | zero =>
    intro i0 r0 x4 H locs ls hf
    rw [f_X4_perform_56] at hf
    cases hf
  | succ n ih =>
    intro i0 r0 x4 H locs ls hf hP hD hS hl
    rw [f_X4_perform_56] at hf
    refine lv_iload hx hb dX4_perform_56 (lv_at hl 1 rfl) ?_
    refine lv_ldc (v := 1000000) hx hb hown (hts _ kcX4_61) dX4_perform_58 ?_
    refine lv_icmp_ge (tgt := 106) hx hb dX4_perform_60 (by decide) (fun hc => ?_) (fun hc => ?_)
    · have hf := ite_t hf hc
      exact w_X4_perform_106 C  _ _ _ _ _ hf hP hD hS (lv_sub hl [0] rfl)
    · have hf := ite_f hf hc
      refine lv_aload_n hx hb dX4_perform_63 rfl (lv_at hl 0 rfl) ?_
      refine va_get (D := D) (ci := 4) (v := .int (i0 10)) (C := RX4) (T := TX4) (N := 13) hx hb hts hiX4 hown hK hP 0 rfl rfl 10 (by decide) (hts _ flX4_48) (fun _ h9 => h9) rfl dX4_perform_64 ?_
      refine lv_if_ne (tgt := 106) hx hb dX4_perform_67 (by decide) (fun hc => ?_) (fun hc => ?_)
      · have hf := ite_f hf hc
        exact w_X4_perform_106 C  _ _ _ _ _ hf hP hD hS (lv_sub hl [0] rfl)
      · have hf := ite_t hf hc
        refine lv_aload_n hx hb dX4_perform_70 rfl (lv_at hl 0 rfl) ?_
        refine va_get (D := D) (ci := 4) (v := .int (i0 12)) (C := RX4) (T := TX4) (N := 13) hx hb hts hiX4 hown hK hP 0 rfl rfl 12 (by decide) (hts _ flX4_32) (fun _ h9 => h9) rfl dX4_perform_71 ?_
        refine lv_if_ne (tgt := 106) hx hb dX4_perform_74 (by decide) (fun hc => ?_) (fun hc => ?_)
        · have hf := ite_f hf hc
          exact w_X4_perform_106 C  _ _ _ _ _ hf hP hD hS (lv_sub hl [0] rfl)
        · have hf := ite_t hf hc
          refine lv_aload_n hx hb dX4_perform_77 rfl (lv_at hl 0 rfl) ?_
          refine va_get (D := D) (ci := 4) (v := .int (i0 7)) (C := RX4) (T := TX4) (N := 13) hx hb hts hiX4 hown hK hP 0 rfl rfl 7 (by decide) (hts _ flX4_62) (fun _ h9 => h9) rfl dX4_perform_78 ?_
          refine lv_iconst (v := (-1)) hx hb dX4_perform_81 (by decide) ?_
          refine lv_icmp_ne (tgt := 92) hx hb dX4_perform_82 (by decide) (fun hc => ?_) (fun hc => ?_)
          · have hf := ite_f hf hc
            refine lv_aload_n hx hb dX4_perform_92 rfl (lv_at hl 0 rfl) ?_
            refine lv_aload_n hx hb dX4_perform_93 rfl (lv_at hl 0 rfl) ?_
            refine va_get (D := D) (ci := 4) (v := .int (i0 7)) (C := RX4) (T := TX4) (N := 13) hx hb hts hiX4 hown hK hP 0 rfl rfl 7 (by decide) (hts _ flX4_62) (fun _ h9 => h9) rfl dX4_perform_94 ?_
            obtain ⟨q4, hq4, hf⟩ := bd_s hf
            refine k_sVv (ws2 := W4 cs h0 (va_up a0 5 h1) q4.1 q4.2 ++ W5 cs h1 a1 i1 r1 l1) (As := [.int (i0 7)]) (rest := []) hx hb hml hown hts hK hA hZ hl.1 hP hD hS (c_X4_beginStep (h0 := h0) (a0 := (va_up a0 5 h1)) (a1 := a1) hq4) (gVt mlX4_68 imX4_beginStep seX4_beginStep inX4 coX4_beginStep) rfl qnX4_beginStep rfl rfl ⟨Nat.le_of_ble_eq_true rfl, Nat.le_of_ble_eq_true rfl⟩ 0 4 rfl rfl rfl rfl rfl (Nat.le_of_ble_eq_true rfl) ⟨Nat.zero_le _, Nat.zero_le _⟩ dX4_perform_97 (fun H locs hP hD hS => ?_)
            exact w_X4_perform_100 C _ (ih) _ _ _ _ _ _ hf hP hD hS (lv_sub hl [0, 1] rfl)
          · have hf := ite_t hf hc
            refine lv_aload_n hx hb dX4_perform_85 rfl (lv_at hl 0 rfl) ?_
            obtain ⟨q5, hq5, hf⟩ := bd_s hf
            refine k_sVv (ws2 := W4 cs h0 (va_up a0 5 h1) q5.1 q5.2 ++ W5 cs h1 a1 i1 r1 l1) (As := []) (rest := []) hx hb hml hown hts hK hA hZ hl.1 hP hD hS (c_X4_leaveBody (h0 := h0) (a0 := (va_up a0 5 h1)) (a1 := a1) hq5) (gVt mlX4_65 imX4_leaveBody seX4_leaveBody inX4 coX4_leaveBody) rfl qnX4_leaveBody rfl rfl ⟨Nat.le_of_ble_eq_true rfl, Nat.le_of_ble_eq_true rfl⟩ 0 4 rfl rfl rfl rfl rfl (Nat.le_of_ble_eq_true rfl) ⟨Nat.zero_le _, Nat.zero_le _⟩ dX4_perform_86 (fun H locs hP hD hS => ?_)
            refine lv_goto (tgt := 100) hx hb dX4_perform_89 (by decide) ?_
            exact w_X4_perform_100 C _ (ih) _ _ _ _ _ _ hf hP hD hS (lv_sub hl [0, 1] rfl)
def f_X4_perform_30 (i1 : Nat → Int32) (r1 : Nat → Nat → Int32) (l1 : Nat → Nat → Int64)  (i0 : Nat → Int32) (r0 : Nat → Nat → Int32) (x2 : Int32) (x3 : Int32) : Option (Int32 × (Nat → Int32) × (Nat → Nat → Int32)) := ck (bz x3) (bd (f_X4_enter (upd (upd (upd i0 12 0) 10 0) 9 x3) r0 i1 r1 l1 (120 + x2)) (fun q6 => f_X4_perform_56 i1 r1 l1 2000000 q6 r0 0))
set_option maxRecDepth 100000 in
set_option maxHeartbeats 4000000 in
theorem w_X4_perform_30 {p : Program} {l : Launch} {e : Env} {s : State} {m : MethodId} {args : Array Value} {below : List Frame} {meth : Method} {c : Code} {A : Nat → Prop} {D : va_G} {cs zs : Nat → Nat} {h0 : Nat} {a0 : Nat → Nat} {h1 : Nat} {a1 : Nat → Nat} {i1 : Nat → Int32} {r1 : Nat → Nat → Int32} {l1 : Nat → Nat → Int64} {q : Int32 × (Nat → Int32) × (Nat → Nat → Int32)} (C : Cx p s m args meth c A D cs zs cX4_perform 5 (some .int) RX4)  : ∀ (i0 : Nat → Int32) (r0 : Nat → Nat → Int32) (x2 : Int32) (x3 : Int32) (H : Heap) (locs : List Loc) (ls : Array Slot), f_X4_perform_30 i1 r1 l1 i0 r0 x2 x3 = some q → va_P D vwCl (W4 cs h0 (va_up a0 5 h1) i0 r0 ++ W5 cs h1 a1 i1 r1 l1) H → va_D A (W4 cs h0 (va_up a0 5 h1) i0 r0 ++ W5 cs h1 a1 i1 r1 l1) → va_S A s.heap H locs → lv_has ls 5 [(0, .ref h0), (2, .int x2), (3, .int x3)] → W p l e rmX4_perform s m args below meth c H locs 0 0 (MQ below (Qi D cs A q.1 (W4 cs h0 (va_up a0 5 h1) q.2.1 q.2.2 ++ W5 cs h1 a1 i1 r1 l1)) args s 0 0 A) (F0 m 30 ls []) := by
  obtain ⟨hx, hb, hr, hml, hown, hts, hK, hA, hlocks, hZ⟩ := id C
  intro i0 r0 x2 x3 H locs ls hf hP hD hS hl
  rw [f_X4_perform_30] at hf
  refine lv_aload_n hx hb dX4_perform_30 rfl (lv_at hl 0 rfl) ?_
  refine lv_iconst (v := 0) hx hb dX4_perform_31 (by decide) ?_
  refine va_put (D := D) (ci := 4) (v := .int 0) (ty := .int) (C := RX4) (T := TX4) (N := 13) hx hb hts hiX4 tyX4 tyX4_ok nmX4 hown hK hP hD hS 0 rfl rfl 12 (by decide) (hts _ flX4_32) (fun _ h9 => h9) rfl (tyX4_ok 12 (by decide)) rfl rfl (Nat.le_of_ble_eq_true rfl) dX4_perform_32 (fun H locs hP hD hS => ?_)
  obtain ⟨hP, hD⟩ := st4_12_T hP hD
  refine lv_aload_n hx hb dX4_perform_35 rfl (lv_at hl 0 rfl) ?_
  refine lv_iconst (v := 0) hx hb dX4_perform_36 (by decide) ?_
  refine va_put (D := D) (ci := 4) (v := .int 0) (ty := .boolean) (C := RX4) (T := TX4) (N := 13) hx hb hts hiX4 tyX4 tyX4_ok nmX4 hown hK hP hD hS 0 rfl rfl 10 (by decide) (hts _ flX4_48) (fun _ h9 => h9) rfl (tyX4_ok 10 (by decide)) rfl rfl (Nat.le_of_ble_eq_true rfl) dX4_perform_37 (fun H locs hP hD hS => ?_)
  obtain ⟨hP, hD⟩ := st4_10_T hP hD
  refine lv_aload_n hx hb dX4_perform_40 rfl (lv_at hl 0 rfl) ?_
  refine lv_iload_n hx hb dX4_perform_41 rfl (lv_at hl 2 rfl) ?_
  have hz := ck_bz hf
  have hzf := ck_bzf hf
  have hf := ck_2 hf
  refine va_put (D := D) (ci := 4) (v := .int x3) (ty := .boolean) (C := RX4) (T := TX4) (N := 13) hx hb hts hiX4 tyX4 tyX4_ok nmX4 hown hK hP hD hS 0 rfl rfl 9 (by decide) (hts _ flX4_52) (fun _ h9 => h9) rfl (tyX4_ok 9 (by decide)) hz hzf (Nat.le_of_ble_eq_true rfl) dX4_perform_42 (fun H locs hP hD hS => ?_)
  obtain ⟨hP, hD⟩ := st4_9_T hP hD
  refine lv_aload_n hx hb dX4_perform_45 rfl (lv_at hl 0 rfl) ?_
  refine lv_bipush (v := 120) hx hb dX4_perform_46 (by decide) ?_
  refine lv_iload_n hx hb dX4_perform_48 rfl (lv_at hl 1 rfl) ?_
  refine lv_iadd hx hb dX4_perform_49 ?_
  obtain ⟨q6, hq6, hf⟩ := bd_s hf
  refine k_sVv (ws2 := W4 cs h0 (va_up a0 5 h1) q6 r0 ++ W5 cs h1 a1 i1 r1 l1) (As := [.int (120 + x2)]) (rest := []) hx hb hml hown hts hK hA hZ hl.1 hP hD hS (c_X4_enter (h0 := h0) (a0 := (va_up a0 5 h1)) (a1 := a1) hq6) (gVt mlX4_57 imX4_enter seX4_enter inX4 coX4_enter) rfl qnX4_enter rfl rfl ⟨Nat.le_of_ble_eq_true rfl, Nat.le_of_ble_eq_true rfl⟩ 0 4 rfl rfl rfl rfl rfl (Nat.le_of_ble_eq_true rfl) ⟨Nat.zero_le _, Nat.zero_le _⟩ dX4_perform_50 (fun H locs hP hD hS => ?_)
  refine lv_iconst (v := 0) hx hb dX4_perform_53 (by decide) ?_
  refine lv_istore (lv' := [(4, .int 0), (0, .ref h0), (2, .int x2), (3, .int x3)]) hx hb dX4_perform_54 hl (by decide) rfl (fun ls hl => ?_)
  exact w_X4_perform_56 C  2000000 _ _ _ _ _ _ hf hP hD hS (lv_sub hl [1, 0] rfl)
def f_X4_perform  (i0 : Nat → Int32) (r0 : Nat → Nat → Int32) (i1 : Nat → Int32) (r1 : Nat → Nat → Int32) (l1 : Nat → Nat → Int64) (x2 : Int32) (x3 : Int32) : Option (Int32 × (Nat → Int32) × (Nat → Nat → Int32)) := f_X4_perform_30 i1 r1 l1 (upd (upd i0 6 0) 11 0) (va_up r0 1 (va_cpy (r0 0) (r0 1) (0 : Int32).toNatClampNeg (0 : Int32).toNatClampNeg (20 : Int32).toNatClampNeg)) x2 x3
set_option maxRecDepth 100000 in
set_option maxHeartbeats 4000000 in
theorem c_X4_perform {l : Launch} {D : va_G} {cs zs : Nat → Nat} {h0 : Nat} {a0 : Nat → Nat} {h1 : Nat} {a1 : Nat → Nat} {i0 : Nat → Int32} {r0 : Nat → Nat → Int32} {i1 : Nat → Int32} {r1 : Nat → Nat → Int32} {l1 : Nat → Nat → Int64} {x2 : Int32} {x3 : Int32} {q : Int32 × (Nat → Int32) × (Nat → Nat → Int32)} (hf : f_X4_perform i0 r0 i1 r1 l1 x2 x3 = some q) : Mi l yX4_perform wlX4_perform rmX4_perform D cs zs [.ref h0, .ref h1, .int x2, .int x3] (W4 cs h0 a0 i0 r0 ++ W5 cs h1 a1 i1 r1 l1) q.1 (W4 cs h0 (va_up a0 5 h1) q.2.1 q.2.2 ++ W5 cs h1 a1 i1 r1 l1) := by
  refine Mi.of RX4 (by decide) rfl (Nat.le_of_ble_eq_true rfl) (fun p e s m below meth c A C hP hD hS ls hl => ?_)
  generalize ([.ref h0, .ref h1, .int x2, .int x3] : List Value).toArray = args at C ⊢
  obtain ⟨hx, hb, hr, hml, hown, hts, hK, hA, hlocks, hZ⟩ := id C
  have hl : lv_has ls 5 [(0, .ref h0), (1, .ref h1), (2, .int x2), (3, .int x3)] := hl
  rw [f_X4_perform] at hf
  refine lv_aload_n hx hb dX4_perform_0 rfl (lv_at hl 0 rfl) ?_
  refine lv_aload_n hx hb dX4_perform_1 rfl (lv_at hl 1 rfl) ?_
  refine va_put (D := D) (ci := 4) (v := .ref h1) (ty := (tyX4 5)) (C := RX4) (T := TX4) (N := 13) hx hb hts hiX4 tyX4 tyX4_ok nmX4 hown hK hP hD hS 0 rfl rfl 5 (by decide) (hts _ flX4_28) (fun _ h9 => h9) rfl (tyX4_ok 5 (by decide)) rfl rfl (Nat.le_of_ble_eq_true rfl) dX4_perform_2 (fun H locs hP hD hS => ?_)
  have hP : va_P D vwCl (W4 cs h0 (va_up a0 5 h1) i0 r0 ++ W5 cs h1 a1 i1 r1 l1) H := hP
  have hD : va_D A (W4 cs h0 (va_up a0 5 h1) i0 r0 ++ W5 cs h1 a1 i1 r1 l1) := hD
  refine lv_aload_n hx hb dX4_perform_5 rfl (lv_at hl 0 rfl) ?_
  refine va_get (D := D) (ci := 4) (v := .ref ((va_up a0 5 h1) 0)) (C := RX4) (T := TX4) (N := 13) hx hb hts hiX4 hown hK hP 0 rfl rfl 0 (by decide) (hts _ flX4_9) (fun _ h9 => h9) rfl dX4_perform_6 ?_
  refine lv_iconst (v := 0) hx hb dX4_perform_9 (by decide) ?_
  refine lv_aload_n hx hb dX4_perform_10 rfl (lv_at hl 0 rfl) ?_
  refine va_get (D := D) (ci := 4) (v := .ref ((va_up a0 5 h1) 1)) (C := RX4) (T := TX4) (N := 13) hx hb hts hiX4 hown hK hP 0 rfl rfl 1 (by decide) (hts _ flX4_15) (fun _ h9 => h9) rfl dX4_perform_11 ?_
  refine lv_iconst (v := 0) hx hb dX4_perform_14 (by decide) ?_
  refine lv_bipush (v := 20) hx hb dX4_perform_15 (by decide) ?_
  refine va_copyi (f := r0 0) (g := r0 1) hx hb (hml.trans hl.1.symm) hown (hts _ mlX4_39) (hts _ ntacopy) (hts _ stacopy) (hts _ ini_System) hK hP hD hS 1 2 0 0 rfl rfl rfl rfl rfl (by decide) (by decide) (by decide) (by decide) (by decide) (fun _ _ => rfl) (Nat.le_of_ble_eq_true rfl) (Nat.le_of_ble_eq_true rfl) dX4_perform_17 (fun H locs hP hD hS => ?_)
  obtain ⟨hP, hD⟩ := st4_1_T hP hD
  refine lv_aload_n hx hb dX4_perform_20 rfl (lv_at hl 0 rfl) ?_
  refine lv_iconst (v := 0) hx hb dX4_perform_21 (by decide) ?_
  refine va_put (D := D) (ci := 4) (v := .int 0) (ty := .int) (C := RX4) (T := TX4) (N := 13) hx hb hts hiX4 tyX4 tyX4_ok nmX4 hown hK hP hD hS 0 rfl rfl 6 (by decide) (hts _ flX4_45) (fun _ h9 => h9) rfl (tyX4_ok 6 (by decide)) rfl rfl (Nat.le_of_ble_eq_true rfl) dX4_perform_22 (fun H locs hP hD hS => ?_)
  obtain ⟨hP, hD⟩ := st4_6_T hP hD
  refine lv_aload_n hx hb dX4_perform_25 rfl (lv_at hl 0 rfl) ?_
  refine lv_iconst (v := 0) hx hb dX4_perform_26 (by decide) ?_
  refine va_put (D := D) (ci := 4) (v := .int 0) (ty := .int) (C := RX4) (T := TX4) (N := 13) hx hb hts hiX4 tyX4 tyX4_ok nmX4 hown hK hP hD hS 0 rfl rfl 11 (by decide) (hts _ flX4_36) (fun _ h9 => h9) rfl (tyX4_ok 11 (by decide)) rfl rfl (Nat.le_of_ble_eq_true rfl) dX4_perform_27 (fun H locs hP hD hS => ?_)
  obtain ⟨hP, hD⟩ := st4_11_T hP hD
  exact w_X4_perform_30 C  _ _ _ _ _ _ _ hf hP hD hS (lv_sub hl [0, 2, 3] rfl)
