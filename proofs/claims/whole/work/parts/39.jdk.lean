/-! ===== String.checkIndex, by hand: the formatter is an object or null ===== -/
abbrev wlJ3_checkIndex_8e157 : List Cond := Cond.code yJ3_checkIndex_8e157 cJ3_checkIndex_8e157 3 (some .int) :: tbG
abbrev rmJ3_checkIndex_8e157 : Room := { frames := 0, cells := 0, slots := 0, locals := 0 }
theorem qnJ3_checkIndex_8e157 : yJ3_checkIndex_8e157.cls ≠ "java/lang/invoke/MethodHandle" ∧ yJ3_checkIndex_8e157.cls ≠ "java/lang/invoke/VarHandle" ∧ (parseMethodDescriptor yJ3_checkIndex_8e157.desc).map (fun d => d.parameters.length) = some 3 := by decide +kernel
def f_J3_checkIndex_8e157 (x0 x1 : Int32) : Option Int32 := if x0 < 0 then none else if x0 < x1 then some x0 else none
set_option maxRecDepth 100000 in
set_option maxHeartbeats 4000000 in
theorem c_J3_checkIndex_8e157 {l : Launch} {D : va_G} {cs zs : Nat → Nat} {v2 : Value} (hv2 : v2 = .null ∨ ∃ q, v2 = .ref q) {x0 x1 q : Int32} (hf : f_J3_checkIndex_8e157 x0 x1 = some q) : Mi l yJ3_checkIndex_8e157 wlJ3_checkIndex_8e157 rmJ3_checkIndex_8e157 D cs zs [.int x0, .int x1, v2] [] q [] := by
  rcases hv2 with rfl | ⟨h9, rfl⟩
  all_goals
    refine Mi.of RJ3 (by decide) rfl (Nat.le_of_ble_eq_true rfl) (fun p e s m below meth c A C hP hD hS ls hl => ?_)
    generalize (_ : List Value).toArray = args at C ⊢
    obtain ⟨hx, hb, hr, hml, hown, hts, hK, hA, hlocks, hZ⟩ := id C
    have hl : lv_has ls 3 [(0, .int x0), (1, .int x1)] := lv_sub hl [0, 1] rfl
    rw [f_J3_checkIndex_8e157] at hf
    refine lv_iload_n hx hb dJ3_checkIndex_8e157_0 rfl (lv_at hl 0 rfl) ?_
    refine lv_if_lt (tgt := 9) hx hb dJ3_checkIndex_8e157_1 (by decide) (fun hc => ?_) (fun hc => ?_)
    · have hf := ite_t hf hc
      cases hf
    · have hf := ite_f hf hc
      refine lv_iload_n hx hb dJ3_checkIndex_8e157_4 rfl (lv_at hl 0 rfl) ?_
      refine lv_iload_n hx hb dJ3_checkIndex_8e157_5 rfl (lv_at hl 1 rfl) ?_
      refine lv_icmp_lt (tgt := 16) hx hb dJ3_checkIndex_8e157_6 (by decide) (fun hc => ?_) (fun hc => ?_)
      · have hf := ite_t hf hc
        refine lv_iload_n hx hb dJ3_checkIndex_8e157_16 rfl (lv_at hl 0 rfl) ?_
        obtain rfl := Option.some.inj hf
        exact k_iret hx hb hr hlocks hK hP hD hS dJ3_checkIndex_8e157_17
      · have hf := ite_f hf hc
        cases hf
abbrev wlJ0_checkIndex_df160 : List Cond := Cond.code yJ0_checkIndex_df160 cJ0_checkIndex_df160 2 none :: tbG
abbrev rmJ0_checkIndex_df160 : Room := { frames := 1, cells := 0, slots := 0, locals := 22 }
theorem qnJ0_checkIndex_df160 : yJ0_checkIndex_df160.cls ≠ "java/lang/invoke/MethodHandle" ∧ yJ0_checkIndex_df160.cls ≠ "java/lang/invoke/VarHandle" ∧ (parseMethodDescriptor yJ0_checkIndex_df160.desc).map (fun d => d.parameters.length) = some 2 := by decide +kernel
def f_J0_checkIndex_df160 (x0 x1 : Int32) : Option Unit := bd (f_J3_checkIndex_8e157 x0 x1) (fun _ => some ())
set_option maxRecDepth 100000 in
set_option maxHeartbeats 4000000 in
theorem c_J0_checkIndex_df160 {l : Launch} {D : va_G} {cs zs : Nat → Nat} {x0 x1 : Int32} {q : Unit} (hf : f_J0_checkIndex_df160 x0 x1 = some q) : Mv l yJ0_checkIndex_df160 wlJ0_checkIndex_df160 rmJ0_checkIndex_df160 D cs zs [.int x0, .int x1] [] [] := by
  refine Mv.of RJ0 (by decide) rfl (Nat.le_of_ble_eq_true rfl) (fun p e s m below meth c A C hP hD hS ls hl => ?_)
  generalize ([.int x0, .int x1] : List Value).toArray = args at C ⊢
  obtain ⟨hx, hb, hr, hml, hown, hts, hK, hA, hlocks, hZ⟩ := id C
  have hl : lv_has ls 2 [(0, .int x0), (1, .int x1)] := hl
  rw [f_J0_checkIndex_df160] at hf
  obtain ⟨q1, hq1, -⟩ := bd_s hf
  refine lv_iload_n hx hb dJ0_checkIndex_df160_0 rfl (lv_at hl 0 rfl) ?_
  refine lv_iload_n hx hb dJ0_checkIndex_df160_1 rfl (lv_at hl 1 rfl) ?_
  rcases hZ.2.2.2.2.2.2.2 with h | ⟨t, h⟩
  · refine va_gets hx hb h hS hown (hts _ flJ0_1053) (fun _ h9 => h9) dJ0_checkIndex_df160_2 ?_
    refine k_eSi (As := [.int x0, .int x1, .null]) (rest := []) hx hb hml hown hts hK hA hZ hl.1 hP hD hS (c_J3_checkIndex_8e157 (Or.inl rfl) hq1) (gSt mlJ0_1059 stJ3_checkIndex_8e157 inJ3 coJ3_checkIndex_8e157) rfl qnJ3_checkIndex_8e157 rfl rfl ⟨Nat.le_of_ble_eq_true rfl, Nat.le_of_ble_eq_true rfl⟩ rfl rfl (Nat.le_of_ble_eq_true rfl) ⟨Nat.zero_le _, Nat.zero_le _⟩ dJ0_checkIndex_df160_5 (fun H locs hP hD hS => ?_)
    refine lv_pop hx hb dJ0_checkIndex_df160_8 rfl ?_
    exact k_vret hx hb hr hlocks hK hP hD hS dJ0_checkIndex_df160_9
  · refine va_gets hx hb h hS hown (hts _ flJ0_1053) (fun _ h9 => h9) dJ0_checkIndex_df160_2 ?_
    refine k_eSi (As := [.int x0, .int x1, .ref t]) (rest := []) hx hb hml hown hts hK hA hZ hl.1 hP hD hS (c_J3_checkIndex_8e157 (Or.inr ⟨t, rfl⟩) hq1) (gSt mlJ0_1059 stJ3_checkIndex_8e157 inJ3 coJ3_checkIndex_8e157) rfl qnJ3_checkIndex_8e157 rfl rfl ⟨Nat.le_of_ble_eq_true rfl, Nat.le_of_ble_eq_true rfl⟩ rfl rfl (Nat.le_of_ble_eq_true rfl) ⟨Nat.zero_le _, Nat.zero_le _⟩ dJ0_checkIndex_df160_5 (fun H locs hP hD hS => ?_)
    refine lv_pop hx hb dJ0_checkIndex_df160_8 rfl ?_
    exact k_vret hx hb hr hlocks hK hP hD hS dJ0_checkIndex_df160_9
