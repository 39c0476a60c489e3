theorem len6 {L : Nat} (h : L ≤ 3072) : (Int32.ofNat L - 6).toInt = (L : Int) - 6 := by
  rw [Int32.toInt_sub, show (Int32.ofNat L).toInt = (L : Int) from nI_toInt (by omega), show (6 : Int32).toInt = 6 from by decide, Int.bmod_def]
  split <;> omega
theorem u0_of {n : Nat} (h : n < 2 ^ 31) (h0 : Int32.ofNat n = 0) : n = 0 := by
  have h1 : (nI n).toInt = (0 : Int32).toInt := congrArg Int32.toInt h0
  rw [nI_toInt h] at h1
  have h2 : (0 : Int32).toInt = 0 := by decide
  omega
set_option maxRecDepth 100000 in
set_option maxHeartbeats 8000000 in
theorem law_loop (Inv : IT) {p : Program} {l : Launch} {e : Env} {s : State} {m : MethodId} {below : List Frame} {meth : Method} {c : Code} {D : va_G} {cs zs : Nat → Nat} {b L h g : Nat} {xs : Nat → Int32} {f : List Value} (hL : L ≤ 3072) (C : LX p s m meth c (fun q : Nat => s.heap.size ≤ q) D cs zs b L xs) (hr : meth.sig.returnType = ret) (hlocks : meth.locks = false) (hU : ∀ I J K U P S, Inv I J K U P S → U 11 0 < 2 ^ 31 ∧ U 12 9 < 2 ^ 31 ∧ U 5 4 < 2 ^ 31) (hI : ∀ (n : Nat) (x1 x2 x3 x4 x5 : Int32) I J K U P S, Inv I J K U P S → Sp n f Inv x1 x2 x3 x4 x5 I J K U P S) :
    ∀ (n j : Nat), j ≤ L + 5 → L < j + 6 * n → ∀ a I J K U P S, Inv I J K U P S → ∀ (H : Heap) (locs : List Loc) (cells slots : Nat) (ls : Array Slot), va_P D vwCl (LW cs h g a I J K U P S f) H → va_D (fun q : Nat => s.heap.size ≤ q) (LW cs h g a I J K U P S f) → va_S (fun q : Nat => s.heap.size ≤ q) s.heap H locs → cells + rmc U ≤ 601024 → slots + rms U ≤ 7293034 → lv_has ls 4 [(0, .ref b), (1, .ref h), (2, .ref g), (3, .int (nI j))] → W p l e room_1 s m #[Value.ref b] below meth c H locs cells slots (lw_Z below #[Value.ref b] s) (F0 m 18 ls []) := by
  obtain ⟨hx, hb, hml, hown, hts, hK, hA, hZ, hX, hbl, hbA⟩ := id C
  intro n
  induction n with
  | zero =>
    intro j h1 h2
    intro a I J K U P S hi H locs cells slots ls hP hD hS hc1 hc2 hl
    refine lv_iload_n hx hb dL_law_18 rfl (lv_at hl 3 rfl) ?_
    refine lv_aload_n hx hb dL_law_19 rfl (lv_at hl 0 rfl) ?_
    refine va_slen hx hb hX hbl hbA hS dL_law_20 ?_
    refine lv_bipush (v := 6) hx hb dL_law_21 (by decide) ?_
    refine lv_isub hx hb dL_law_23 ?_
    refine lv_icmp_gt (tgt := 1302) hx hb dL_law_24 (by decide) (fun hc => ?_) (fun hc => ?_)
    · refine lv_iconst (v := 1) hx hb dL_law_1302 (by decide) ?_
      refine va_forget (fun q hq => hS.2.2 q hq) ?_
      refine W.widen (k := 601024) (n := 7293034) (by omega) (by omega) ?_
      exact lw_ret hx hb hr hlocks dL_law_1303
    · exfalso
      apply hc
      rw [Int32.lt_iff_toInt_lt, len6 hL, nI_toInt (by omega)]
      omega
  | succ n ih =>
    intro j h1 h2 a I J K U P S hi H locs cells slots ls hP hD hS hc1 hc2 hl
    have nxt : ∀ a I J K U P S, Inv I J K U P S → ∀ (H : Heap) (locs : List Loc) (cells slots : Nat), j + 6 ≤ L → va_P D vwCl (LW cs h g a I J K U P S f) H → va_D (fun q : Nat => s.heap.size ≤ q) (LW cs h g a I J K U P S f) → va_S (fun q : Nat => s.heap.size ≤ q) s.heap H locs → cells + rmc U ≤ 601024 → slots + rms U ≤ 7293034 → W p l e room_1 s m #[Value.ref b] below meth c H locs cells slots (lw_Z below #[Value.ref b] s) (F0 m 1296 ls []) := by
      intro a I J K U P S hi H locs cells slots hj hP hD hS hc1 hc2
      refine lv_iinc (v := nI j + 6) (lv' := [(3, .int (nI j + 6)), (0, .ref b), (1, .ref h), (2, .ref g)]) hx hb dL_law_1296 hl (k := 3) rfl rfl (by decide) rfl (fun ls hl => ?_)
      refine lv_goto (tgt := 18) hx hb dL_law_1299 (by decide) ?_
      have e6 : nI j + 6 = nI (j + 6) := nI_add j 6
      rw [e6] at hl
      exact ih (j + 6) (by omega) (by omega) a I J K U P S hi H locs cells slots ls hP hD hS hc1 hc2 (lv_sub hl [1, 2, 3, 0] rfl)
    refine lv_iload_n hx hb dL_law_18 rfl (lv_at hl 3 rfl) ?_
    refine lv_aload_n hx hb dL_law_19 rfl (lv_at hl 0 rfl) ?_
    refine va_slen hx hb hX hbl hbA hS dL_law_20 ?_
    refine lv_bipush (v := 6) hx hb dL_law_21 (by decide) ?_
    refine lv_isub hx hb dL_law_23 ?_
    refine lv_icmp_gt (tgt := 1302) hx hb dL_law_24 (by decide) (fun hc => ?_) (fun hc => ?_)
    · refine lv_iconst (v := 1) hx hb dL_law_1302 (by decide) ?_
      refine va_forget (fun q hq => hS.2.2 q hq) ?_
      refine W.widen (k := 601024) (n := 7293034) (by omega) (by omega) ?_
      exact lw_ret hx hb hr hlocks dL_law_1303
    have hj : j + 6 ≤ L := by
      have h9 : ¬ ((Int32.ofNat L - 6).toInt < (nI j).toInt) := fun q => hc (Int32.lt_iff_toInt_lt.mpr q)
      rw [len6 hL, nI_toInt (by omega)] at h9
      omega
    have hL31 : L < 2 ^ 31 := by omega
    have i1 : vp_in (nI j + 1) L := by
      have e9 : nI j + 1 = nI (j + 1) := nI_add j 1
      rw [e9]
      exact vp_in_nI (by omega) hL31
    have i2 : vp_in (nI j + 2) L := by
      have e9 : nI j + 2 = nI (j + 2) := nI_add j 2
      rw [e9]
      exact vp_in_nI (by omega) hL31
    have i3 : vp_in (nI j + 3) L := by
      have e9 : nI j + 3 = nI (j + 3) := nI_add j 3
      rw [e9]
      exact vp_in_nI (by omega) hL31
    have i4 : vp_in (nI j + 4) L := by
      have e9 : nI j + 4 = nI (j + 4) := nI_add j 4
      rw [e9]
      exact vp_in_nI (by omega) hL31
    have i5 : vp_in (nI j + 5) L := by
      have e9 : nI j + 5 = nI (j + 5) := nI_add j 5
      rw [e9]
      exact vp_in_nI (by omega) hL31
    have i0 : vp_in (nI j) L := vp_in_nI (by omega) hL31
    refine lv_aload_n hx hb dL_law_27 rfl (lv_at hl 0 rfl) ?_
    refine lv_iload_n hx hb dL_law_28 rfl (lv_at hl 3 rfl) ?_
    refine va_sld hx hb hX hbl hbA hS i0 dL_law_29 ?_
    refine lv_bipush (v := 63) hx hb dL_law_30 (by decide) ?_
    refine lv_iand hx hb dL_law_32 ?_
    generalize (xs (nI j).toNatClampNeg &&& 63) = v
    have hs := fun k => hI k (xs (nI j + 1).toNatClampNeg) (xs (nI j + 2).toNatClampNeg) (xs (nI j + 3).toNatClampNeg) (xs (nI j + 4).toNatClampNeg) (xs (nI j + 5).toNatClampNeg) I J K U P S hi
    have hcc : cells ≤ room_1.cells := by show cells ≤ 601024; omega
    have hss : slots ≤ room_1.slots := by show slots ≤ 7293034; omega
    by_cases hv0 : v = 0
    · have h9 := hs 0
      refine lv_tableIn (off := 151) (tgt := 184) hx hb dL_law_33 (by rw [hv0]; decide) (by rw [hv0]; decide) (by rw [hv0]; rfl) (by decide) ?_
      obtain ⟨q, r, hf1, hf2, he, hi9⟩ := h9
      exact lc_feed C i1 i2 i3 i4 i5 hf1 hf2 he hP hD hS hcc hss hl (fun H locs hP hD hS => nxt _ _ _ _ _ _ _ hi9 H locs cells slots hj hP hD hS hc1 hc2)
    by_cases hv1 : v = 1
    · have h9 := hs 1
      refine lv_tableIn (off := 214) (tgt := 247) hx hb dL_law_33 (by rw [hv1]; decide) (by rw [hv1]; decide) (by rw [hv1]; rfl) (by decide) ?_
      obtain ⟨q, r, hf1, hf2, he, hi9⟩ := h9
      exact lc_end C i1 i2 i3 i4 i5 hf1 hf2 he hP hD hS hcc hss hl (fun H locs hP hD hS => nxt _ _ _ _ _ _ _ hi9 H locs cells slots hj hP hD hS hc1 hc2)
    by_cases hv2 : v = 2
    · have h9 := hs 2
      refine lv_tableIn (off := 237) (tgt := 270) hx hb dL_law_33 (by rw [hv2]; decide) (by rw [hv2]; decide) (by rw [hv2]; rfl) (by decide) ?_
      obtain ⟨q, r, hf1, hf2, he, hi9⟩ := h9
      exact lc_floor C i1 i2 i3 i4 i5 hf1 hf2 he hP hD hS hcc hss hl (fun H locs hP hD hS => nxt _ _ _ _ _ _ _ hi9 H locs cells slots hj hP hD hS hc1 hc2)
    by_cases hv3 : v = 3
    · have h9 := hs 3
      refine lv_tableIn (off := 260) (tgt := 293) hx hb dL_law_33 (by rw [hv3]; decide) (by rw [hv3]; decide) (by rw [hv3]; rfl) (by decide) ?_
      obtain ⟨q, r, hf1, hf2, he, hi9⟩ := h9
      exact lc_fault C i1 i2 i3 i4 i5 hf1 hf2 he hP hD hS hcc hss hl (fun H locs hP hD hS => nxt _ _ _ _ _ _ _ hi9 H locs cells slots hj hP hD hS hc1 hc2)
    by_cases hv4 : v = 4
    · have h9 := hs 4
      refine lv_tableIn (off := 283) (tgt := 316) hx hb dL_law_33 (by rw [hv4]; decide) (by rw [hv4]; decide) (by rw [hv4]; rfl) (by decide) ?_
      obtain ⟨q, r, hf1, hf2, he, hi9⟩ := h9
      exact lc_step C i1 i2 i3 i4 i5 hf1 hf2 he hP hD hS hcc hss hl (fun H locs hP hD hS => nxt _ _ _ _ _ _ _ hi9 H locs cells slots hj hP hD hS hc1 hc2)
    by_cases hv5 : v = 5
    · have h9 := hs 5
      refine lv_tableIn (off := 326) (tgt := 359) hx hb dL_law_33 (by rw [hv5]; decide) (by rw [hv5]; decide) (by rw [hv5]; rfl) (by decide) ?_
      obtain ⟨q, r, hf1, hf2, he, hi9⟩ := h9
      exact lc_out C i1 i2 i3 i4 i5 hf1 hf2 he hP hD hS hcc hss hl (fun H locs hP hD hS => nxt _ _ _ _ _ _ _ hi9 H locs cells slots hj hP hD hS hc1 hc2)
    by_cases hv6 : v = 6
    · have h9 := hs 6
      refine lv_tableIn (off := 385) (tgt := 418) hx hb dL_law_33 (by rw [hv6]; decide) (by rw [hv6]; decide) (by rw [hv6]; rfl) (by decide) ?_
      obtain ⟨q, r, hf1, hf2, he, hi9⟩ := h9
      exact lc_odd C i1 i2 i3 i4 i5 hf1 hf2 he hP hD hS hcc hss hl (fun H locs hP hD hS => nxt _ _ _ _ _ _ _ hi9 H locs cells slots hj hP hD hS hc1 hc2)
    by_cases hv7 : v = 7
    · have h9 := hs 7
      refine lv_tableIn (off := 408) (tgt := 441) hx hb dL_law_33 (by rw [hv7]; decide) (by rw [hv7]; decide) (by rw [hv7]; rfl) (by decide) ?_
      obtain ⟨q, r, hf1, hf2, he, hi9⟩ := h9
      exact lc_cycle C i1 i2 i3 i4 i5 hf1 hf2 he hP hD hS hcc hss hl (fun H locs hP hD hS => nxt _ _ _ _ _ _ _ hi9 H locs cells slots hj hP hD hS hc1 hc2)
    by_cases hv8 : v = 8
    · have h9 := hs 8
      refine lv_tableIn (off := 441) (tgt := 474) hx hb dL_law_33 (by rw [hv8]; decide) (by rw [hv8]; decide) (by rw [hv8]; rfl) (by decide) ?_
      obtain ⟨q, r, hf1, hf2, he, hi9⟩ := h9
      exact lc_order C i1 i2 i3 i4 i5 hf1 hf2 he hP hD hS hcc hss hl (fun H locs hP hD hS => nxt _ _ _ _ _ _ _ hi9 H locs cells slots hj hP hD hS hc1 hc2)
    by_cases hv9 : v = 9
    · have h9 := hs 9
      refine lv_tableIn (off := 465) (tgt := 498) hx hb dL_law_33 (by rw [hv9]; decide) (by rw [hv9]; decide) (by rw [hv9]; rfl) (by decide) ?_
      obtain ⟨q, r, hf1, hf2, he, hi9⟩ := h9
      exact lc_apart C i1 i2 i3 i4 i5 hf1 hf2 he hP hD hS hcc hss hl (fun H locs hP hD hS => nxt _ _ _ _ _ _ _ hi9 H locs cells slots hj hP hD hS hc1 hc2)
    by_cases hv10 : v = 10
    · have h9 := hs 10
      refine lv_tableIn (off := 498) (tgt := 531) hx hb dL_law_33 (by rw [hv10]; decide) (by rw [hv10]; decide) (by rw [hv10]; rfl) (by decide) ?_
      rcases h9 with ⟨q, r, hf1, hf2, he, hi9⟩ | ⟨q, r, hx2, hu, hf1, hf2, he, hi9⟩
      · exact lc_least C i1 i2 i3 i4 i5 hf1 hf2 he hP hD hS hcc hss hl (fun H locs hP hD hS => nxt _ _ _ _ _ _ _ hi9 H locs cells slots hj hP hD hS hc1 hc2)
      · have hu0 := u0_of (hU _ _ _ _ _ _ hi).2.2 hu
        have r1 : rmc U = 2 + rmc (va_up U 5 (va_up (va_up (U 5) 4 32768) 5 16384)) := by unfold rmc; simp [va_up, hu0]; try omega
        have r2 : rms U = 49152 + rms (va_up U 5 (va_up (va_up (U 5) 4 32768) 5 16384)) := by unfold rms; simp [va_up, hu0]; try omega
        exact lb_least C i1 i2 i3 i4 i5 hx2 hu hf1 hf2 he hP hD hS (by show cells + 2 ≤ 601024; omega) (by show slots + 49152 ≤ 7293034; omega) hl (fun a' H locs hP hD hS => nxt _ _ _ _ _ _ _ hi9 H locs _ _ hj hP hD hS (by omega) (by omega))
    by_cases hv11 : v = 11
    · have h9 := hs 11
      refine lv_tableIn (off := 541) (tgt := 574) hx hb dL_law_33 (by rw [hv11]; decide) (by rw [hv11]; decide) (by rw [hv11]; rfl) (by decide) ?_
      obtain ⟨q, r, hf1, hf2, he, hi9⟩ := h9
      exact lc_lay C i1 i2 i3 i4 i5 hf1 hf2 he hP hD hS hcc hss hl (fun H locs hP hD hS => nxt _ _ _ _ _ _ _ hi9 H locs cells slots hj hP hD hS hc1 hc2)
    by_cases hv12 : v = 12
    · have h9 := hs 12
      refine lv_tableIn (off := 574) (tgt := 607) hx hb dL_law_33 (by rw [hv12]; decide) (by rw [hv12]; decide) (by rw [hv12]; rfl) (by decide) ?_
      obtain ⟨q, r, hf1, hf2, he, hi9⟩ := h9
      exact lc_roll C i1 i2 i3 i4 i5 hf1 hf2 he hP hD hS hcc hss hl (fun H locs hP hD hS => nxt _ _ _ _ _ _ _ hi9 H locs cells slots hj hP hD hS hc1 hc2)
    by_cases hv13 : v = 13
    · have h9 := hs 13
      refine lv_tableIn (off := 617) (tgt := 650) hx hb dL_law_33 (by rw [hv13]; decide) (by rw [hv13]; decide) (by rw [hv13]; rfl) (by decide) ?_
      obtain ⟨q, r, hf1, hf2, he, hi9⟩ := h9
      exact lc_chain C i1 i2 i3 i4 i5 hf1 hf2 he hP hD hS hcc hss hl (fun H locs hP hD hS => nxt _ _ _ _ _ _ _ hi9 H locs cells slots hj hP hD hS hc1 hc2)
    by_cases hv14 : v = 14
    · have h9 := hs 14
      refine lv_tableIn (off := 660) (tgt := 693) hx hb dL_law_33 (by rw [hv14]; decide) (by rw [hv14]; decide) (by rw [hv14]; rfl) (by decide) ?_
      obtain ⟨q, r, hf1, hf2, he, hi0, hi1⟩ := h9
      by_cases ht : q.2.2.2.2.2.2.2.2.2 = 0
      · have hi9 := hi0 ht
        exact lc_program0 C i1 i2 i3 i4 i5 hf1 ht hf2 he hP hD hS hcc hss hl (fun H locs hP hD hS => nxt _ _ _ _ _ _ _ hi9 H locs cells slots hj hP hD hS hc1 hc2)
      · have hi9 := hi1 ht
        exact lc_program1 C i1 i2 i3 i4 i5 hf1 ht hf2 he hP hD hS hcc hss hl (fun H locs hP hD hS => nxt _ _ _ _ _ _ _ hi9 H locs cells slots hj hP hD hS hc1 hc2)
    by_cases hv15 : v = 15
    · have h9 := hs 15
      refine lv_tableIn (off := 673) (tgt := 706) hx hb dL_law_33 (by rw [hv15]; decide) (by rw [hv15]; decide) (by rw [hv15]; rfl) (by decide) ?_
      obtain ⟨q, r, hf1, hf2, he, hi9⟩ := h9
      exact lc_let C i1 i2 i3 i4 i5 hf1 hf2 he hP hD hS hcc hss hl (fun H locs hP hD hS => nxt _ _ _ _ _ _ _ hi9 H locs cells slots hj hP hD hS hc1 hc2)
    by_cases hv16 : v = 16
    · have h9 := hs 16
      refine lv_tableIn (off := 706) (tgt := 739) hx hb dL_law_33 (by rw [hv16]; decide) (by rw [hv16]; decide) (by rw [hv16]; rfl) (by decide) ?_
      obtain ⟨q, r, hf1, hf2, he, hi9⟩ := h9
      exact lc_value C i1 i2 i3 i4 i5 hf1 hf2 he hP hD hS hcc hss hl (fun H locs hP hD hS => nxt _ _ _ _ _ _ _ hi9 H locs cells slots hj hP hD hS hc1 hc2)
    by_cases hv17 : v = 17
    · have h9 := hs 17
      refine lv_tableIn (off := 729) (tgt := 762) hx hb dL_law_33 (by rw [hv17]; decide) (by rw [hv17]; decide) (by rw [hv17]; rfl) (by decide) ?_
      obtain ⟨q, r, hf1, hf2, he, hi9⟩ := h9
      exact lc_run C i1 i2 i3 i4 i5 hf1 hf2 he hP hD hS hcc hss hl (fun H locs hP hD hS => nxt _ _ _ _ _ _ _ hi9 H locs cells slots hj hP hD hS hc1 hc2)
    by_cases hv18 : v = 18
    · have h9 := hs 18
      refine lv_tableIn (off := 778) (tgt := 811) hx hb dL_law_33 (by rw [hv18]; decide) (by rw [hv18]; decide) (by rw [hv18]; rfl) (by decide) ?_
      obtain ⟨q, r, hf1, hf2, he, hi9⟩ := h9
      exact lc_trouble C i1 i2 i3 i4 i5 hf1 hf2 he hP hD hS hcc hss hl (fun H locs hP hD hS => nxt _ _ _ _ _ _ _ hi9 H locs cells slots hj hP hD hS hc1 hc2)
    by_cases hv19 : v = 19
    · have h9 := hs 19
      refine lv_tableIn (off := 801) (tgt := 834) hx hb dL_law_33 (by rw [hv19]; decide) (by rw [hv19]; decide) (by rw [hv19]; rfl) (by decide) ?_
      obtain ⟨q, r, hf1, hf2, he, hi9⟩ := h9
      exact lc_table C i1 i2 i3 i4 i5 hf1 hf2 he hP hD hS hcc hss hl (fun H locs hP hD hS => nxt _ _ _ _ _ _ _ hi9 H locs cells slots hj hP hD hS hc1 hc2)
    by_cases hv20 : v = 20
    · have h9 := hs 20
      refine lv_tableIn (off := 834) (tgt := 867) hx hb dL_law_33 (by rw [hv20]; decide) (by rw [hv20]; decide) (by rw [hv20]; rfl) (by decide) ?_
      obtain ⟨q, r, hf1, hf2, he, hi9⟩ := h9
      exact lc_part C i1 i2 i3 i4 i5 hf1 hf2 he hP hD hS hcc hss hl (fun H locs hP hD hS => nxt _ _ _ _ _ _ _ hi9 H locs cells slots hj hP hD hS hc1 hc2)
    by_cases hv21 : v = 21
    · have h9 := hs 21
      refine lv_tableIn (off := 877) (tgt := 910) hx hb dL_law_33 (by rw [hv21]; decide) (by rw [hv21]; decide) (by rw [hv21]; rfl) (by decide) ?_
      obtain ⟨q, r, hf1, hf2, he, hi9⟩ := h9
      exact lc_ball C i1 i2 i3 i4 i5 hf1 hf2 he hP hD hS hcc hss hl (fun H locs hP hD hS => nxt _ _ _ _ _ _ _ hi9 H locs cells slots hj hP hD hS hc1 hc2)
    by_cases hv22 : v = 22
    · have h9 := hs 22
      refine lv_tableIn (off := 946) (tgt := 979) hx hb dL_law_33 (by rw [hv22]; decide) (by rw [hv22]; decide) (by rw [hv22]; rfl) (by decide) ?_
      obtain ⟨q, r, hf1, hf2, he, hi9⟩ := h9
      exact lc_cell C i1 i2 i3 i4 i5 hf1 hf2 he hP hD hS hcc hss hl (fun H locs hP hD hS => nxt _ _ _ _ _ _ _ hi9 H locs cells slots hj hP hD hS hc1 hc2)
    by_cases hv23 : v = 23
    · have h9 := hs 23
      refine lv_tableIn (off := 979) (tgt := 1012) hx hb dL_law_33 (by rw [hv23]; decide) (by rw [hv23]; decide) (by rw [hv23]; rfl) (by decide) ?_
      obtain ⟨q, r, hf1, hf2, he, hi9⟩ := h9
      exact lc_beat C i1 i2 i3 i4 i5 hf1 hf2 he hP hD hS hcc hss hl (fun H locs hP hD hS => nxt _ _ _ _ _ _ _ hi9 H locs cells slots hj hP hD hS hc1 hc2)
    by_cases hv24 : v = 24
    · have h9 := hs 24
      refine lv_tableIn (off := 1002) (tgt := 1035) hx hb dL_law_33 (by rw [hv24]; decide) (by rw [hv24]; decide) (by rw [hv24]; rfl) (by decide) ?_
      obtain ⟨q, r, hf1, hf2, he, hi9⟩ := h9
      exact lc_back C i1 i2 i3 i4 i5 hf1 hf2 he hP hD hS hcc hss hl (fun H locs hP hD hS => nxt _ _ _ _ _ _ _ hi9 H locs cells slots hj hP hD hS hc1 hc2)
    by_cases hv25 : v = 25
    · have h9 := hs 25
      refine lv_tableIn (off := 1025) (tgt := 1058) hx hb dL_law_33 (by rw [hv25]; decide) (by rw [hv25]; decide) (by rw [hv25]; rfl) (by decide) ?_
      obtain ⟨q, r, hf1, hf2, he, hi9⟩ := h9
      exact lc_round C i1 i2 i3 i4 i5 hf1 hf2 he hP hD hS hcc hss hl (fun H locs hP hD hS => nxt _ _ _ _ _ _ _ hi9 H locs cells slots hj hP hD hS hc1 hc2)
    by_cases hv26 : v = 26
    · have h9 := hs 26
      refine lv_tableIn (off := 1038) (tgt := 1071) hx hb dL_law_33 (by rw [hv26]; decide) (by rw [hv26]; decide) (by rw [hv26]; rfl) (by decide) ?_
      rcases h9 with ⟨q, r, hf1, hf2, he, hi9⟩ | ⟨q, r, c1, c2, c3, c4, hu, hf1, hf2, he, hi9⟩
      · exact lc_trail C i1 i2 i3 i4 i5 hf1 hf2 he hP hD hS hcc hss hl (fun H locs hP hD hS => nxt _ _ _ _ _ _ _ hi9 H locs cells slots hj hP hD hS hc1 hc2)
      · have hu0 := u0_of (hU _ _ _ _ _ _ hi).1 hu
        have r1 : rmc U = 3 + rmc (va_up U 11 (fun _ => 4096)) := by unfold rmc; simp [va_up, hu0]; try omega
        have r2 : rms U = 12288 + rms (va_up U 11 (fun _ => 4096)) := by unfold rms; simp [va_up, hu0]; try omega
        exact lb_trail C i1 i2 i3 i4 i5 c1 c2 c3 c4 hu hf1 hf2 he hP hD hS (by show cells + 3 ≤ 601024; omega) (by show slots + 12288 ≤ 7293034; omega) hl (fun a' H locs hP hD hS => nxt _ _ _ _ _ _ _ hi9 H locs _ _ hj hP hD hS (by omega) (by omega))
    by_cases hv27 : v = 27
    · have h9 := hs 27
      refine lv_tableIn (off := 1071) (tgt := 1104) hx hb dL_law_33 (by rw [hv27]; decide) (by rw [hv27]; decide) (by rw [hv27]; rfl) (by decide) ?_
      obtain ⟨q, r, hf1, hf2, he, hi9⟩ := h9
      exact lc_move C i1 i2 i3 i4 i5 hf1 hf2 he hP hD hS hcc hss hl (fun H locs hP hD hS => nxt _ _ _ _ _ _ _ hi9 H locs cells slots hj hP hD hS hc1 hc2)
    by_cases hv28 : v = 28
    · have h9 := hs 28
      refine lv_tableIn (off := 1094) (tgt := 1127) hx hb dL_law_33 (by rw [hv28]; decide) (by rw [hv28]; decide) (by rw [hv28]; rfl) (by decide) ?_
      rcases h9 with ⟨q, r, hf1, hf2, he, hi9⟩ | ⟨q, r, hu, hf1, hf2, he, hi9⟩
      · exact lc_watch C i1 i2 i3 i4 i5 hf1 hf2 he hP hD hS hcc hss hl (fun H locs hP hD hS => nxt _ _ _ _ _ _ _ hi9 H locs cells slots hj hP hD hS hc1 hc2)
      · have hu0 := u0_of (hU _ _ _ _ _ _ hi).2.1 hu
        have r1 : rmc U = 1 + rmc (va_up U 12 (va_up (U 12) 9 10496)) := by unfold rmc; simp [va_up, hu0]; try omega
        have r2 : rms U = 10496 + rms (va_up U 12 (va_up (U 12) 9 10496)) := by unfold rms; simp [va_up, hu0]; try omega
        exact lb_watch C i1 i2 i3 i4 i5 hu hf1 hf2 he hP hD hS (by show cells + 1 ≤ 601024; omega) (by show slots + 10496 ≤ 7293034; omega) hl (fun a' H locs hP hD hS => nxt _ _ _ _ _ _ _ hi9 H locs _ _ hj hP hD hS (by omega) (by omega))
    by_cases hv29 : v = 29
    · have h9 := hs 29
      refine lv_tableIn (off := 1117) (tgt := 1150) hx hb dL_law_33 (by rw [hv29]; decide) (by rw [hv29]; decide) (by rw [hv29]; rfl) (by decide) ?_
      obtain ⟨q, r, hf1, hf2, he, hi9⟩ := h9
      exact lc_see C i1 i2 i3 i4 i5 hf1 hf2 he hP hD hS hcc hss hl (fun H locs hP hD hS => nxt _ _ _ _ _ _ _ hi9 H locs cells slots hj hP hD hS hc1 hc2)
    by_cases hv30 : v = 30
    · have h9 := hs 30
      refine lv_tableIn (off := 1160) (tgt := 1193) hx hb dL_law_33 (by rw [hv30]; decide) (by rw [hv30]; decide) (by rw [hv30]; rfl) (by decide) ?_
      obtain ⟨q, r, hf1, hf2, he, hi9⟩ := h9
      exact lc_right C i1 i2 i3 i4 i5 hf1 hf2 he hP hD hS hcc hss hl (fun H locs hP hD hS => nxt _ _ _ _ _ _ _ hi9 H locs cells slots hj hP hD hS hc1 hc2)
    by_cases hv31 : v = 31
    · have h9 := hs 31
      refine lv_tableIn (off := 1203) (tgt := 1236) hx hb dL_law_33 (by rw [hv31]; decide) (by rw [hv31]; decide) (by rw [hv31]; rfl) (by decide) ?_
      obtain ⟨q, r, hf1, hf2, he, hi9⟩ := h9
      exact lc_fit C i1 i2 i3 i4 i5 hf1 hf2 he hP hD hS hcc hss hl (fun H locs hP hD hS => nxt _ _ _ _ _ _ _ hi9 H locs cells slots hj hP hD hS hc1 hc2)
    by_cases hv32 : v = 32
    · have h9 := hs 32
      refine lv_tableIn (off := 1227) (tgt := 1260) hx hb dL_law_33 (by rw [hv32]; decide) (by rw [hv32]; decide) (by rw [hv32]; rfl) (by decide) ?_
      obtain ⟨q, r, hf1, hf2, he, hi9⟩ := h9
      exact lc_look C i1 i2 i3 i4 i5 hf1 hf2 he hP hD hS hcc hss hl (fun H locs hP hD hS => nxt _ _ _ _ _ _ _ hi9 H locs cells slots hj hP hD hS hc1 hc2)
    by_cases hv33 : v = 33
    · have h9 := hs 33
      refine lv_tableIn (off := 1240) (tgt := 1273) hx hb dL_law_33 (by rw [hv33]; decide) (by rw [hv33]; decide) (by rw [hv33]; rfl) (by decide) ?_
      obtain ⟨q, r, hf1, hf2, he, hi9⟩ := h9
      exact lc_count C i1 i2 i3 i4 i5 hf1 hf2 he hP hD hS hcc hss hl (fun H locs hP hD hS => nxt _ _ _ _ _ _ _ hi9 H locs cells slots hj hP hD hS hc1 hc2)
    have z0 := sw_ne (k := 0) (by decide) hv0
    have z1 := sw_ne (k := 1) (by decide) hv1
    have z2 := sw_ne (k := 2) (by decide) hv2
    have z3 := sw_ne (k := 3) (by decide) hv3
    have z4 := sw_ne (k := 4) (by decide) hv4
    have z5 := sw_ne (k := 5) (by decide) hv5
    have z6 := sw_ne (k := 6) (by decide) hv6
    have z7 := sw_ne (k := 7) (by decide) hv7
    have z8 := sw_ne (k := 8) (by decide) hv8
    have z9 := sw_ne (k := 9) (by decide) hv9
    have z10 := sw_ne (k := 10) (by decide) hv10
    have z11 := sw_ne (k := 11) (by decide) hv11
    have z12 := sw_ne (k := 12) (by decide) hv12
    have z13 := sw_ne (k := 13) (by decide) hv13
    have z14 := sw_ne (k := 14) (by decide) hv14
    have z15 := sw_ne (k := 15) (by decide) hv15
    have z16 := sw_ne (k := 16) (by decide) hv16
    have z17 := sw_ne (k := 17) (by decide) hv17
    have z18 := sw_ne (k := 18) (by decide) hv18
    have z19 := sw_ne (k := 19) (by decide) hv19
    have z20 := sw_ne (k := 20) (by decide) hv20
    have z21 := sw_ne (k := 21) (by decide) hv21
    have z22 := sw_ne (k := 22) (by decide) hv22
    have z23 := sw_ne (k := 23) (by decide) hv23
    have z24 := sw_ne (k := 24) (by decide) hv24
    have z25 := sw_ne (k := 25) (by decide) hv25
    have z26 := sw_ne (k := 26) (by decide) hv26
    have z27 := sw_ne (k := 27) (by decide) hv27
    have z28 := sw_ne (k := 28) (by decide) hv28
    have z29 := sw_ne (k := 29) (by decide) hv29
    have z30 := sw_ne (k := 30) (by decide) hv30
    have z31 := sw_ne (k := 31) (by decide) hv31
    have z32 := sw_ne (k := 32) (by decide) hv32
    have z33 := sw_ne (k := 33) (by decide) hv33
    refine lv_tableOut (tgt := 1296) hx hb dL_law_33 (by omega) (by decide) ?_
    exact nxt a I J K U P S hi H locs cells slots hj hP hD hS hc1 hc2
