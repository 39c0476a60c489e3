/-! ===== the invariant (written by wip/mkinv.py) ===== -/
theorem nb_01 (x : Int32) : nb x = 0 ∨ nb x = 1 := by
  unfold nb
  by_cases q : x = 0
  · exact Or.inl (if_pos q)
  · exact Or.inr (if_neg q)
theorem nb_dir (x : Int32) : ∃ dr, dr ≤ 1 ∧ nb x = nI dr := by
  rcases nb_01 x with e | e
  · exact ⟨0, by omega, e⟩
  · exact ⟨1, by omega, e⟩
abbrev GLt : Type := (Nat → Int32) → (Nat → Nat → Int32) → (Nat → Nat) → (Nat → Int32) → (Nat → Nat → Int32) → Prop
def GLk (GL : GLt) : Prop := ∀ i r u mi mr mi' mr', GL i r u mi mr → (∀ k, k = 24 ∨ k = 25 → mi' k = mi k) → (∀ k, (17 ≤ k ∧ k ≤ 23) ∨ k = 26 → mr' k = mr k) → GL i r u mi' mr'
def InvG (GL : GLt) : IT := fun I J K U P S => GT (I 0) (J 0) (I 13) (J 13) ∧ GV (I 9) (J 9) (I 13) (J 13) ∧ GF P S (J 13) ∧ GW (I 12) (J 12) (U 12) (I 13) (J 13) ∧ GC (I 10) (J 10) (I 13) (J 13) ∧ GR (I 11) (J 11) (U 11) (I 13) (J 13) ∧ GP (I 6) (J 6) (I 13) (J 13) ∧ GL (I 5) (J 5) (U 5) (I 13) (J 13)
theorem GT.rf {i mi mi' : Nat → Int32} {r mr mr' : Nat → Nat → Int32} (h : GT i r mi mr) (hi : ∀ k, k = 2 ∨ k = 8 ∨ k = 9 → mi' k = mi k) (hr : ∀ k, k = 1 → mr' k = mr k) : GT i r mi' mr' := h.congr rfl rfl (hi 2 (by omega)) (hi 8 (by omega)) (hi 9 (by omega)) (hr 1 rfl)
theorem GV.rf {i mi mi' : Nat → Int32} {r mr mr' : Nat → Nat → Int32} (h : GV i r mi mr) (hi : ∀ k, k = 61 ∨ k = 62 → mi' k = mi k) (hr : ∀ k, k = 58 → mr' k = mr k) : GV i r mi' mr' := h.congr rfl rfl (hi 61 (by omega)) (hi 62 (by omega)) (hr 58 rfl)
theorem GF.rf {P : Nat → Nat → Int32} {S : Nat → Nat → Nat → Int32} {mi mi' : Nat → Int32} {mr mr' : Nat → Nat → Int32} (h : GF P S mr) (_ : ∀ k, k = 0 ∧ k = 1 → mi' k = mi k) (hr : ∀ k, 10 ≤ k ∧ k ≤ 14 → mr' k = mr k) : GF P S mr' := h.congr rfl rfl (hr 10 (by omega)) (hr 11 (by omega)) (hr 12 (by omega)) (hr 13 (by omega)) (hr 14 (by omega))
theorem GW.rfK {i mi mi' : Nat → Int32} {r mr mr' : Nat → Nat → Int32} {u : Nat → Nat} (h : GW i r u mi mr) (hi : ∀ k, 76 ≤ k ∧ k ≤ 79 → mi' k = mi k) (hr : ∀ k, 80 ≤ k ∧ k ≤ 85 → mr' k = mr k) (hK : ∀ L l, l.length ≤ 40 → MF L l mr 7 → MF L l mr' 7) : GW i r u mi' mr' := by
  rcases h with h | ⟨L, l, ns, nr, tl, h1, h2, h3, h4, ⟨m6, m7, m8, m9⟩, h6, h7, h8, h9⟩
  · left
    unfold GW0 at h ⊢
    rw [hi 76 (by omega), hi 77 (by omega), hi 78 (by omega), hi 79 (by omega)]
    exact h
  · right
    refine ⟨L, l, ns, nr, tl, h1, hK L l h1.2.2.1 h2, h3, h4, ⟨by rw [hi 76 (by omega)]; exact m6, by rw [hi 77 (by omega)]; exact m7, by rw [hi 78 (by omega)]; exact m8, by rw [hi 79 (by omega)]; exact m9⟩, h6, h7, ?_, ?_⟩
    · rw [hr 80 (by omega), hr 81 (by omega), hr 82 (by omega)]
      exact h8
    · rw [hr 83 (by omega), hr 84 (by omega), hr 85 (by omega)]
      exact h9
theorem GW.rf {i mi mi' : Nat → Int32} {r mr mr' : Nat → Nat → Int32} {u : Nat → Nat} (h : GW i r u mi mr) (hi : ∀ k, 76 ≤ k ∧ k ≤ 79 → mi' k = mi k) (hr : ∀ k, (80 ≤ k ∧ k ≤ 85) ∨ (10 ≤ k ∧ k ≤ 14) → mr' k = mr k) : GW i r u mi' mr' := h.rfK hi (fun k hk => hr k (Or.inl hk)) (fun L l _ hM => hM.congr (hr 10 (by omega)) (hr 11 (by omega)) (hr 12 (by omega)) (hr 13 (by omega)) (hr 14 (by omega)))
theorem GC.rf {i mi mi' : Nat → Int32} {r mr mr' : Nat → Nat → Int32} (h : GC i r mi mr) (hi : ∀ k, 64 ≤ k ∧ k ≤ 67 → mi' k = mi k) (hr : ∀ k, k = 68 ∨ k = 69 → mr' k = mr k) : GC i r mi' mr' := h.congr rfl rfl (hi 64 (by omega)) (hi 65 (by omega)) (hi 66 (by omega)) (hi 67 (by omega)) (hr 68 (by omega)) (hr 69 (by omega))
theorem GR.rf {i mi mi' : Nat → Int32} {r mr mr' : Nat → Nat → Int32} {u : Nat → Nat} (h : GR i r u mi mr) (hi : ∀ k, k = 75 → mi' k = mi k) (hr : ∀ k, k = 74 → mr' k = mr k) : GR i r u mi' mr' := h.congr rfl rfl rfl (hi 75 rfl) (hr 74 rfl)
theorem GP.rf {i mi mi' : Nat → Int32} {r mr mr' : Nat → Nat → Int32} (h : GP i r mi mr) (hi : ∀ k, k = 46 → mi' k = mi k) (hr : ∀ k, 28 ≤ k ∧ k ≤ 43 → mr' k = mr k) : GP i r mi' mr' := h.lo (hi 46 rfl) (fun k j hl => by rw [hr k (by unfold LWr at hl; omega)])
theorem sp_feed {GL : GLt} (hGL : GLk GL) {f : List Value} {I : Nat → Nat → Int32} {J : Nat → Nat → Nat → Int32} {K : Nat → Nat → Nat → Int64} {U : Nat → Nat → Nat} {P : Nat → Nat → Int32} {S : Nat → Nat → Nat → Int32} (h : InvG GL I J K U P S) (x1 x2 x3 x4 x5 : Int32) : Sp_feed f (InvG GL) x1 x2 x3 x4 x5 I J K U P S := by
  obtain ⟨hT, hV, hF, hW, hC, hR, hP, hL⟩ := id h
  obtain ⟨q, m, a1, a2, a3, a4⟩ := feed_ok (l := K 0) (ml := K 13) hT x1 x2 x3 x4 x5
  have fr := fr_X13_feed a2
  exact ⟨q, m, a1, a2, a3, a4, hV.rf (fun k hk => fr.1 k (by omega)) (fun k hk => fr.2 k (by omega)), hF.rf (mi := I 13) (mi' := I 13) (fun _ _ => rfl) (fun k hk => fr.2 k (by omega)), hW.rf (fun k hk => fr.1 k (by omega)) (fun k hk => fr.2 k (by omega)), hC.rf (fun k hk => fr.1 k (by omega)) (fun k hk => fr.2 k (by omega)), hR.rf (fun k hk => fr.1 k (by omega)) (fun k hk => fr.2 k (by omega)), hP.rf (fun k hk => fr.1 k (by omega)) (fun k hk => fr.2 k (by omega)), hGL _ _ _ _ _ _ _ hL (fun k hk => fr.1 k (by omega)) (fun k hk => fr.2 k (by omega))⟩
theorem sp_end {GL : GLt} (hGL : GLk GL) {f : List Value} {I : Nat → Nat → Int32} {J : Nat → Nat → Nat → Int32} {K : Nat → Nat → Nat → Int64} {U : Nat → Nat → Nat} {P : Nat → Nat → Int32} {S : Nat → Nat → Nat → Int32} (h : InvG GL I J K U P S) (x1 x2 x3 x4 x5 : Int32) : Sp_end f (InvG GL) x1 x2 x3 x4 x5 I J K U P S := by
  obtain ⟨hT, hV, hF, hW, hC, hR, hP, hL⟩ := id h
  obtain ⟨q, m, a1, a2, a3, a4⟩ := end_ok (l := K 0) (ml := K 13) hT x1
  have fr := fr_X13_end a2
  exact ⟨q, m, a1, a2, a3, a4, hV.rf (fun k hk => fr k (by omega)) (fun _ _ => rfl), hF.rf (mi := I 13) (mi' := I 13) (fun _ _ => rfl) (fun _ _ => rfl), hW.rf (fun k hk => fr k (by omega)) (fun _ _ => rfl), hC.rf (fun k hk => fr k (by omega)) (fun _ _ => rfl), hR.rf (fun k hk => fr k (by omega)) (fun _ _ => rfl), hP.rf (fun k hk => fr k (by omega)) (fun _ _ => rfl), hGL _ _ _ _ _ _ _ hL (fun k hk => fr k (by omega)) (fun _ _ => rfl)⟩
theorem sp_floor {GL : GLt} (hGL : GLk GL) {f : List Value} {I : Nat → Nat → Int32} {J : Nat → Nat → Nat → Int32} {K : Nat → Nat → Nat → Int64} {U : Nat → Nat → Nat} {P : Nat → Nat → Int32} {S : Nat → Nat → Nat → Int32} (h : InvG GL I J K U P S) (x1 x2 x3 x4 x5 : Int32) : Sp_floor f (InvG GL) x1 x2 x3 x4 x5 I J K U P S := by
  obtain ⟨hT, hV, hF, hW, hC, hR, hP, hL⟩ := id h
  obtain ⟨q, m, a1, a2, a3, a4, a5, j, hj, kM⟩ := floor_ok (l := K 0) (ml := K 13) (i2 := I 2) (r2 := J 2) (f := f) hT hF x1
  have fr := fr_X13_floor a2
  exact ⟨q, m, a1, a2, a3, a4, hV.rf (fun k hk => fr.1 k (by omega)) (fun k hk => fr.2 k (by omega)), a5, hW.rfK (fun k hk => fr.1 k (by omega)) (fun k hk => fr.2 k (by omega)) (fun L l hl hM => kM 7 (by omega) (by omega) (by omega) L l hl hM), hC.rf (fun k hk => fr.1 k (by omega)) (fun k hk => fr.2 k (by omega)), hR.rf (fun k hk => fr.1 k (by omega)) (fun k hk => fr.2 k (by omega)), hP.rf (fun k hk => fr.1 k (by omega)) (fun k hk => fr.2 k (by omega)), hGL _ _ _ _ _ _ _ hL (fun k hk => fr.1 k (by omega)) (fun k hk => fr.2 k (by omega))⟩
theorem sp_fault {GL : GLt} (hGL : GLk GL) {f : List Value} {I : Nat → Nat → Int32} {J : Nat → Nat → Nat → Int32} {K : Nat → Nat → Nat → Int64} {U : Nat → Nat → Nat} {P : Nat → Nat → Int32} {S : Nat → Nat → Nat → Int32} (h : InvG GL I J K U P S) (x1 x2 x3 x4 x5 : Int32) : Sp_fault f (InvG GL) x1 x2 x3 x4 x5 I J K U P S := by
  obtain ⟨hT, hV, hF, hW, hC, hR, hP, hL⟩ := id h
  obtain ⟨q, m, a1, a2, a3⟩ := fault_ok (l := K 0) (ml := K 13) hT x1
  exact ⟨q, m, a1, a2, a3, h⟩
theorem sp_step {GL : GLt} (hGL : GLk GL) {f : List Value} {I : Nat → Nat → Int32} {J : Nat → Nat → Nat → Int32} {K : Nat → Nat → Nat → Int64} {U : Nat → Nat → Nat} {P : Nat → Nat → Int32} {S : Nat → Nat → Nat → Int32} (h : InvG GL I J K U P S) (x1 x2 x3 x4 x5 : Int32) : Sp_step f (InvG GL) x1 x2 x3 x4 x5 I J K U P S := by
  obtain ⟨hT, hV, hF, hW, hC, hR, hP, hL⟩ := id h
  obtain ⟨q, m, a1, a2, a3⟩ := step_ok (mi := I 13) (ml := K 13) hF x1 x2 x3
  exact ⟨q, m, a1, a2, a3, h⟩
theorem sp_out {GL : GLt} (hGL : GLk GL) {f : List Value} {I : Nat → Nat → Int32} {J : Nat → Nat → Nat → Int32} {K : Nat → Nat → Nat → Int64} {U : Nat → Nat → Nat} {P : Nat → Nat → Int32} {S : Nat → Nat → Nat → Int32} (h : InvG GL I J K U P S) (x1 x2 x3 x4 x5 : Int32) : Sp_out f (InvG GL) x1 x2 x3 x4 x5 I J K U P S := by
  obtain ⟨hT, hV, hF, hW, hC, hR, hP, hL⟩ := id h
  obtain ⟨q, m, a1, a2, a3⟩ := out_ok (mi := I 13) (ml := K 13) hF x1 x2 (nb x3)
  exact ⟨q, m, a1, a2, a3, h⟩
theorem sp_odd {GL : GLt} (hGL : GLk GL) {f : List Value} {I : Nat → Nat → Int32} {J : Nat → Nat → Nat → Int32} {K : Nat → Nat → Nat → Int64} {U : Nat → Nat → Nat} {P : Nat → Nat → Int32} {S : Nat → Nat → Nat → Int32} (h : InvG GL I J K U P S) (x1 x2 x3 x4 x5 : Int32) : Sp_odd f (InvG GL) x1 x2 x3 x4 x5 I J K U P S := by
  obtain ⟨hT, hV, hF, hW, hC, hR, hP, hL⟩ := id h
  obtain ⟨q, m, a1, a2, a3⟩ := odd_ok (i := I 4) (r := J 4) (mi := I 13) (ml := K 13) hF x1
  have fr := fr_X13_odd a2
  exact ⟨q, m, a1, a2, a3, hT.rf (fun _ _ => rfl) (fun k hk => fr k (by omega)), hV.rf (fun _ _ => rfl) (fun k hk => fr k (by omega)), hF.rf (mi := I 13) (mi' := I 13) (fun _ _ => rfl) (fun k hk => fr k (by omega)), hW.rf (fun _ _ => rfl) (fun k hk => fr k (by omega)), hC.rf (fun _ _ => rfl) (fun k hk => fr k (by omega)), hR.rf (fun _ _ => rfl) (fun k hk => fr k (by omega)), hP.rf (fun _ _ => rfl) (fun k hk => fr k (by omega)), hGL _ _ _ _ _ _ _ hL (fun _ _ => rfl) (fun k hk => fr k (by omega))⟩
theorem sp_cycle {GL : GLt} (hGL : GLk GL) {f : List Value} {I : Nat → Nat → Int32} {J : Nat → Nat → Nat → Int32} {K : Nat → Nat → Nat → Int64} {U : Nat → Nat → Nat} {P : Nat → Nat → Int32} {S : Nat → Nat → Nat → Int32} (h : InvG GL I J K U P S) (x1 x2 x3 x4 x5 : Int32) : Sp_cycle f (InvG GL) x1 x2 x3 x4 x5 I J K U P S := by
  obtain ⟨hT, hV, hF, hW, hC, hR, hP, hL⟩ := id h
  obtain ⟨q, m, a1, a2, a3⟩ := cycle_ok (mi := I 13) (ml := K 13) hF x1 x2
  have fr := fr_X13_cycle a2
  exact ⟨q, m, a1, a2, a3, hT.rf (fun _ _ => rfl) (fun k hk => fr k (by omega)), hV.rf (fun _ _ => rfl) (fun k hk => fr k (by omega)), hF.rf (mi := I 13) (mi' := I 13) (fun _ _ => rfl) (fun k hk => fr k (by omega)), hW.rf (fun _ _ => rfl) (fun k hk => fr k (by omega)), hC.rf (fun _ _ => rfl) (fun k hk => fr k (by omega)), hR.rf (fun _ _ => rfl) (fun k hk => fr k (by omega)), hP.rf (fun _ _ => rfl) (fun k hk => fr k (by omega)), hGL _ _ _ _ _ _ _ hL (fun _ _ => rfl) (fun k hk => fr k (by omega))⟩
theorem sp_order {GL : GLt} (hGL : GLk GL) {f : List Value} {I : Nat → Nat → Int32} {J : Nat → Nat → Nat → Int32} {K : Nat → Nat → Nat → Int64} {U : Nat → Nat → Nat} {P : Nat → Nat → Int32} {S : Nat → Nat → Nat → Int32} (h : InvG GL I J K U P S) (x1 x2 x3 x4 x5 : Int32) : Sp_order f (InvG GL) x1 x2 x3 x4 x5 I J K U P S := by
  obtain ⟨hT, hV, hF, hW, hC, hR, hP, hL⟩ := id h
  obtain ⟨q, m, a1, a2, a3⟩ := order_ok (i := I 4) (r := J 4) (mi := I 13) (ml := K 13) hF x1
  have fr := fr_X13_order a2
  exact ⟨q, m, a1, a2, a3, hT.rf (fun _ _ => rfl) (fun k hk => fr k (by omega)), hV.rf (fun _ _ => rfl) (fun k hk => fr k (by omega)), hF.rf (mi := I 13) (mi' := I 13) (fun _ _ => rfl) (fun k hk => fr k (by omega)), hW.rf (fun _ _ => rfl) (fun k hk => fr k (by omega)), hC.rf (fun _ _ => rfl) (fun k hk => fr k (by omega)), hR.rf (fun _ _ => rfl) (fun k hk => fr k (by omega)), hP.rf (fun _ _ => rfl) (fun k hk => fr k (by omega)), hGL _ _ _ _ _ _ _ hL (fun _ _ => rfl) (fun k hk => fr k (by omega))⟩
theorem sp_apart {GL : GLt} (hGL : GLk GL) {f : List Value} {I : Nat → Nat → Int32} {J : Nat → Nat → Nat → Int32} {K : Nat → Nat → Nat → Int64} {U : Nat → Nat → Nat} {P : Nat → Nat → Int32} {S : Nat → Nat → Nat → Int32} (h : InvG GL I J K U P S) (x1 x2 x3 x4 x5 : Int32) : Sp_apart f (InvG GL) x1 x2 x3 x4 x5 I J K U P S := by
  obtain ⟨hT, hV, hF, hW, hC, hR, hP, hL⟩ := id h
  obtain ⟨q, m, a1, a2, a3⟩ := apart_ok (mi := I 13) (ml := K 13) hF x1 x2
  exact ⟨q, m, a1, a2, a3, h⟩
theorem sp_lay {GL : GLt} (hGL : GLk GL) {f : List Value} {I : Nat → Nat → Int32} {J : Nat → Nat → Nat → Int32} {K : Nat → Nat → Nat → Int64} {U : Nat → Nat → Nat} {P : Nat → Nat → Int32} {S : Nat → Nat → Nat → Int32} (h : InvG GL I J K U P S) (x1 x2 x3 x4 x5 : Int32) : Sp_lay f (InvG GL) x1 x2 x3 x4 x5 I J K U P S := by
  obtain ⟨hT, hV, hF, hW, hC, hR, hP, hL⟩ := id h
  obtain ⟨q, m, a1, a2, a3, a4, j, hj, kM⟩ := lay_ok (i := I 4) (r := J 4) (i2 := I 2) (r2 := J 2) (mi := I 13) (ml := K 13) hF x1 x2
  have fr := fr_X13_lay a2
  exact ⟨q, m, a1, a2, a3, hT.rf (fun k hk => fr.1 k (by omega)) (fun k hk => fr.2 k (by omega)), hV.rf (fun k hk => fr.1 k (by omega)) (fun k hk => fr.2 k (by omega)), a4, hW.rfK (fun k hk => fr.1 k (by omega)) (fun k hk => fr.2 k (by omega)) (fun L l hl hM => kM 7 (by omega) (by omega) (by omega) L l hl hM), hC.rf (fun k hk => fr.1 k (by omega)) (fun k hk => fr.2 k (by omega)), hR.rf (fun k hk => fr.1 k (by omega)) (fun k hk => fr.2 k (by omega)), hP.rf (fun k hk => fr.1 k (by omega)) (fun k hk => fr.2 k (by omega)), hGL _ _ _ _ _ _ _ hL (fun k hk => fr.1 k (by omega)) (fun k hk => fr.2 k (by omega))⟩
theorem sp_roll {GL : GLt} (hGL : GLk GL) {f : List Value} {I : Nat → Nat → Int32} {J : Nat → Nat → Nat → Int32} {K : Nat → Nat → Nat → Int64} {U : Nat → Nat → Nat} {P : Nat → Nat → Int32} {S : Nat → Nat → Nat → Int32} (h : InvG GL I J K U P S) (x1 x2 x3 x4 x5 : Int32) : Sp_roll f (InvG GL) x1 x2 x3 x4 x5 I J K U P S := by
  obtain ⟨hT, hV, hF, hW, hC, hR, hP, hL⟩ := id h
  obtain ⟨q, m, a1, a2, a3, a4, j, hj, kM⟩ := roll_ok (i := I 2) (r := J 2) (mi := I 13) (ml := K 13) hF x1 x2 x3
  have fr := fr_X13_roll a2
  exact ⟨q, m, a1, a2, a3, hT.rf (fun _ _ => rfl) (fun k hk => fr k (by omega)), hV.rf (fun _ _ => rfl) (fun k hk => fr k (by omega)), a4, hW.rfK (fun _ _ => rfl) (fun k hk => fr k (by omega)) (fun L l hl hM => kM 7 (by omega) (by omega) (by omega) L l hl hM), hC.rf (fun _ _ => rfl) (fun k hk => fr k (by omega)), hR.rf (fun _ _ => rfl) (fun k hk => fr k (by omega)), hP.rf (fun _ _ => rfl) (fun k hk => fr k (by omega)), hGL _ _ _ _ _ _ _ hL (fun _ _ => rfl) (fun k hk => fr k (by omega))⟩
theorem sp_chain {GL : GLt} (hGL : GLk GL) {f : List Value} {I : Nat → Nat → Int32} {J : Nat → Nat → Nat → Int32} {K : Nat → Nat → Nat → Int64} {U : Nat → Nat → Nat} {P : Nat → Nat → Int32} {S : Nat → Nat → Nat → Int32} (h : InvG GL I J K U P S) (x1 x2 x3 x4 x5 : Int32) : Sp_chain f (InvG GL) x1 x2 x3 x4 x5 I J K U P S := by
  obtain ⟨hT, hV, hF, hW, hC, hR, hP, hL⟩ := id h
  obtain ⟨q, m, a1, a2, a3, a4, j, hj, kM⟩ := chain_ok (i := I 2) (r := J 2) (mi := I 13) (ml := K 13) hF x1 x2 x3
  have fr := fr_X13_chain a2
  exact ⟨q, m, a1, a2, a3, hT.rf (fun _ _ => rfl) (fun k hk => fr k (by omega)), hV.rf (fun _ _ => rfl) (fun k hk => fr k (by omega)), a4, hW.rfK (fun _ _ => rfl) (fun k hk => fr k (by omega)) (fun L l hl hM => kM 7 (by omega) (by omega) (by omega) L l hl hM), hC.rf (fun _ _ => rfl) (fun k hk => fr k (by omega)), hR.rf (fun _ _ => rfl) (fun k hk => fr k (by omega)), hP.rf (fun _ _ => rfl) (fun k hk => fr k (by omega)), hGL _ _ _ _ _ _ _ hL (fun _ _ => rfl) (fun k hk => fr k (by omega))⟩
theorem sp_program {GL : GLt} (hGL : GLk GL) {f : List Value} {I : Nat → Nat → Int32} {J : Nat → Nat → Nat → Int32} {K : Nat → Nat → Nat → Int64} {U : Nat → Nat → Nat} {P : Nat → Nat → Int32} {S : Nat → Nat → Nat → Int32} (h : InvG GL I J K U P S) (x1 x2 x3 x4 x5 : Int32) : Sp_program f (InvG GL) x1 x2 x3 x4 x5 I J K U P S := by
  obtain ⟨hT, hV, hF, hW, hC, hR, hP, hL⟩ := id h
  obtain ⟨a, j0, q0, j1, p1, q1, j2, p2, q2, t, mj, mp, mq, a1, a2, a3, a4, a5⟩ := program_ok (i0 := I 8) (r0 := J 8) (l1 := K 0) (i2 := I 7) (r2 := J 7) (l2 := K 7) (lc := K 6) (ml := K 13) (f := f) hT hP
  have fr := fr_X13_program a2
  refine ⟨_, _, a1, a2, rfl, fun ht => ?_, fun ht => ?_⟩
  · exact ⟨a3, hV.rf (fun k hk => fr.1 k (by omega)) (fun k hk => fr.2.2 k (by omega)), hF.rf (mi := I 13) (mi' := I 13) (fun _ _ => rfl) (fun k hk => fr.2.2 k (by omega)), hW.rf (fun k hk => fr.1 k (by omega)) (fun k hk => fr.2.2 k (by omega)), hC.rf (fun k hk => fr.1 k (by omega)) (fun k hk => fr.2.2 k (by omega)), hR.rf (fun k hk => fr.1 k (by omega)) (fun k hk => fr.2.2 k (by omega)), a4 ht, hGL _ _ _ _ _ _ _ hL (fun k hk => fr.1 k (by omega)) (fun k hk => fr.2.2 k (by omega))⟩
  · exact ⟨a3, hV.rf (fun k hk => fr.1 k (by omega)) (fun k hk => fr.2.2 k (by omega)), hF.rf (mi := I 13) (mi' := I 13) (fun _ _ => rfl) (fun k hk => fr.2.2 k (by omega)), hW.rf (fun k hk => fr.1 k (by omega)) (fun k hk => fr.2.2 k (by omega)), hC.rf (fun k hk => fr.1 k (by omega)) (fun k hk => fr.2.2 k (by omega)), hR.rf (fun k hk => fr.1 k (by omega)) (fun k hk => fr.2.2 k (by omega)), a5 ht, hGL _ _ _ _ _ _ _ hL (fun k hk => fr.1 k (by omega)) (fun k hk => fr.2.2 k (by omega))⟩
theorem sp_let {GL : GLt} (hGL : GLk GL) {f : List Value} {I : Nat → Nat → Int32} {J : Nat → Nat → Nat → Int32} {K : Nat → Nat → Nat → Int64} {U : Nat → Nat → Nat} {P : Nat → Nat → Int32} {S : Nat → Nat → Nat → Int32} (h : InvG GL I J K U P S) (x1 x2 x3 x4 x5 : Int32) : Sp_let f (InvG GL) x1 x2 x3 x4 x5 I J K U P S := by
  obtain ⟨hT, hV, hF, hW, hC, hR, hP, hL⟩ := id h
  obtain ⟨q, m, a1, a2, a3, a4⟩ := let_ok (ml := K 13) hV x1 x2
  have fr := fr_X13_let a2
  exact ⟨q, m, a1, a2, a3, hT.rf (fun _ _ => rfl) (fun k hk => fr k (by omega)), a4, hF.rf (mi := I 13) (mi' := I 13) (fun _ _ => rfl) (fun k hk => fr k (by omega)), hW.rf (fun _ _ => rfl) (fun k hk => fr k (by omega)), hC.rf (fun _ _ => rfl) (fun k hk => fr k (by omega)), hR.rf (fun _ _ => rfl) (fun k hk => fr k (by omega)), hP.rf (fun _ _ => rfl) (fun k hk => fr k (by omega)), hGL _ _ _ _ _ _ _ hL (fun _ _ => rfl) (fun k hk => fr k (by omega))⟩
theorem sp_value {GL : GLt} (hGL : GLk GL) {f : List Value} {I : Nat → Nat → Int32} {J : Nat → Nat → Nat → Int32} {K : Nat → Nat → Nat → Int64} {U : Nat → Nat → Nat} {P : Nat → Nat → Int32} {S : Nat → Nat → Nat → Int32} (h : InvG GL I J K U P S) (x1 x2 x3 x4 x5 : Int32) : Sp_value f (InvG GL) x1 x2 x3 x4 x5 I J K U P S := by
  obtain ⟨hT, hV, hF, hW, hC, hR, hP, hL⟩ := id h
  obtain ⟨q, m, a1, a2, a3⟩ := value_ok (ml := K 13) hV x1
  exact ⟨q, m, a1, a2, a3, h⟩
theorem sp_run {GL : GLt} (hGL : GLk GL) {f : List Value} {I : Nat → Nat → Int32} {J : Nat → Nat → Nat → Int32} {K : Nat → Nat → Nat → Int64} {U : Nat → Nat → Nat} {P : Nat → Nat → Int32} {S : Nat → Nat → Nat → Int32} (h : InvG GL I J K U P S) (x1 x2 x3 x4 x5 : Int32) : Sp_run f (InvG GL) x1 x2 x3 x4 x5 I J K U P S := by
  obtain ⟨hT, hV, hF, hW, hC, hR, hP, hL⟩ := id h
  obtain ⟨dr, hd, e⟩ : ∃ dr, dr ≤ 1 ∧ nb x2 = nI dr := nb_dir x2
  obtain ⟨a, i', r', t, mi', mr', a1, a2, a3⟩ := run_ok (l2 := K 6) (ml := K 13) hV hP x1 hd
  rw [← e] at a1 a2
  have fr := fr_X13_run a2
  exact ⟨_, _, a1, a2, rfl, hT.rf (fun k hk => fr.1 k (by omega)) (fun k hk => fr.2 k (by omega)), a3, hF.rf (mi := I 13) (mi' := I 13) (fun _ _ => rfl) (fun k hk => fr.2 k (by omega)), hW.rf (fun k hk => fr.1 k (by omega)) (fun k hk => fr.2 k (by omega)), hC.rf (fun k hk => fr.1 k (by omega)) (fun k hk => fr.2 k (by omega)), hR.rf (fun k hk => fr.1 k (by omega)) (fun k hk => fr.2 k (by omega)), hP.rf (fun k hk => fr.1 k (by omega)) (fun k hk => fr.2 k (by omega)), hGL _ _ _ _ _ _ _ hL (fun k hk => fr.1 k (by omega)) (fun k hk => fr.2 k (by omega))⟩
theorem sp_trouble {GL : GLt} (hGL : GLk GL) {f : List Value} {I : Nat → Nat → Int32} {J : Nat → Nat → Nat → Int32} {K : Nat → Nat → Nat → Int64} {U : Nat → Nat → Nat} {P : Nat → Nat → Int32} {S : Nat → Nat → Nat → Int32} (h : InvG GL I J K U P S) (x1 x2 x3 x4 x5 : Int32) : Sp_trouble f (InvG GL) x1 x2 x3 x4 x5 I J K U P S := by
  obtain ⟨hT, hV, hF, hW, hC, hR, hP, hL⟩ := id h
  obtain ⟨q, m, a1, a2, a3⟩ := trouble_ok (ml := K 13) hV x1
  exact ⟨q, m, a1, a2, a3, h⟩
theorem sp_table {GL : GLt} (hGL : GLk GL) {f : List Value} {I : Nat → Nat → Int32} {J : Nat → Nat → Nat → Int32} {K : Nat → Nat → Nat → Int64} {U : Nat → Nat → Nat} {P : Nat → Nat → Int32} {S : Nat → Nat → Nat → Int32} (h : InvG GL I J K U P S) (x1 x2 x3 x4 x5 : Int32) : Sp_table f (InvG GL) x1 x2 x3 x4 x5 I J K U P S := by
  obtain ⟨hT, hV, hF, hW, hC, hR, hP, hL⟩ := id h
  obtain ⟨q, m, a1, a2, a3, a4⟩ := table_ok (ml := K 13) hC x1 x2
  have fr := fr_X13_table a2
  exact ⟨q, m, a1, a2, a3, hT.rf (fun k hk => fr.1 k (by omega)) (fun k hk => fr.2 k (by omega)), hV.rf (fun k hk => fr.1 k (by omega)) (fun k hk => fr.2 k (by omega)), hF.rf (mi := I 13) (mi' := I 13) (fun _ _ => rfl) (fun k hk => fr.2 k (by omega)), hW.rf (fun k hk => fr.1 k (by omega)) (fun k hk => fr.2 k (by omega)), a4, hR.rf (fun k hk => fr.1 k (by omega)) (fun k hk => fr.2 k (by omega)), hP.rf (fun k hk => fr.1 k (by omega)) (fun k hk => fr.2 k (by omega)), hGL _ _ _ _ _ _ _ hL (fun k hk => fr.1 k (by omega)) (fun k hk => fr.2 k (by omega))⟩
theorem sp_part {GL : GLt} (hGL : GLk GL) {f : List Value} {I : Nat → Nat → Int32} {J : Nat → Nat → Nat → Int32} {K : Nat → Nat → Nat → Int64} {U : Nat → Nat → Nat} {P : Nat → Nat → Int32} {S : Nat → Nat → Nat → Int32} (h : InvG GL I J K U P S) (x1 x2 x3 x4 x5 : Int32) : Sp_part f (InvG GL) x1 x2 x3 x4 x5 I J K U P S := by
  obtain ⟨hT, hV, hF, hW, hC, hR, hP, hL⟩ := id h
  obtain ⟨q, m, a1, a2, a3, a4⟩ := part_ok (ml := K 13) hC x1 x2 x3
  have fr := fr_X13_part a2
  exact ⟨q, m, a1, a2, a3, hT.rf (fun k hk => fr.1 k (by omega)) (fun k hk => fr.2 k (by omega)), hV.rf (fun k hk => fr.1 k (by omega)) (fun k hk => fr.2 k (by omega)), hF.rf (mi := I 13) (mi' := I 13) (fun _ _ => rfl) (fun k hk => fr.2 k (by omega)), hW.rf (fun k hk => fr.1 k (by omega)) (fun k hk => fr.2 k (by omega)), a4, hR.rf (fun k hk => fr.1 k (by omega)) (fun k hk => fr.2 k (by omega)), hP.rf (fun k hk => fr.1 k (by omega)) (fun k hk => fr.2 k (by omega)), hGL _ _ _ _ _ _ _ hL (fun k hk => fr.1 k (by omega)) (fun k hk => fr.2 k (by omega))⟩
theorem sp_ball {GL : GLt} (hGL : GLk GL) {f : List Value} {I : Nat → Nat → Int32} {J : Nat → Nat → Nat → Int32} {K : Nat → Nat → Nat → Int64} {U : Nat → Nat → Nat} {P : Nat → Nat → Int32} {S : Nat → Nat → Nat → Int32} (h : InvG GL I J K U P S) (x1 x2 x3 x4 x5 : Int32) : Sp_ball f (InvG GL) x1 x2 x3 x4 x5 I J K U P S := by
  obtain ⟨hT, hV, hF, hW, hC, hR, hP, hL⟩ := id h
  obtain ⟨q, m, a1, a2, a3, a4⟩ := ball_ok (ml := K 13) hC x1 x2 x3 (nb x4) (nb_01 x4)
  have fr := fr_X13_ball a2
  exact ⟨q, m, a1, a2, a3, hT.rf (fun k hk => fr.1 k (by omega)) (fun k hk => fr.2 k (by omega)), hV.rf (fun k hk => fr.1 k (by omega)) (fun k hk => fr.2 k (by omega)), hF.rf (mi := I 13) (mi' := I 13) (fun _ _ => rfl) (fun k hk => fr.2 k (by omega)), hW.rf (fun k hk => fr.1 k (by omega)) (fun k hk => fr.2 k (by omega)), a4, hR.rf (fun k hk => fr.1 k (by omega)) (fun k hk => fr.2 k (by omega)), hP.rf (fun k hk => fr.1 k (by omega)) (fun k hk => fr.2 k (by omega)), hGL _ _ _ _ _ _ _ hL (fun k hk => fr.1 k (by omega)) (fun k hk => fr.2 k (by omega))⟩
theorem sp_beat {GL : GLt} (hGL : GLk GL) {f : List Value} {I : Nat → Nat → Int32} {J : Nat → Nat → Nat → Int32} {K : Nat → Nat → Nat → Int64} {U : Nat → Nat → Nat} {P : Nat → Nat → Int32} {S : Nat → Nat → Nat → Int32} (h : InvG GL I J K U P S) (x1 x2 x3 x4 x5 : Int32) : Sp_beat f (InvG GL) x1 x2 x3 x4 x5 I J K U P S := by
  obtain ⟨hT, hV, hF, hW, hC, hR, hP, hL⟩ := id h
  obtain ⟨q, m, a1, a2, a3, a4⟩ := beat_ok (ml := K 13) hC x1
  have fr := fr_X13_beat a2
  exact ⟨q, m, a1, a2, a3, hT.rf (fun k hk => fr.1 k (by omega)) (fun k hk => fr.2 k (by omega)), hV.rf (fun k hk => fr.1 k (by omega)) (fun k hk => fr.2 k (by omega)), hF.rf (mi := I 13) (mi' := I 13) (fun _ _ => rfl) (fun k hk => fr.2 k (by omega)), hW.rf (fun k hk => fr.1 k (by omega)) (fun k hk => fr.2 k (by omega)), a4, hR.rf (fun k hk => fr.1 k (by omega)) (fun k hk => fr.2 k (by omega)), hP.rf (fun k hk => fr.1 k (by omega)) (fun k hk => fr.2 k (by omega)), hGL _ _ _ _ _ _ _ hL (fun k hk => fr.1 k (by omega)) (fun k hk => fr.2 k (by omega))⟩
theorem sp_back {GL : GLt} (hGL : GLk GL) {f : List Value} {I : Nat → Nat → Int32} {J : Nat → Nat → Nat → Int32} {K : Nat → Nat → Nat → Int64} {U : Nat → Nat → Nat} {P : Nat → Nat → Int32} {S : Nat → Nat → Nat → Int32} (h : InvG GL I J K U P S) (x1 x2 x3 x4 x5 : Int32) : Sp_back f (InvG GL) x1 x2 x3 x4 x5 I J K U P S := by
  obtain ⟨hT, hV, hF, hW, hC, hR, hP, hL⟩ := id h
  obtain ⟨q, m, a1, a2, a3, a4⟩ := back_ok (ml := K 13) hC x1
  have fr := fr_X13_back a2
  exact ⟨q, m, a1, a2, a3, hT.rf (fun k hk => fr.1 k (by omega)) (fun k hk => fr.2 k (by omega)), hV.rf (fun k hk => fr.1 k (by omega)) (fun k hk => fr.2 k (by omega)), hF.rf (mi := I 13) (mi' := I 13) (fun _ _ => rfl) (fun k hk => fr.2 k (by omega)), hW.rf (fun k hk => fr.1 k (by omega)) (fun k hk => fr.2 k (by omega)), a4, hR.rf (fun k hk => fr.1 k (by omega)) (fun k hk => fr.2 k (by omega)), hP.rf (fun k hk => fr.1 k (by omega)) (fun k hk => fr.2 k (by omega)), hGL _ _ _ _ _ _ _ hL (fun k hk => fr.1 k (by omega)) (fun k hk => fr.2 k (by omega))⟩
theorem sp_round {GL : GLt} (hGL : GLk GL) {f : List Value} {I : Nat → Nat → Int32} {J : Nat → Nat → Nat → Int32} {K : Nat → Nat → Nat → Int64} {U : Nat → Nat → Nat} {P : Nat → Nat → Int32} {S : Nat → Nat → Nat → Int32} (h : InvG GL I J K U P S) (x1 x2 x3 x4 x5 : Int32) : Sp_round f (InvG GL) x1 x2 x3 x4 x5 I J K U P S := by
  obtain ⟨hT, hV, hF, hW, hC, hR, hP, hL⟩ := id h
  obtain ⟨q, m, a1, a2, a3, a4⟩ := round_ok (ml := K 13) hC
  have fr := fr_X13_round a2
  exact ⟨q, m, a1, a2, a3, hT.rf (fun _ _ => rfl) (fun k hk => fr k (by omega)), hV.rf (fun _ _ => rfl) (fun k hk => fr k (by omega)), hF.rf (mi := I 13) (mi' := I 13) (fun _ _ => rfl) (fun k hk => fr k (by omega)), hW.rf (fun _ _ => rfl) (fun k hk => fr k (by omega)), a4, hR.rf (fun _ _ => rfl) (fun k hk => fr k (by omega)), hP.rf (fun _ _ => rfl) (fun k hk => fr k (by omega)), hGL _ _ _ _ _ _ _ hL (fun _ _ => rfl) (fun k hk => fr k (by omega))⟩
theorem sp_cell {GL : GLt} (hGL : GLk GL) {f : List Value} {I : Nat → Nat → Int32} {J : Nat → Nat → Nat → Int32} {K : Nat → Nat → Nat → Int64} {U : Nat → Nat → Nat} {P : Nat → Nat → Int32} {S : Nat → Nat → Nat → Int32} (h : InvG GL I J K U P S) (x1 x2 x3 x4 x5 : Int32) : Sp_cell f (InvG GL) x1 x2 x3 x4 x5 I J K U P S := by
  obtain ⟨hT, hV, hF, hW, hC, hR, hP, hL⟩ := id h
  obtain ⟨q, m, a1, a2, a3⟩ := cell_ok (ml := K 13) hC x1 x2
  exact ⟨q, m, a1, a2, a3, h⟩
theorem sp_trail {GL : GLt} (hGL : GLk GL) {f : List Value} {I : Nat → Nat → Int32} {J : Nat → Nat → Nat → Int32} {K : Nat → Nat → Nat → Int64} {U : Nat → Nat → Nat} {P : Nat → Nat → Int32} {S : Nat → Nat → Nat → Int32} (h : InvG GL I J K U P S) (x1 x2 x3 x4 x5 : Int32) : Sp_trail f (InvG GL) x1 x2 x3 x4 x5 I J K U P S := by
  obtain ⟨hT, hV, hF, hW, hC, hR, hP, hL⟩ := id h
  rcases trail_ok (ml := K 13) hR x1 x2 with ⟨q, m, a1, a2, a3, a4⟩ | ⟨q, m, b1, b2, b3, b4, b5, a1, a2, a3, a4⟩
  · have fr := fr_X13_trail a2
    exact Or.inl ⟨q, m, a1, a2, a3, hT.rf (fun k hk => fr.1 k (by omega)) (fun k hk => fr.2 k (by omega)), hV.rf (fun k hk => fr.1 k (by omega)) (fun k hk => fr.2 k (by omega)), hF.rf (mi := I 13) (mi' := I 13) (fun _ _ => rfl) (fun k hk => fr.2 k (by omega)), hW.rf (fun k hk => fr.1 k (by omega)) (fun k hk => fr.2 k (by omega)), hC.rf (fun k hk => fr.1 k (by omega)) (fun k hk => fr.2 k (by omega)), a4, hP.rf (fun k hk => fr.1 k (by omega)) (fun k hk => fr.2 k (by omega)), hGL _ _ _ _ _ _ _ hL (fun k hk => fr.1 k (by omega)) (fun k hk => fr.2 k (by omega))⟩
  · have fr := fr_X13_trail a2
    exact Or.inr ⟨q, m, b1, b2, b3, b4, b5, a1, a2, a3, hT.rf (fun k hk => fr.1 k (by omega)) (fun k hk => fr.2 k (by omega)), hV.rf (fun k hk => fr.1 k (by omega)) (fun k hk => fr.2 k (by omega)), hF.rf (mi := I 13) (mi' := I 13) (fun _ _ => rfl) (fun k hk => fr.2 k (by omega)), hW.rf (fun k hk => fr.1 k (by omega)) (fun k hk => fr.2 k (by omega)), hC.rf (fun k hk => fr.1 k (by omega)) (fun k hk => fr.2 k (by omega)), a4, hP.rf (fun k hk => fr.1 k (by omega)) (fun k hk => fr.2 k (by omega)), hGL _ _ _ _ _ _ _ hL (fun k hk => fr.1 k (by omega)) (fun k hk => fr.2 k (by omega))⟩
theorem sp_move {GL : GLt} (hGL : GLk GL) {f : List Value} {I : Nat → Nat → Int32} {J : Nat → Nat → Nat → Int32} {K : Nat → Nat → Nat → Int64} {U : Nat → Nat → Nat} {P : Nat → Nat → Int32} {S : Nat → Nat → Nat → Int32} (h : InvG GL I J K U P S) (x1 x2 x3 x4 x5 : Int32) : Sp_move f (InvG GL) x1 x2 x3 x4 x5 I J K U P S := by
  obtain ⟨hT, hV, hF, hW, hC, hR, hP, hL⟩ := id h
  obtain ⟨q, m, a1, a2, a3⟩ := move_ok (ml := K 13) hR x1
  exact ⟨q, m, a1, a2, a3, h⟩
theorem sp_watch {GL : GLt} (hGL : GLk GL) {f : List Value} {I : Nat → Nat → Int32} {J : Nat → Nat → Nat → Int32} {K : Nat → Nat → Nat → Int64} {U : Nat → Nat → Nat} {P : Nat → Nat → Int32} {S : Nat → Nat → Nat → Int32} (h : InvG GL I J K U P S) (x1 x2 x3 x4 x5 : Int32) : Sp_watch f (InvG GL) x1 x2 x3 x4 x5 I J K U P S := by
  obtain ⟨hT, hV, hF, hW, hC, hR, hP, hL⟩ := id h
  rcases watch_ok (ml := K 13) hF hW x1 with ⟨q, m, a1, a2, a3, a4, a5⟩ | ⟨b1, q, m, a1, a2, a3, a4, a5⟩
  · have fr := fr_X13_watch a2
    exact Or.inl ⟨q, m, a1, a2, a3, hT.rf (fun k hk => fr.1 k (by omega)) (fun k hk => fr.2 k (by omega)), hV.rf (fun k hk => fr.1 k (by omega)) (fun k hk => fr.2 k (by omega)), a4, a5, hC.rf (fun k hk => fr.1 k (by omega)) (fun k hk => fr.2 k (by omega)), hR.rf (fun k hk => fr.1 k (by omega)) (fun k hk => fr.2 k (by omega)), hP.rf (fun k hk => fr.1 k (by omega)) (fun k hk => fr.2 k (by omega)), hGL _ _ _ _ _ _ _ hL (fun k hk => fr.1 k (by omega)) (fun k hk => fr.2 k (by omega))⟩
  · have fr := fr_X13_watch a2
    exact Or.inr ⟨q, m, b1, a1, a2, a3, hT.rf (fun k hk => fr.1 k (by omega)) (fun k hk => fr.2 k (by omega)), hV.rf (fun k hk => fr.1 k (by omega)) (fun k hk => fr.2 k (by omega)), a4, a5, hC.rf (fun k hk => fr.1 k (by omega)) (fun k hk => fr.2 k (by omega)), hR.rf (fun k hk => fr.1 k (by omega)) (fun k hk => fr.2 k (by omega)), hP.rf (fun k hk => fr.1 k (by omega)) (fun k hk => fr.2 k (by omega)), hGL _ _ _ _ _ _ _ hL (fun k hk => fr.1 k (by omega)) (fun k hk => fr.2 k (by omega))⟩
theorem sp_see {GL : GLt} (hGL : GLk GL) {f : List Value} {I : Nat → Nat → Int32} {J : Nat → Nat → Nat → Int32} {K : Nat → Nat → Nat → Int64} {U : Nat → Nat → Nat} {P : Nat → Nat → Int32} {S : Nat → Nat → Nat → Int32} (h : InvG GL I J K U P S) (x1 x2 x3 x4 x5 : Int32) : Sp_see f (InvG GL) x1 x2 x3 x4 x5 I J K U P S := by
  obtain ⟨hT, hV, hF, hW, hC, hR, hP, hL⟩ := id h
  obtain ⟨q, m, a1, a2, a3, a4⟩ := see_ok (ml := K 13) hW x1 x2 x3
  have fr := fr_X13_see a2
  exact ⟨q, m, a1, a2, a3, hT.rf (fun k hk => fr.1 k (by omega)) (fun k hk => fr.2 k (by omega)), hV.rf (fun k hk => fr.1 k (by omega)) (fun k hk => fr.2 k (by omega)), hF.rf (mi := I 13) (mi' := I 13) (fun _ _ => rfl) (fun k hk => fr.2 k (by omega)), a4, hC.rf (fun k hk => fr.1 k (by omega)) (fun k hk => fr.2 k (by omega)), hR.rf (fun k hk => fr.1 k (by omega)) (fun k hk => fr.2 k (by omega)), hP.rf (fun k hk => fr.1 k (by omega)) (fun k hk => fr.2 k (by omega)), hGL _ _ _ _ _ _ _ hL (fun k hk => fr.1 k (by omega)) (fun k hk => fr.2 k (by omega))⟩
theorem sp_right {GL : GLt} (hGL : GLk GL) {f : List Value} {I : Nat → Nat → Int32} {J : Nat → Nat → Nat → Int32} {K : Nat → Nat → Nat → Int64} {U : Nat → Nat → Nat} {P : Nat → Nat → Int32} {S : Nat → Nat → Nat → Int32} (h : InvG GL I J K U P S) (x1 x2 x3 x4 x5 : Int32) : Sp_right f (InvG GL) x1 x2 x3 x4 x5 I J K U P S := by
  obtain ⟨hT, hV, hF, hW, hC, hR, hP, hL⟩ := id h
  obtain ⟨q, m, a1, a2, a3, a4⟩ := right_ok (ml := K 13) hW x1 x2 x3
  have fr := fr_X13_right_ a2
  exact ⟨q, m, a1, a2, a3, hT.rf (fun k hk => fr.1 k (by omega)) (fun k hk => fr.2 k (by omega)), hV.rf (fun k hk => fr.1 k (by omega)) (fun k hk => fr.2 k (by omega)), hF.rf (mi := I 13) (mi' := I 13) (fun _ _ => rfl) (fun k hk => fr.2 k (by omega)), a4, hC.rf (fun k hk => fr.1 k (by omega)) (fun k hk => fr.2 k (by omega)), hR.rf (fun k hk => fr.1 k (by omega)) (fun k hk => fr.2 k (by omega)), hP.rf (fun k hk => fr.1 k (by omega)) (fun k hk => fr.2 k (by omega)), hGL _ _ _ _ _ _ _ hL (fun k hk => fr.1 k (by omega)) (fun k hk => fr.2 k (by omega))⟩
theorem sp_fit {GL : GLt} (hGL : GLk GL) {f : List Value} {I : Nat → Nat → Int32} {J : Nat → Nat → Nat → Int32} {K : Nat → Nat → Nat → Int64} {U : Nat → Nat → Nat} {P : Nat → Nat → Int32} {S : Nat → Nat → Nat → Int32} (h : InvG GL I J K U P S) (x1 x2 x3 x4 x5 : Int32) : Sp_fit f (InvG GL) x1 x2 x3 x4 x5 I J K U P S := by
  obtain ⟨hT, hV, hF, hW, hC, hR, hP, hL⟩ := id h
  obtain ⟨q, m, a1, a2, a3⟩ := fit_ok (ml := K 13) hW x1
  exact ⟨q, m, a1, a2, a3, h⟩
theorem sp_look {GL : GLt} (hGL : GLk GL) {f : List Value} {I : Nat → Nat → Int32} {J : Nat → Nat → Nat → Int32} {K : Nat → Nat → Nat → Int64} {U : Nat → Nat → Nat} {P : Nat → Nat → Int32} {S : Nat → Nat → Nat → Int32} (h : InvG GL I J K U P S) (x1 x2 x3 x4 x5 : Int32) : Sp_look f (InvG GL) x1 x2 x3 x4 x5 I J K U P S := by
  obtain ⟨hT, hV, hF, hW, hC, hR, hP, hL⟩ := id h
  obtain ⟨q, m, a1, a2, a3, a4⟩ := look_ok (ml := K 13) hW
  have fr := fr_X13_look_ a2
  exact ⟨q, m, a1, a2, a3, hT.rf (fun _ _ => rfl) (fun k hk => fr k (by omega)), hV.rf (fun _ _ => rfl) (fun k hk => fr k (by omega)), hF.rf (mi := I 13) (mi' := I 13) (fun _ _ => rfl) (fun k hk => fr k (by omega)), a4, hC.rf (fun _ _ => rfl) (fun k hk => fr k (by omega)), hR.rf (fun _ _ => rfl) (fun k hk => fr k (by omega)), hP.rf (fun _ _ => rfl) (fun k hk => fr k (by omega)), hGL _ _ _ _ _ _ _ hL (fun _ _ => rfl) (fun k hk => fr k (by omega))⟩
theorem sp_count {GL : GLt} (hGL : GLk GL) {f : List Value} {I : Nat → Nat → Int32} {J : Nat → Nat → Nat → Int32} {K : Nat → Nat → Nat → Int64} {U : Nat → Nat → Nat} {P : Nat → Nat → Int32} {S : Nat → Nat → Nat → Int32} (h : InvG GL I J K U P S) (x1 x2 x3 x4 x5 : Int32) : Sp_count f (InvG GL) x1 x2 x3 x4 x5 I J K U P S := by
  obtain ⟨hT, hV, hF, hW, hC, hR, hP, hL⟩ := id h
  have hs : I 12 13 = I 13 77 ∧ I 12 14 = I 13 78 := by
    rcases hW with w | ⟨L, l, ns, nr, tl, w1, w2, w3, ⟨g0, g1, g2, g3, g4, g5⟩, ⟨m6, m7, m8, m9⟩, _⟩
    · exact ⟨w.2.1.2.2.1.trans w.2.2.1.2.1.symm, w.2.1.2.2.2.1.trans w.2.2.1.2.2.1.symm⟩
    · exact ⟨g3.trans m7.symm, g4.trans m8.symm⟩
  obtain ⟨q, a1, a2⟩ := count_ok (l1 := K 6) (i3 := I 12) (r3 := J 12) (u3 := U 12) (l4 := K 0) (ml := K 13) hP hC ⟨_, rfl, hs.1.symm⟩ ⟨_, rfl, hs.2.symm⟩ hT x1
  exact ⟨q, q, a1, a2, rfl, h⟩
