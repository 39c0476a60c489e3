/-! ===== least keeps the invariant; the claim's start ===== -/
theorem GLs_k : GLk GLs := by
  intro i r u mi mr mi' mr' h hi hr
  refine ⟨h.1, ?_⟩
  rcases h.2 with h | ⟨k, hk, e, hn⟩
  · exact Or.inl (by rw [hi 25 (by omega)]; exact h)
  · exact Or.inr ⟨k, hk, by rw [hi 25 (by omega)]; exact e, hn.congr (hr 17 (by omega))⟩
theorem GLs_u : ∀ i r u mi mr, GLs i r u mi mr → u 4 < 2 ^ 31 := by
  intro i r u mi mr h
  rcases h.1 with ⟨h, _⟩ | ⟨h, _⟩
  · rw [h]; omega
  · rw [h]; omega
theorem GLs_0 : GLs (fun k => ([0, 0, 0, 0, 0, 0, 0, (-1), 0, 0, 0, 0, 0] : List Int32).getD k 0) (fun _ _ => 0) (fun _ => 0) int13 (va_up (fun _ _ => 0) 10 lanes13) := ⟨Or.inl ⟨rfl, rfl⟩, Or.inl rfl⟩
theorem sp_least {f : List Value} {I : Nat → Nat → Int32} {J : Nat → Nat → Nat → Int32} {K : Nat → Nat → Nat → Int64} {U : Nat → Nat → Nat} {P : Nat → Nat → Int32} {S : Nat → Nat → Nat → Int32} (h : InvG GLs I J K U P S) (x1 x2 x3 x4 x5 : Int32) : Sp_least f (InvG GLs) x1 x2 x3 x4 x5 I J K U P S := by
  obtain ⟨hT, hV, hF, hW, hC, hR, hP, hL⟩ := id h
  rcases least_ok (i2 := I 2) (r2 := J 2) (ml := K 13) hF hL x1 x2 x3 with ⟨q, m, a1, a2, a3, a4, a5, j, hj, kM⟩ | ⟨q, m, b1, b2, a1, a2, a3, a4, a5, j, hj, kM⟩
  · have fr := fr_X13_least a2
    exact Or.inl ⟨q, m, a1, a2, a3, hT.rf (fun k hk => fr.1 k (by omega)) (fun k hk => fr.2 k (by omega)), hV.rf (fun k hk => fr.1 k (by omega)) (fun k hk => fr.2 k (by omega)), a4, hW.rfK (fun k hk => fr.1 k (by omega)) (fun k hk => fr.2 k (by omega)) (fun L l hl hM => kM 7 (by omega) (by omega) (by omega) L l hl hM), hC.rf (fun k hk => fr.1 k (by omega)) (fun k hk => fr.2 k (by omega)), hR.rf (fun k hk => fr.1 k (by omega)) (fun k hk => fr.2 k (by omega)), hP.rf (fun k hk => fr.1 k (by omega)) (fun k hk => fr.2 k (by omega)), a5⟩
  · have fr := fr_X13_least a2
    exact Or.inr ⟨q, m, b1, b2, a1, a2, a3, hT.rf (fun k hk => fr.1 k (by omega)) (fun k hk => fr.2 k (by omega)), hV.rf (fun k hk => fr.1 k (by omega)) (fun k hk => fr.2 k (by omega)), a4, hW.rfK (fun k hk => fr.1 k (by omega)) (fun k hk => fr.2 k (by omega)) (fun L l hl hM => kM 7 (by omega) (by omega) (by omega) L l hl hM), hC.rf (fun k hk => fr.1 k (by omega)) (fun k hk => fr.2 k (by omega)), hR.rf (fun k hk => fr.1 k (by omega)) (fun k hk => fr.2 k (by omega)), hP.rf (fun k hk => fr.1 k (by omega)) (fun k hk => fr.2 k (by omega)), a5⟩
theorem whole_start {p : Program} {e : Env} {s : State} {m : MethodId} {below : List Frame} {meth : Method} {c : Code} (l : Launch) {b L : Nat} {xs : Nat → Int32} (hL : L ≤ 3072) (C0 : lw_At p s m meth c b L xs) : W p l e room_1 s m #[Value.ref b] below meth c s.heap [] 0 0 (lw_Z below #[Value.ref b] s) (entryFrame m ([Value.ref b] : List Value).toArray 4) := by
  obtain ⟨q5, q0, hf5, hf0, hin⟩ := inv_start GLs_0
  exact start_of (InvG GLs) hf5 hf0 hin (inv_len GLs_u) (inv_calls GLs_k (fun f I J K U P S h x1 x2 x3 x4 x5 => sp_least h x1 x2 x3 x4 x5)) l hL C0
