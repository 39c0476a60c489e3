/-! ===== least: how many tries the search for the rim may take ===== -/
theorem tryN_s (m : Nat) : ∀ n, tryN m n ≤ tryN m (n + 1)
  | 0 => Nat.le_add_left 1 _
  | n + 1 => Nat.add_le_add_right (Nat.mul_le_mul_left m (Nat.add_le_add_right (tryN_s m n) 1)) 1
theorem tryN_up (m n : Nat) : ∀ d, tryN m n ≤ tryN m (n + d)
  | 0 => Nat.le_refl _
  | d + 1 => Nat.le_trans (tryN_up m n d) (tryN_s m (n + d))
theorem tryN_le {m n n' : Nat} (h : n ≤ n') : tryN m n ≤ tryN m n' := by
  have e := tryN_up m n (n' - n)
  rw [show n + (n' - n) = n' by omega] at e
  exact e
def FdK (k : Nat) : Prop := (∃ n, clK k n = true ∧ smK k n = true) ∨ (∃ n0 n, lgK k n0 n = true ∧ nrK k n0 n = true)
theorem fd_all : ∀ k, k < 32 → FdK k
  | 0, _ => Or.inl ⟨0, clK_0, smK_0⟩
  | 1, _ => Or.inl ⟨3, clK_1, smK_1⟩
  | 2, _ => Or.inl ⟨6, clK_2, smK_2⟩
  | 3, _ => Or.inl ⟨7, clK_3, smK_3⟩
  | 4, _ => Or.inl ⟨4, clK_4, smK_4⟩
  | 5, _ => Or.inr ⟨7, 12, lgK_5, nrK_5⟩
  | 6, _ => Or.inl ⟨8, clK_6, smK_6⟩
  | 7, _ => Or.inr ⟨5, 8, lgK_7, nrK_7⟩
  | 8, _ => Or.inl ⟨2, clK_8, smK_8⟩
  | 9, _ => Or.inl ⟨5, clK_9, smK_9⟩
  | 10, _ => Or.inl ⟨4, clK_10, smK_10⟩
  | 11, _ => Or.inl ⟨6, clK_11, smK_11⟩
  | 12, _ => Or.inl ⟨6, clK_12, smK_12⟩
  | 13, _ => Or.inr ⟨6, 11, lgK_13, nrK_13⟩
  | 14, _ => Or.inl ⟨7, clK_14, smK_14⟩
  | 15, _ => Or.inr ⟨5, 8, lgK_15, nrK_15⟩
  | 16, _ => Or.inl ⟨2, clK_16, smK_16⟩
  | 17, _ => Or.inl ⟨8, clK_17, smK_17⟩
  | 18, _ => Or.inl ⟨7, clK_18, smK_18⟩
  | 19, _ => Or.inr ⟨5, 8, lgK_19, nrK_19⟩
  | 20, _ => Or.inl ⟨3, clK_20, smK_20⟩
  | 21, _ => Or.inr ⟨6, 10, lgK_21, nrK_21⟩
  | 22, _ => Or.inl ⟨7, clK_22, smK_22⟩
  | 23, _ => Or.inr ⟨4, 7, lgK_23, nrK_23⟩
  | 24, _ => Or.inl ⟨4, clK_24, smK_24⟩
  | 25, _ => Or.inl ⟨6, clK_25, smK_25⟩
  | 26, _ => Or.inl ⟨7, clK_26, smK_26⟩
  | 27, _ => Or.inr ⟨4, 8, lgK_27, nrK_27⟩
  | 28, _ => Or.inl ⟨5, clK_28, smK_28⟩
  | 29, _ => Or.inr ⟨5, 10, lgK_29, nrK_29⟩
  | 30, _ => Or.inl ⟨6, clK_30, smK_30⟩
  | 31, _ => Or.inr ⟨4, 7, lgK_31, nrK_31⟩
  | k + 32, h => by omega
theorem nr_of {k n0 n : Nat} (h : nrK k n0 n = true) : bcn 21 (bball (gsK k) (n0 - 1)) ≤ 5040 ∧ tryN (gsK k).length (n - n0) ≤ 999999 := by
  unfold nrK at h
  rw [Bool.and_eq_true] at h
  exact ⟨Nat.le_of_ble_eq_true h.1, Nat.le_of_ble_eq_true h.2⟩
/-- behind a ball of more than 5040, the search for the rim takes less than 1000000 tries -/
theorem tries_ok {k d m w : Nat} (hk : k < 32) (h : 5040 < bcn 21 (bball (gsK k) d)) (hw : TbW w) (hd : Dst (gsK k) w (d + m)) : tryN (gsK k).length m ≤ 999999 := by
  rcases fd_all k hk with ⟨n, hc, hs⟩ | ⟨n0, n, hl, hn⟩
  · have h1 := bb_le (gsK_in k) (cl_le hc d)
    have h2 : bcn 21 (bball (gsK k) n) ≤ 5040 := Nat.le_of_ble_eq_true hs
    omega
  · obtain ⟨l1, _, _⟩ := lg_of hl
    obtain ⟨n1, n2⟩ := nr_of hn
    have hr : RcN (gsK k) n w := by
      refine (RN_Rch (gsK_in k) n w hw).mpr ((bball_bit (gsK_in k) n _).mp ?_)
      rw [l1]
      exact prB_bit hw.2.1 hw.2.2
    have hdn : d + m ≤ n := by
      by_cases q : d + m ≤ n
      · exact q
      · exact absurd hr (hd.2 n (by omega))
    have hd0 : n0 ≤ d := by
      by_cases q : n0 ≤ d
      · exact q
      · have h1 := bb_le (gsK_in k) (m := d) (n := n0 - 1) (fun v hv => by
          have e := Rch_le hv (n0 - 1 - d)
          rw [show d + (n0 - 1 - d) = n0 - 1 by omega] at e
          exact e)
        omega
    exact Nat.le_trans (tryN_le (show m ≤ n - n0 by omega)) n2
