/-! ===== the start, and all calls, GL (least's group) left open ===== -/
theorem lanes13_1 : ∀ j : Fin 6, lanes13 j.1 = 1 := by decide
theorem inv_start {GL : GLt} (hL0 : GL (fun k => ([0, 0, 0, 0, 0, 0, 0, (-1), 0, 0, 0, 0, 0] : List Int32).getD k 0) (fun _ _ => 0) (fun _ => 0) int13 (va_up (fun _ _ => 0) 10 lanes13)) : ∃ q5 q0, f_X5_clear (fun k => ([0, 0, 0, 0, 0, 0, 0, 0, 0, 0, 0, 0, 0, 0, 0, 0] : List Int32).getD k 0) (fun _ _ => 0) (fun _ _ => 0) = some q5 ∧ f_X0_clear (fun _ => 0) (fun _ _ => 0) 4 4 = some q0 ∧ InvG GL (st0I q5 q0) (st0J q5 q0) st0K st0U st0P st0S := by
  obtain ⟨r5, a1, a2, a3⟩ := clearP_ok (fun k => ([0, 0, 0, 0, 0, 0, 0, 0, 0, 0, 0, 0, 0, 0, 0, 0] : List Int32).getD k 0) (fun _ _ => 0) (fun _ _ => 0)
  obtain ⟨r0, b1, b2, b3⟩ := clearC_ok (i := fun _ => 0) (r := fun _ _ => 0) (W := 4) (H := 4) (by omega)
  refine ⟨_, _, a1, b1, ⟨0, by omega, rfl, rfl, fun k hk => by omega, rfl, rfl⟩, ⟨fun m hm => rfl, rfl, rfl⟩, fun j hj => ⟨1, [], ⟨by omega, by omega, by simp, fun t ht => by cases ht⟩, ⟨rfl, rfl, fun k t hk => by simp at hk⟩, ⟨lanes13_1 ⟨j, hj⟩, rfl, fun k t hk => by simp at hk⟩⟩, Or.inl ⟨rfl, ⟨rfl, rfl, rfl, rfl, rfl⟩, ⟨rfl, rfl, rfl, rfl⟩, fun z hz => rfl⟩, ?_, ⟨0, by omega, rfl, rfl, Or.inr ⟨rfl, rfl⟩⟩, ?_, hL0⟩
  · refine ⟨4, 4, 0, fun _ _ _ => false, fun _ _ => 0, ⟨⟨by omega, by omega, by omega, by omega⟩, ⟨?_, ?_, ?_, rfl, rfl⟩, fun _ _ => show 0 < 4 by omega, fun _ _ _ _ => rfl, b2, b3, fun y hy x hx => ?_, fun y hy x hx => rfl⟩, ?_, rfl, by omega, trivial⟩
    · show upd (upd (upd (upd (fun _ => 0) 3 (nI 4)) 4 (nI 4)) 5 0) 6 0 3 = _
      rw [pk_un (by omega), pk_un (by omega), pk_un (by omega), pk_us]
    · show upd (upd (upd (upd (fun _ => 0) 3 (nI 4)) 4 (nI 4)) 5 0) 6 0 4 = _
      rw [pk_un (by omega), pk_un (by omega), pk_us]
    · show upd (upd (upd (upd (fun _ => 0) 3 (nI 4)) 4 (nI 4)) 5 0) 6 0 5 = int13 66
      rw [pk_un (by omega), pk_us]
      rfl
    · show (0 : Int32) = _
      rw [pkB_none]
      rfl
    · show upd (upd (upd (upd (fun _ => 0) 3 (nI 4)) 4 (nI 4)) 5 0) 6 0 6 = _
      rw [pk_us]
      rfl
  · refine ⟨0, 0, fun _ => 0, by omega, by omega, ?_, rfl, ⟨fun s hs => by omega, fun y hy => ⟨Or.inl (a2 y hy), Or.inl (a3 y hy)⟩, fun y _ hy => ⟨a2 y (by omega), a3 y (by omega)⟩⟩, fun s hs => by omega, fun p hp => by omega⟩
    show upd (upd (upd (fun k => ([0, 0, 0, 0, 0, 0, 0, 0, 0, 0, 0, 0, 0, 0, 0, 0] : List Int32).getD k 0) 13 0) 14 0) 15 0 14 = _
    rw [pk_un (by omega), pk_us]
    rfl
theorem inv_len {GL : GLt} (hLu : ∀ i r u mi mr, GL i r u mi mr → u 4 < 2 ^ 31) : ∀ I J K U P S, InvG GL I J K U P S → U 11 0 < 2 ^ 31 ∧ U 12 9 < 2 ^ 31 ∧ U 5 4 < 2 ^ 31 := by
  intro I J K U P S ⟨hT, hV, hF, hW, hC, hR, hP, hL⟩
  refine ⟨?_, ?_, hLu _ _ _ _ _ hL⟩
  · obtain ⟨T, _, _, _, ⟨h1, _⟩ | ⟨h1, _⟩⟩ := hR
    · rw [h1]; omega
    · rw [h1]; omega
  · rcases hW with w | ⟨L, l, ns, nr, tl, w1, w2, w3, _⟩
    · rw [w.1]; omega
    · rw [w3]; omega
theorem inv_calls {GL : GLt} (hGL : GLk GL) (hle : ∀ (f : List Value) I J K U P S, InvG GL I J K U P S → ∀ x1 x2 x3 x4 x5 : Int32, Sp_least f (InvG GL) x1 x2 x3 x4 x5 I J K U P S) : ∀ (f : List Value) (n : Nat) (x1 x2 x3 x4 x5 : Int32) I J K U P S, InvG GL I J K U P S → Sp n f (InvG GL) x1 x2 x3 x4 x5 I J K U P S := by
  intro f n x1 x2 x3 x4 x5 I J K U P S h
  match n with
  | 0 => exact sp_feed (f := f) hGL h x1 x2 x3 x4 x5
  | 1 => exact sp_end (f := f) hGL h x1 x2 x3 x4 x5
  | 2 => exact sp_floor (f := f) hGL h x1 x2 x3 x4 x5
  | 3 => exact sp_fault (f := f) hGL h x1 x2 x3 x4 x5
  | 4 => exact sp_step (f := f) hGL h x1 x2 x3 x4 x5
  | 5 => exact sp_out (f := f) hGL h x1 x2 x3 x4 x5
  | 6 => exact sp_odd (f := f) hGL h x1 x2 x3 x4 x5
  | 7 => exact sp_cycle (f := f) hGL h x1 x2 x3 x4 x5
  | 8 => exact sp_order (f := f) hGL h x1 x2 x3 x4 x5
  | 9 => exact sp_apart (f := f) hGL h x1 x2 x3 x4 x5
  | 10 => exact hle f I J K U P S h x1 x2 x3 x4 x5
  | 11 => exact sp_lay (f := f) hGL h x1 x2 x3 x4 x5
  | 12 => exact sp_roll (f := f) hGL h x1 x2 x3 x4 x5
  | 13 => exact sp_chain (f := f) hGL h x1 x2 x3 x4 x5
  | 14 => exact sp_program (f := f) hGL h x1 x2 x3 x4 x5
  | 15 => exact sp_let (f := f) hGL h x1 x2 x3 x4 x5
  | 16 => exact sp_value (f := f) hGL h x1 x2 x3 x4 x5
  | 17 => exact sp_run (f := f) hGL h x1 x2 x3 x4 x5
  | 18 => exact sp_trouble (f := f) hGL h x1 x2 x3 x4 x5
  | 19 => exact sp_table (f := f) hGL h x1 x2 x3 x4 x5
  | 20 => exact sp_part (f := f) hGL h x1 x2 x3 x4 x5
  | 21 => exact sp_ball (f := f) hGL h x1 x2 x3 x4 x5
  | 22 => exact sp_cell (f := f) hGL h x1 x2 x3 x4 x5
  | 23 => exact sp_beat (f := f) hGL h x1 x2 x3 x4 x5
  | 24 => exact sp_back (f := f) hGL h x1 x2 x3 x4 x5
  | 25 => exact sp_round (f := f) hGL h x1 x2 x3 x4 x5
  | 26 => exact sp_trail (f := f) hGL h x1 x2 x3 x4 x5
  | 27 => exact sp_move (f := f) hGL h x1 x2 x3 x4 x5
  | 28 => exact sp_watch (f := f) hGL h x1 x2 x3 x4 x5
  | 29 => exact sp_see (f := f) hGL h x1 x2 x3 x4 x5
  | 30 => exact sp_right (f := f) hGL h x1 x2 x3 x4 x5
  | 31 => exact sp_fit (f := f) hGL h x1 x2 x3 x4 x5
  | 32 => exact sp_look (f := f) hGL h x1 x2 x3 x4 x5
  | 33 => exact sp_count (f := f) hGL h x1 x2 x3 x4 x5
  | _ + 34 => exact trivial
